/-! THE REFERENCE: OPERATION AND BEGIN ON DESKS -/
theorem s_vop {a b c : Int} {σ : SS} : (sq (if a < (-1) then (some ((0 : Int), σ)) else (if a < 3 then (if b < (-1) then (some (0, σ)) else (if b < 3 then (if c < (-1) then (some (0, σ)) else (if c < 3 then (if a < 0 then (if b < 0 then (if b < 0 then (if c < 0 then (some (1, σ)) else (some (0, σ))) else (some (1, σ))) else (some (0, σ))) else (if b < 0 then (if c < 0 then (some (1, σ)) else (some (0, σ))) else (some (1, σ)))) else (some (0, σ)))) else (some (0, σ)))) else (some (0, σ)))) fun (z13 : Int) σ14 => sq (if z13 = 0 then (some ((1 : Int), σ14)) else (some (0, σ14))) fun (z19 : Int) σ20 => f_D_fails z19 0 σ20) = some (1, sF σ 55 0 1) ∧ ¬ vOp a b c ∨ (sq (if a < (-1) then (some ((0 : Int), σ)) else (if a < 3 then (if b < (-1) then (some (0, σ)) else (if b < 3 then (if c < (-1) then (some (0, σ)) else (if c < 3 then (if a < 0 then (if b < 0 then (if b < 0 then (if c < 0 then (some (1, σ)) else (some (0, σ))) else (some (1, σ))) else (some (0, σ))) else (if b < 0 then (if c < 0 then (some (1, σ)) else (some (0, σ))) else (some (1, σ)))) else (some (0, σ)))) else (some (0, σ)))) else (some (0, σ)))) fun (z13 : Int) σ14 => sq (if z13 = 0 then (some ((1 : Int), σ14)) else (some (0, σ14))) fun (z19 : Int) σ20 => f_D_fails z19 0 σ20) = some (0, sF σ 55 0 0) ∧ vOp a b c := by
  have bad : (sq (some ((0 : Int), σ)) fun (z13 : Int) σ14 => sq (if z13 = 0 then (some ((1 : Int), σ14)) else (some (0, σ14))) fun (z19 : Int) σ20 => f_D_fails z19 0 σ20) = some (1, sF σ 55 0 1) := by rw [sq_e, if_pos rfl, sq_e, s_fails10]
  have good : (sq (some ((1 : Int), σ)) fun (z13 : Int) σ14 => sq (if z13 = 0 then (some ((1 : Int), σ14)) else (some (0, σ14))) fun (z19 : Int) σ20 => f_D_fails z19 0 σ20) = some (0, sF σ 55 0 0) := by rw [sq_e, if_neg (by decide), sq_e, s_fails00]
  unfold vOp
  by_cases a0 : a < -1
  · rw [if_pos a0]; exact Or.inl ⟨bad, fun z => by omega⟩
  rw [if_neg a0]
  by_cases a1 : a < 3
  rotate_left
  · rw [if_neg a1]; exact Or.inl ⟨bad, fun z => by omega⟩
  rw [if_pos a1]
  by_cases b0 : b < -1
  · rw [if_pos b0]; exact Or.inl ⟨bad, fun z => by omega⟩
  rw [if_neg b0]
  by_cases b1 : b < 3
  rotate_left
  · rw [if_neg b1]; exact Or.inl ⟨bad, fun z => by omega⟩
  rw [if_pos b1]
  by_cases c0 : c < -1
  · rw [if_pos c0]; exact Or.inl ⟨bad, fun z => by omega⟩
  rw [if_neg c0]
  by_cases c1 : c < 3
  rotate_left
  · rw [if_neg c1]; exact Or.inl ⟨bad, fun z => by omega⟩
  rw [if_pos c1]
  by_cases a2 : a < 0
  · rw [if_pos a2]
    by_cases b2 : b < 0
    · rw [if_pos b2, if_pos b2]
      by_cases c2 : c < 0
      · rw [if_pos c2]; exact Or.inr ⟨good, by omega⟩
      · rw [if_neg c2]; exact Or.inl ⟨bad, fun z => by omega⟩
    · rw [if_neg b2]; exact Or.inl ⟨bad, fun z => by omega⟩
  · rw [if_neg a2]
    by_cases b2 : b < 0
    · rw [if_pos b2]
      by_cases c2 : c < 0
      · rw [if_pos c2]; exact Or.inr ⟨good, by omega⟩
      · rw [if_neg c2]; exact Or.inl ⟨bad, fun z => by omega⟩
    · rw [if_neg b2]; exact Or.inr ⟨good, by omega⟩
theorem s_operationR {R : Nat} {a b c : Int} {σ : SS} {d : Dk} (hg : gD R d) (hc : rD σ d) :
    Wp (f_D_operation a b c σ) (fun z τ => fx XD σ τ ∧ ((vOp a b c ∧ τ.1 55 0 = 0 ∧ z = (if d.2.1 < 16 then d.2.1 else -1) ∧ rD τ (dkO d a b c)) ∨ (¬ vOp a b c ∧ τ.1 55 0 = 1 ∧ rD τ d))) := by
  have hgo := hg.1
  unfold f_D_operation
  have hv := s_vop (a := a) (b := b) (c := c) (σ := σ)
  rw [show (fun (z13 : Int) (σ14 : SS) => sq (if z13 = 0 then (some ((1 : Int), σ14)) else (some (0, σ14))) fun (z19 : Int) σ20 => sq (f_D_fails z19 0 σ20) fun (a24 : Int) σ25 => if a24 = 0 then (if (σ25.1 55 1) = 16 then (some ((-1 : Int), σ25)) else (sq (if a < 0 then (some ((0 : Int), σ25)) else (if b < 0 then (some (1, σ25)) else (if c < 0 then (some (2, σ25)) else (some (3, σ25))))) fun (z34 : Int) σ35 => ck (inb 16 (σ25.1 55 1)) (lb (sA σ35 56 (σ25.1 55 1) z34) fun σ41 => ck (rng (3 * (σ41.1 55 1))) (ck (inb 48 (3 * (σ41.1 55 1))) (lb (sA σ41 57 (3 * (σ41.1 55 1)) a) fun σ47 => ck (rng (3 * (σ47.1 55 1))) (ck (rng ((3 * (σ47.1 55 1)) + 1)) (ck (inb 48 ((3 * (σ47.1 55 1)) + 1)) (lb (sA σ47 57 ((3 * (σ47.1 55 1)) + 1) b) fun σ54 => ck (rng (3 * (σ54.1 55 1))) (ck (rng ((3 * (σ54.1 55 1)) + 2)) (ck (inb 48 ((3 * (σ54.1 55 1)) + 2)) (lb (sA σ54 57 ((3 * (σ54.1 55 1)) + 2) c) fun σ61 => ck (rng ((σ61.1 55 1) + 1)) (lb (sF σ61 55 1 ((σ61.1 55 1) + 1)) fun σ66 => ck (rng ((σ66.1 55 1) - 1)) (some (((σ66.1 55 1) - 1), σ66)))))))))))))) else (some (0, σ25))) = (fun (z13 : Int) (σ14 : SS) => sq (sq (if z13 = 0 then (some ((1 : Int), σ14)) else (some (0, σ14))) fun (z19 : Int) σ20 => f_D_fails z19 0 σ20) fun (a24 : Int) σ25 => if a24 = 0 then (if (σ25.1 55 1) = 16 then (some ((-1 : Int), σ25)) else (sq (if a < 0 then (some ((0 : Int), σ25)) else (if b < 0 then (some (1, σ25)) else (if c < 0 then (some (2, σ25)) else (some (3, σ25))))) fun (z34 : Int) σ35 => ck (inb 16 (σ25.1 55 1)) (lb (sA σ35 56 (σ25.1 55 1) z34) fun σ41 => ck (rng (3 * (σ41.1 55 1))) (ck (inb 48 (3 * (σ41.1 55 1))) (lb (sA σ41 57 (3 * (σ41.1 55 1)) a) fun σ47 => ck (rng (3 * (σ47.1 55 1))) (ck (rng ((3 * (σ47.1 55 1)) + 1)) (ck (inb 48 ((3 * (σ47.1 55 1)) + 1)) (lb (sA σ47 57 ((3 * (σ47.1 55 1)) + 1) b) fun σ54 => ck (rng (3 * (σ54.1 55 1))) (ck (rng ((3 * (σ54.1 55 1)) + 2)) (ck (inb 48 ((3 * (σ54.1 55 1)) + 2)) (lb (sA σ54 57 ((3 * (σ54.1 55 1)) + 2) c) fun σ61 => ck (rng ((σ61.1 55 1) + 1)) (lb (sF σ61 55 1 ((σ61.1 55 1) + 1)) fun σ66 => ck (rng ((σ66.1 55 1) - 1)) (some (((σ66.1 55 1) - 1), σ66)))))))))))))) else (some (0, σ25))) from funext (fun z13 => funext (fun σ14 => sq_assoc _ _ _)), sq_assoc]
  rcases hv with ⟨e1, nv⟩ | ⟨e1, hv⟩
  · rw [e1]
    have hc9 : rD (sF σ 55 0 1) d := rD_code hc
    rw [sq_e]
    exact wp_f (by decide) (wp_some ⟨fx_F fx_rf (by unfold XD; omega), Or.inr ⟨nv, sF_same _ _ _ _, hc9⟩⟩)
  · rw [e1, sq_e]
    have hc9 : rD (sF σ 55 0 0) d := rD_code hc
    have x9 : fx XD σ (sF σ 55 0 0) := fx_F fx_rf (by unfold XD; omega)
    have f0 : (sF σ 55 0 0).1 55 0 = 0 := sF_same _ _ _ _
    generalize sF σ 55 0 0 = σ9 at hc9 x9 f0
    refine wp_t rfl ?_
    have hno := hc9.2.2.1
    rw [hno]
    unfold dkO
    by_cases cn : d.2.1 < 16
    · rw [if_pos cn, if_pos cn]
      obtain ⟨n0, n1, n2, n3, n4⟩ := hgo
      obtain ⟨v1, v2, v3, v4, v5⟩ := id hv
      refine wp_f (by omega) (wp_sq (R := fun z τ => z = arO a b c ∧ τ = σ9) ?_ ?_)
      · unfold arO
        by_cases ca : a = -1
        · rw [if_pos ca]; exact wp_t (by omega) (wp_some ⟨rfl, rfl⟩)
        · rw [if_neg ca]
          refine wp_f (by omega) ?_
          by_cases cb : b = -1
          · rw [if_pos cb]; exact wp_t (by omega) (wp_some ⟨rfl, rfl⟩)
          · rw [if_neg cb]
            refine wp_f (by omega) ?_
            by_cases cc : c = -1
            · rw [if_pos cc]; exact wp_t (by omega) (wp_some ⟨rfl, rfl⟩)
            · rw [if_neg cc]; exact wp_f (by omega) (wp_some ⟨rfl, rfl⟩)
      · rintro z τ ⟨rfl, rfl⟩
        refine wp_ck ⟨by omega, by omega⟩ (wp_lb (fun σ41 e41 => ?_))
        have f41 : σ41.1 55 1 = d.2.1 := by rw [e41]; exact hno
        rw [f41]
        refine wp_ck (by omega) (wp_ck ⟨by omega, by omega⟩ (wp_lb (fun σ47 e47 => ?_)))
        have f47 : σ47.1 55 1 = d.2.1 := by rw [e47]; exact f41
        rw [f47]
        refine wp_ck (by omega) (wp_ck (by omega) (wp_ck ⟨by omega, by omega⟩ (wp_lb (fun σ54 e54 => ?_))))
        have f54 : σ54.1 55 1 = d.2.1 := by rw [e54]; exact f47
        rw [f54]
        refine wp_ck (by omega) (wp_ck (by omega) (wp_ck ⟨by omega, by omega⟩ (wp_lb (fun σ61 e61 => ?_))))
        have f61 : σ61.1 55 1 = d.2.1 := by rw [e61]; exact f54
        rw [f61]
        refine wp_ck (by omega) (wp_lb (fun σ66 e66 => ?_))
        have f66 : σ66.1 55 1 = d.2.1 + 1 := by rw [e66]; exact sF_same _ _ _ _
        rw [f66]
        have g66 : ∀ q, q ≠ 1 → σ66.1 55 q = τ.1 55 q := fun q hq => by rw [e66, sF_f (fun z => hq z.2), e61, e54, e47, e41]; rfl
        have x66 : fx (fun a => a = 55 ∨ a = 56 ∨ a = 57) τ σ66 := by rw [e66, e61, e54, e47, e41]; exact fx_F (fx_A (fx_A (fx_A (fx_A fx_rf (by omega)) (by omega)) (by omega)) (by omega)) (by omega)
        have a66 : ∀ q i, σ66.2.1 q i = σ61.2.1 q i := fun q i => by rw [e66]; rfl
        have ao : rOp σ66 (opO d.1 d.2.1 a b c) := by
          intro f hf
          have hb := arO_b a b c
          have hf' : 0 ≤ up1 d.1.1 d.2.1 (arO a b c) f := hf
          show σ66.2.1 56 f = up1 d.1.1 d.2.1 (arO a b c) f ∧ up1 d.1.1 d.2.1 (arO a b c) f ≤ 3 ∧ 0 ≤ f ∧ f < 16 ∧ ∀ i, 0 ≤ i → i < up1 d.1.1 d.2.1 (arO a b c) f → σ66.2.1 57 (3 * f + i) = (if f * 3 + i = d.2.1 * 3 ∧ 0 < arO a b c then a else if f * 3 + i = d.2.1 * 3 + 1 ∧ 1 < arO a b c then b else if f * 3 + i = d.2.1 * 3 + 2 ∧ 2 < arO a b c then c else d.1.2 f i)
          by_cases e : f = d.2.1
          · rw [e, up1_same]
            refine ⟨?_, hb.2, by omega, by omega, fun i h0 h1 => ?_⟩
            · rw [a66, e61, sA_other (by omega), e54, sA_other (by omega), e47, sA_other (by omega), e41]; exact sA_same _ _ _ _
            · have hi : i = 0 ∨ i = 1 ∨ i = 2 := by omega
              rw [a66]
              rcases hi with rfl | rfl | rfl
              · rw [if_pos ⟨by omega, by omega⟩, e61, sA_other (by omega), e54, sA_other (by omega), e47, show 3 * d.2.1 + 0 = 3 * d.2.1 by omega]; exact sA_same _ _ _ _
              · rw [if_neg (by omega), if_pos ⟨by omega, by omega⟩, e61, sA_other (by omega), e54]; exact sA_same _ _ _ _
              · rw [if_neg (by omega), if_neg (by omega), if_pos ⟨by omega, by omega⟩, e61]; exact sA_same _ _ _ _
          · rw [up1_ne e] at hf' ⊢
            obtain ⟨o1, o2, o3, o4, o5⟩ := hc9.2.1 f hf'
            refine ⟨?_, o2, o3, o4, fun i h0 h1 => ?_⟩
            · rw [a66, e61, sA_other (by omega), e54, sA_other (by omega), e47, sA_other (by omega), e41, sA_other (by omega)]; exact o1
            · rw [if_neg (by omega), if_neg (by omega), if_neg (by omega), a66, e61, sA_other (by omega), e54, sA_other (by omega), e47, sA_other (by omega), e41, sA_other (by omega)]; exact o5 i h0 h1
        obtain ⟨k1, k2, k3, k4, k5, k6, k7⟩ := hc9
        refine wp_ck (by omega) (wp_some ⟨fx_tr x9 (fx_mono x66 (fun a z => by unfold XD; omega)), Or.inl ⟨hv, by rw [g66 0 (by decide)]; exact f0, by omega, ?_⟩⟩)
        exact ⟨⟨rHol_fx x66 (fun a h1 h2 => by omega) k1.1, by rw [g66 2 (by decide)]; exact k1.2.1, by rw [g66 3 (by decide)]; exact k1.2.2.1, fun h p q => by rw [fx_a x66 (by omega)]; exact k1.2.2.2 h p q⟩, ao, f66, fun i hi => rSl_fx x66 (fun a h1 h2 => by omega) (k4 i hi), rRd_fx x66 (g66 36 (by decide)) (g66 37 (by decide)) (by omega) k5, by rw [g66 38 (by decide)]; exact k6, by rw [g66 39 (by decide)]; exact k7⟩
    · rw [if_neg cn, if_neg cn]
      have := hgo.2.1
      exact wp_t (by omega) (wp_some ⟨x9, Or.inl ⟨hv, f0, rfl, hc9⟩⟩)
/-- a slot of the reference changes -/
theorem rD_S {R : Nat} {σ τ : SS} {d : Dk} {i : Nat} {l : Sl} (hg : gD R d) (hi : i < 8) (hx : fx (fun a => 63 ≤ a ∧ a ≤ 70) σ τ) (ho : ∀ (a : Nat) (j : Int), (a = 64 ∨ a = 65 ∨ a = 66 ∨ a = 67 ∨ a = 70) → j ≠ (i : Int) → τ.2.1 a j = σ.2.1 a j) (hk : ∀ (a : Nat) (j : Int), (a = 63 ∨ a = 68 ∨ a = 69) → (j < 160 * i ∨ 160 * (i : Int) + 160 ≤ j) → τ.2.1 a j = σ.2.1 a j) (hl : rSl τ i l) (hc : rD σ d) : rD τ (dkS d i l) := by
  obtain ⟨k1, k2, k3, k4, k5, k6, k7⟩ := hc
  refine ⟨rSt_fx hx (by omega) (fun a h1 h2 => by omega) k1, rOp_fx hx (by omega) (by omega) k2, by rw [fx_f hx (by omega)]; exact k3, fun j hj => ?_, rRd_fx hx (fx_f hx (by omega)) (fx_f hx (by omega)) (by omega) k5, by rw [fx_f hx (by omega)]; exact k6, by rw [fx_f hx (by omega)]; exact k7⟩
  show rSl τ j (upS d.2.2.2.2.1 i l j)
  by_cases c : j = i
  · rw [c, upS_same]; exact hl
  · rw [upS_ne c]
    obtain ⟨q1, q2, q3, q4, q5, q6, q7, q8⟩ := k4 j hj
    have hil := (il_30 hg.2.1.1.2.2.2.1 (hg.2.2.1 j hj)).1
    have hsb := sl_b hg.1.2.2.2.1 hg.2.1.1.2.2.2.1 (hg.2.2.1 j hj)
    exact ⟨by rw [ho 70 _ (by omega) (by omega)]; exact q1, by rw [ho 64 _ (by omega) (by omega)]; exact q2, by rw [ho 65 _ (by omega) (by omega)]; exact q3, by rw [ho 66 _ (by omega) (by omega)]; exact q4, by rw [ho 67 _ (by omega) (by omega)]; exact q5, rstk_eq (fun k h1 h2 => hk 68 k (by omega) (by omega)) q6, fun t ht => by rw [hk 68 _ (by omega) (by omega), hk 69 _ (by omega) (by omega)]; exact q7 t ht, rseg_eq (fun k h1 h2 => hk 63 _ (by omega) (by omega)) rfl q8⟩
theorem s_beginR {R : Nat} {x y : Int} {σ : SS} {d : Dk} (hg : gD R d) (hc : rD σ d) :
    Wp (f_D_begin x y σ) (fun z τ => fx XD σ τ ∧ ((0 ≤ x ∧ x < 8 ∧ 0 ≤ y ∧ y ≤ 6 ∧ τ.1 55 0 = 0 ∧ z = 1 ∧ rD τ (dkS d x.toNat (slB y))) ∨ (¬ (0 ≤ x ∧ x < 8 ∧ 0 ≤ y ∧ y ≤ 6) ∧ τ.1 55 0 = 1 ∧ rD τ d))) := by
  have ht : (sq (f_D_isSlot x σ) fun (a1 : Int) σ2 => sq (if a1 = 0 then (some ((1 : Int), σ2)) else (if y < 0 then (some (1, σ2)) else (if 6 < y then (some (1, σ2)) else (some (0, σ2))))) fun (z9 : Int) σ10 => f_D_fails z9 0 σ10) = some ((if 0 ≤ x ∧ x < 8 ∧ 0 ≤ y ∧ y ≤ 6 then 0 else 1), sF σ 55 0 (if 0 ≤ x ∧ x < 8 ∧ 0 ≤ y ∧ y ≤ 6 then 0 else 1)) := by
    rw [s_isSlot, sq_e]
    by_cases cx : 0 ≤ x ∧ x < 8
    · rw [if_pos cx, if_neg (by decide)]
      by_cases c0 : y < 0
      · rw [if_pos c0, sq_e, s_fails10, if_neg (by omega)]
      · rw [if_neg c0]
        by_cases c1 : 6 < y
        · rw [if_pos c1, sq_e, s_fails10, if_neg (by omega)]
        · rw [if_neg c1, sq_e, s_fails00, if_pos (by omega)]
    · rw [if_neg cx, if_pos rfl, sq_e, s_fails10, if_neg (by omega)]
  have e1 : f_D_begin x y σ = sq (sq (f_D_isSlot x σ) fun (a1 : Int) σ2 => sq (if a1 = 0 then (some ((1 : Int), σ2)) else (if y < 0 then (some (1, σ2)) else (if 6 < y then (some (1, σ2)) else (some (0, σ2))))) fun (z9 : Int) σ10 => f_D_fails z9 0 σ10) (fun (a14 : Int) σ15 => if a14 = 0 then (ck (inb 8 x) (lb (sA σ15 70 x 1) fun σ22 => ck (inb 8 x) (lb (sA σ22 64 x 0) fun σ27 => ck (inb 8 x) (lb (sA σ27 65 x 0) fun σ32 => ck (inb 8 x) (lb (sA σ32 66 x y) fun σ37 => ck (inb 8 x) (lb (sA σ37 67 x 1) fun σ42 => ck (rng (160 * x)) (ck (inb 1280 (160 * x)) (lb (sA σ42 68 (160 * x) y) fun σ48 => some (1, σ48))))))))) else (some (0, σ15))) := by
    unfold f_D_begin
    rw [← sq_assoc]
    congr 1
    funext a1 σ2
    rw [← sq_assoc]
  rw [e1]
  refine wp_e ht ?_
  have hc9 : rD (sF σ 55 0 (if 0 ≤ x ∧ x < 8 ∧ 0 ≤ y ∧ y ≤ 6 then 0 else 1)) d := rD_code hc
  have x9 : fx XD σ (sF σ 55 0 (if 0 ≤ x ∧ x < 8 ∧ 0 ≤ y ∧ y ≤ 6 then 0 else 1)) := fx_F fx_rf (by unfold XD; omega)
  have f0 : (sF σ 55 0 (if 0 ≤ x ∧ x < 8 ∧ 0 ≤ y ∧ y ≤ 6 then 0 else 1)).1 55 0 = (if 0 ≤ x ∧ x < 8 ∧ 0 ≤ y ∧ y ≤ 6 then 0 else 1) := sF_same _ _ _ _
  by_cases c : 0 ≤ x ∧ x < 8 ∧ 0 ≤ y ∧ y ≤ 6
  · rw [if_pos c] at hc9 x9 f0 ⊢
    generalize sF σ 55 0 0 = σ9 at hc9 x9 f0
    have ib : inb 8 x := ⟨by omega, by omega⟩
    refine wp_t rfl (wp_ck ib (wp_lb (fun σ22 e22 => wp_ck ib (wp_lb (fun σ27 e27 => wp_ck ib (wp_lb (fun σ32 e32 => wp_ck ib (wp_lb (fun σ37 e37 => wp_ck ib (wp_lb (fun σ42 e42 => wp_ck (by omega) (wp_ck ⟨by omega, by omega⟩ (wp_lb (fun τ e => wp_some ?_))))))))))))))
    have hx : fx (fun a => 63 ≤ a ∧ a ≤ 70) σ9 τ := by rw [e, e42, e37, e32, e27, e22]; exact fx_A (fx_A (fx_A (fx_A (fx_A (fx_A fx_rf (by omega)) (by omega)) (by omega)) (by omega)) (by omega)) (by omega)
    have exn' : ((x.toNat : Nat) : Int) = x := by omega
    refine ⟨fx_tr x9 (fx_mono hx (fun a z => by unfold XD; omega)), Or.inl ⟨c.1, c.2.1, c.2.2.1, c.2.2.2, by rw [fx_f hx (by omega)]; exact f0, rfl, rD_S hg (by omega) hx (fun a j ha hj => ?_) (fun a j ha hj => ?_) ⟨?_, ?_, ?_, ?_, ?_, ⟨?_, True.intro⟩, fun t ht => absurd ht (Nat.not_lt_zero _), ?_⟩ hc9⟩⟩
    · rw [exn'] at hj
      rw [e, sA_other (by omega), e42, sA_other (by omega), e37, sA_other (by omega), e32, sA_other (by omega), e27, sA_other (by omega), e22, sA_other (by omega)]
    · rw [exn'] at hj
      rw [e, sA_other (by omega), e42, sA_other (by omega), e37, sA_other (by omega), e32, sA_other (by omega), e27, sA_other (by omega), e22, sA_other (by omega)]
    · rw [exn', e, sA_other (by omega), e42, sA_other (by omega), e37, sA_other (by omega), e32, sA_other (by omega), e27, sA_other (by omega), e22]; exact sA_same _ _ _ _
    · rw [exn', e, sA_other (by omega), e42, sA_other (by omega), e37, sA_other (by omega), e32, sA_other (by omega), e27]; exact sA_same _ _ _ _
    · rw [exn', e, sA_other (by omega), e42, sA_other (by omega), e37, sA_other (by omega), e32]; exact sA_same _ _ _ _
    · rw [exn', e, sA_other (by omega), e42, sA_other (by omega), e37]; exact sA_same _ _ _ _
    · rw [exn', e, sA_other (by omega), e42]; exact sA_same _ _ _ _
    · show τ.2.1 68 (160 * ((x.toNat : Nat) : Int) + ((0 : Nat) : Int)) = y + 0
      rw [exn', show 160 * x + ((0 : Nat) : Int) = 160 * x from Int.add_zero _, Int.add_zero, e]; exact sA_same _ _ _ _
    · show 160 * ((x.toNat : Nat) : Int) = 160 * ((x.toNat : Nat) : Int) + ((0 : Nat) : Int)
      omega
  · rw [if_neg c] at hc9 x9 f0 ⊢
    exact wp_f (by decide) (wp_some ⟨x9, Or.inr ⟨c, f0, hc9⟩⟩)
