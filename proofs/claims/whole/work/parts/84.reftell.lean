/-! THE REFERENCE: USES, HOLE, OPERATION, BEGIN ON DESKS -/
theorem l49_13 (fu : Nat) : ∀ (n : Nat) (x y : Int) (σ : SS), l_D_uses_49 fu n x y σ = l_D_fullSize_13 fu n x y σ := by
  intro n
  induction n with
  | zero => intro x y σ; rfl
  | succ n ih =>
    intro x y σ
    rw [l_D_uses_49, l_D_fullSize_13]
    simp only [ih]
/-- bits of items -/
def ib (a : Int32) (l : List (Int × Int)) : Int32 := l.foldl (fun a x => if x.1 % 4 = 0 then a ||| b1 (x.1 / 4) x.2 else a) a
theorem or_z (a : Int32) : a ||| 0 = a := Int32.or_zero
theorem fold_or {α : Type} (f : α → Int32) : ∀ (l : List α) (a b : Int32), l.foldl (fun a v => a ||| f v) (a ||| b) = a ||| l.foldl (fun a v => a ||| f v) b := by
  intro l
  induction l with
  | nil => intro a b; rfl
  | cons v l ih => intro a b; rw [List.foldl_cons, List.foldl_cons, Int32.or_assoc, ih]
theorem ib_rb : ∀ (r : Row) (a : Int32), (∀ e ∈ r, e.2.1 % 4 ≠ 2 → e.2.2 = []) → ib a (itl r) = rb a r := by
  intro r
  induction r with
  | nil => intro a _; rfl
  | cons e r ih =>
    intro a h
    rw [itl_cons]
    unfold ib
    rw [List.foldl_append, List.foldl_cons]
    have hv : ∀ (vs : List Int) (a : Int32), (vs.map (fun v => ((4 * v, e.1) : Int × Int))).foldl (fun a x => if x.1 % 4 = 0 then a ||| b1 (x.1 / 4) x.2 else a) a = vs.foldl (fun a v => a ||| b1 v e.1) a := by
      intro vs
      induction vs with
      | nil => intro a; rfl
      | cons v vs ihv =>
        intro a
        rw [List.map_cons, List.foldl_cons, List.foldl_cons, if_pos (by show (4 * v) % 4 = 0; omega), show (4 * v, e.1).1 / 4 = v by show 4 * v / 4 = v; omega]
        exact ihv _
    rw [hv]
    have hg : e.2.2.foldl (fun a v => a ||| b1 v e.1) (if e.2.1 % 4 = 0 then a ||| b1 (e.2.1 / 4) e.1 else a) = a ||| gb e := by
      unfold gb
      by_cases c : e.2.1 % 4 = 0
      · rw [if_pos c, if_pos c, fold_or]
      · rw [if_neg c, if_neg c, ← fold_or, or_z]
    show (itl r).foldl _ (e.2.2.foldl (fun a v => a ||| b1 v e.1) (if e.2.1 % 4 = 0 then a ||| b1 (e.2.1 / 4) e.1 else a)) = _
    rw [hg]
    exact ih (a ||| gb e) (fun x hx => h x (List.mem_cons_of_mem _ hx))
theorem s_us118 {fu : Nat} {l : List (Int × Int)} {σ : SS} (hl : l.length ≤ 16384) (h30 : σ.1 55 30 = (l.length : Int)) (hlv : ∀ x ∈ l, 0 ≤ x.1 ∧ x.1 ≤ 1000000 ∧ 0 ≤ x.2 ∧ x.2 ≤ 10000) (h3 : ∀ (k : Nat) (x : Int × Int), l[k]? = some x → σ.2.1 72 k = x.1 ∧ σ.2.1 74 k = x.2) :
    ∀ (m j n : Nat) (acc : Int), m + j = l.length → m < n → rng acc → ∃ w, l_D_uses_118 fu n acc j σ = some (w, σ) ∧ rng w ∧ iv w = ib (iv acc) (l.drop j) := by
  intro m
  induction m with
  | zero =>
    intro j n acc h1 h2 h4
    cases n with
    | zero => omega
    | succ n =>
      rw [l_D_uses_118, h30, if_neg (by omega), List.drop_of_length_le (by omega)]
      exact ⟨acc, rfl, h4, rfl⟩
  | succ m ih =>
    intro j n acc h1 h2 h4
    cases n with
    | zero => omega
    | succ n =>
      have hj : j < l.length := by omega
      have hlj : l[j]? = some l[j] := List.getElem?_eq_getElem hj
      obtain ⟨g1, g2⟩ := h3 j _ hlj
      obtain ⟨b1', b2', b3', b4'⟩ := hlv l[j] (List.getElem_mem hj)
      have hdr : l.drop j = l[j] :: l.drop (j + 1) := List.drop_eq_getElem_cons hj
      rw [l_D_uses_118, h30, if_pos (by omega), ck_t ⟨by omega, by omega⟩, ck_t ⟨by omega, by omega⟩, g1, g2, ck_t (by omega), lb_e, ck_t ⟨by omega, by omega⟩, hdr]
      have step : ∀ acc' : Int, rng acc' → iv acc' = (if l[j].1 % 4 = 0 then iv acc ||| b1 (l[j].1 / 4) l[j].2 else iv acc) → ∃ w, ck (rng ((j : Int) + 1)) (l_D_uses_118 fu n acc' ((j : Int) + 1) σ) = some (w, σ) ∧ rng w ∧ iv w = ib (iv acc) (l[j] :: l.drop (j + 1)) := by
        intro acc' hr he
        obtain ⟨w, w1, w2, w3⟩ := ih (j + 1) n acc' (by omega) (by omega) hr
        refine ⟨w, by rw [ck_t (by omega), show (j : Int) + 1 = ((j + 1 : Nat) : Int) by omega]; exact w1, w2, ?_⟩
        rw [w3, he]
        rfl
      by_cases c0 : l[j].1 % 4 = 0
      · rw [if_pos c0]
        by_cases cn : l[j].1 / 4 - l[j].2 < 0
        · rw [if_pos cn, sq_e]
          refine step acc h4 ?_
          rw [if_pos c0]
          unfold b1
          rw [if_pos (by omega), or_z]
        · rw [if_neg cn, lb_e, sq_e]
          refine step _ (bo_rng _ _) ?_
          rw [if_pos c0, iv_bo]
          unfold b1
          rw [if_neg (by omega)]
      · rw [if_neg c0, sq_e]
        exact step acc h4 (by rw [if_neg c0])
theorem s_usesR {fu R : Nat} {x : Int} {σ : SS} {d : Dk} (hfu : 20000 ≤ fu) (hR : 300 < R) (hRf : R < fu) (hg : gD R d) (hc : rD σ d) :
    Wp (f_D_uses fu x σ) (fun z τ => fx XD σ τ ∧ τ.1 55 0 = (if 0 ≤ x ∧ x < d.2.2.1 then 0 else 1) ∧ rD τ d ∧ (0 ≤ x ∧ x < d.2.2.1 → usesA R d x z)) := by
  unfold f_D_uses
  rw [sq_assoc]
  refine wp_e (s_untold hc) ?_
  have hc9 : rD (sF σ 55 0 (if 0 ≤ x ∧ x < d.2.2.1 then 0 else 1)) d := rD_code hc
  have x9 : fx XD σ (sF σ 55 0 (if 0 ≤ x ∧ x < d.2.2.1 then 0 else 1)) := fx_F fx_rf (by unfold XD; omega)
  have f0 : (sF σ 55 0 (if 0 ≤ x ∧ x < d.2.2.1 then 0 else 1)).1 55 0 = (if 0 ≤ x ∧ x < d.2.2.1 then 0 else 1) := sF_same _ _ _ _
  by_cases c : 0 ≤ x ∧ x < d.2.2.1
  · rw [if_pos c] at hc9 x9 f0 ⊢
    generalize sF σ 55 0 0 = σ9 at hc9 x9 f0
    have hp : 0 ≤ d.2.2.2.1.1 x := (hg.2.1.1.2.2.2.2.2.2.1 x).mpr (Or.inl c)
    obtain ⟨i1, i2, i3, i4, i5⟩ := hc9.1.1 x hp
    have h4 := hg.2.1.1.2.2.2.1 x
    refine wp_t rfl (wp_ck ⟨i1, i2⟩ ?_)
    cases hF : d.2.2.2.1.2.1 x with
    | none =>
      rw [i3]
      refine wp_t (i4 hF) (wp_ck ⟨i1, i2⟩ (wp_ck (bs1_rng ⟨hp, h4⟩) (wp_some ⟨x9, f0, hc9, fun _ => ?_⟩)))
      unfold usesA
      rw [hF]
    | some F =>
      obtain ⟨j1, j2, j3⟩ := i5 F hF
      obtain ⟨z, τ, e1, z1, rfl, z3, z4⟩ := s_lay2 hfu hR hRf hg.1.2.2.2.2 hg.2.1.1 hg.2.1.2.1 (gOk_canW hg.2.1) hc9.1 hc9.2.1 hF
      obtain ⟨b1', b2'⟩ := fil_bnd hg.1.2.2.2.2 hg.2.1 hF
      have hokN := okR_N hp hg.2.1.1.1 R (hg.2.1.1.1 x F hF)
      have htN := tR_N hg.2.1.1.2.1 R (hg.2.1.1.2.1 x F hF)
      have hilN := il_le (O := d.1) hg.2.1.1.2.2.2.1 hokN
      have nQ : ∀ a, a ≠ 72 → (a < 73 ∨ 75 < a) → ¬ XQ 72 a := fun a h1 h2 => XQ_lo h1 h2
      refine wp_f j1 ?_
      have e2 : ∀ {γ : Type} (K : Int → SS → Option (γ × SS)), (sq (l_D_uses_49 fu fu x 0 σ9) fun (z18 : Unit) σ19 => ck (inb 324 x) (sq (f_D_write fu 72 (σ19.2.1 59 x) σ19) K)) = K (il (tN d.2.2.2.1.2.1 R F) : Int) τ := by
        intro γ K
        have e3 : (sq (l_D_uses_49 fu fu x 0 σ9) fun (z18 : Unit) σ19 => ck (inb 324 x) (sq (f_D_write fu 72 (σ19.2.1 59 x) σ19) K)) = sq (sq (l_D_fullSize_13 fu fu x 0 σ9) fun (_ : Unit) σ4 => ck (inb 324 x) (f_D_write fu 72 (σ4.2.1 59 x) σ4)) K := by
          rw [l49_13]
          cases l_D_fullSize_13 fu fu x 0 σ9 with
          | none => rfl
          | some w =>
            show ck (inb 324 x) (sq (f_D_write fu 72 (w.2.2.1 59 x) w.2) K) = sq (ck (inb 324 x) (f_D_write fu 72 (w.2.2.1 59 x) w.2)) K
            rw [ck_t (show inb 324 x from ⟨i1, i2⟩), ck_t (show inb 324 x from ⟨i1, i2⟩)]
        rw [e3, e1]
        rfl
      rw [e2]
      refine wp_lb (fun σ30 e30 => ?_)
      have f30 : σ30.1 55 30 = (il (tN d.2.2.2.1.2.1 R F) : Int) := by rw [e30]; exact sF_same _ _ _ _
      have x30 : fx XM σ9 σ30 := by rw [e30]; exact fx_F (fx_mono z1 (fun a z => by unfold XQ at z; unfold XM; omega)) (by unfold XM; omega)
      have g30 : ∀ b, b ≠ 30 → σ30.1 55 b = σ9.1 55 b := fun b hb => by rw [e30, sF_f (fun z => hb z.2), fx_f z1 (nQ 55 (by omega) (by omega))]
      have hc30 : rD σ30 d := rD_work x30 (fun b _ h _ => g30 b h) hc9
      have r30 : rseg σ30 72 0 (tN d.2.2.2.1.2.1 R F) (il (tN d.2.2.2.1.2.1 R F)) := rseg_eq (fun k _ _ => by rw [e30]; rfl) rfl z3
      have p30 : rpa σ30 (tN d.2.2.2.1.2.1 R F) := fun e he => by rw [e30]; exact z4 e he
      rw [f30]
      refine wp_sq (s_measr (O := d.1) (b := 0) (by decide) (by omega) hg.1.2.2.2.2 (Int.le_refl _) (by omega) (by omega) (by omega) (by rw [Int.zero_add]; exact r30) htN (by omega) hc30.2.1 p30) ?_
      rintro - σ34 ⟨m1, m2⟩
      have n74 : ∀ a, a ≠ 74 → a ≠ 75 → ¬ X74 a := fun a h1 h2 z => z.elim h1 h2
      have hlen : (itl (tN d.2.2.2.1.2.1 R F)).length = il (tN d.2.2.2.1.2.1 R F) := itl_len _
      obtain ⟨w, w1, w2, w3⟩ := s_us118 (fu := fu) (l := itl (tN d.2.2.2.1.2.1 R F)) (σ := σ34) (by rw [hlen]; omega) (by rw [fx_f m1 (n74 55 (by omega) (by omega)), hlen]; exact f30) (fun q hq => by
        obtain ⟨e, he, v1, v2⟩ := itl_mem hq
        have k1 := b2' e he
        obtain ⟨-, -, k2, k3, -, k5⟩ := p30 e he
        rcases v2 with v2 | ⟨v, hv, v2⟩
        · exact ⟨by omega, by omega, by omega, by omega⟩
        · have k8 := (hokN e he).2.2.2.2.1 v hv
          exact ⟨by omega, by omega, by omega, by omega⟩) (fun k q hk => ⟨by rw [fx_a m1 (n74 72 (by omega) (by omega))]; have := rseg_get r30 k q hk; rw [Int.zero_add] at this; exact this, by have := dseg_get m2 k q hk; rw [Int.zero_add] at this; exact this⟩) (itl (tN d.2.2.2.1.2.1 R F)).length 0 fu 0 (by omega) (by rw [hlen]; omega) (by decide)
      have w1' : l_D_uses_118 fu fu 0 0 σ34 = some (w, σ34) := w1
      refine wp_e w1' (wp_some ⟨fx_tr x9 (fx_tr (fx_mono x30 (fun a z => by unfold XM at z; unfold XD; omega)) (fx_mono m1 (fun a z => by unfold X74 at z; unfold XD; omega))), by rw [fx_f m1 (n74 55 (by omega) (by omega)), g30 0 (by decide)]; exact f0, rD_work (fx_mono m1 (fun a z => by unfold X74 at z; unfold XM; omega)) (fun b _ _ _ => fx_f m1 (n74 55 (by omega) (by omega))) hc30, fun _ => ?_⟩)
      unfold usesA
      rw [hF]
      refine ⟨w2, ?_⟩
      rw [w3, List.drop_zero, ib_rb _ _ (fun e he c => (hokN e he).2.2.2.2.2.2.1 c)]
  · rw [if_neg c] at hc9 x9 f0 ⊢
    exact wp_f (by decide) (wp_some ⟨x9, f0, hc9, fun z => absurd z c⟩)
theorem s_holeR {R : Nat} {x : Int} {σ : SS} {d : Dk} (hg : gD R d) (hc : rD σ d) :
    Wp (f_D_hole x σ) (fun z τ => fx XD σ τ ∧ τ.1 55 0 = (if 0 ≤ x ∧ x ≤ 4 then 0 else 1) ∧ ((0 ≤ x ∧ x ≤ 4 ∧ z = (if d.2.2.1 < 24 then d.2.2.1 else -1) ∧ rD τ (dkT d x)) ∨ (¬ (0 ≤ x ∧ x ≤ 4) ∧ rD τ d))) := by
  have h8 := hg.2.1.1.2.2.2.2.2.2.2.1
  have ht : (sq (if x < 0 then (some ((1 : Int), σ)) else (if 4 < x then (some (1, σ)) else (some (0, σ)))) fun (z3 : Int) σ4 => f_D_fails z3 0 σ4) = some ((if 0 ≤ x ∧ x ≤ 4 then 0 else 1), sF σ 55 0 (if 0 ≤ x ∧ x ≤ 4 then 0 else 1)) := by
    by_cases c0 : x < 0
    · rw [if_pos c0, sq_e, s_fails10, if_neg (by omega)]
    · rw [if_neg c0]
      by_cases c1 : 4 < x
      · rw [if_pos c1, sq_e, s_fails10, if_neg (by omega)]
      · rw [if_neg c1, sq_e, s_fails00, if_pos (by omega)]
  unfold f_D_hole
  rw [sq_assoc]
  refine wp_e ht ?_
  have hc9 : rD (sF σ 55 0 (if 0 ≤ x ∧ x ≤ 4 then 0 else 1)) d := rD_code hc
  have x9 : fx XD σ (sF σ 55 0 (if 0 ≤ x ∧ x ≤ 4 then 0 else 1)) := fx_F fx_rf (by unfold XD; omega)
  have f0 : (sF σ 55 0 (if 0 ≤ x ∧ x ≤ 4 then 0 else 1)).1 55 0 = (if 0 ≤ x ∧ x ≤ 4 then 0 else 1) := sF_same _ _ _ _
  by_cases c : 0 ≤ x ∧ x ≤ 4
  · rw [if_pos c] at hc9 x9 f0 ⊢
    generalize sF σ 55 0 0 = σ9 at hc9 x9 f0
    refine wp_t rfl ?_
    rw [hc9.1.2.1]
    unfold dkT
    by_cases ct : d.2.2.1 < 24
    · rw [if_pos ct, if_pos ct]
      refine wp_f (by omega) (wp_ck ⟨by omega, by omega⟩ (wp_lb (fun σ17 e17 => ?_)))
      have f17 : ∀ a b, σ17.1 a b = σ9.1 a b := fun a b => by rw [e17]; rfl
      rw [f17, hc9.1.2.1]
      refine wp_ck ⟨by omega, by omega⟩ (wp_lb (fun σ22 e22 => ?_))
      have f22 : ∀ a b, σ22.1 a b = σ9.1 a b := fun a b => by rw [e22]; exact f17 a b
      rw [f22, hc9.1.2.1]
      refine wp_ck (by omega) (wp_lb (fun σ27 e27 => ?_))
      have f27 : σ27.1 55 2 = d.2.2.1 + 1 := by rw [e27]; exact sF_same _ _ _ _
      rw [f27]
      have g27 : ∀ b, b ≠ 2 → σ27.1 55 b = σ9.1 55 b := fun b hb => by rw [e27, sF_f (fun z => hb z.2)]; exact f22 55 b
      have a58 : ∀ g, g ≠ d.2.2.1 → σ27.2.1 58 g = σ9.2.1 58 g := fun g hgn => by rw [e27]; show σ22.2.1 58 g = _; rw [e22, sA_other (by omega), e17, sA_other (by omega)]
      have a58' : σ27.2.1 58 d.2.2.1 = x := by rw [e27]; show σ22.2.1 58 d.2.2.1 = _; rw [e22, sA_other (by omega), e17]; exact sA_same _ _ _ _
      have a61 : ∀ g, g ≠ d.2.2.1 → σ27.2.1 61 g = σ9.2.1 61 g := fun g hgn => by rw [e27]; show σ22.2.1 61 g = _; rw [e22, sA_other (by omega), e17, sA_other (by omega)]
      have a61' : σ27.2.1 61 d.2.2.1 = 0 := by rw [e27]; show σ22.2.1 61 d.2.2.1 = _; rw [e22]; exact sA_same _ _ _ _
      have ar : ∀ a i, a ≠ 58 → a ≠ 61 → σ27.2.1 a i = σ9.2.1 a i := fun a i h1 h2 => by rw [e27]; show σ22.2.1 a i = _; rw [e22, sA_other (by omega), e17, sA_other (by omega)]
      have x27 : fx (fun a => a = 55 ∨ (58 ≤ a ∧ a ≤ 62) ∨ (71 ≤ a ∧ a ≤ 75) ∨ (77 ≤ a ∧ a ≤ 81)) σ9 σ27 := by rw [e27, e22, e17]; exact fx_F (fx_A (fx_A fx_rf (by omega)) (by omega)) (by omega)
      have hno : ¬ 0 ≤ d.2.2.2.1.1 d.2.2.1 := fun z => by have := (hg.2.1.1.2.2.2.2.2.2.1 _).mp z; omega
      have hΦ : d.2.2.2.1.2.1 d.2.2.1 = none := by
        cases hq : d.2.2.2.1.2.1 d.2.2.1 with
        | none => rfl
        | some F => exact absurd (hg.2.1.1.2.2.2.2.2.2.2.2.1 _ ((hg.2.1.1.2.2.2.2.2.1 _).mp ⟨F, hq⟩)) hno
      have hs : rSt σ27 (d.2.2.1 + 1) (sT d.2.2.1 x d.2.2.2.1) := by
        refine ⟨fun h hh => ?_, f27, by rw [g27 3 (by decide)]; exact hc9.1.2.2.1, fun h a b => ?_⟩
        · by_cases ch : h = d.2.2.1
          · rw [ch]
            refine ⟨by omega, by omega, by rw [a58']; exact (up1_same _ _ _).symm, fun _ => a61', fun F hF => ?_⟩
            have hF' : d.2.2.2.1.2.1 d.2.2.1 = some F := hF
            rw [hΦ] at hF'
            cases hF'
          · have hh' : 0 ≤ d.2.2.2.1.1 h := by have h9 : 0 ≤ up1 d.2.2.2.1.1 d.2.2.1 x h := hh; rw [up1_ne ch] at h9; exact h9
            obtain ⟨i1, i2, i3, i4, i5⟩ := hc9.1.1 h hh'
            rw [a58 h ch, a61 h ch, ar 59 h (by omega) (by omega)]
            exact ⟨i1, i2, by rw [i3]; exact (up1_ne ch).symm, i4, fun F hF => ⟨(i5 F hF).1, (i5 F hF).2.1, rseg_eq (fun k _ _ => ar 60 _ (by omega) (by omega)) rfl (i5 F hF).2.2⟩⟩
        · show σ27.2.1 61 h = if (d.2.2.2.1.2.1 h).isSome = true then 1 else 0
          by_cases ch : h = d.2.2.1
          · rw [ch, a61', hΦ]; rfl
          · rw [a61 h ch]; exact hc9.1.2.2.2 h a b
      refine wp_ck (by omega) (wp_some ⟨fx_tr x9 (fx_mono x27 (fun a z => by unfold XD; omega)), by rw [g27 0 (by decide)]; exact f0, Or.inl ⟨c.1, c.2, by omega, ?_⟩⟩)
      obtain ⟨k1, k2, k3, k4, k5, k6, k7⟩ := hc9
      exact ⟨hs, rOp_fx x27 (by omega) (by omega) k2, by rw [g27 1 (by decide)]; exact k3, fun i hi => rSl_fx x27 (fun a h1 h2 => by omega) (k4 i hi), rRd_fx x27 (g27 36 (by decide)) (g27 37 (by decide)) (by omega) k5, by rw [g27 38 (by decide)]; exact k6, by rw [g27 39 (by decide)]; exact k7⟩
    · rw [if_neg ct, if_neg ct]
      exact wp_t (by omega) (wp_some ⟨x9, f0, Or.inl ⟨c.1, c.2, rfl, hc9⟩⟩)
  · rw [if_neg c] at hc9 x9 f0 ⊢
    exact wp_f (by decide) (wp_some ⟨x9, f0, Or.inr ⟨c, hc9⟩⟩)
