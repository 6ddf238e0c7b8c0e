/-! THE REFERENCE: PUT, THE END -/
theorem s_fails01 {σ : SS} : f_D_fails 0 1 σ = some (1, sF σ 55 0 2) := by rw [s_fails]; rfl
theorem s_putb {R fu : Nat} {σ : SS} {d : Dk} {i : Nat} {k x : Int} (hfu : 1000 ≤ fu) (hg : gD R d) (hc : rD σ d) (hi : i < 8) (hd : due (d.2.2.2.2.1 i) ≠ 0) (hf : fit d.2.1 d.2.2.1 (d.2.2.2.2.1 i) k x) (hr : room d.1 (d.2.2.2.2.1 i) k x) (y38 : Int) (hy : y38 = (if 0 < (d.2.2.2.2.1 i).2.2.2.1 then 100 else 0) + (d.2.2.2.2.1 i).2.1 + hbl (d.2.2.2.2.1 i)) :
    Wp (ck (inb 8 (i : Int)) (lb (σ.2.1 64 i) fun y55 => ck (rng (160 * (i : Int))) (ck (rng ((160 * (i : Int)) + y55)) (ck (rng (4 * x)) (ck (rng ((4 * x) + k)) (ck (inb 1280 ((160 * (i : Int)) + y55)) (lb (sA σ 63 ((160 * (i : Int)) + y55) ((4 * x) + k)) fun σ63 => ck (inb 8 (i : Int)) (ck (rng ((σ63.2.1 64 i) + 1)) (ck (inb 8 (i : Int)) (lb (sA σ63 64 i ((σ63.2.1 64 i) + 1)) fun σ70 => ck (inb 8 (i : Int)) (ck (rng ((σ70.2.1 67 i) - 1)) (ck (inb 8 (i : Int)) (lb (sA σ70 67 i ((σ70.2.1 67 i) - 1)) fun σ77 => if y38 < 100 then (ck (inb 8 (i : Int)) (ck (rng ((σ77.2.1 65 i) + 1)) (ck (inb 8 (i : Int)) (lb (sA σ77 65 i ((σ77.2.1 65 i) + 1)) fun σ85 => sq (l_D_put_188 fu fu i k x y38 y55 2 σ85) fun (z88 : Unit) σ89 => sq (l_D_put_238 fu fu i k x y38 y55 0 σ89) fun (z93 : Unit) σ94 => ck (inb 8 (i : Int)) (some ((σ94.2.1 67 i), σ94)))))) else (ck (inb 8 (i : Int)) (some ((σ77.2.1 67 i), σ77)))))))))))))))) (fun z τ => fx (fun a => 63 ≤ a ∧ a ≤ 70) σ τ ∧ z = (due (slP d.1 d.2.2.2.1.1 (d.2.2.2.2.1 i) k x) : Int) ∧ rD τ (dkS d i (slP d.1 d.2.2.2.1.1 (d.2.2.2.2.1 i) k x))) := by
  have hs := hg.2.2.1 i hi
  have hcs := hc.2.2.2.1 i hi
  have hp4 := hg.2.1.1.2.2.2.1
  have hsb := sl_b hg.1.2.2.2.1 hp4 hs
  have hil := il_30 hp4 hs
  have hgl := gSl_P hg hi hd hf hr
  have hilP := (il_30 hp4 hgl).1
  have h8 := hg.2.1.1.2.2.2.2.2.2.2.1
  have hgo := hg.1.2.1
  -- what is left: the slot, and that nothing else is touched
  have fin : ∀ (z : Int) (τ : SS), fx (fun a => 63 ≤ a ∧ a ≤ 70) σ τ → (∀ (a : Nat) (j : Int), (a = 64 ∨ a = 65 ∨ a = 66 ∨ a = 67 ∨ a = 70) → j ≠ (i : Int) → τ.2.1 a j = σ.2.1 a j) → (∀ (a : Nat) (j : Int), (a = 63 ∨ a = 68 ∨ a = 69) → (j < 160 * i ∨ 160 * (i : Int) + 160 ≤ j) → τ.2.1 a j = σ.2.1 a j) → z = (due (slP d.1 d.2.2.2.1.1 (d.2.2.2.2.1 i) k x) : Int) → rSl τ i (slP d.1 d.2.2.2.1.1 (d.2.2.2.2.1 i) k x) → fx (fun a => 63 ≤ a ∧ a ≤ 70) σ τ ∧ z = (due (slP d.1 d.2.2.2.1.1 (d.2.2.2.2.1 i) k x) : Int) ∧ rD τ (dkS d i (slP d.1 d.2.2.2.1.1 (d.2.2.2.2.1 i) k x)) := fun z τ t1 t2 t3 t4 t5 => ⟨t1, t4, rD_S hg hi t1 t2 t3 t5 hc⟩
  have hilt : il (d.2.2.2.2.1 i).2.2.1 < 150 := by
    unfold slP at hilP
    split at hilP
    · rename_i cp; omega
    · have : il ((d.2.2.2.2.1 i).2.2.1 ++ [(hbl (d.2.2.2.2.1 i), 4 * x + k, [])]) ≤ 150 := hilP
      rw [il_append] at this
      have h1 : il [((hbl (d.2.2.2.2.1 i), 4 * x + k, []) : AG)] = 1 := rfl
      omega
  have hb := hbl_b hs hd
  have h6 := hs.2.1
  generalize hl0 : d.2.2.2.2.1 i = l at *
  clear hgl hilP
  obtain ⟨q1, q2, q3, q4, q5, q6, q7, q8⟩ := hcs
  have hdl : due l ≤ 65 := by unfold due; omega
  have ib8 : inb 8 (i : Int) := ⟨by omega, by omega⟩
  have hxk : 0 ≤ x ∧ x ≤ 1000 ∧ 0 ≤ k ∧ k ≤ 2 := by
    unfold fit at hf
    split at hf
    · omega
    · omega
  rw [q2]
  refine wp_ck ib8 (wp_lx (wp_ck (by omega) (wp_ck (by omega) (wp_ck (by omega) (wp_ck (by omega) (wp_ck ⟨by omega, by omega⟩ (wp_lb (fun σ63 e63 => ?_))))))))
  have f6364 : σ63.2.1 64 i = (il l.2.2.1 : Int) := by rw [e63, sA_other (by omega)]; exact q2
  rw [f6364]
  refine wp_ck ib8 (wp_ck (by omega) (wp_ck ib8 (wp_lb (fun σ70 e70 => ?_))))
  have f7067 : σ70.2.1 67 i = (due l : Int) := by rw [e70, sA_other (by omega), e63, sA_other (by omega)]; exact q5
  rw [f7067]
  refine wp_ck ib8 (wp_ck (by omega) (wp_ck ib8 (wp_lb (fun σ77 e77 => ?_))))
  have x77 : fx (fun a => 63 ≤ a ∧ a ≤ 70) σ σ77 := by rw [e77, e70, e63]; exact fx_A (fx_A (fx_A fx_rf (by omega)) (by omega)) (by omega)
  have a63 : ∀ j, j ≠ 160 * (i : Int) + il l.2.2.1 → σ77.2.1 63 j = σ.2.1 63 j := fun j hj => by rw [e77, sA_other (by omega), e70, sA_other (by omega), e63, sA_other (by omega)]
  have a63' : σ77.2.1 63 (160 * (i : Int) + il l.2.2.1) = 4 * x + k := by rw [e77, sA_other (by omega), e70, sA_other (by omega), e63]; exact sA_same _ _ _ _
  have a64' : σ77.2.1 64 i = (il l.2.2.1 : Int) + 1 := by rw [e77, sA_other (by omega), e70]; exact sA_same _ _ _ _
  have a64 : ∀ j, j ≠ (i : Int) → σ77.2.1 64 j = σ.2.1 64 j := fun j hj => by rw [e77, sA_other (by omega), e70, sA_other (by omega), e63, sA_other (by omega)]
  have a67' : σ77.2.1 67 i = (due l : Int) - 1 := by rw [e77]; exact sA_same _ _ _ _
  have a67 : ∀ j, j ≠ (i : Int) → σ77.2.1 67 j = σ.2.1 67 j := fun j hj => by rw [e77, sA_other (by omega), e70, sA_other (by omega), e63, sA_other (by omega)]
  have ao : ∀ a j, a ≠ 63 → a ≠ 64 → a ≠ 67 → σ77.2.1 a j = σ.2.1 a j := fun a j h1 h2 h3 => by rw [e77, sA_other (by omega), e70, sA_other (by omega), e63, sA_other (by omega)]
  unfold fit at hf
  by_cases cp : 0 < l.2.2.2.1
  · rw [if_pos cp] at hf hy
    obtain ⟨g1, g2, g3, g4⟩ := hf
    obtain ⟨r0, e, j1, j2, j3, j4, j5, j6, j7⟩ := hs.2.2.2.2.2.2.2 cp
    have hl1 : lst1 l.2.2.1 = e := by rw [j1]; exact lst1_snoc r0 e
    have hav : addV l.2.2.1 x = r0 ++ [(e.1, e.2.1, e.2.2 ++ [x])] := by rw [j1]; exact addV_snoc r0 e x
    have hslP : slP d.1 d.2.2.2.1.1 l k x = (l.1, l.2.1, addV l.2.2.1 x, l.2.2.2.1 - 1, l.2.2.2.2) := if_pos cp
    have hle : il (addV l.2.2.1 x) = il l.2.2.1 + 1 := by
      rw [hav, j1, il_append, il_append, il_cons, il_cons]
      show il r0 + (1 + (e.2.2 ++ [x]).length + 0) = il r0 + (1 + e.2.2.length + 0) + 1
      rw [List.length_append]
      show il r0 + (1 + (e.2.2.length + 1) + 0) = _
      omega
    refine wp_f (by omega) (wp_ck ib8 (wp_some (fin _ σ77 x77 (fun a j ha hj => ?_) (fun a j ha hj => ?_) ?_ ?_)))
    · rcases ha with rfl | rfl | rfl | rfl | rfl
      · exact a64 j hj
      · exact ao 65 j (by omega) (by omega) (by omega)
      · exact ao 66 j (by omega) (by omega) (by omega)
      · exact a67 j hj
      · exact ao 70 j (by omega) (by omega) (by omega)
    · rcases ha with rfl | rfl | rfl
      · exact a63 j (by omega)
      · exact ao 68 j (by omega) (by omega) (by omega)
      · exact ao 69 j (by omega) (by omega) (by omega)
    · rw [a67', hslP]
      unfold due
      show _ = ((l.2.2.2.2.length + (l.2.2.2.1 - 1) : Nat) : Int)
      omega
    · rw [hslP]
      refine ⟨by rw [ao 70 _ (by omega) (by omega) (by omega)]; exact q1, ?_, ?_, by rw [ao 66 _ (by omega) (by omega) (by omega)]; exact q4, ?_, rstk_eq (fun k _ _ => ao 68 k (by omega) (by omega) (by omega)) q6, fun t ht => ?_, ?_⟩
      · show σ77.2.1 64 i = (il (addV l.2.2.1 x) : Int)
        rw [a64', hle]; omega
      · show σ77.2.1 65 i = ((addV l.2.2.1 x).length : Int)
        rw [ao 65 _ (by omega) (by omega) (by omega), q3, hav, j1, List.length_append, List.length_append]
        rfl
      · rw [a67']
        unfold due
        show _ = ((l.2.2.2.2.length + (l.2.2.2.1 - 1) : Nat) : Int)
        omega
      · have ht' : t < l.2.2.2.1 - 1 := ht
        obtain ⟨u1, u2⟩ := q7 t (by omega)
        rw [hl1] at u1 u2
        show σ77.2.1 68 (160 * i + (l.2.2.2.2.length : Int) + t) = 100 + l.2.1 + (lst1 (addV l.2.2.1 x)).1 ∧ σ77.2.1 69 (160 * i + (l.2.2.2.2.length : Int) + t) = (il (addV l.2.2.1 x) : Int) - (lst1 (addV l.2.2.1 x)).2.2.length - 1
        rw [ao 68 _ (by omega) (by omega) (by omega), ao 69 _ (by omega) (by omega) (by omega), hle, hav, lst1_snoc, u1, u2]
        refine ⟨rfl, ?_⟩
        show _ = ((il l.2.2.1 + 1 : Nat) : Int) - ((e.2.2 ++ [x]).length : Int) - 1
        rw [List.length_append]
        show _ = ((il l.2.2.1 + 1 : Nat) : Int) - ((e.2.2.length + 1 : Nat) : Int) - 1
        omega
      · show rseg σ77 63 (160 * i) (addV l.2.2.1 x) (160 * i + il (addV l.2.2.1 x))
        rw [hle, hav, show 160 * (i : Int) + ((il l.2.2.1 + 1 : Nat) : Int) = 160 * i + il l.2.2.1 + 1 by omega]
        exact rseg_va (σ := σ) (by rw [← j1]; exact q8) (fun q h1 h2 => a63 q (by omega)) (by rw [a63']; omega)
  · rw [if_neg cp] at hf hy
    have hp0 : l.2.2.2.1 = 0 := by omega
    obtain ⟨b, S, hS⟩ : ∃ b S, l.2.2.2.2 = b :: S := by
      cases hq : l.2.2.2.2 with
      | nil => unfold due at hd; rw [hq, hp0] at hd; exact absurd rfl hd
      | cons b S => exact ⟨b, S, rfl⟩
    have hhb : hbl l = b := by unfold hbl; rw [if_neg cp, hS]; rfl
    have hSl : l.2.2.2.2.length = S.length + 1 := by rw [hS]; rfl
    have hdue : due l = S.length + 1 := by unfold due; omega
    have hslP : slP d.1 d.2.2.2.1.1 l k x = (l.1, l.2.1, l.2.2.1 ++ [(b, 4 * x + k, [])], (if k = 2 then (d.2.2.2.1.1 x).toNat else 0), tP d.1 (b, 4 * x + k, []) ++ S) := by
      unfold slP
      rw [if_neg cp, hhb, hS]
      rfl
    rw [hhb] at hb hy
    have hsS : rstk σ (160 * i) l.2.1 S := by rw [hS] at q6; exact q6.2
    have hilr : il (l.2.2.1 ++ [((b, 4 * x + k, []) : AG)]) = il l.2.2.1 + 1 := by rw [il_append]; rfl
    have hlen30 := hs.2.2.2.1
    refine wp_t (by omega) ?_
    have a65 : σ77.2.1 65 i = (l.2.2.1.length : Int) := by rw [ao 65 _ (by omega) (by omega) (by omega)]; exact q3
    rw [a65]
    refine wp_ck ib8 (wp_ck (by omega) (wp_ck ib8 (wp_lb (fun σ85 e85 => ?_))))
    have x85 : fx (fun a => 63 ≤ a ∧ a ≤ 70) σ σ85 := by rw [e85]; exact fx_A x77 (by omega)
    have b85 : ∀ a j, a ≠ 65 → σ85.2.1 a j = σ77.2.1 a j := fun a j ha => by rw [e85, sA_other (by omega)]
    have b65 : ∀ j, j ≠ (i : Int) → σ85.2.1 65 j = σ.2.1 65 j := fun j hj => by rw [e85, sA_other (by omega), ao 65 _ (by omega) (by omega) (by omega)]
    have b65' : σ85.2.1 65 i = (l.2.2.1.length : Int) + 1 := by rw [e85]; exact sA_same _ _ _ _
    have s85 : rstk σ85 (160 * i) l.2.1 S := rstk_eq (fun k _ _ => by rw [b85 68 k (by omega), ao 68 k (by omega) (by omega) (by omega)]) hsS
    have d85 : σ85.2.1 67 i = (S.length : Int) := by rw [b85 67 _ (by omega), a67']; omega
    have ho85 : rOp σ85 d.1 := rOp_fx x85 (by omega) (by omega) hc.2.1
    -- behind the stack's work
    have done : ∀ (υ : SS), wt i σ85 υ S.length → υ.2.1 67 i = (due (slP d.1 d.2.2.2.1.1 l k x) : Int) → rstk υ (160 * i) l.2.1 (tP d.1 (b, 4 * x + k, []) ++ S) → (∀ t : Nat, t < (if k = 2 then (d.2.2.2.1.1 x).toNat else 0) → υ.2.1 68 (160 * i + (tP d.1 (b, 4 * x + k, []) ++ S).length + t) = 100 + l.2.1 + b ∧ υ.2.1 69 (160 * i + (tP d.1 (b, 4 * x + k, []) ++ S).length + t) = (il l.2.2.1 : Int)) → fx (fun a => 63 ≤ a ∧ a ≤ 70) σ υ ∧ υ.2.1 67 i = (due (slP d.1 d.2.2.2.1.1 l k x) : Int) ∧ rD υ (dkS d i (slP d.1 d.2.2.2.1.1 l k x)) := by
      intro υ w1 w2 w3 w4
      have u : ∀ a j, (a < 67 ∨ 69 < a) → υ.2.1 a j = σ85.2.1 a j := fun a j ha => fx_a w1.1 (by omega)
      refine fin _ υ (fx_tr x85 (fx_mono w1.1 (fun a z => by omega))) (fun a j ha hj => ?_) (fun a j ha hj => ?_) w2 ?_
      · rcases ha with rfl | rfl | rfl | rfl | rfl
        · rw [u 64 _ (by omega), b85 64 _ (by omega)]; exact a64 j hj
        · rw [u 65 _ (by omega)]; exact b65 j hj
        · rw [u 66 _ (by omega), b85 66 _ (by omega)]; exact ao 66 j (by omega) (by omega) (by omega)
        · rw [w1.2.1 j hj, b85 67 _ (by omega)]; exact a67 j hj
        · rw [u 70 _ (by omega), b85 70 _ (by omega)]; exact ao 70 j (by omega) (by omega) (by omega)
      · rcases ha with rfl | rfl | rfl
        · rw [u 63 _ (by omega), b85 63 _ (by omega)]; exact a63 j (by omega)
        · rw [(w1.2.2 j (by omega)).1, b85 68 _ (by omega)]; exact ao 68 j (by omega) (by omega) (by omega)
        · rw [(w1.2.2 j (by omega)).2, b85 69 _ (by omega)]; exact ao 69 j (by omega) (by omega) (by omega)
      · rw [hslP] at w2 ⊢
        refine ⟨by rw [u 70 _ (by omega), b85 70 _ (by omega), ao 70 _ (by omega) (by omega) (by omega)]; exact q1, ?_, ?_, by rw [u 66 _ (by omega), b85 66 _ (by omega), ao 66 _ (by omega) (by omega) (by omega)]; exact q4, w2, w3, fun t ht => ?_, ?_⟩
        · show υ.2.1 64 i = (il (l.2.2.1 ++ [((b, 4 * x + k, []) : AG)]) : Int)
          rw [u 64 _ (by omega), b85 64 _ (by omega), a64', hilr]; omega
        · show υ.2.1 65 i = ((l.2.2.1 ++ [((b, 4 * x + k, []) : AG)]).length : Int)
          rw [u 65 _ (by omega), b65', List.length_append]; rfl
        · show υ.2.1 68 (160 * i + ((tP d.1 (b, 4 * x + k, []) ++ S).length : Int) + t) = 100 + l.2.1 + (lst1 (l.2.2.1 ++ [((b, 4 * x + k, []) : AG)])).1 ∧ υ.2.1 69 (160 * i + ((tP d.1 (b, 4 * x + k, []) ++ S).length : Int) + t) = (il (l.2.2.1 ++ [((b, 4 * x + k, []) : AG)]) : Int) - (lst1 (l.2.2.1 ++ [((b, 4 * x + k, []) : AG)])).2.2.length - 1
          rw [lst1_snoc, hilr]
          obtain ⟨v1, v2⟩ := w4 t ht
          refine ⟨v1, ?_⟩
          rw [v2]
          show (il l.2.2.1 : Int) = ((il l.2.2.1 + 1 : Nat) : Int) - ((0 : Nat) : Int) - 1
          omega
        · show rseg υ 63 (160 * i) (l.2.2.1 ++ [(b, 4 * x + k, [])]) (160 * i + il (l.2.2.1 ++ [((b, 4 * x + k, []) : AG)]))
          rw [hilr, show 160 * (i : Int) + ((il l.2.2.1 + 1 : Nat) : Int) = 160 * i + il l.2.2.1 + 1 by omega]
          exact rseg_sn q8 (fun q h1 h2 => by rw [u 63 _ (by omega), b85 63 _ (by omega)]; exact a63 q (by omega)) (by rw [u 63 _ (by omega), b85 63 _ (by omega)]; exact a63')
    obtain ⟨fu', hfu'⟩ : ∃ n, fu = n + 1 := ⟨fu - 1, by omega⟩
    have no238 : k ≠ 2 → ∀ (υ : SS), l_D_put_238 fu fu i k x y38 (il l.2.2.1) 0 υ = some ((), υ) := by
      intro hk υ
      conv => lhs; arg 2; rw [hfu']
      rw [l_D_put_238, if_neg hk]
    by_cases k1 : k = 1
    · have hx0 : 0 ≤ d.1.1 x := (hg.1.2.2.1 x).mpr (by omega)
      have htl := tP_ln (O := d.1) (e := (b, 4 * x + k, [])) (by show (4 * x + k) % 4 = 1; omega)
      have hxe : (4 * x + k) / 4 = x := by omega
      have htl' : (tP d.1 (b, 4 * x + k, [])).length = (d.1.1 x).toNat := by rw [htl]; show (d.1.1 ((4 * x + k) / 4)).toNat = _; rw [hxe]
      have h3 := hg.1.2.2.2.1 x
      have h188 := s_p188 (O := d.1) (fu := fu) (i := i) (e := (b, 4 * x + k, [])) (x := x) (dep := l.2.1) (pl := (il l.2.2.1 : Int)) (S := S) hi (by show (4 * x + k) % 4 = 1; omega) hxe hx0 hg.1.2.2.2.2 ⟨hb.1, by show b ≤ 12; omega⟩ (by omega) (by rw [List.length_append, htl']; omega) 3 fu σ85 (Nat.le_refl _) (by omega) ho85 (by rw [List.drop_of_length_le (by omega), List.nil_append]; exact s85) (by rw [List.drop_of_length_le (by omega), List.nil_append]; exact d85)
      have hy' : y38 = l.2.1 + b := by omega
      subst k1
      have h188' : Wp (l_D_put_188 fu fu i 1 x y38 (il l.2.2.1) 2 σ85) (fun _ τ => wt i σ85 τ S.length ∧ rstk τ (160 * i) l.2.1 (tP d.1 (b, 4 * x + 1, []) ++ S) ∧ τ.2.1 67 i = ((tP d.1 (b, 4 * x + 1, []) ++ S).length : Int)) := by rw [hy']; exact h188
      refine wp_sq h188' ?_
      rintro - υ ⟨w1, w2, w3⟩
      rw [no238 (by decide), sq_e]
      refine wp_ck ib8 (wp_some (done υ w1 ?_ w2 (fun t ht => by rw [if_neg (by decide)] at ht; exact absurd ht (Nat.not_lt_zero _))))
      rw [w3, hslP, if_neg (by decide)]
      rfl
    · have tp0 : tP d.1 (b, 4 * x + k, []) = [] := tP_hole (by show (4 * x + k) % 4 ≠ 1; omega)
      have no188 : l_D_put_188 fu fu i k x y38 (il l.2.2.1) 2 σ85 = some ((), σ85) := by
        conv => lhs; arg 2; rw [hfu']
        rw [l_D_put_188, if_neg (by decide), if_neg k1]
      rw [no188, sq_e]
      by_cases k2 : k = 2
      · have hpx : 0 ≤ d.2.2.2.1.1 x := (hg.2.1.1.2.2.2.2.2.2.1 x).mpr (Or.inl (by omega))
        obtain ⟨i1, i2, i3, -, -⟩ := hc.1.1 x hpx
        have h4 := hp4 x
        have h238 := s_p238 (fu := fu) (i := i) (x := x) (kd := y38) (pl := (il l.2.2.1 : Int)) (P := (d.2.2.2.1.1 x).toNat) (n0 := S.length) hi ⟨i1, i2⟩ (by omega) (by omega) (by omega) (d.2.2.2.1.1 x).toNat 0 fu σ85 (by omega) (by omega) (by rw [fx_a x85 (by omega), i3]; omega) (by rw [d85]; omega) (fun t ht => absurd ht (Nat.not_lt_zero _))
        subst k2
        refine wp_sq (show Wp (l_D_put_238 fu fu i 2 x y38 (il l.2.2.1) 0 σ85) _ from h238) ?_
        rintro - υ ⟨w1, w2, w3⟩
        refine wp_ck ib8 (wp_some (done υ w1 ?_ ?_ (fun t ht => ?_)))
        · rw [w2, hslP, tp0, if_pos rfl]
          rfl
        · rw [tp0, List.nil_append]
          exact rstk_eq (fun q h1 h2 => (w1.2.2 q (by omega)).1) s85
        · rw [if_pos rfl] at ht
          rw [tp0, List.nil_append]
          obtain ⟨v1, v2⟩ := w3 t ht
          exact ⟨by rw [v1]; omega, v2⟩
      · rw [no238 k2, sq_e]
        refine wp_ck ib8 (wp_some (done σ85 wt_rf ?_ (by rw [tp0, List.nil_append]; exact s85) (fun t ht => by rw [if_neg k2] at ht; exact absurd ht (Nat.not_lt_zero _))))
        rw [d85, hslP, tp0, if_neg k2]
        rfl
theorem s_putR {R fu : Nat} {σ : SS} {d : Dk} {x k y : Int} (hfu : 1000 ≤ fu) (hg : gD R d) (hc : rD σ d) :
    Wp (f_D_put fu x k y σ) (fun z τ => fx XD σ τ ∧ (
      (¬ (0 ≤ x ∧ x < 8) ∧ τ.1 55 0 = 2 ∧ rD τ d) ∨
      ((0 ≤ x ∧ x < 8) ∧ due (d.2.2.2.2.1 x.toNat) = 0 ∧ τ.1 55 0 = 1 ∧ rD τ d) ∨
      ((0 ≤ x ∧ x < 8) ∧ due (d.2.2.2.2.1 x.toNat) ≠ 0 ∧ ¬ fit d.2.1 d.2.2.1 (d.2.2.2.2.1 x.toNat) k y ∧ τ.1 55 0 = 2 ∧ rD τ d) ∨
      ((0 ≤ x ∧ x < 8) ∧ due (d.2.2.2.2.1 x.toNat) ≠ 0 ∧ fit d.2.1 d.2.2.1 (d.2.2.2.2.1 x.toNat) k y ∧ ¬ room d.1 (d.2.2.2.2.1 x.toNat) k y ∧ τ.1 55 0 = 0 ∧ z = -1 ∧ rD τ d) ∨
      ((0 ≤ x ∧ x < 8) ∧ due (d.2.2.2.2.1 x.toNat) ≠ 0 ∧ fit d.2.1 d.2.2.1 (d.2.2.2.2.1 x.toNat) k y ∧ room d.1 (d.2.2.2.2.1 x.toNat) k y ∧ τ.1 55 0 = 0 ∧ z = (due (slP d.1 d.2.2.2.1.1 (d.2.2.2.2.1 x.toNat) k y) : Int) ∧ rD τ (dkS d x.toNat (slP d.1 d.2.2.2.1.1 (d.2.2.2.2.1 x.toNat) k y))))) := by
  unfold f_D_put
  refine wp_e s_isSlot ?_
  have xc : ∀ c : Int, fx XD σ (sF σ 55 0 c) := fun c => fx_F fx_rf (by unfold XD; omega)
  have fc : ∀ c : Int, (sF σ 55 0 c).1 55 0 = c := fun c => sF_same _ _ _ _
  by_cases cx : 0 ≤ x ∧ x < 8
  rotate_left
  · rw [if_neg cx, if_pos rfl, sq_e, if_pos rfl, sq_e, s_fails01, sq_e]
    exact wp_f (by decide) (wp_some ⟨xc 2, Or.inl ⟨cx, fc 2, rD_code hc⟩⟩)
  rw [if_pos cx, if_neg (by decide)]
  obtain ⟨i, hix⟩ : ∃ i : Nat, x = (i : Int) := ⟨x.toNat, by omega⟩
  have hi : i < 8 := by omega
  have exi : x.toNat = i := by omega
  rw [exi]
  rw [hix]
  have ib8 : inb 8 (i : Int) := ⟨by omega, by omega⟩
  have hcs := hc.2.2.2.1 i hi
  have hs := hg.2.2.1 i hi
  have hsb := sl_b hg.1.2.2.2.1 hg.2.1.1.2.2.2.1 hs
  have hil := il_30 hg.2.1.1.2.2.2.1 hs
  have cx' : 0 ≤ (i : Int) ∧ (i : Int) < 8 := by omega
  rw [ck_t ib8, hcs.2.2.2.2.1]
  by_cases cd : due (d.2.2.2.2.1 i) = 0
  · rw [if_pos (by omega), sq_e, if_neg (by decide), if_neg (by decide), sq_e, s_fails10, sq_e]
    exact wp_f (by decide) (wp_some ⟨xc 1, Or.inr (Or.inl ⟨cx', cd, fc 1, rD_code hc⟩)⟩)
  rw [if_neg (by omega), sq_e, if_neg (by decide), if_pos rfl]
  obtain ⟨w, w1, w2⟩ := s_fits (k := k) (x := y) hfu hg hc hi cd
  rw [w1, sq_e]
  rcases w2 with ⟨rfl, hf⟩ | ⟨rfl, hf⟩
  rotate_left
  · rw [if_pos rfl, sq_e, s_fails01, sq_e]
    exact wp_f (by decide) (wp_some ⟨xc 2, Or.inr (Or.inr (Or.inl ⟨cx', cd, hf, fc 2, rD_code hc⟩))⟩)
  rw [if_neg (by decide), sq_e, s_fails00, sq_e]
  have hc9 : rD (sF σ 55 0 0) d := rD_code hc
  have x9 := xc 0
  have f0 := fc 0
  generalize sF σ 55 0 0 = σ28 at hc9 x9 f0
  have hcs9 := hc9.2.2.2.1 i hi
  have hk := r_kind hg hi cd hcs9
  have hb := hbl_b hs cd
  have h6 := hs.2.1
  have hdl : due (d.2.2.2.2.1 i) ≤ 65 := by unfold due; omega
  rw [if_pos rfl, hcs9.2.2.2.2.1, ck_t (by omega), ck_t ib8, ck_t (by omega), ck_t (by omega), ck_t ⟨by omega, by omega⟩, hk, lb_e]
  have hlen30 := hs.2.2.2.1
  have finR : room d.1 (d.2.2.2.2.1 i) k y → ∀ τ : SS, τ = σ28 → Wp (ck (inb 8 (i : Int)) (lb (τ.2.1 64 i) fun y55 => ck (rng (160 * (i : Int))) (ck (rng ((160 * (i : Int)) + y55)) (ck (rng (4 * y)) (ck (rng ((4 * y) + k)) (ck (inb 1280 ((160 * (i : Int)) + y55)) (lb (sA τ 63 ((160 * (i : Int)) + y55) ((4 * y) + k)) fun σ63 => ck (inb 8 (i : Int)) (ck (rng ((σ63.2.1 64 i) + 1)) (ck (inb 8 (i : Int)) (lb (sA σ63 64 i ((σ63.2.1 64 i) + 1)) fun σ70 => ck (inb 8 (i : Int)) (ck (rng ((σ70.2.1 67 i) - 1)) (ck (inb 8 (i : Int)) (lb (sA σ70 67 i ((σ70.2.1 67 i) - 1)) fun σ77 => if (if 0 < (d.2.2.2.2.1 i).2.2.2.1 then 100 else 0) + (d.2.2.2.2.1 i).2.1 + hbl (d.2.2.2.2.1 i) < 100 then (ck (inb 8 (i : Int)) (ck (rng ((σ77.2.1 65 i) + 1)) (ck (inb 8 (i : Int)) (lb (sA σ77 65 i ((σ77.2.1 65 i) + 1)) fun σ85 => sq (l_D_put_188 fu fu i k y ((if 0 < (d.2.2.2.2.1 i).2.2.2.1 then 100 else 0) + (d.2.2.2.2.1 i).2.1 + hbl (d.2.2.2.2.1 i)) y55 2 σ85) fun (z88 : Unit) σ89 => sq (l_D_put_238 fu fu i k y ((if 0 < (d.2.2.2.2.1 i).2.2.2.1 then 100 else 0) + (d.2.2.2.2.1 i).2.1 + hbl (d.2.2.2.2.1 i)) y55 0 σ89) fun (z93 : Unit) σ94 => ck (inb 8 (i : Int)) (some ((σ94.2.1 67 i), σ94)))))) else (ck (inb 8 (i : Int)) (some ((σ77.2.1 67 i), σ77)))))))))))))))) (fun z τ => fx XD σ τ ∧ τ.1 55 0 = 0 ∧ z = (due (slP d.1 d.2.2.2.1.1 (d.2.2.2.2.1 i) k y) : Int) ∧ rD τ (dkS d i (slP d.1 d.2.2.2.1.1 (d.2.2.2.2.1 i) k y))) := by
    rintro hr τ rfl
    refine wp_mono (s_putb hfu hg hc9 hi cd hf hr _ rfl) (fun z υ h => ⟨fx_tr x9 (fx_mono h.1 (fun a z => by unfold XD; omega)), by rw [fx_f h.1 (by omega)]; exact f0, h.2.1, h.2.2⟩)
  by_cases cp : 0 < (d.2.2.2.2.1 i).2.2.2.1
  · have hr : room d.1 (d.2.2.2.2.1 i) k y := Or.inl cp
    refine wp_sr (R := fun z τ => z = .inr () ∧ τ = σ28) (wp_f (by rw [if_pos cp]; omega) (wp_some ⟨rfl, rfl⟩)) (fun z τ h => by cases h.1) ?_
    rintro u τ ⟨-, hτ⟩
    exact wp_mono (finR hr τ hτ) (fun z υ h => ⟨h.1, Or.inr (Or.inr (Or.inr (Or.inr ⟨cx', cd, hf, hr, h.2.1, h.2.2.1, h.2.2.2⟩)))⟩)
  · have k0 : (if 0 < (d.2.2.2.2.1 i).2.2.2.1 then (100 : Int) else 0) = 0 := if_neg cp
    have hxk : k = 1 → 0 ≤ d.1.1 y := by
      intro k1
      unfold fit at hf
      rw [if_neg cp] at hf
      exact (hg.1.2.2.1 y).mpr (by omega)
    obtain ⟨v, v1, v2⟩ := s_isTooWide (fu := fu) (σ := σ28) (k := k) (x := y) (b := (if 0 < (d.2.2.2.2.1 i).2.2.2.1 then (100 : Int) else 0) + (d.2.2.2.2.1 i).2.1 + hbl (d.2.2.2.2.1 i)) (by omega) hc9.2.1 hg.1.2.2.2.2 hxk (by omega)
    have hbe : (if 0 < (d.2.2.2.2.1 i).2.2.2.1 then (100 : Int) else 0) + (d.2.2.2.2.1 i).2.1 + hbl (d.2.2.2.2.1 i) = (d.2.2.2.2.1 i).2.1 + hbl (d.2.2.2.2.1 i) := by omega
    have h65 := hcs9.2.2.1
    by_cases c30 : (d.2.2.2.2.1 i).2.2.1.length = 30
    · have hnr : ¬ room d.1 (d.2.2.2.2.1 i) k y := fun z => by unfold room at z; omega
      refine wp_sr (R := fun z τ => z = .inl (-1) ∧ τ = σ28) (wp_t (by omega) (wp_ck ib8 (wp_t (by rw [h65]; omega) (wp_some ⟨rfl, rfl⟩)))) (fun z τ h => ?_) (fun z τ h => by cases h.1)
      rw [h.2]
      exact ⟨x9, Or.inr (Or.inr (Or.inr (Or.inl ⟨cx', cd, hf, hnr, f0, Sum.inl.inj h.1, hc9⟩)))⟩
    · rcases v2 with ⟨rfl, v3, v4⟩ | ⟨rfl, v3⟩
      · rw [hbe] at v4
        have hnr : ¬ room d.1 (d.2.2.2.2.1 i) k y := fun z => z.elim (fun y => cp y) (fun y => y.2 v3 v4)
        refine wp_sr (R := fun z τ => z = .inl (-1) ∧ τ = σ28) (wp_t (by omega) (wp_ck ib8 (wp_f (by rw [h65]; omega) (wp_e v1 (wp_f (by decide) (wp_some ⟨rfl, rfl⟩)))))) (fun z τ h => ?_) (fun z τ h => by cases h.1)
        rw [h.2]
        exact ⟨x9, Or.inr (Or.inr (Or.inr (Or.inl ⟨cx', cd, hf, hnr, f0, Sum.inl.inj h.1, hc9⟩)))⟩
      · rw [hbe] at v3
        have hr : room d.1 (d.2.2.2.2.1 i) k y := Or.inr ⟨by omega, fun k1 w => v3 ⟨k1, w⟩⟩
        refine wp_sr (R := fun z τ => z = .inr () ∧ τ = σ28) (wp_t (by omega) (wp_ck ib8 (wp_f (by rw [h65]; omega) (wp_e v1 (wp_t rfl (wp_some ⟨rfl, rfl⟩)))))) (fun z τ h => by cases h.1) ?_
        rintro u τ ⟨-, hτ⟩
        exact wp_mono (finR hr τ hτ) (fun z υ h => ⟨h.1, Or.inr (Or.inr (Or.inr (Or.inr ⟨cx', cd, hf, hr, h.2.1, h.2.2.1, h.2.2.2⟩)))⟩)
