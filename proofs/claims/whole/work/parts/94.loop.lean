/-! THE LAW'S LOOP. Written by wip/whole/gen_94.py. -/
theorem and15 (x : Int32) : 0 ≤ (x &&& iv 15).toInt ∧ (x &&& iv 15).toInt ≤ 15 := by
  have h1 : (x &&& iv 15).toBitVec.toNat ≤ 15 := by
    rw [Int32.toBitVec_and, BitVec.toNat_and]
    exact Nat.le_trans Nat.and_le_right (by decide)
  have h2 : (x &&& iv 15).toInt = ((x &&& iv 15).toBitVec.toNat : Int) := by
    show (x &&& iv 15).toBitVec.toInt = _
    exact BitVec.toInt_eq_toNat_of_lt (by omega)
  omega
theorem JR_s {R n : Nat} {σ : SS} (h : JR R n σ) : JR R (n + 1) σ := by
  obtain ⟨d, hg, hc, hr, h0, h1, hcn⟩ := h
  exact ⟨d, hg, hc, hr, h0, by omega, cn_s hcn rfl⟩
theorem law_loop {g : MG} {b0 L B R fu : Nat} {xs : Nat → Int32} {d w : Nat} {Q : MO → List MC → Prop} (hl : g.1.stackTraces = false) (hfu : 20000 ≤ fu) (hR : 300 < R) (hRf : R ≤ 1000) (hL : L ≤ 2048) (hd : 12 ≤ d) (hw : 400 ≤ w) (hB : 561000 ≤ B) (hQ : ∀ h, Q (.inl (some (iI 1))) h) :
    ∀ (m n : Nat), m + n = 600 → ∀ (h : List MC) (σ : SS), Wd h σ → JR R n σ → Ev g (some (b0, L, xs)) M_law d w 23 (LV0 (4 * (n : Int))) [] h (B - K σ) (B - K σ) Q := by
  intro m
  induction m with
  | zero =>
    intro n hmn h σ hW hJ
    refine e_iload (lv := LV0 (4 * (n : Int))) d_law_23 rfl ?_
    refine e_aload_n (lv := LV0 (4 * (n : Int))) d_law_25 rfl rfl ?_
    refine e_slen d_law_26 rfl ?_
    rw [show Int32.ofNat L = iv (L : Int) from (iv_nat L).symm]
    refine e_iconst (v := iv 4) d_law_27 rfl ?_
    refine z_isub d_law_28 ?_
    refine z_icmp_gt (tgt := 795) d_law_29 (by decide) (by omega) (by omega) (fun _ => ?_) (fun c => absurd c (by omega))
    refine e_iconst (v := iv 1) d_law_795 rfl ?_
    exact z_zret d_law_796 rfl (Or.inr rfl) (hQ h)
  | succ m ih =>
    intro n hmn h σ hW hJ
    refine e_iload (lv := LV0 (4 * (n : Int))) d_law_23 rfl ?_
    refine e_aload_n (lv := LV0 (4 * (n : Int))) d_law_25 rfl rfl ?_
    refine e_slen d_law_26 rfl ?_
    rw [show Int32.ofNat L = iv (L : Int) from (iv_nat L).symm]
    refine e_iconst (v := iv 4) d_law_27 rfl ?_
    refine z_isub d_law_28 ?_
    refine z_icmp_gt (tgt := 795) d_law_29 (by decide) (by omega) (by omega) (fun _ => ?_) (fun c => ?_)
    · refine e_iconst (v := iv 1) d_law_795 rfl ?_
      exact z_zret d_law_796 rfl (Or.inr rfl) (hQ h)
    · have i1 : 4 * (n : Int) + 4 ≤ L := by omega
      have i0 : 0 ≤ 4 * (n : Int) := by omega
      have hL2 : L < 2147483648 := by omega
      have hn : n ≤ 590 := by omega
      have nx : ∀ h9 ω, Wd h9 ω → JR R (n + 1) ω → Ev g (some (b0, L, xs)) M_law d w 789 (LV0 (4 * (n : Int))) [] h9 (B - K ω) (B - K ω) Q := by
        intro h9 ω hW9 hJ9
        refine z_iinc (lv := LV0 (4 * (n : Int))) d_law_789 rfl (by decide) (lv2 := LV0 (4 * (n : Int) + 4)) rfl ?_
        refine e_goto (tgt := 23) d_law_792 (by decide) ?_
        have k := ih (n + 1) (by omega) h9 ω hW9 hJ9
        rw [show 4 * ((n + 1 : Nat) : Int) = 4 * (n : Int) + 4 by omega] at k
        exact k
      refine e_aload_n (lv := LV0 (4 * (n : Int))) d_law_32 rfl rfl ?_
      refine e_iload (lv := LV0 (4 * (n : Int))) d_law_33 rfl ?_
      refine z_sread d_law_35 (by omega) (by omega) hL2 ?_
      refine e_bipush (v := iv 15) d_law_36 rfl ?_
      refine e_iand d_law_38 ?_
      have ha := and15 (iv (xs (4 * (n : Int)).toNat).toInt)
      generalize hy : iv (xs (4 * (n : Int)).toNat).toInt &&& iv 15 = y at ha
      by_cases c9 : 11 < y.toInt
      · exact e_tableOut (tgt := 789) d_law_39 (Or.inr c9) (by decide) (Ev.sub (m_sc2 rfl (m_sc2 rfl (m_sc2 rfl (m_sc2 rfl (m_sc2 rfl (m_sn _)))))) (nx h σ hW (JR_s hJ)))
      by_cases q0 : y.toInt = 0
      · exact e_tableIn (tgt := 100) d_law_39 (by omega) (by omega) (by rw [q0]; rfl) (by decide) (k_operation (fu := fu) hl hfu hR hRf hL2 i0 i1 hW hJ hn hd hw hB nx)
      by_cases q1 : y.toInt = 1
      · exact e_tableIn (tgt := 180) d_law_39 (by omega) (by omega) (by rw [q1]; rfl) (by decide) (k_hole (fu := fu) hl hfu hR hRf hL2 i0 i1 hW hJ hn hd hw hB nx)
      by_cases q2 : y.toInt = 2
      · exact e_tableIn (tgt := 236) d_law_39 (by omega) (by omega) (by rw [q2]; rfl) (by decide) (k_begin (fu := fu) hl hfu hR hRf hL2 i0 i1 hW hJ hn hd hw hB nx)
      by_cases q3 : y.toInt = 3
      · exact e_tableIn (tgt := 304) d_law_39 (by omega) (by omega) (by rw [q3]; rfl) (by decide) (k_put (fu := fu) hl hfu hR hRf hL2 i0 i1 hW hJ hn hd hw hB nx)
      by_cases q4 : y.toInt = 4
      · exact e_tableIn (tgt := 384) d_law_39 (by omega) (by omega) (by rw [q4]; rfl) (by decide) (k_unify (fu := fu) hl hfu hR hRf hL2 i0 i1 hW hJ hn hd hw hB nx)
      by_cases q5 : y.toInt = 5
      · exact e_tableIn (tgt := 452) d_law_39 (by omega) (by omega) (by rw [q5]; rfl) (by decide) (k_read (fu := fu) hl hfu hR hRf hL2 i0 i1 hW hJ hn hd hw hB nx)
      by_cases q6 : y.toInt = 6
      · exact e_tableIn (tgt := 508) d_law_39 (by omega) (by omega) (by rw [q6]; rfl) (by decide) (k_item (fu := fu) hl hfu hR hRf hL2 i0 i1 hW hJ hn hd hw hB nx)
      by_cases q7 : y.toInt = 7
      · exact e_tableIn (tgt := 564) d_law_39 (by omega) (by omega) (by rw [q7]; rfl) (by decide) (k_isSame (fu := fu) hl hfu hR hRf hL2 i0 i1 hW hJ hn hd hw hB nx)
      by_cases q8 : y.toInt = 8
      · exact e_tableIn (tgt := 639) d_law_39 (by omega) (by omega) (by rw [q8]; rfl) (by decide) (k_size (fu := fu) hl hfu hR hRf hL2 i0 i1 hW hJ hn hd hw hB nx)
      by_cases q9 : y.toInt = 9
      · exact e_tableIn (tgt := 695) d_law_39 (by omega) (by omega) (by rw [q9]; rfl) (by decide) (k_uses (fu := fu) hl hfu hR hRf hL2 i0 i1 hW hJ hn hd hw hB nx)
      by_cases q10 : y.toInt = 10
      · exact e_tableIn (tgt := 751) d_law_39 (by omega) (by omega) (by rw [q10]; rfl) (by decide) (k_empty (fu := fu) hl hfu hR hRf hL2 i0 i1 hW hJ hn hd hw hB nx)
      by_cases q11 : y.toInt = 11
      · exact e_tableIn (tgt := 764) d_law_39 (by omega) (by omega) (by rw [q11]; rfl) (by decide) (k_count (fu := fu) hl hfu hR hRf hL2 i0 i1 hW hJ hn hd hw hB nx)
      exact absurd ha (by omega)
