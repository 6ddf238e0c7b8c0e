/-! THE LAW'S CASES. Written by wip/whole/gen_93.py. -/
theorem z_sread {g : MG} {M : MM} {d w pc : Nat} {lv : ML} {st : List MV} {h : List MC} {mc ms : Nat} {Q : MO → List MC → Prop} {b0 L : Nat} {xs : Nat → Int32} {i : Int} (hd : decode M.2.1 pc = .ok (.iaload, 1)) (h0 : 0 ≤ i) (h1 : i < L) (hL : L < 2147483648) (kk : Ev g (some (b0, L, xs)) M d w (pc + 1) lv (iI (xs i.toNat).toInt :: st) h mc ms Q) : Ev g (some (b0, L, xs)) M d w pc lv (iI i :: msc :: st) h mc ms Q := by
  refine e_siaload hd rfl (iv_in h0 h1 hL) ?_
  rw [iv_cl h0 (by omega)]
  have e9 : iI (xs i.toNat).toInt = mi (xs i.toNat) := congrArg mi (iv_of (xs i.toNat)).symm
  rw [e9] at kk
  exact kk
theorem JR_K {R n : Nat} {σ : SS} (hJ : JR R n σ) (hn : n ≤ 600) : K σ ≤ 561000 := by
  obtain ⟨d, hg, hc, -, h0, h1, -⟩ := hJ
  have a1 := hc.1.2.1.1
  have a2 := hc.2.2.2.2.1.1
  unfold K
  unfold lenOk at a1
  unfold lenR at a2
  omega
theorem e_cw {g : MG} {sc : MS} {M : MM} {d w pc : Nat} {lv : ML} {st : List MV} {h : List MC} {Q : MO → List MC → Prop} {N : MM} {F L B : Nat} {σ τ : SS} {a : Int} {m1 : Option (Int × SS)} {i n r ci : Nat} (av st' : List MV) (hd : decode M.2.1 pc = .ok (.invokevirtual i, 3)) (hN : m_me N n) (hl : m_lV M.1.cls i N) (hW : Wd h σ) (hC : Cw g N F L (mr r :: av) rng cI1 h σ m1) (e : m1 = some (a, τ)) (hst0 : st = av.reverse ++ mr r :: st') (hn : av.length = n) (hsl : ((mr r :: av).map m_cat).sum ≤ N.2.2.1) (hns : av.all m_nsc = true) (h8 : (st'.map m_cat).sum ≤ 8) (hd2 : F + 1 ≤ d) (hw2 : 19 + N.2.2.1 + L ≤ w) (ho : ob r ci) (hci : ∃ (T : u_T) (NN : Nat), m_cl[ci]? = some (N.1.cls, T, NN)) (hB : K τ ≤ B) (kk : ∀ h9, rng a → Wd h9 τ → Ev g sc M d w (pc + 3) lv (iI a :: st') h9 (B - K τ) (B - K τ) Q) : Ev g sc M d w pc lv st h (B - K σ) (B - K σ) Q := by
  obtain ⟨-, hK, hG, hev⟩ := hC a τ e
  obtain ⟨-, a7, b7, c7, hg7, hR7⟩ := id hW
  obtain ⟨l7, ho7⟩ := ho a7 b7 c7 _ _ hg7
  obtain ⟨T7, NN7, hci7⟩ := hci
  have ho8 := hR7.at r _ ho7
  have e1 : B - K σ = (K τ - K σ) + (B - K τ) := by omega
  rw [e1]
  refine e_invV (d2 := F) (w2 := L) hd hN hl hst0 hn hsl hns h8 hd2 hw2 ho8 hci7 (hev F L (fun o h9 => Wd h9 τ ∧ o = .inl (some (iI a))) (Nat.le_refl _) (Nat.le_refl _) (fun h' hW' => ⟨hW', rfl⟩)) (fun r9 h9 hP => ?_) (fun E h9 hP => ?_)
  · obtain ⟨hW9, ho9⟩ := hP
    cases ho9
    exact kk h9 hG hW9
  · cases hP.2
theorem e_hw {g : MG} {sc : MS} {M : MM} {d w pc : Nat} {lv : ML} {st : List MV} {h : List MC} {Q : MO → List MC → Prop} {N : MM} {F L B : Nat} {σ τ : SS} {cod : String → Int → Prop} {lg : Int → Int64} {z : Int ⊕ String} {j n : Nat} (av st' : List MV) (hd : decode M.2.1 pc = .ok (.invokestatic j, 3)) (hN : m_me N n) (hl : m_lS M.1.cls j N) (hH : Hw g N F L av cod lg h σ z τ) (hst0 : st = av.reverse ++ st') (hn : av.length = n) (hsl : (av.map m_cat).sum ≤ N.2.2.1) (hns : av.all m_nsc = true) (h8 : (st'.map m_cat).sum ≤ 8) (hd2 : F + 1 ≤ d) (hw2 : 19 + N.2.2.1 + L ≤ w) (hB : K τ ≤ B) (kk : ∀ h9 k υ, Res cod lg z τ k υ → Wd h9 υ → Ev g sc M d w (pc + 3) lv (iI k :: st') h9 (B - K τ) (B - K τ) Q) : Ev g sc M d w pc lv st h (B - K σ) (B - K σ) Q := by
  obtain ⟨hK, -, -, hev⟩ := hH
  have e1 : B - K σ = (K τ - K σ) + (B - K τ) := by omega
  rw [e1]
  refine e_invS (d2 := F) (w2 := L) hd hN hl hst0 hn hsl hns h8 hd2 hw2 (hev F L (fun o h9 => ∃ k υ, o = .inl (some (iI k)) ∧ Res cod lg z τ k υ ∧ Wd h9 υ) (Nat.le_refl _) (Nat.le_refl _) (fun h' k υ hr hW' => ⟨k, υ, rfl, hr, hW'⟩)) (fun r9 h9 hP => ?_) (fun E h9 hP => ?_)
  · obtain ⟨k, υ, ho9, hr, hW9⟩ := hP
    cases ho9
    exact kk h9 k υ hr hW9
  · obtain ⟨k, υ, ho9, -⟩ := hP
    cases ho9
def cof (cod : String → Int → Prop) : Prop := ∀ E a b, cod E a → cod E b → a = b ∧ a ≠ 0
theorem cof1 : cof c1 := fun E a b h k => ⟨by rw [h.2, k.2], by rw [h.2]; decide⟩
theorem cof3 : cof c3 := fun E a b h k => ⟨by rw [h.2, k.2], by rw [h.2]; decide⟩
theorem cof12 : cof c12 := fun E a b h k => by
  rcases h with ⟨rfl, rfl⟩ | ⟨rfl, rfl⟩
  · rcases k with ⟨-, rfl⟩ | ⟨z, -⟩
    · decide
    · exact absurd z (by decide)
  · rcases k with ⟨z, -⟩ | ⟨-, rfl⟩
    · exact absurd z (by decide)
    · decide
theorem cof21 : cof c21 := fun E a b h k => by
  rcases h with ⟨rfl, rfl⟩ | ⟨rfl, rfl⟩
  · rcases k with ⟨-, rfl⟩ | ⟨z, -⟩
    · decide
    · exact absurd z (by decide)
  · rcases k with ⟨z, -⟩ | ⟨-, rfl⟩
    · exact absurd z (by decide)
    · decide
theorem duo_E {R n : Nat} {cod : String → Int → Prop} {fD : SS → Option (Int × SS)} {z : Int ⊕ String} {τ : SS} (hD : ∀ l, ∃ b ω, fD (τ.1, τ.2.1, l) = some (b, ω) ∧ JR R (n + 1) ω ∧ ω.2.2 = l ∧ Ans cod z b (ω.1 55 0)) : ∀ E, z = .inr E → ∃ k, cod E k := by
  intro E hz
  obtain ⟨b, ω, -, -, -, ha⟩ := hD τ.2.2
  rcases ha with ⟨v, hv, -⟩ | ⟨E2, hv, hc⟩
  · rw [hz] at hv
    cases hv
  · rw [hz] at hv
    cases hv
    exact ⟨_, hc⟩
theorem duo_res {R n : Nat} {cod : String → Int → Prop} {lg : Int → Int64} {fD : SS → Option (Int × SS)} {z : Int ⊕ String} {τ υ : SS} {k : Int} (hcf : cof cod) (hD : ∀ l, ∃ b ω, fD (τ.1, τ.2.1, l) = some (b, ω) ∧ JR R (n + 1) ω ∧ ω.2.2 = l ∧ Ans cod z b (ω.1 55 0)) (hr : Res cod lg z τ k υ) : K υ = K τ ∧ ∃ b ω, fD υ = some (b, ω) ∧ JR R (n + 1) ω ∧ ω.1 55 0 = k ∧ (k = 0 → ω.2.2 85 = lg b) := by
  rcases hr with ⟨v, rfl, rfl, rfl⟩ | ⟨E, rfl, hk, rfl⟩
  · obtain ⟨b, ω, e, hJ, hl, ha⟩ := hD (sL τ 85 (lg v)).2.2
    refine ⟨rfl, b, ω, e, hJ, ?_, fun _ => ?_⟩
    · rcases ha with ⟨v2, hv, h0, -⟩ | ⟨E2, hv, -⟩
      · exact h0
      · cases hv
    · rcases ha with ⟨v2, hv, h0, hb⟩ | ⟨E2, hv, -⟩
      · cases hv
        rw [hl, hb]
        rfl
      · cases hv
  · obtain ⟨b, ω, e, hJ, hl, ha⟩ := hD υ.2.2
    rcases ha with ⟨v2, hv, h0, -⟩ | ⟨E2, hv, hc⟩
    · cases hv
    · cases hv
      exact ⟨rfl, b, ω, e, hJ, (hcf _ _ _ hc hk).1, fun z => absurd z (hcf _ _ _ hk hk).2⟩
theorem lcmp_s (x : Int64) : lg_cmp x x = iv 0 := by simp [lg_cmp, iv]
abbrev LV0 (i : Int) : ML := [(4, iI i), (3, mr 85), (2, mr 55), (1, mr 0), (0, msc)]
theorem k_operation {g : MG} {b0 L B R n fu : Nat} {xs : Nat → Int32} {d w : Nat} {Q : MO → List MC → Prop} {h : List MC} {σ : SS} {i : Int} (hl : g.1.stackTraces = false) (hfu : 20000 ≤ fu) (hR : 300 < R) (hRf : R ≤ 1000) (hL : L < 2147483648) (i0 : 0 ≤ i) (i1 : i + 4 ≤ L) (hW : Wd h σ) (hJ : JR R n σ) (hn : n ≤ 590) (hd : 12 ≤ d) (hw : 400 ≤ w) (hB : 561000 ≤ B) (kk : ∀ h9 ω, Wd h9 ω → JR R (n + 1) ω → Ev g (some (b0, L, xs)) M_law d w 789 (LV0 i) [] h9 (B - K ω) (B - K ω) Q) : Ev g (some (b0, L, xs)) M_law d w 100 (LV0 i) [] h (B - K σ) (B - K σ) Q := by
  obtain ⟨z, τ, e, hD⟩ := duo_operation (a := (xs (i + 1).toNat).toInt) (b := (xs (i + 2).toNat).toInt) (c := (xs (i + 3).toNat).toInt) (by omega) hJ
  have hD2 := hD τ.2.2
  obtain ⟨bq, ωq, eq, hJq, -, -⟩ := hD2
  have hH := h_operation hl hW (iv_rng _) (iv_rng _) (iv_rng _) e (duo_E hD)
  obtain ⟨hq, hWq⟩ := hH.2.1
  have hKq := (c_D_operation (g := g) hWq (iv_rng _) (iv_rng _) (iv_rng _) bq ωq eq).2.1
  have hKz := JR_K hJq (by omega)
  refine e_aload_n (lv := (LV0 i)) d_law_100 rfl rfl ?_
  refine e_aload_n (lv := (LV0 i)) d_law_101 rfl rfl ?_
  refine e_iload (lv := (LV0 i)) d_law_102 rfl ?_
  refine e_iconst (v := iv 1) d_law_104 rfl ?_
  refine z_iadd d_law_105 ?_
  refine z_sread d_law_106 (by omega) (by omega) hL ?_
  refine e_aload_n (lv := (LV0 i)) d_law_107 rfl rfl ?_
  refine e_iload (lv := (LV0 i)) d_law_108 rfl ?_
  refine e_iconst (v := iv 2) d_law_110 rfl ?_
  refine z_iadd d_law_111 ?_
  refine z_sread d_law_112 (by omega) (by omega) hL ?_
  refine e_aload_n (lv := (LV0 i)) d_law_113 rfl rfl ?_
  refine e_iload (lv := (LV0 i)) d_law_114 rfl ?_
  refine e_iconst (v := iv 3) d_law_116 rfl ?_
  refine z_iadd d_law_117 ?_
  refine z_sread d_law_118 (by omega) (by omega) hL ?_
  refine e_aload_n (lv := (LV0 i)) d_law_119 rfl rfl ?_
  refine e_hw [mr 0, iI (xs (i + 1).toNat).toInt, iI (xs (i + 2).toNat).toInt, iI (xs (i + 3).toNat).toInt, mr 85] [] d_law_120 me_L_operation l_L_53 hH rfl rfl (Nat.le_of_ble_eq_true rfl) rfl (Nat.le_of_ble_eq_true rfl) (Nat.le_trans (Nat.le_of_ble_eq_true rfl) hd) (Nat.le_trans (Nat.le_of_ble_eq_true rfl) hw) (by omega) (fun h1 k υ hr hW1 => ?_)
  obtain ⟨hKu, b, ω, e2, hJ2, hk, hb⟩ := duo_res cof1 hD hr
  rw [← hKu]
  have hKw := JR_K hJ2 (by omega)
  refine e_istore d_law_123 (by decide) (lv2 := ((5, iI k) :: LV0 i)) rfl ?_
  refine e_aload_n (lv := ((5, iI k) :: LV0 i)) d_law_125 rfl rfl ?_
  refine e_aload_n (lv := ((5, iI k) :: LV0 i)) d_law_126 rfl rfl ?_
  refine e_iload (lv := ((5, iI k) :: LV0 i)) d_law_127 rfl ?_
  refine e_iconst (v := iv 1) d_law_129 rfl ?_
  refine z_iadd d_law_130 ?_
  refine z_sread d_law_131 (by omega) (by omega) hL ?_
  refine e_aload_n (lv := ((5, iI k) :: LV0 i)) d_law_132 rfl rfl ?_
  refine e_iload (lv := ((5, iI k) :: LV0 i)) d_law_133 rfl ?_
  refine e_iconst (v := iv 2) d_law_135 rfl ?_
  refine z_iadd d_law_136 ?_
  refine z_sread d_law_137 (by omega) (by omega) hL ?_
  refine e_aload_n (lv := ((5, iI k) :: LV0 i)) d_law_138 rfl rfl ?_
  refine e_iload (lv := ((5, iI k) :: LV0 i)) d_law_139 rfl ?_
  refine e_iconst (v := iv 3) d_law_141 rfl ?_
  refine z_iadd d_law_142 ?_
  refine z_sread d_law_143 (by omega) (by omega) hL ?_
  refine e_cw [iI (xs (i + 1).toNat).toInt, iI (xs (i + 2).toNat).toInt, iI (xs (i + 3).toNat).toInt] [] d_law_144 me_D_operation l_L_58 hW1 (c_D_operation hW1 (iv_rng _) (iv_rng _) (iv_rng _)) e2 rfl rfl (Nat.le_of_ble_eq_true rfl) rfl (Nat.le_of_ble_eq_true rfl) (Nat.le_trans (Nat.le_of_ble_eq_true rfl) hd) (Nat.le_trans (Nat.le_of_ble_eq_true rfl) hw) ob55 ⟨_, _, rfl⟩ (by omega) (fun h2 hbr hW2 => ?_)
  refine e_istore d_law_147 (by decide) (lv2 := ((6, iI b) :: (5, iI k) :: LV0 i)) rfl ?_
  refine e_aload_n (lv := ((6, iI b) :: (5, iI k) :: LV0 i)) d_law_149 rfl rfl ?_
  refine e_cw [] [] d_law_150 me_D_thrown l_L_59 hW2 (c_D_thrown hW2) rfl rfl rfl (Nat.le_of_ble_eq_true rfl) rfl (Nat.le_of_ble_eq_true rfl) (Nat.le_trans (Nat.le_of_ble_eq_true rfl) hd) (Nat.le_trans (Nat.le_of_ble_eq_true rfl) hw) ob55 ⟨_, _, rfl⟩ (by omega) (fun h3 hkr hW3 => ?_)
  rw [hk] at hkr ⊢
  refine e_iload (lv := ((6, iI b) :: (5, iI k) :: LV0 i)) d_law_153 rfl ?_
  refine z_icmp_eq (tgt := 160) d_law_155 (by decide) hkr hkr (fun _ => ?_) (fun z => absurd rfl z)
  refine e_iload (lv := ((6, iI b) :: (5, iI k) :: LV0 i)) d_law_160 rfl ?_
  have fin : Ev g (some (b0, L, xs)) M_law d w 177 ((6, iI b) :: (5, iI k) :: LV0 i) [] h3 (B - K ω) (B - K ω) Q := by
    refine e_goto (tgt := 789) d_law_177 (by decide) ?_
    exact Ev.sub (m_sc2 rfl (m_sc2 rfl (m_sc2 rfl (m_sc2 rfl (m_sc2 rfl (m_sn _)))))) (kk h3 ω hW3 hJ2)
  refine z_if_ne (tgt := 177) d_law_162 (by decide) hkr (fun _ => fin) (fun k0 => ?_)
  have hv := hb k0
  refine e_aload_n (lv := ((6, iI b) :: (5, iI k) :: LV0 i)) d_law_165 rfl rfl ?_
  refine e_iconst (v := iv 0) d_law_166 rfl ?_
  refine e_laload d_law_167 hW3.at85 (iv_in (by decide) (by decide) (by decide)) ?_
  rw [hv]
  refine e_iload (lv := ((6, iI b) :: (5, iI k) :: LV0 i)) d_law_168 rfl ?_
  refine e_i2l d_law_170 ?_
  refine e_lcmp d_law_171 ?_
  rw [show lg_cmp (lgI b) (iv b).toInt64 = iv 0 from lcmp_s _]
  exact z_if_eq (tgt := 177) d_law_172 (by decide) (by omega) (fun _ => fin) (fun z => absurd rfl z)
theorem k_hole {g : MG} {b0 L B R n fu : Nat} {xs : Nat → Int32} {d w : Nat} {Q : MO → List MC → Prop} {h : List MC} {σ : SS} {i : Int} (hl : g.1.stackTraces = false) (hfu : 20000 ≤ fu) (hR : 300 < R) (hRf : R ≤ 1000) (hL : L < 2147483648) (i0 : 0 ≤ i) (i1 : i + 4 ≤ L) (hW : Wd h σ) (hJ : JR R n σ) (hn : n ≤ 590) (hd : 12 ≤ d) (hw : 400 ≤ w) (hB : 561000 ≤ B) (kk : ∀ h9 ω, Wd h9 ω → JR R (n + 1) ω → Ev g (some (b0, L, xs)) M_law d w 789 (LV0 i) [] h9 (B - K ω) (B - K ω) Q) : Ev g (some (b0, L, xs)) M_law d w 180 (LV0 i) [] h (B - K σ) (B - K σ) Q := by
  obtain ⟨z, τ, e, hD⟩ := duo_hole (x := (xs (i + 1).toNat).toInt) (by omega) hJ
  have hD2 := hD τ.2.2
  obtain ⟨bq, ωq, eq, hJq, -, -⟩ := hD2
  have hH := h_hole hl hW (iv_rng _) e (duo_E hD)
  obtain ⟨hq, hWq⟩ := hH.2.1
  have hKq := (c_D_hole (g := g) hWq (iv_rng _) bq ωq eq).2.1
  have hKz := JR_K hJq (by omega)
  refine e_aload_n (lv := (LV0 i)) d_law_180 rfl rfl ?_
  refine e_aload_n (lv := (LV0 i)) d_law_181 rfl rfl ?_
  refine e_iload (lv := (LV0 i)) d_law_182 rfl ?_
  refine e_iconst (v := iv 1) d_law_184 rfl ?_
  refine z_iadd d_law_185 ?_
  refine z_sread d_law_186 (by omega) (by omega) hL ?_
  refine e_aload_n (lv := (LV0 i)) d_law_187 rfl rfl ?_
  refine e_hw [mr 0, iI (xs (i + 1).toNat).toInt, mr 85] [] d_law_188 me_L_hole l_L_63 hH rfl rfl (Nat.le_of_ble_eq_true rfl) rfl (Nat.le_of_ble_eq_true rfl) (Nat.le_trans (Nat.le_of_ble_eq_true rfl) hd) (Nat.le_trans (Nat.le_of_ble_eq_true rfl) hw) (by omega) (fun h1 k υ hr hW1 => ?_)
  obtain ⟨hKu, b, ω, e2, hJ2, hk, hb⟩ := duo_res cof1 hD hr
  rw [← hKu]
  have hKw := JR_K hJ2 (by omega)
  refine e_istore d_law_191 (by decide) (lv2 := ((5, iI k) :: LV0 i)) rfl ?_
  refine e_aload_n (lv := ((5, iI k) :: LV0 i)) d_law_193 rfl rfl ?_
  refine e_aload_n (lv := ((5, iI k) :: LV0 i)) d_law_194 rfl rfl ?_
  refine e_iload (lv := ((5, iI k) :: LV0 i)) d_law_195 rfl ?_
  refine e_iconst (v := iv 1) d_law_197 rfl ?_
  refine z_iadd d_law_198 ?_
  refine z_sread d_law_199 (by omega) (by omega) hL ?_
  refine e_cw [iI (xs (i + 1).toNat).toInt] [] d_law_200 me_D_hole l_L_66 hW1 (c_D_hole hW1 (iv_rng _)) e2 rfl rfl (Nat.le_of_ble_eq_true rfl) rfl (Nat.le_of_ble_eq_true rfl) (Nat.le_trans (Nat.le_of_ble_eq_true rfl) hd) (Nat.le_trans (Nat.le_of_ble_eq_true rfl) hw) ob55 ⟨_, _, rfl⟩ (by omega) (fun h2 hbr hW2 => ?_)
  refine e_istore d_law_203 (by decide) (lv2 := ((6, iI b) :: (5, iI k) :: LV0 i)) rfl ?_
  refine e_aload_n (lv := ((6, iI b) :: (5, iI k) :: LV0 i)) d_law_205 rfl rfl ?_
  refine e_cw [] [] d_law_206 me_D_thrown l_L_59 hW2 (c_D_thrown hW2) rfl rfl rfl (Nat.le_of_ble_eq_true rfl) rfl (Nat.le_of_ble_eq_true rfl) (Nat.le_trans (Nat.le_of_ble_eq_true rfl) hd) (Nat.le_trans (Nat.le_of_ble_eq_true rfl) hw) ob55 ⟨_, _, rfl⟩ (by omega) (fun h3 hkr hW3 => ?_)
  rw [hk] at hkr ⊢
  refine e_iload (lv := ((6, iI b) :: (5, iI k) :: LV0 i)) d_law_209 rfl ?_
  refine z_icmp_eq (tgt := 216) d_law_211 (by decide) hkr hkr (fun _ => ?_) (fun z => absurd rfl z)
  refine e_iload (lv := ((6, iI b) :: (5, iI k) :: LV0 i)) d_law_216 rfl ?_
  have fin : Ev g (some (b0, L, xs)) M_law d w 233 ((6, iI b) :: (5, iI k) :: LV0 i) [] h3 (B - K ω) (B - K ω) Q := by
    refine e_goto (tgt := 789) d_law_233 (by decide) ?_
    exact Ev.sub (m_sc2 rfl (m_sc2 rfl (m_sc2 rfl (m_sc2 rfl (m_sc2 rfl (m_sn _)))))) (kk h3 ω hW3 hJ2)
  refine z_if_ne (tgt := 233) d_law_218 (by decide) hkr (fun _ => fin) (fun k0 => ?_)
  have hv := hb k0
  refine e_aload_n (lv := ((6, iI b) :: (5, iI k) :: LV0 i)) d_law_221 rfl rfl ?_
  refine e_iconst (v := iv 0) d_law_222 rfl ?_
  refine e_laload d_law_223 hW3.at85 (iv_in (by decide) (by decide) (by decide)) ?_
  rw [hv]
  refine e_iload (lv := ((6, iI b) :: (5, iI k) :: LV0 i)) d_law_224 rfl ?_
  refine e_i2l d_law_226 ?_
  refine e_lcmp d_law_227 ?_
  rw [show lg_cmp (lgI b) (iv b).toInt64 = iv 0 from lcmp_s _]
  exact z_if_eq (tgt := 233) d_law_228 (by decide) (by omega) (fun _ => fin) (fun z => absurd rfl z)
theorem k_begin {g : MG} {b0 L B R n fu : Nat} {xs : Nat → Int32} {d w : Nat} {Q : MO → List MC → Prop} {h : List MC} {σ : SS} {i : Int} (hl : g.1.stackTraces = false) (hfu : 20000 ≤ fu) (hR : 300 < R) (hRf : R ≤ 1000) (hL : L < 2147483648) (i0 : 0 ≤ i) (i1 : i + 4 ≤ L) (hW : Wd h σ) (hJ : JR R n σ) (hn : n ≤ 590) (hd : 12 ≤ d) (hw : 400 ≤ w) (hB : 561000 ≤ B) (kk : ∀ h9 ω, Wd h9 ω → JR R (n + 1) ω → Ev g (some (b0, L, xs)) M_law d w 789 (LV0 i) [] h9 (B - K ω) (B - K ω) Q) : Ev g (some (b0, L, xs)) M_law d w 236 (LV0 i) [] h (B - K σ) (B - K σ) Q := by
  obtain ⟨z, τ, e, hD⟩ := duo_begin (x := (xs (i + 1).toNat).toInt) (y := (xs (i + 2).toNat).toInt) (by omega) hJ
  have hD2 := hD τ.2.2
  obtain ⟨bq, ωq, eq, hJq, -, -⟩ := hD2
  have hH := h_begin hl hW (iv_rng _) (iv_rng _) e (duo_E hD)
  obtain ⟨hq, hWq⟩ := hH.2.1
  have hKq := (c_D_begin (g := g) hWq (iv_rng _) (iv_rng _) bq ωq eq).2.1
  have hKz := JR_K hJq (by omega)
  refine e_aload_n (lv := (LV0 i)) d_law_236 rfl rfl ?_
  refine e_aload_n (lv := (LV0 i)) d_law_237 rfl rfl ?_
  refine e_iload (lv := (LV0 i)) d_law_238 rfl ?_
  refine e_iconst (v := iv 1) d_law_240 rfl ?_
  refine z_iadd d_law_241 ?_
  refine z_sread d_law_242 (by omega) (by omega) hL ?_
  refine e_aload_n (lv := (LV0 i)) d_law_243 rfl rfl ?_
  refine e_iload (lv := (LV0 i)) d_law_244 rfl ?_
  refine e_iconst (v := iv 2) d_law_246 rfl ?_
  refine z_iadd d_law_247 ?_
  refine z_sread d_law_248 (by omega) (by omega) hL ?_
  refine e_aload_n (lv := (LV0 i)) d_law_249 rfl rfl ?_
  refine e_hw [mr 0, iI (xs (i + 1).toNat).toInt, iI (xs (i + 2).toNat).toInt, mr 85] [] d_law_250 me_L_begin l_L_67 hH rfl rfl (Nat.le_of_ble_eq_true rfl) rfl (Nat.le_of_ble_eq_true rfl) (Nat.le_trans (Nat.le_of_ble_eq_true rfl) hd) (Nat.le_trans (Nat.le_of_ble_eq_true rfl) hw) (by omega) (fun h1 k υ hr hW1 => ?_)
  obtain ⟨hKu, b, ω, e2, hJ2, hk, hb⟩ := duo_res cof1 hD hr
  rw [← hKu]
  have hKw := JR_K hJ2 (by omega)
  refine e_istore d_law_253 (by decide) (lv2 := ((5, iI k) :: LV0 i)) rfl ?_
  refine e_aload_n (lv := ((5, iI k) :: LV0 i)) d_law_255 rfl rfl ?_
  refine e_aload_n (lv := ((5, iI k) :: LV0 i)) d_law_256 rfl rfl ?_
  refine e_iload (lv := ((5, iI k) :: LV0 i)) d_law_257 rfl ?_
  refine e_iconst (v := iv 1) d_law_259 rfl ?_
  refine z_iadd d_law_260 ?_
  refine z_sread d_law_261 (by omega) (by omega) hL ?_
  refine e_aload_n (lv := ((5, iI k) :: LV0 i)) d_law_262 rfl rfl ?_
  refine e_iload (lv := ((5, iI k) :: LV0 i)) d_law_263 rfl ?_
  refine e_iconst (v := iv 2) d_law_265 rfl ?_
  refine z_iadd d_law_266 ?_
  refine z_sread d_law_267 (by omega) (by omega) hL ?_
  refine e_cw [iI (xs (i + 1).toNat).toInt, iI (xs (i + 2).toNat).toInt] [] d_law_268 me_D_begin l_L_70 hW1 (c_D_begin hW1 (iv_rng _) (iv_rng _)) e2 rfl rfl (Nat.le_of_ble_eq_true rfl) rfl (Nat.le_of_ble_eq_true rfl) (Nat.le_trans (Nat.le_of_ble_eq_true rfl) hd) (Nat.le_trans (Nat.le_of_ble_eq_true rfl) hw) ob55 ⟨_, _, rfl⟩ (by omega) (fun h2 hbr hW2 => ?_)
  refine e_istore d_law_271 (by decide) (lv2 := ((6, iI b) :: (5, iI k) :: LV0 i)) rfl ?_
  refine e_aload_n (lv := ((6, iI b) :: (5, iI k) :: LV0 i)) d_law_273 rfl rfl ?_
  refine e_cw [] [] d_law_274 me_D_thrown l_L_59 hW2 (c_D_thrown hW2) rfl rfl rfl (Nat.le_of_ble_eq_true rfl) rfl (Nat.le_of_ble_eq_true rfl) (Nat.le_trans (Nat.le_of_ble_eq_true rfl) hd) (Nat.le_trans (Nat.le_of_ble_eq_true rfl) hw) ob55 ⟨_, _, rfl⟩ (by omega) (fun h3 hkr hW3 => ?_)
  rw [hk] at hkr ⊢
  refine e_iload (lv := ((6, iI b) :: (5, iI k) :: LV0 i)) d_law_277 rfl ?_
  refine z_icmp_eq (tgt := 284) d_law_279 (by decide) hkr hkr (fun _ => ?_) (fun z => absurd rfl z)
  refine e_iload (lv := ((6, iI b) :: (5, iI k) :: LV0 i)) d_law_284 rfl ?_
  have fin : Ev g (some (b0, L, xs)) M_law d w 301 ((6, iI b) :: (5, iI k) :: LV0 i) [] h3 (B - K ω) (B - K ω) Q := by
    refine e_goto (tgt := 789) d_law_301 (by decide) ?_
    exact Ev.sub (m_sc2 rfl (m_sc2 rfl (m_sc2 rfl (m_sc2 rfl (m_sc2 rfl (m_sn _)))))) (kk h3 ω hW3 hJ2)
  refine z_if_ne (tgt := 301) d_law_286 (by decide) hkr (fun _ => fin) (fun k0 => ?_)
  have hv := hb k0
  refine e_aload_n (lv := ((6, iI b) :: (5, iI k) :: LV0 i)) d_law_289 rfl rfl ?_
  refine e_iconst (v := iv 0) d_law_290 rfl ?_
  refine e_laload d_law_291 hW3.at85 (iv_in (by decide) (by decide) (by decide)) ?_
  rw [hv]
  refine e_iload (lv := ((6, iI b) :: (5, iI k) :: LV0 i)) d_law_292 rfl ?_
  refine e_i2l d_law_294 ?_
  refine e_lcmp d_law_295 ?_
  rw [show lg_cmp (lgI b) (iv b).toInt64 = iv 0 from lcmp_s _]
  exact z_if_eq (tgt := 301) d_law_296 (by decide) (by omega) (fun _ => fin) (fun z => absurd rfl z)
theorem k_put {g : MG} {b0 L B R n fu : Nat} {xs : Nat → Int32} {d w : Nat} {Q : MO → List MC → Prop} {h : List MC} {σ : SS} {i : Int} (hl : g.1.stackTraces = false) (hfu : 20000 ≤ fu) (hR : 300 < R) (hRf : R ≤ 1000) (hL : L < 2147483648) (i0 : 0 ≤ i) (i1 : i + 4 ≤ L) (hW : Wd h σ) (hJ : JR R n σ) (hn : n ≤ 590) (hd : 12 ≤ d) (hw : 400 ≤ w) (hB : 561000 ≤ B) (kk : ∀ h9 ω, Wd h9 ω → JR R (n + 1) ω → Ev g (some (b0, L, xs)) M_law d w 789 (LV0 i) [] h9 (B - K ω) (B - K ω) Q) : Ev g (some (b0, L, xs)) M_law d w 304 (LV0 i) [] h (B - K σ) (B - K σ) Q := by
  obtain ⟨z, τ, e, hD⟩ := duo_put (x := (xs (i + 1).toNat).toInt) (k := (xs (i + 2).toNat).toInt) (y := (xs (i + 3).toNat).toInt) (fu := fu) (by omega) (by omega) hJ
  have hD2 := hD τ.2.2
  obtain ⟨bq, ωq, eq, hJq, -, -⟩ := hD2
  have hH := h_put (fu := fu) hl hW (iv_rng _) (iv_rng _) (iv_rng _) e (duo_E hD)
  obtain ⟨hq, hWq⟩ := hH.2.1
  have hKq := (c_D_put (fu := fu) (g := g) hWq (iv_rng _) (iv_rng _) (iv_rng _) bq ωq eq).2.1
  have hKz := JR_K hJq (by omega)
  refine e_aload_n (lv := (LV0 i)) d_law_304 rfl rfl ?_
  refine e_aload_n (lv := (LV0 i)) d_law_305 rfl rfl ?_
  refine e_iload (lv := (LV0 i)) d_law_306 rfl ?_
  refine e_iconst (v := iv 1) d_law_308 rfl ?_
  refine z_iadd d_law_309 ?_
  refine z_sread d_law_310 (by omega) (by omega) hL ?_
  refine e_aload_n (lv := (LV0 i)) d_law_311 rfl rfl ?_
  refine e_iload (lv := (LV0 i)) d_law_312 rfl ?_
  refine e_iconst (v := iv 2) d_law_314 rfl ?_
  refine z_iadd d_law_315 ?_
  refine z_sread d_law_316 (by omega) (by omega) hL ?_
  refine e_aload_n (lv := (LV0 i)) d_law_317 rfl rfl ?_
  refine e_iload (lv := (LV0 i)) d_law_318 rfl ?_
  refine e_iconst (v := iv 3) d_law_320 rfl ?_
  refine z_iadd d_law_321 ?_
  refine z_sread d_law_322 (by omega) (by omega) hL ?_
  refine e_aload_n (lv := (LV0 i)) d_law_323 rfl rfl ?_
  refine e_hw [mr 0, iI (xs (i + 1).toNat).toInt, iI (xs (i + 2).toNat).toInt, iI (xs (i + 3).toNat).toInt, mr 85] [] d_law_324 me_L_put l_L_71 hH rfl rfl (Nat.le_of_ble_eq_true rfl) rfl (Nat.le_of_ble_eq_true rfl) (Nat.le_trans (Nat.le_of_ble_eq_true rfl) hd) (Nat.le_trans (Nat.le_of_ble_eq_true rfl) hw) (by omega) (fun h1 k υ hr hW1 => ?_)
  obtain ⟨hKu, b, ω, e2, hJ2, hk, hb⟩ := duo_res cof21 hD hr
  rw [← hKu]
  have hKw := JR_K hJ2 (by omega)
  refine e_istore d_law_327 (by decide) (lv2 := ((5, iI k) :: LV0 i)) rfl ?_
  refine e_aload_n (lv := ((5, iI k) :: LV0 i)) d_law_329 rfl rfl ?_
  refine e_aload_n (lv := ((5, iI k) :: LV0 i)) d_law_330 rfl rfl ?_
  refine e_iload (lv := ((5, iI k) :: LV0 i)) d_law_331 rfl ?_
  refine e_iconst (v := iv 1) d_law_333 rfl ?_
  refine z_iadd d_law_334 ?_
  refine z_sread d_law_335 (by omega) (by omega) hL ?_
  refine e_aload_n (lv := ((5, iI k) :: LV0 i)) d_law_336 rfl rfl ?_
  refine e_iload (lv := ((5, iI k) :: LV0 i)) d_law_337 rfl ?_
  refine e_iconst (v := iv 2) d_law_339 rfl ?_
  refine z_iadd d_law_340 ?_
  refine z_sread d_law_341 (by omega) (by omega) hL ?_
  refine e_aload_n (lv := ((5, iI k) :: LV0 i)) d_law_342 rfl rfl ?_
  refine e_iload (lv := ((5, iI k) :: LV0 i)) d_law_343 rfl ?_
  refine e_iconst (v := iv 3) d_law_345 rfl ?_
  refine z_iadd d_law_346 ?_
  refine z_sread d_law_347 (by omega) (by omega) hL ?_
  refine e_cw [iI (xs (i + 1).toNat).toInt, iI (xs (i + 2).toNat).toInt, iI (xs (i + 3).toNat).toInt] [] d_law_348 me_D_put l_L_73 hW1 (c_D_put (fu := fu) hW1 (iv_rng _) (iv_rng _) (iv_rng _)) e2 rfl rfl (Nat.le_of_ble_eq_true rfl) rfl (Nat.le_of_ble_eq_true rfl) (Nat.le_trans (Nat.le_of_ble_eq_true rfl) hd) (Nat.le_trans (Nat.le_of_ble_eq_true rfl) hw) ob55 ⟨_, _, rfl⟩ (by omega) (fun h2 hbr hW2 => ?_)
  refine e_istore d_law_351 (by decide) (lv2 := ((6, iI b) :: (5, iI k) :: LV0 i)) rfl ?_
  refine e_aload_n (lv := ((6, iI b) :: (5, iI k) :: LV0 i)) d_law_353 rfl rfl ?_
  refine e_cw [] [] d_law_354 me_D_thrown l_L_59 hW2 (c_D_thrown hW2) rfl rfl rfl (Nat.le_of_ble_eq_true rfl) rfl (Nat.le_of_ble_eq_true rfl) (Nat.le_trans (Nat.le_of_ble_eq_true rfl) hd) (Nat.le_trans (Nat.le_of_ble_eq_true rfl) hw) ob55 ⟨_, _, rfl⟩ (by omega) (fun h3 hkr hW3 => ?_)
  rw [hk] at hkr ⊢
  refine e_iload (lv := ((6, iI b) :: (5, iI k) :: LV0 i)) d_law_357 rfl ?_
  refine z_icmp_eq (tgt := 364) d_law_359 (by decide) hkr hkr (fun _ => ?_) (fun z => absurd rfl z)
  refine e_iload (lv := ((6, iI b) :: (5, iI k) :: LV0 i)) d_law_364 rfl ?_
  have fin : Ev g (some (b0, L, xs)) M_law d w 381 ((6, iI b) :: (5, iI k) :: LV0 i) [] h3 (B - K ω) (B - K ω) Q := by
    refine e_goto (tgt := 789) d_law_381 (by decide) ?_
    exact Ev.sub (m_sc2 rfl (m_sc2 rfl (m_sc2 rfl (m_sc2 rfl (m_sc2 rfl (m_sn _)))))) (kk h3 ω hW3 hJ2)
  refine z_if_ne (tgt := 381) d_law_366 (by decide) hkr (fun _ => fin) (fun k0 => ?_)
  have hv := hb k0
  refine e_aload_n (lv := ((6, iI b) :: (5, iI k) :: LV0 i)) d_law_369 rfl rfl ?_
  refine e_iconst (v := iv 0) d_law_370 rfl ?_
  refine e_laload d_law_371 hW3.at85 (iv_in (by decide) (by decide) (by decide)) ?_
  rw [hv]
  refine e_iload (lv := ((6, iI b) :: (5, iI k) :: LV0 i)) d_law_372 rfl ?_
  refine e_i2l d_law_374 ?_
  refine e_lcmp d_law_375 ?_
  rw [show lg_cmp (lgI b) (iv b).toInt64 = iv 0 from lcmp_s _]
  exact z_if_eq (tgt := 381) d_law_376 (by decide) (by omega) (fun _ => fin) (fun z => absurd rfl z)
theorem k_unify {g : MG} {b0 L B R n fu : Nat} {xs : Nat → Int32} {d w : Nat} {Q : MO → List MC → Prop} {h : List MC} {σ : SS} {i : Int} (hl : g.1.stackTraces = false) (hfu : 20000 ≤ fu) (hR : 300 < R) (hRf : R ≤ 1000) (hL : L < 2147483648) (i0 : 0 ≤ i) (i1 : i + 4 ≤ L) (hW : Wd h σ) (hJ : JR R n σ) (hn : n ≤ 590) (hd : 12 ≤ d) (hw : 400 ≤ w) (hB : 561000 ≤ B) (kk : ∀ h9 ω, Wd h9 ω → JR R (n + 1) ω → Ev g (some (b0, L, xs)) M_law d w 789 (LV0 i) [] h9 (B - K ω) (B - K ω) Q) : Ev g (some (b0, L, xs)) M_law d w 384 (LV0 i) [] h (B - K σ) (B - K σ) Q := by
  obtain ⟨z, τ, e, hD⟩ := duo_unify (x := (xs (i + 1).toNat).toInt) (y := (xs (i + 2).toNat).toInt) hfu hR hRf (by omega) hJ
  have hD2 := hD τ.2.2
  obtain ⟨bq, ωq, eq, hJq, -, -⟩ := hD2
  have hH := h_unify (fu := fu) hl hW (iv_rng _) (iv_rng _) e (duo_E hD)
  obtain ⟨hq, hWq⟩ := hH.2.1
  have hKq := (c_D_unify (fu := fu) (g := g) hWq (iv_rng _) (iv_rng _) bq ωq eq).2.1
  have hKz := JR_K hJq (by omega)
  refine e_aload_n (lv := (LV0 i)) d_law_384 rfl rfl ?_
  refine e_aload_n (lv := (LV0 i)) d_law_385 rfl rfl ?_
  refine e_iload (lv := (LV0 i)) d_law_386 rfl ?_
  refine e_iconst (v := iv 1) d_law_388 rfl ?_
  refine z_iadd d_law_389 ?_
  refine z_sread d_law_390 (by omega) (by omega) hL ?_
  refine e_aload_n (lv := (LV0 i)) d_law_391 rfl rfl ?_
  refine e_iload (lv := (LV0 i)) d_law_392 rfl ?_
  refine e_iconst (v := iv 2) d_law_394 rfl ?_
  refine z_iadd d_law_395 ?_
  refine z_sread d_law_396 (by omega) (by omega) hL ?_
  refine e_aload_n (lv := (LV0 i)) d_law_397 rfl rfl ?_
  refine e_hw [mr 0, iI (xs (i + 1).toNat).toInt, iI (xs (i + 2).toNat).toInt, mr 85] [] d_law_398 me_L_unify l_L_74 hH rfl rfl (Nat.le_of_ble_eq_true rfl) rfl (Nat.le_of_ble_eq_true rfl) (Nat.le_trans (Nat.le_of_ble_eq_true rfl) hd) (Nat.le_trans (Nat.le_of_ble_eq_true rfl) hw) (by omega) (fun h1 k υ hr hW1 => ?_)
  obtain ⟨hKu, b, ω, e2, hJ2, hk, hb⟩ := duo_res cof12 hD hr
  rw [← hKu]
  have hKw := JR_K hJ2 (by omega)
  refine e_istore d_law_401 (by decide) (lv2 := ((5, iI k) :: LV0 i)) rfl ?_
  refine e_aload_n (lv := ((5, iI k) :: LV0 i)) d_law_403 rfl rfl ?_
  refine e_aload_n (lv := ((5, iI k) :: LV0 i)) d_law_404 rfl rfl ?_
  refine e_iload (lv := ((5, iI k) :: LV0 i)) d_law_405 rfl ?_
  refine e_iconst (v := iv 1) d_law_407 rfl ?_
  refine z_iadd d_law_408 ?_
  refine z_sread d_law_409 (by omega) (by omega) hL ?_
  refine e_aload_n (lv := ((5, iI k) :: LV0 i)) d_law_410 rfl rfl ?_
  refine e_iload (lv := ((5, iI k) :: LV0 i)) d_law_411 rfl ?_
  refine e_iconst (v := iv 2) d_law_413 rfl ?_
  refine z_iadd d_law_414 ?_
  refine z_sread d_law_415 (by omega) (by omega) hL ?_
  refine e_cw [iI (xs (i + 1).toNat).toInt, iI (xs (i + 2).toNat).toInt] [] d_law_416 me_D_unify l_L_76 hW1 (c_D_unify (fu := fu) hW1 (iv_rng _) (iv_rng _)) e2 rfl rfl (Nat.le_of_ble_eq_true rfl) rfl (Nat.le_of_ble_eq_true rfl) (Nat.le_trans (Nat.le_of_ble_eq_true rfl) hd) (Nat.le_trans (Nat.le_of_ble_eq_true rfl) hw) ob55 ⟨_, _, rfl⟩ (by omega) (fun h2 hbr hW2 => ?_)
  refine e_istore d_law_419 (by decide) (lv2 := ((6, iI b) :: (5, iI k) :: LV0 i)) rfl ?_
  refine e_aload_n (lv := ((6, iI b) :: (5, iI k) :: LV0 i)) d_law_421 rfl rfl ?_
  refine e_cw [] [] d_law_422 me_D_thrown l_L_59 hW2 (c_D_thrown hW2) rfl rfl rfl (Nat.le_of_ble_eq_true rfl) rfl (Nat.le_of_ble_eq_true rfl) (Nat.le_trans (Nat.le_of_ble_eq_true rfl) hd) (Nat.le_trans (Nat.le_of_ble_eq_true rfl) hw) ob55 ⟨_, _, rfl⟩ (by omega) (fun h3 hkr hW3 => ?_)
  rw [hk] at hkr ⊢
  refine e_iload (lv := ((6, iI b) :: (5, iI k) :: LV0 i)) d_law_425 rfl ?_
  refine z_icmp_eq (tgt := 432) d_law_427 (by decide) hkr hkr (fun _ => ?_) (fun z => absurd rfl z)
  refine e_iload (lv := ((6, iI b) :: (5, iI k) :: LV0 i)) d_law_432 rfl ?_
  have fin : Ev g (some (b0, L, xs)) M_law d w 449 ((6, iI b) :: (5, iI k) :: LV0 i) [] h3 (B - K ω) (B - K ω) Q := by
    refine e_goto (tgt := 789) d_law_449 (by decide) ?_
    exact Ev.sub (m_sc2 rfl (m_sc2 rfl (m_sc2 rfl (m_sc2 rfl (m_sc2 rfl (m_sn _)))))) (kk h3 ω hW3 hJ2)
  refine z_if_ne (tgt := 449) d_law_434 (by decide) hkr (fun _ => fin) (fun k0 => ?_)
  have hv := hb k0
  refine e_aload_n (lv := ((6, iI b) :: (5, iI k) :: LV0 i)) d_law_437 rfl rfl ?_
  refine e_iconst (v := iv 0) d_law_438 rfl ?_
  refine e_laload d_law_439 hW3.at85 (iv_in (by decide) (by decide) (by decide)) ?_
  rw [hv]
  refine e_iload (lv := ((6, iI b) :: (5, iI k) :: LV0 i)) d_law_440 rfl ?_
  refine e_i2l d_law_442 ?_
  refine e_lcmp d_law_443 ?_
  rw [show lg_cmp (lgI b) (iv b).toInt64 = iv 0 from lcmp_s _]
  exact z_if_eq (tgt := 449) d_law_444 (by decide) (by omega) (fun _ => fin) (fun z => absurd rfl z)
theorem k_read {g : MG} {b0 L B R n fu : Nat} {xs : Nat → Int32} {d w : Nat} {Q : MO → List MC → Prop} {h : List MC} {σ : SS} {i : Int} (hl : g.1.stackTraces = false) (hfu : 20000 ≤ fu) (hR : 300 < R) (hRf : R ≤ 1000) (hL : L < 2147483648) (i0 : 0 ≤ i) (i1 : i + 4 ≤ L) (hW : Wd h σ) (hJ : JR R n σ) (hn : n ≤ 590) (hd : 12 ≤ d) (hw : 400 ≤ w) (hB : 561000 ≤ B) (kk : ∀ h9 ω, Wd h9 ω → JR R (n + 1) ω → Ev g (some (b0, L, xs)) M_law d w 789 (LV0 i) [] h9 (B - K ω) (B - K ω) Q) : Ev g (some (b0, L, xs)) M_law d w 452 (LV0 i) [] h (B - K σ) (B - K σ) Q := by
  obtain ⟨z, τ, e, hD⟩ := duo_read (x := (xs (i + 1).toNat).toInt) hfu hR hRf (by omega) hJ
  have hD2 := hD τ.2.2
  obtain ⟨bq, ωq, eq, hJq, -, -⟩ := hD2
  have hH := h_read (fu := fu) hl hW (iv_rng _) e (duo_E hD)
  obtain ⟨hq, hWq⟩ := hH.2.1
  have hKq := (c_D_read (fu := fu) (g := g) hWq (iv_rng _) bq ωq eq).2.1
  have hKz := JR_K hJq (by omega)
  refine e_aload_n (lv := (LV0 i)) d_law_452 rfl rfl ?_
  refine e_aload_n (lv := (LV0 i)) d_law_453 rfl rfl ?_
  refine e_iload (lv := (LV0 i)) d_law_454 rfl ?_
  refine e_iconst (v := iv 1) d_law_456 rfl ?_
  refine z_iadd d_law_457 ?_
  refine z_sread d_law_458 (by omega) (by omega) hL ?_
  refine e_aload_n (lv := (LV0 i)) d_law_459 rfl rfl ?_
  refine e_hw [mr 0, iI (xs (i + 1).toNat).toInt, mr 85] [] d_law_460 me_L_read l_L_77 hH rfl rfl (Nat.le_of_ble_eq_true rfl) rfl (Nat.le_of_ble_eq_true rfl) (Nat.le_trans (Nat.le_of_ble_eq_true rfl) hd) (Nat.le_trans (Nat.le_of_ble_eq_true rfl) hw) (by omega) (fun h1 k υ hr hW1 => ?_)
  obtain ⟨hKu, b, ω, e2, hJ2, hk, hb⟩ := duo_res cof12 hD hr
  rw [← hKu]
  have hKw := JR_K hJ2 (by omega)
  refine e_istore d_law_463 (by decide) (lv2 := ((5, iI k) :: LV0 i)) rfl ?_
  refine e_aload_n (lv := ((5, iI k) :: LV0 i)) d_law_465 rfl rfl ?_
  refine e_aload_n (lv := ((5, iI k) :: LV0 i)) d_law_466 rfl rfl ?_
  refine e_iload (lv := ((5, iI k) :: LV0 i)) d_law_467 rfl ?_
  refine e_iconst (v := iv 1) d_law_469 rfl ?_
  refine z_iadd d_law_470 ?_
  refine z_sread d_law_471 (by omega) (by omega) hL ?_
  refine e_cw [iI (xs (i + 1).toNat).toInt] [] d_law_472 me_D_read l_L_79 hW1 (c_D_read (fu := fu) hW1 (iv_rng _)) e2 rfl rfl (Nat.le_of_ble_eq_true rfl) rfl (Nat.le_of_ble_eq_true rfl) (Nat.le_trans (Nat.le_of_ble_eq_true rfl) hd) (Nat.le_trans (Nat.le_of_ble_eq_true rfl) hw) ob55 ⟨_, _, rfl⟩ (by omega) (fun h2 hbr hW2 => ?_)
  refine e_istore d_law_475 (by decide) (lv2 := ((6, iI b) :: (5, iI k) :: LV0 i)) rfl ?_
  refine e_aload_n (lv := ((6, iI b) :: (5, iI k) :: LV0 i)) d_law_477 rfl rfl ?_
  refine e_cw [] [] d_law_478 me_D_thrown l_L_59 hW2 (c_D_thrown hW2) rfl rfl rfl (Nat.le_of_ble_eq_true rfl) rfl (Nat.le_of_ble_eq_true rfl) (Nat.le_trans (Nat.le_of_ble_eq_true rfl) hd) (Nat.le_trans (Nat.le_of_ble_eq_true rfl) hw) ob55 ⟨_, _, rfl⟩ (by omega) (fun h3 hkr hW3 => ?_)
  rw [hk] at hkr ⊢
  refine e_iload (lv := ((6, iI b) :: (5, iI k) :: LV0 i)) d_law_481 rfl ?_
  refine z_icmp_eq (tgt := 488) d_law_483 (by decide) hkr hkr (fun _ => ?_) (fun z => absurd rfl z)
  refine e_iload (lv := ((6, iI b) :: (5, iI k) :: LV0 i)) d_law_488 rfl ?_
  have fin : Ev g (some (b0, L, xs)) M_law d w 505 ((6, iI b) :: (5, iI k) :: LV0 i) [] h3 (B - K ω) (B - K ω) Q := by
    refine e_goto (tgt := 789) d_law_505 (by decide) ?_
    exact Ev.sub (m_sc2 rfl (m_sc2 rfl (m_sc2 rfl (m_sc2 rfl (m_sc2 rfl (m_sn _)))))) (kk h3 ω hW3 hJ2)
  refine z_if_ne (tgt := 505) d_law_490 (by decide) hkr (fun _ => fin) (fun k0 => ?_)
  have hv := hb k0
  refine e_aload_n (lv := ((6, iI b) :: (5, iI k) :: LV0 i)) d_law_493 rfl rfl ?_
  refine e_iconst (v := iv 0) d_law_494 rfl ?_
  refine e_laload d_law_495 hW3.at85 (iv_in (by decide) (by decide) (by decide)) ?_
  rw [hv]
  refine e_iload (lv := ((6, iI b) :: (5, iI k) :: LV0 i)) d_law_496 rfl ?_
  refine e_i2l d_law_498 ?_
  refine e_lcmp d_law_499 ?_
  rw [show lg_cmp (lgI b) (iv b).toInt64 = iv 0 from lcmp_s _]
  exact z_if_eq (tgt := 505) d_law_500 (by decide) (by omega) (fun _ => fin) (fun z => absurd rfl z)
theorem k_item {g : MG} {b0 L B R n fu : Nat} {xs : Nat → Int32} {d w : Nat} {Q : MO → List MC → Prop} {h : List MC} {σ : SS} {i : Int} (hl : g.1.stackTraces = false) (hfu : 20000 ≤ fu) (hR : 300 < R) (hRf : R ≤ 1000) (hL : L < 2147483648) (i0 : 0 ≤ i) (i1 : i + 4 ≤ L) (hW : Wd h σ) (hJ : JR R n σ) (hn : n ≤ 590) (hd : 12 ≤ d) (hw : 400 ≤ w) (hB : 561000 ≤ B) (kk : ∀ h9 ω, Wd h9 ω → JR R (n + 1) ω → Ev g (some (b0, L, xs)) M_law d w 789 (LV0 i) [] h9 (B - K ω) (B - K ω) Q) : Ev g (some (b0, L, xs)) M_law d w 508 (LV0 i) [] h (B - K σ) (B - K σ) Q := by
  obtain ⟨z, τ, e, hD⟩ := duo_item (x := (xs (i + 1).toNat).toInt) (by omega) hJ
  have hD2 := hD τ.2.2
  obtain ⟨bq, ωq, eq, hJq, -, -⟩ := hD2
  have hH := h_item hl hW (iv_rng _) e (duo_E hD)
  obtain ⟨hq, hWq⟩ := hH.2.1
  have hKq := (c_D_item (g := g) hWq (iv_rng _) bq ωq eq).2.1
  have hKz := JR_K hJq (by omega)
  refine e_aload_n (lv := (LV0 i)) d_law_508 rfl rfl ?_
  refine e_aload_n (lv := (LV0 i)) d_law_509 rfl rfl ?_
  refine e_iload (lv := (LV0 i)) d_law_510 rfl ?_
  refine e_iconst (v := iv 1) d_law_512 rfl ?_
  refine z_iadd d_law_513 ?_
  refine z_sread d_law_514 (by omega) (by omega) hL ?_
  refine e_aload_n (lv := (LV0 i)) d_law_515 rfl rfl ?_
  refine e_hw [mr 0, iI (xs (i + 1).toNat).toInt, mr 85] [] d_law_516 me_L_item l_L_80 hH rfl rfl (Nat.le_of_ble_eq_true rfl) rfl (Nat.le_of_ble_eq_true rfl) (Nat.le_trans (Nat.le_of_ble_eq_true rfl) hd) (Nat.le_trans (Nat.le_of_ble_eq_true rfl) hw) (by omega) (fun h1 k υ hr hW1 => ?_)
  obtain ⟨hKu, b, ω, e2, hJ2, hk, hb⟩ := duo_res cof3 hD hr
  rw [← hKu]
  have hKw := JR_K hJ2 (by omega)
  refine e_istore d_law_519 (by decide) (lv2 := ((5, iI k) :: LV0 i)) rfl ?_
  refine e_aload_n (lv := ((5, iI k) :: LV0 i)) d_law_521 rfl rfl ?_
  refine e_aload_n (lv := ((5, iI k) :: LV0 i)) d_law_522 rfl rfl ?_
  refine e_iload (lv := ((5, iI k) :: LV0 i)) d_law_523 rfl ?_
  refine e_iconst (v := iv 1) d_law_525 rfl ?_
  refine z_iadd d_law_526 ?_
  refine z_sread d_law_527 (by omega) (by omega) hL ?_
  refine e_cw [iI (xs (i + 1).toNat).toInt] [] d_law_528 me_D_item l_L_82 hW1 (c_D_item hW1 (iv_rng _)) e2 rfl rfl (Nat.le_of_ble_eq_true rfl) rfl (Nat.le_of_ble_eq_true rfl) (Nat.le_trans (Nat.le_of_ble_eq_true rfl) hd) (Nat.le_trans (Nat.le_of_ble_eq_true rfl) hw) ob55 ⟨_, _, rfl⟩ (by omega) (fun h2 hbr hW2 => ?_)
  refine e_istore d_law_531 (by decide) (lv2 := ((6, iI b) :: (5, iI k) :: LV0 i)) rfl ?_
  refine e_aload_n (lv := ((6, iI b) :: (5, iI k) :: LV0 i)) d_law_533 rfl rfl ?_
  refine e_cw [] [] d_law_534 me_D_thrown l_L_59 hW2 (c_D_thrown hW2) rfl rfl rfl (Nat.le_of_ble_eq_true rfl) rfl (Nat.le_of_ble_eq_true rfl) (Nat.le_trans (Nat.le_of_ble_eq_true rfl) hd) (Nat.le_trans (Nat.le_of_ble_eq_true rfl) hw) ob55 ⟨_, _, rfl⟩ (by omega) (fun h3 hkr hW3 => ?_)
  rw [hk] at hkr ⊢
  refine e_iload (lv := ((6, iI b) :: (5, iI k) :: LV0 i)) d_law_537 rfl ?_
  refine z_icmp_eq (tgt := 544) d_law_539 (by decide) hkr hkr (fun _ => ?_) (fun z => absurd rfl z)
  refine e_iload (lv := ((6, iI b) :: (5, iI k) :: LV0 i)) d_law_544 rfl ?_
  have fin : Ev g (some (b0, L, xs)) M_law d w 561 ((6, iI b) :: (5, iI k) :: LV0 i) [] h3 (B - K ω) (B - K ω) Q := by
    refine e_goto (tgt := 789) d_law_561 (by decide) ?_
    exact Ev.sub (m_sc2 rfl (m_sc2 rfl (m_sc2 rfl (m_sc2 rfl (m_sc2 rfl (m_sn _)))))) (kk h3 ω hW3 hJ2)
  refine z_if_ne (tgt := 561) d_law_546 (by decide) hkr (fun _ => fin) (fun k0 => ?_)
  have hv := hb k0
  refine e_aload_n (lv := ((6, iI b) :: (5, iI k) :: LV0 i)) d_law_549 rfl rfl ?_
  refine e_iconst (v := iv 0) d_law_550 rfl ?_
  refine e_laload d_law_551 hW3.at85 (iv_in (by decide) (by decide) (by decide)) ?_
  rw [hv]
  refine e_iload (lv := ((6, iI b) :: (5, iI k) :: LV0 i)) d_law_552 rfl ?_
  refine e_i2l d_law_554 ?_
  refine e_lcmp d_law_555 ?_
  rw [show lg_cmp (lgI b) (iv b).toInt64 = iv 0 from lcmp_s _]
  exact z_if_eq (tgt := 561) d_law_556 (by decide) (by omega) (fun _ => fin) (fun z => absurd rfl z)
theorem k_isSame {g : MG} {b0 L B R n fu : Nat} {xs : Nat → Int32} {d w : Nat} {Q : MO → List MC → Prop} {h : List MC} {σ : SS} {i : Int} (hl : g.1.stackTraces = false) (hfu : 20000 ≤ fu) (hR : 300 < R) (hRf : R ≤ 1000) (hL : L < 2147483648) (i0 : 0 ≤ i) (i1 : i + 4 ≤ L) (hW : Wd h σ) (hJ : JR R n σ) (hn : n ≤ 590) (hd : 12 ≤ d) (hw : 400 ≤ w) (hB : 561000 ≤ B) (kk : ∀ h9 ω, Wd h9 ω → JR R (n + 1) ω → Ev g (some (b0, L, xs)) M_law d w 789 (LV0 i) [] h9 (B - K ω) (B - K ω) Q) : Ev g (some (b0, L, xs)) M_law d w 564 (LV0 i) [] h (B - K σ) (B - K σ) Q := by
  obtain ⟨z, τ, e, hD⟩ := duo_isSame (x := (xs (i + 1).toNat).toInt) (y := (xs (i + 2).toNat).toInt) hfu hR hRf (by omega) hJ
  have hD2 := hD τ.2.2
  obtain ⟨bq, ωq, eq, hJq, -, -⟩ := hD2
  have hH := h_isSame (fu := fu) hl hW (iv_rng _) (iv_rng _) e (duo_E hD)
  obtain ⟨hq, hWq⟩ := hH.2.1
  have hKq := (c_D_isSame (fu := fu) (g := g) hWq (iv_rng _) (iv_rng _) bq ωq eq).2.1
  have hKz := JR_K hJq (by omega)
  refine e_aload_n (lv := (LV0 i)) d_law_564 rfl rfl ?_
  refine e_aload_n (lv := (LV0 i)) d_law_565 rfl rfl ?_
  refine e_iload (lv := (LV0 i)) d_law_566 rfl ?_
  refine e_iconst (v := iv 1) d_law_568 rfl ?_
  refine z_iadd d_law_569 ?_
  refine z_sread d_law_570 (by omega) (by omega) hL ?_
  refine e_aload_n (lv := (LV0 i)) d_law_571 rfl rfl ?_
  refine e_iload (lv := (LV0 i)) d_law_572 rfl ?_
  refine e_iconst (v := iv 2) d_law_574 rfl ?_
  refine z_iadd d_law_575 ?_
  refine z_sread d_law_576 (by omega) (by omega) hL ?_
  refine e_aload_n (lv := (LV0 i)) d_law_577 rfl rfl ?_
  refine e_hw [mr 0, iI (xs (i + 1).toNat).toInt, iI (xs (i + 2).toNat).toInt, mr 85] [] d_law_578 me_L_isSame l_L_83 hH rfl rfl (Nat.le_of_ble_eq_true rfl) rfl (Nat.le_of_ble_eq_true rfl) (Nat.le_trans (Nat.le_of_ble_eq_true rfl) hd) (Nat.le_trans (Nat.le_of_ble_eq_true rfl) hw) (by omega) (fun h1 k υ hr hW1 => ?_)
  obtain ⟨hKu, b, ω, e2, hJ2, hk, hb⟩ := duo_res cof12 hD hr
  rw [← hKu]
  have hKw := JR_K hJ2 (by omega)
  refine e_istore d_law_581 (by decide) (lv2 := ((5, iI k) :: LV0 i)) rfl ?_
  refine e_aload_n (lv := ((5, iI k) :: LV0 i)) d_law_583 rfl rfl ?_
  refine e_aload_n (lv := ((5, iI k) :: LV0 i)) d_law_584 rfl rfl ?_
  refine e_iload (lv := ((5, iI k) :: LV0 i)) d_law_585 rfl ?_
  refine e_iconst (v := iv 1) d_law_587 rfl ?_
  refine z_iadd d_law_588 ?_
  refine z_sread d_law_589 (by omega) (by omega) hL ?_
  refine e_aload_n (lv := ((5, iI k) :: LV0 i)) d_law_590 rfl rfl ?_
  refine e_iload (lv := ((5, iI k) :: LV0 i)) d_law_591 rfl ?_
  refine e_iconst (v := iv 2) d_law_593 rfl ?_
  refine z_iadd d_law_594 ?_
  refine z_sread d_law_595 (by omega) (by omega) hL ?_
  refine e_cw [iI (xs (i + 1).toNat).toInt, iI (xs (i + 2).toNat).toInt] [] d_law_596 me_D_isSame l_L_85 hW1 (c_D_isSame (fu := fu) hW1 (iv_rng _) (iv_rng _)) e2 rfl rfl (Nat.le_of_ble_eq_true rfl) rfl (Nat.le_of_ble_eq_true rfl) (Nat.le_trans (Nat.le_of_ble_eq_true rfl) hd) (Nat.le_trans (Nat.le_of_ble_eq_true rfl) hw) ob55 ⟨_, _, rfl⟩ (by omega) (fun h2 hbr hW2 => ?_)
  refine e_istore d_law_599 (by decide) (lv2 := ((6, iI b) :: (5, iI k) :: LV0 i)) rfl ?_
  refine e_aload_n (lv := ((6, iI b) :: (5, iI k) :: LV0 i)) d_law_601 rfl rfl ?_
  refine e_cw [] [] d_law_602 me_D_thrown l_L_59 hW2 (c_D_thrown hW2) rfl rfl rfl (Nat.le_of_ble_eq_true rfl) rfl (Nat.le_of_ble_eq_true rfl) (Nat.le_trans (Nat.le_of_ble_eq_true rfl) hd) (Nat.le_trans (Nat.le_of_ble_eq_true rfl) hw) ob55 ⟨_, _, rfl⟩ (by omega) (fun h3 hkr hW3 => ?_)
  rw [hk] at hkr ⊢
  refine e_iload (lv := ((6, iI b) :: (5, iI k) :: LV0 i)) d_law_605 rfl ?_
  refine z_icmp_eq (tgt := 612) d_law_607 (by decide) hkr hkr (fun _ => ?_) (fun z => absurd rfl z)
  refine e_iload (lv := ((6, iI b) :: (5, iI k) :: LV0 i)) d_law_612 rfl ?_
  have fin : Ev g (some (b0, L, xs)) M_law d w 636 ((6, iI b) :: (5, iI k) :: LV0 i) [] h3 (B - K ω) (B - K ω) Q := by
    refine e_goto (tgt := 789) d_law_636 (by decide) ?_
    exact Ev.sub (m_sc2 rfl (m_sc2 rfl (m_sc2 rfl (m_sc2 rfl (m_sc2 rfl (m_sn _)))))) (kk h3 ω hW3 hJ2)
  refine z_if_ne (tgt := 636) d_law_614 (by decide) hkr (fun _ => fin) (fun k0 => ?_)
  have hv := hb k0
  refine e_aload_n (lv := ((6, iI b) :: (5, iI k) :: LV0 i)) d_law_617 rfl rfl ?_
  refine e_iconst (v := iv 0) d_law_618 rfl ?_
  refine e_laload d_law_619 hW3.at85 (iv_in (by decide) (by decide) (by decide)) ?_
  rw [hv]
  refine e_iload (lv := ((6, iI b) :: (5, iI k) :: LV0 i)) d_law_620 rfl ?_
  have fin2 : ∀ y : Int64, y = lgB b → Ev g (some (b0, L, xs)) M_law d w 630 ((6, iI b) :: (5, iI k) :: LV0 i) (ml y :: ml (lgB b) :: []) h3 (B - K ω) (B - K ω) Q := by
    intro y hy
    refine e_lcmp d_law_630 ?_
    rw [hy, lcmp_s]
    exact z_if_eq (tgt := 636) d_law_631 (by decide) (by omega) (fun _ => fin) (fun z => absurd rfl z)
  refine z_if_eq (tgt := 629) d_law_622 (by decide) hbr (fun c0 => ?_) (fun c0 => ?_)
  · refine e_lconst (v := 0) d_law_629 rfl ?_
    exact fin2 0 (by unfold lgB; rw [if_pos c0])
  · refine e_lconst (v := 1) d_law_625 rfl ?_
    refine e_goto (tgt := 630) d_law_626 (by decide) ?_
    exact fin2 1 (by unfold lgB; rw [if_neg c0])
theorem k_size {g : MG} {b0 L B R n fu : Nat} {xs : Nat → Int32} {d w : Nat} {Q : MO → List MC → Prop} {h : List MC} {σ : SS} {i : Int} (hl : g.1.stackTraces = false) (hfu : 20000 ≤ fu) (hR : 300 < R) (hRf : R ≤ 1000) (hL : L < 2147483648) (i0 : 0 ≤ i) (i1 : i + 4 ≤ L) (hW : Wd h σ) (hJ : JR R n σ) (hn : n ≤ 590) (hd : 12 ≤ d) (hw : 400 ≤ w) (hB : 561000 ≤ B) (kk : ∀ h9 ω, Wd h9 ω → JR R (n + 1) ω → Ev g (some (b0, L, xs)) M_law d w 789 (LV0 i) [] h9 (B - K ω) (B - K ω) Q) : Ev g (some (b0, L, xs)) M_law d w 639 (LV0 i) [] h (B - K σ) (B - K σ) Q := by
  obtain ⟨z, τ, e, hD⟩ := duo_size (x := (xs (i + 1).toNat).toInt) hfu hR hRf (by omega) hJ
  have hD2 := hD τ.2.2
  obtain ⟨bq, ωq, eq, hJq, -, -⟩ := hD2
  have hH := h_size (fu := fu) hl hW (iv_rng _) e (duo_E hD)
  obtain ⟨hq, hWq⟩ := hH.2.1
  have hKq := (c_D_size (fu := fu) (g := g) hWq (iv_rng _) bq ωq eq).2.1
  have hKz := JR_K hJq (by omega)
  refine e_aload_n (lv := (LV0 i)) d_law_639 rfl rfl ?_
  refine e_aload_n (lv := (LV0 i)) d_law_640 rfl rfl ?_
  refine e_iload (lv := (LV0 i)) d_law_641 rfl ?_
  refine e_iconst (v := iv 1) d_law_643 rfl ?_
  refine z_iadd d_law_644 ?_
  refine z_sread d_law_645 (by omega) (by omega) hL ?_
  refine e_aload_n (lv := (LV0 i)) d_law_646 rfl rfl ?_
  refine e_hw [mr 0, iI (xs (i + 1).toNat).toInt, mr 85] [] d_law_647 me_L_size l_L_86 hH rfl rfl (Nat.le_of_ble_eq_true rfl) rfl (Nat.le_of_ble_eq_true rfl) (Nat.le_trans (Nat.le_of_ble_eq_true rfl) hd) (Nat.le_trans (Nat.le_of_ble_eq_true rfl) hw) (by omega) (fun h1 k υ hr hW1 => ?_)
  obtain ⟨hKu, b, ω, e2, hJ2, hk, hb⟩ := duo_res cof1 hD hr
  rw [← hKu]
  have hKw := JR_K hJ2 (by omega)
  refine e_istore d_law_650 (by decide) (lv2 := ((5, iI k) :: LV0 i)) rfl ?_
  refine e_aload_n (lv := ((5, iI k) :: LV0 i)) d_law_652 rfl rfl ?_
  refine e_aload_n (lv := ((5, iI k) :: LV0 i)) d_law_653 rfl rfl ?_
  refine e_iload (lv := ((5, iI k) :: LV0 i)) d_law_654 rfl ?_
  refine e_iconst (v := iv 1) d_law_656 rfl ?_
  refine z_iadd d_law_657 ?_
  refine z_sread d_law_658 (by omega) (by omega) hL ?_
  refine e_cw [iI (xs (i + 1).toNat).toInt] [] d_law_659 me_D_size l_L_88 hW1 (c_D_size (fu := fu) hW1 (iv_rng _)) e2 rfl rfl (Nat.le_of_ble_eq_true rfl) rfl (Nat.le_of_ble_eq_true rfl) (Nat.le_trans (Nat.le_of_ble_eq_true rfl) hd) (Nat.le_trans (Nat.le_of_ble_eq_true rfl) hw) ob55 ⟨_, _, rfl⟩ (by omega) (fun h2 hbr hW2 => ?_)
  refine e_istore d_law_662 (by decide) (lv2 := ((6, iI b) :: (5, iI k) :: LV0 i)) rfl ?_
  refine e_aload_n (lv := ((6, iI b) :: (5, iI k) :: LV0 i)) d_law_664 rfl rfl ?_
  refine e_cw [] [] d_law_665 me_D_thrown l_L_59 hW2 (c_D_thrown hW2) rfl rfl rfl (Nat.le_of_ble_eq_true rfl) rfl (Nat.le_of_ble_eq_true rfl) (Nat.le_trans (Nat.le_of_ble_eq_true rfl) hd) (Nat.le_trans (Nat.le_of_ble_eq_true rfl) hw) ob55 ⟨_, _, rfl⟩ (by omega) (fun h3 hkr hW3 => ?_)
  rw [hk] at hkr ⊢
  refine e_iload (lv := ((6, iI b) :: (5, iI k) :: LV0 i)) d_law_668 rfl ?_
  refine z_icmp_eq (tgt := 675) d_law_670 (by decide) hkr hkr (fun _ => ?_) (fun z => absurd rfl z)
  refine e_iload (lv := ((6, iI b) :: (5, iI k) :: LV0 i)) d_law_675 rfl ?_
  have fin : Ev g (some (b0, L, xs)) M_law d w 692 ((6, iI b) :: (5, iI k) :: LV0 i) [] h3 (B - K ω) (B - K ω) Q := by
    refine e_goto (tgt := 789) d_law_692 (by decide) ?_
    exact Ev.sub (m_sc2 rfl (m_sc2 rfl (m_sc2 rfl (m_sc2 rfl (m_sc2 rfl (m_sn _)))))) (kk h3 ω hW3 hJ2)
  refine z_if_ne (tgt := 692) d_law_677 (by decide) hkr (fun _ => fin) (fun k0 => ?_)
  have hv := hb k0
  refine e_aload_n (lv := ((6, iI b) :: (5, iI k) :: LV0 i)) d_law_680 rfl rfl ?_
  refine e_iconst (v := iv 0) d_law_681 rfl ?_
  refine e_laload d_law_682 hW3.at85 (iv_in (by decide) (by decide) (by decide)) ?_
  rw [hv]
  refine e_iload (lv := ((6, iI b) :: (5, iI k) :: LV0 i)) d_law_683 rfl ?_
  refine e_i2l d_law_685 ?_
  refine e_lcmp d_law_686 ?_
  rw [show lg_cmp (lgI b) (iv b).toInt64 = iv 0 from lcmp_s _]
  exact z_if_eq (tgt := 692) d_law_687 (by decide) (by omega) (fun _ => fin) (fun z => absurd rfl z)
theorem k_uses {g : MG} {b0 L B R n fu : Nat} {xs : Nat → Int32} {d w : Nat} {Q : MO → List MC → Prop} {h : List MC} {σ : SS} {i : Int} (hl : g.1.stackTraces = false) (hfu : 20000 ≤ fu) (hR : 300 < R) (hRf : R ≤ 1000) (hL : L < 2147483648) (i0 : 0 ≤ i) (i1 : i + 4 ≤ L) (hW : Wd h σ) (hJ : JR R n σ) (hn : n ≤ 590) (hd : 12 ≤ d) (hw : 400 ≤ w) (hB : 561000 ≤ B) (kk : ∀ h9 ω, Wd h9 ω → JR R (n + 1) ω → Ev g (some (b0, L, xs)) M_law d w 789 (LV0 i) [] h9 (B - K ω) (B - K ω) Q) : Ev g (some (b0, L, xs)) M_law d w 695 (LV0 i) [] h (B - K σ) (B - K σ) Q := by
  obtain ⟨z, τ, e, hD⟩ := duo_uses (x := (xs (i + 1).toNat).toInt) hfu hR hRf (by omega) hJ
  have hD2 := hD τ.2.2
  obtain ⟨bq, ωq, eq, hJq, -, -⟩ := hD2
  have hH := h_uses (fu := fu) hl hW (iv_rng _) e (duo_E hD)
  obtain ⟨hq, hWq⟩ := hH.2.1
  have hKq := (c_D_uses (fu := fu) (g := g) hWq (iv_rng _) bq ωq eq).2.1
  have hKz := JR_K hJq (by omega)
  refine e_aload_n (lv := (LV0 i)) d_law_695 rfl rfl ?_
  refine e_aload_n (lv := (LV0 i)) d_law_696 rfl rfl ?_
  refine e_iload (lv := (LV0 i)) d_law_697 rfl ?_
  refine e_iconst (v := iv 1) d_law_699 rfl ?_
  refine z_iadd d_law_700 ?_
  refine z_sread d_law_701 (by omega) (by omega) hL ?_
  refine e_aload_n (lv := (LV0 i)) d_law_702 rfl rfl ?_
  refine e_hw [mr 0, iI (xs (i + 1).toNat).toInt, mr 85] [] d_law_703 me_L_uses l_L_89 hH rfl rfl (Nat.le_of_ble_eq_true rfl) rfl (Nat.le_of_ble_eq_true rfl) (Nat.le_trans (Nat.le_of_ble_eq_true rfl) hd) (Nat.le_trans (Nat.le_of_ble_eq_true rfl) hw) (by omega) (fun h1 k υ hr hW1 => ?_)
  obtain ⟨hKu, b, ω, e2, hJ2, hk, hb⟩ := duo_res cof1 hD hr
  rw [← hKu]
  have hKw := JR_K hJ2 (by omega)
  refine e_istore d_law_706 (by decide) (lv2 := ((5, iI k) :: LV0 i)) rfl ?_
  refine e_aload_n (lv := ((5, iI k) :: LV0 i)) d_law_708 rfl rfl ?_
  refine e_aload_n (lv := ((5, iI k) :: LV0 i)) d_law_709 rfl rfl ?_
  refine e_iload (lv := ((5, iI k) :: LV0 i)) d_law_710 rfl ?_
  refine e_iconst (v := iv 1) d_law_712 rfl ?_
  refine z_iadd d_law_713 ?_
  refine z_sread d_law_714 (by omega) (by omega) hL ?_
  refine e_cw [iI (xs (i + 1).toNat).toInt] [] d_law_715 me_D_uses l_L_91 hW1 (c_D_uses (fu := fu) hW1 (iv_rng _)) e2 rfl rfl (Nat.le_of_ble_eq_true rfl) rfl (Nat.le_of_ble_eq_true rfl) (Nat.le_trans (Nat.le_of_ble_eq_true rfl) hd) (Nat.le_trans (Nat.le_of_ble_eq_true rfl) hw) ob55 ⟨_, _, rfl⟩ (by omega) (fun h2 hbr hW2 => ?_)
  refine e_istore d_law_718 (by decide) (lv2 := ((6, iI b) :: (5, iI k) :: LV0 i)) rfl ?_
  refine e_aload_n (lv := ((6, iI b) :: (5, iI k) :: LV0 i)) d_law_720 rfl rfl ?_
  refine e_cw [] [] d_law_721 me_D_thrown l_L_59 hW2 (c_D_thrown hW2) rfl rfl rfl (Nat.le_of_ble_eq_true rfl) rfl (Nat.le_of_ble_eq_true rfl) (Nat.le_trans (Nat.le_of_ble_eq_true rfl) hd) (Nat.le_trans (Nat.le_of_ble_eq_true rfl) hw) ob55 ⟨_, _, rfl⟩ (by omega) (fun h3 hkr hW3 => ?_)
  rw [hk] at hkr ⊢
  refine e_iload (lv := ((6, iI b) :: (5, iI k) :: LV0 i)) d_law_724 rfl ?_
  refine z_icmp_eq (tgt := 731) d_law_726 (by decide) hkr hkr (fun _ => ?_) (fun z => absurd rfl z)
  refine e_iload (lv := ((6, iI b) :: (5, iI k) :: LV0 i)) d_law_731 rfl ?_
  have fin : Ev g (some (b0, L, xs)) M_law d w 748 ((6, iI b) :: (5, iI k) :: LV0 i) [] h3 (B - K ω) (B - K ω) Q := by
    refine e_goto (tgt := 789) d_law_748 (by decide) ?_
    exact Ev.sub (m_sc2 rfl (m_sc2 rfl (m_sc2 rfl (m_sc2 rfl (m_sc2 rfl (m_sn _)))))) (kk h3 ω hW3 hJ2)
  refine z_if_ne (tgt := 748) d_law_733 (by decide) hkr (fun _ => fin) (fun k0 => ?_)
  have hv := hb k0
  refine e_aload_n (lv := ((6, iI b) :: (5, iI k) :: LV0 i)) d_law_736 rfl rfl ?_
  refine e_iconst (v := iv 0) d_law_737 rfl ?_
  refine e_laload d_law_738 hW3.at85 (iv_in (by decide) (by decide) (by decide)) ?_
  rw [hv]
  refine e_iload (lv := ((6, iI b) :: (5, iI k) :: LV0 i)) d_law_739 rfl ?_
  refine e_i2l d_law_741 ?_
  refine e_lcmp d_law_742 ?_
  rw [show lg_cmp (lgI b) (iv b).toInt64 = iv 0 from lcmp_s _]
  exact z_if_eq (tgt := 748) d_law_743 (by decide) (by omega) (fun _ => fin) (fun z => absurd rfl z)
theorem k_empty {g : MG} {b0 L B R n fu : Nat} {xs : Nat → Int32} {d w : Nat} {Q : MO → List MC → Prop} {h : List MC} {σ : SS} {i : Int} (hl : g.1.stackTraces = false) (hfu : 20000 ≤ fu) (hR : 300 < R) (hRf : R ≤ 1000) (hL : L < 2147483648) (i0 : 0 ≤ i) (i1 : i + 4 ≤ L) (hW : Wd h σ) (hJ : JR R n σ) (hn : n ≤ 590) (hd : 12 ≤ d) (hw : 400 ≤ w) (hB : 561000 ≤ B) (kk : ∀ h9 ω, Wd h9 ω → JR R (n + 1) ω → Ev g (some (b0, L, xs)) M_law d w 789 (LV0 i) [] h9 (B - K ω) (B - K ω) Q) : Ev g (some (b0, L, xs)) M_law d w 751 (LV0 i) [] h (B - K σ) (B - K σ) Q := by
  obtain ⟨z, τ, ω, e, e2, hJ2⟩ := duo_empty (fu := fu) hfu hJ
  have hKw := JR_K hJ2 (by omega)
  obtain ⟨⟨hq, hWq⟩, hK1, -, -⟩ := c_H_empty (g := g) (fu := fu) hW  z τ e
  have hKq := (c_D_empty (fu := fu) (g := g) hWq  z ω e2).2.1
  refine e_aload_n (lv := (LV0 i)) d_law_751 rfl rfl ?_
  refine e_cw [] [] d_law_752 me_H_empty l_L_92 hW (c_H_empty (fu := fu) hW ) e rfl rfl (Nat.le_of_ble_eq_true rfl) rfl (Nat.le_of_ble_eq_true rfl) (Nat.le_trans (Nat.le_of_ble_eq_true rfl) hd) (Nat.le_trans (Nat.le_of_ble_eq_true rfl) hw) ob0 ⟨_, _, rfl⟩ (by omega) (fun h1 hz hW1 => ?_)
  refine e_aload_n (lv := (LV0 i)) d_law_755 rfl rfl ?_
  refine e_cw [] [iI z] d_law_756 me_D_empty l_L_95 hW1 (c_D_empty (fu := fu) hW1 ) e2 rfl rfl (Nat.le_of_ble_eq_true rfl) rfl (Nat.le_of_ble_eq_true rfl) (Nat.le_trans (Nat.le_of_ble_eq_true rfl) hd) (Nat.le_trans (Nat.le_of_ble_eq_true rfl) hw) ob55 ⟨_, _, rfl⟩ (by omega) (fun h2 hz2 hW2 => ?_)
  exact z_icmp_eq (tgt := 789) d_law_759 (by decide) hz hz (fun _ => kk h2 ω hW2 hJ2) (fun q => absurd rfl q)
theorem k_count {g : MG} {b0 L B R n fu : Nat} {xs : Nat → Int32} {d w : Nat} {Q : MO → List MC → Prop} {h : List MC} {σ : SS} {i : Int} (hl : g.1.stackTraces = false) (hfu : 20000 ≤ fu) (hR : 300 < R) (hRf : R ≤ 1000) (hL : L < 2147483648) (i0 : 0 ≤ i) (i1 : i + 4 ≤ L) (hW : Wd h σ) (hJ : JR R n σ) (hn : n ≤ 590) (hd : 12 ≤ d) (hw : 400 ≤ w) (hB : 561000 ≤ B) (kk : ∀ h9 ω, Wd h9 ω → JR R (n + 1) ω → Ev g (some (b0, L, xs)) M_law d w 789 (LV0 i) [] h9 (B - K ω) (B - K ω) Q) : Ev g (some (b0, L, xs)) M_law d w 764 (LV0 i) [] h (B - K σ) (B - K σ) Q := by
  obtain ⟨z, τ, ω, e, e2, hJ2⟩ := duo_count (x := (xs (i + 1).toNat).toInt) (fu := fu) hfu hJ
  have hKw := JR_K hJ2 (by omega)
  obtain ⟨⟨hq, hWq⟩, hK1, -, -⟩ := c_H_count (g := g) hW (iv_rng _) z τ e
  have hKq := (c_D_count (fu := fu) (g := g) hWq (iv_rng _) z ω e2).2.1
  refine e_aload_n (lv := (LV0 i)) d_law_764 rfl rfl ?_
  refine e_aload_n (lv := (LV0 i)) d_law_765 rfl rfl ?_
  refine e_iload (lv := (LV0 i)) d_law_766 rfl ?_
  refine e_iconst (v := iv 1) d_law_768 rfl ?_
  refine z_iadd d_law_769 ?_
  refine z_sread d_law_770 (by omega) (by omega) hL ?_
  refine e_cw [iI (xs (i + 1).toNat).toInt] [] d_law_771 me_H_count l_L_96 hW (c_H_count hW (iv_rng _)) e rfl rfl (Nat.le_of_ble_eq_true rfl) rfl (Nat.le_of_ble_eq_true rfl) (Nat.le_trans (Nat.le_of_ble_eq_true rfl) hd) (Nat.le_trans (Nat.le_of_ble_eq_true rfl) hw) ob0 ⟨_, _, rfl⟩ (by omega) (fun h1 hz hW1 => ?_)
  refine e_aload_n (lv := (LV0 i)) d_law_774 rfl rfl ?_
  refine e_aload_n (lv := (LV0 i)) d_law_775 rfl rfl ?_
  refine e_iload (lv := (LV0 i)) d_law_776 rfl ?_
  refine e_iconst (v := iv 1) d_law_778 rfl ?_
  refine z_iadd d_law_779 ?_
  refine z_sread d_law_780 (by omega) (by omega) hL ?_
  refine e_cw [iI (xs (i + 1).toNat).toInt] [iI z] d_law_781 me_D_count l_L_99 hW1 (c_D_count (fu := fu) hW1 (iv_rng _)) e2 rfl rfl (Nat.le_of_ble_eq_true rfl) rfl (Nat.le_of_ble_eq_true rfl) (Nat.le_trans (Nat.le_of_ble_eq_true rfl) hd) (Nat.le_trans (Nat.le_of_ble_eq_true rfl) hw) ob55 ⟨_, _, rfl⟩ (by omega) (fun h2 hz2 hW2 => ?_)
  exact z_icmp_eq (tgt := 789) d_law_784 (by decide) hz hz (fun _ => kk h2 ω hW2 hJ2) (fun q => absurd rfl q)
