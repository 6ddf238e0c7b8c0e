/-! appending to the cells and to the reader's row; a slot; an item -/
def f_C_append (x y : Int) (σ : SS) : Option (Unit × SS) :=
  ck (0 < σ.1 1 99 ∧ 0 ≤ σ.1 1 2) (lb (if σ.1 1 99 ≤ σ.1 1 2 ∧ σ.1 1 99 < 130800 then gw σ else σ) fun σ1 => ck (σ1.1 1 2 < σ1.1 1 99 ∧ rng (σ1.1 1 2 + 1)) (some ((), sF (sA (sA σ1 2 (σ1.1 1 2) x) 3 (σ1.1 1 2) y) 1 2 (σ1.1 1 2 + 1))))
theorem app_tail {g : MG} {d w mc ms a b c n m : Nat} {Q : MO → List MC → Prop} {h : List MC} {σ : SS} {x y : Int} (hg : gd a b c) (hR : Rep (lyf a b c n m) h σ) (hn : (n : Int) = σ.1 1 99) (h0 : 0 ≤ σ.1 1 2) (h1 : σ.1 1 2 < σ.1 1 99) (hx : rng x) (hy : rng y) (hr : rng (σ.1 1 2 + 1)) (kq : ∀ h', Rep (lyf a b c n m) h' (sF (sA (sA σ 2 (σ.1 1 2) x) 3 (σ.1 1 2) y) 1 2 (σ.1 1 2 + 1)) → Q (.inl none) h') : Ev g none M_C_append d w 58 [(0, mr 1), (1, iI x), (2, iI y)] [] h mc ms Q := by
  have hL : lyf a b c n m 1 = some (LO 1 [rf a, rf b, nu]) := rfl
  have r1 := hR.rf 1 99
  have r2 := hR.rf 1 2
  have hnn : n < 2147483648 := by omega
  have hrn : rng (n : Int) := by omega
  refine e_aload_n d_C_append_58 rfl rfl ?_
  refine z_gi d_C_append_59 f_C_18 hR hL rfl ?_
  refine z_if_lt (tgt := 109) d_C_append_62 (by decide) r2 (fun c1 => absurd c1 (by omega)) (fun _ => ?_)
  refine e_aload_n d_C_append_65 rfl rfl ?_
  refine z_gi d_C_append_66 f_C_18 hR hL rfl ?_
  refine e_aload_n d_C_append_69 rfl rfl ?_
  refine z_gr d_C_append_70 f_C_9 hR hL rfl ?_
  refine z_len d_C_append_73 hR (lyf_a hg) ?_
  refine z_icmp_ge (tgt := 109) d_C_append_74 (by decide) r2 hrn (fun c1 => absurd c1 (by omega)) (fun _ => ?_)
  refine e_aload_n d_C_append_77 rfl rfl ?_
  refine z_gi d_C_append_78 f_C_18 hR hL rfl ?_
  refine e_aload_n d_C_append_81 rfl rfl ?_
  refine z_gr d_C_append_82 f_C_15 hR hL rfl ?_
  refine z_len d_C_append_85 hR (lyf_b hg) ?_
  refine z_icmp_ge (tgt := 109) d_C_append_86 (by decide) r2 hrn (fun c1 => absurd c1 (by omega)) (fun _ => ?_)
  refine e_aload_n d_C_append_89 rfl rfl ?_
  refine z_gr d_C_append_90 f_C_9 hR hL rfl ?_
  refine e_aload_n d_C_append_93 rfl rfl ?_
  refine z_gi d_C_append_94 f_C_18 hR hL rfl ?_
  refine e_iload_n d_C_append_97 rfl rfl ?_
  refine z_ast d_C_append_98 hR (lyf_a hg) h0 (by omega) hnn hx (fun h2 hR2 => ?_)
  refine e_aload_n d_C_append_99 rfl rfl ?_
  refine z_gr d_C_append_100 f_C_15 hR2 hL rfl ?_
  refine e_aload_n d_C_append_103 rfl rfl ?_
  refine z_gi d_C_append_104 f_C_18 hR2 hL rfl ?_
  refine e_iload_n d_C_append_107 rfl rfl ?_
  refine z_ast (i := σ.1 1 2) d_C_append_108 hR2 (lyf_b hg) h0 (by omega) hnn hy (fun h3 hR3 => ?_)
  refine e_aload_n d_C_append_109 rfl rfl ?_
  refine e_dup d_C_append_110 rfl ?_
  refine z_gi d_C_append_111 f_C_18 hR3 hL rfl ?_
  refine e_iconst (v := iv 1) d_C_append_114 rfl ?_
  refine z_iadd d_C_append_115 ?_
  refine z_pi (v := σ.1 1 2 + 1) d_C_append_116 p_C_18 hR3 hL rfl hr (fun h4 hR4 => ?_)
  exact e_return d_C_append_119 rfl (kq h4 hR4)
theorem c_C_append {g : MG} {h : List MC} {σ : SS} {x y : Int} (hW : Wd h σ) (hx : rng x) (hy : rng y) : Cw g M_C_append 2 48 [mr 1, iI x, iI y] gU cU1 h σ (f_C_append x y σ) := by
  refine w_of (fun d w Q hF hL => ?_)
  unfold f_C_append
  refine w_ck (fun z => ?_)
  obtain ⟨z1, z2⟩ := z
  obtain ⟨hn, a, b, c, hg, hR⟩ := hW
  have hly : lyf a b c (σ.1 1 99).toNat (σ.1 51 99).toNat 1 = some (LO 1 [rf a, rf b, nu]) := rfl
  have r1 := hR.rf 1 99
  have r2 := hR.rf 1 2
  have eN : ((σ.1 1 99).toNat : Int) = σ.1 1 99 := by omega
  -- the store behind an append, as a world
  have fin : ∀ (τ : SS) (a b c : Nat) (h9 : List MC), gd a b c → 0 ≤ τ.1 1 99 ∧ 0 ≤ τ.1 51 99 ∧ 0 ≤ τ.1 0 99 → Rep (lyf a b c (τ.1 1 99).toNat (τ.1 51 99).toNat) h9 (sF (sA (sA τ 2 (τ.1 1 2) x) 3 (τ.1 1 2) y) 1 2 (τ.1 1 2 + 1)) → Wd h9 (sF (sA (sA τ 2 (τ.1 1 2) x) 3 (τ.1 1 2) y) 1 2 (τ.1 1 2 + 1)) := by
    intro τ a b c h9 hg hn hR9
    refine ⟨by rw [sF_g (by decide), sF_g (by decide), sF_g (by decide)]; exact hn, a, b, c, hg, ?_⟩
    rw [sF_g (by decide), sF_g (by decide)]
    exact hR9
  have eK : ∀ τ : SS, K (sF (sA (sA τ 2 (τ.1 1 2) x) 3 (τ.1 1 2) y) 1 2 (τ.1 1 2 + 1)) = K τ := fun τ => by rw [sF_K (by decide)]; rfl
  have mk : ∀ (τ : SS) (a b c n m : Nat) (h9 : List MC), gd a b c → rng (τ.1 1 2 + 1) → Rep (lyf a b c n m) h9 τ → ∃ h8, Rep (lyf a b c n m) h8 (sF (sA (sA τ 2 (τ.1 1 2) x) 3 (τ.1 1 2) y) 1 2 (τ.1 1 2 + 1)) := by
    intro τ a b c n m h9 hg hr hR9
    exact ⟨_, ((hR9.setA (i := τ.1 1 2) (lyf_a hg) hx).setA (i := τ.1 1 2) (lyf_b hg) hy).setF (k := 2) (show lyf a b c n m 1 = some (LO 1 [rf a, rf b, nu]) from rfl) hr⟩
  by_cases cg : σ.1 1 99 ≤ σ.1 1 2 ∧ σ.1 1 99 < 130800
  · rw [if_pos cg]
    refine (?_ : Ew g none M_C_append d w Q gU (cU1 Q) 0 (m_args 0 [mr 1, iI x, iI y]) [] h σ (ck ((gw σ).1 1 2 < (gw σ).1 1 99 ∧ rng ((gw σ).1 1 2 + 1)) _))
    refine w_ck (fun z => ?_)
    intro a9 σ9 hm
    cases hm
    obtain ⟨z3, z4⟩ := z
    have hrg : rng (2 * σ.1 1 99) := by omega
    have kg : K (gw σ) = K σ + 4 * (σ.1 1 99).toNat := by
      unfold K
      rw [gw_g, gw_f (by decide), gw_f (by decide)]
      omega
    obtain ⟨hg2, hR2⟩ := hR.grow (Y := cO 1 [mr h.length, mr b, iI (σ.1 1 2)]) hg eN hrg rfl rfl
    have e51 : ((gw σ).1 51 99) = σ.1 51 99 := gw_f (by decide)
    have e0 : ((gw σ).1 0 99) = σ.1 0 99 := gw_f (by decide)
    have e2n : ((gw σ).1 1 99).toNat = 2 * (σ.1 1 99).toNat := by rw [gw_g]; omega
    have hn2 : 0 ≤ (gw σ).1 1 99 ∧ 0 ≤ (gw σ).1 51 99 ∧ 0 ≤ (gw σ).1 0 99 := by rw [gw_g, e51, e0]; omega
    have cv : ∀ (n m n' m' : Nat) (h9 : List MC), n = n' → m = m' → Rep (lyf h.length (h.length + 1) c n m) h9 (gw σ) → Rep (lyf h.length (h.length + 1) c n' m') h9 (gw σ) := by
      intro n m n' m' h9 e1 e2 k
      subst e1
      subst e2
      exact k
    have hR3 := cv _ _ _ _ _ e2n.symm (congrArg Int.toNat e51).symm hR2
    obtain ⟨h8, hR8⟩ := mk (gw σ) _ _ c _ _ _ hg2 z4 hR3
    have et : (gw σ).1 1 2 = σ.1 1 2 := gw_f (by decide)
    refine ⟨⟨h8, fin (gw σ) _ _ c h8 hg2 hn2 hR8⟩, by rw [eK, kg]; omega, True.intro, fun mc ms hc => ?_⟩
    rw [eK, kg]
    have hlb : b < h.length := (List.getElem?_eq_some_iff.mp (hR.at b _ (lyf_b hg))).1
    have hlen := hR.long hg
    refine Ev.room (mc2 := 1 + (1 + 0)) (ms2 := 2 * (σ.1 1 99).toNat + (2 * (σ.1 1 99).toNat + 0)) (by omega) (by omega) ?_
    show Ev g none M_C_append d w 0 [(0, mr 1), (1, iI x), (2, iI y)] [] h _ _ Q
    refine e_aload_n d_C_append_0 rfl rfl ?_
    refine z_gi d_C_append_1 f_C_18 hR hly rfl ?_
    refine e_aload_n d_C_append_4 rfl rfl ?_
    refine z_gr d_C_append_5 f_C_9 hR hly rfl ?_
    refine z_len d_C_append_8 hR (lyf_a hg) ?_
    refine z_icmp_lt (tgt := 58) d_C_append_9 (by decide) r2 (by omega) (fun c1 => absurd c1 (by omega)) (fun _ => ?_)
    refine e_aload_n d_C_append_12 rfl rfl ?_
    refine z_gr d_C_append_13 f_C_9 hR hly rfl ?_
    refine z_len d_C_append_16 hR (lyf_a hg) ?_
    refine e_ldc (v := iv 130800) d_C_append_17 k_C_30 ?_
    refine z_icmp_ge (tgt := 58) d_C_append_19 (by decide) (by omega) (by decide) (fun c1 => absurd c1 (by omega)) (fun _ => ?_)
    refine e_aload_n d_C_append_22 rfl rfl ?_
    refine e_aload_n d_C_append_23 rfl rfl ?_
    refine z_gr d_C_append_24 f_C_9 hR hly rfl ?_
    refine e_iconst (v := iv 2) d_C_append_27 rfl ?_
    refine e_aload_n d_C_append_28 rfl rfl ?_
    refine z_gr d_C_append_29 f_C_9 hR hly rfl ?_
    refine z_len d_C_append_32 hR (lyf_a hg) ?_
    refine z_imul d_C_append_33 ?_
    have e2c : (2 : Int) * ((σ.1 1 99).toNat : Int) = ((2 * (σ.1 1 99).toNat : Nat) : Int) := by omega
    rw [e2c]
    refine z_invS (mc1 := 1) (ms1 := 2 * (σ.1 1 99).toNat) (mc2 := 1 + 0) (ms2 := 2 * (σ.1 1 99).toNat + 0) (st' := [mr 1]) (av := [mr a, iI ((2 * (σ.1 1 99).toNat : Nat) : Int)]) d_C_append_34 me_Ar_copyOf l_C_31 (c_copyOf (hR.at a _ (lyf_a hg)) (by omega) (by omega)) rfl rfl (Nat.le_of_ble_eq_true rfl) rfl (Nat.le_of_ble_eq_true rfl) hF hL (Nat.le_refl _) (Nat.le_refl _) (fun r h9 hP => ?_) (fun E h9 hE => hE.elim)
    obtain ⟨rfl, rfl⟩ := hP
    have o1 : (h ++ [cI (2 * (σ.1 1 99).toNat) fun j => if j < (σ.1 1 99).toNat then iv (σ.2.1 2 j) else 0])[1]? = some (cO 1 [mr a, mr b, iI (σ.1 1 2)]) := by
      rw [List.getElem?_append_left (by omega), hR.at 1 _ hly]
      rfl
    refine e_putfield d_C_append_37 p_C_9 o1 (Nat.le_of_ble_eq_true rfl) (m_fits_a _ _) rfl ?_
    have hl1 : ∀ X : MC, (h ++ [X]).length = h.length + 1 := fun X => by rw [List.length_append]; rfl
    have o2 : ((h ++ [cI (2 * (σ.1 1 99).toNat) fun j => if j < (σ.1 1 99).toNat then iv (σ.2.1 2 j) else 0]).set 1 (cO 1 [mr h.length, mr b, iI (σ.1 1 2)]))[1]? = some (cO 1 [mr h.length, mr b, iI (σ.1 1 2)]) := List.getElem?_set_self (by rw [hl1]; omega)
    have o3 : ((h ++ [cI (2 * (σ.1 1 99).toNat) fun j => if j < (σ.1 1 99).toNat then iv (σ.2.1 2 j) else 0]).set 1 (cO 1 [mr h.length, mr b, iI (σ.1 1 2)]))[b]? = some (cI (σ.1 1 99).toNat fun j => iv (σ.2.1 3 j)) := by
      rw [List.getElem?_set_ne (fun z => hg.2.1.1 z.symm), List.getElem?_append_left hlb, hR.at b _ (lyf_b hg)]
      rfl
    refine e_aload_n d_C_append_40 rfl rfl ?_
    refine e_aload_n d_C_append_41 rfl rfl ?_
    refine e_getfield d_C_append_42 f_C_15 o2 rfl ?_
    refine e_iconst (v := iv 2) d_C_append_45 rfl ?_
    refine e_aload_n d_C_append_46 rfl rfl ?_
    refine e_getfield d_C_append_47 f_C_15 o2 rfl ?_
    refine e_alenI d_C_append_50 o3 ?_
    rw [← Int32.ofInt_eq_ofNat]
    refine z_imul d_C_append_51 ?_
    rw [e2c]
    refine z_invS (mc1 := 1) (ms1 := 2 * (σ.1 1 99).toNat) (mc2 := 0) (ms2 := 0) (st' := [mr 1]) (av := [mr b, iI ((2 * (σ.1 1 99).toNat : Nat) : Int)]) d_C_append_52 me_Ar_copyOf l_C_31 (c_copyOf o3 (by omega) (by omega)) rfl rfl (Nat.le_of_ble_eq_true rfl) rfl (Nat.le_of_ble_eq_true rfl) hF hL (Nat.le_refl _) (Nat.le_refl _) (fun r h9 hP => ?_) (fun E h9 hE => hE.elim)
    obtain ⟨rfl, rfl⟩ := hP
    rw [show ((h ++ [cI (2 * (σ.1 1 99).toNat) fun j => if j < (σ.1 1 99).toNat then iv (σ.2.1 2 j) else 0]).set 1 (cO 1 [mr h.length, mr b, iI (σ.1 1 2)])).length = h.length + 1 by rw [List.length_set, hl1]]
    refine e_putfield (r := 1) (fs := [mr h.length, mr b, iI (σ.1 1 2)]) d_C_append_55 p_C_15 (by rw [List.getElem?_append_left (by rw [List.length_set, hl1]; omega)]; exact o2) (Nat.le_of_ble_eq_true rfl) (m_fits_a _ _) rfl ?_
    refine app_tail hg2 hR3 (by rw [e2n, gw_g]; omega) (by rw [et]; exact z2) z3 hx hy z4 (fun h' hR' => hc h' (fin (gw σ) _ _ c h' hg2 hn2 hR'))
  · rw [if_neg cg]
    refine (?_ : Ew g none M_C_append d w Q gU (cU1 Q) 0 (m_args 0 [mr 1, iI x, iI y]) [] h σ (ck (σ.1 1 2 < σ.1 1 99 ∧ rng (σ.1 1 2 + 1)) _))
    refine w_ck (fun z => ?_)
    intro a9 σ9 hm
    cases hm
    obtain ⟨z3, z4⟩ := z
    obtain ⟨h8, hR8⟩ := mk σ _ _ c _ _ _ hg z4 hR
    refine ⟨⟨h8, fin σ _ _ c h8 hg hn hR8⟩, by rw [eK]; exact Nat.le_refl _, True.intro, fun mc ms hc => ?_⟩
    show Ev g none M_C_append d w 0 [(0, mr 1), (1, iI x), (2, iI y)] [] h _ _ Q
    refine e_aload_n d_C_append_0 rfl rfl ?_
    refine z_gi d_C_append_1 f_C_18 hR hly rfl ?_
    refine e_aload_n d_C_append_4 rfl rfl ?_
    refine z_gr d_C_append_5 f_C_9 hR hly rfl ?_
    refine z_len d_C_append_8 hR (lyf_a hg) ?_
    refine z_icmp_lt (tgt := 58) d_C_append_9 (by decide) r2 (by omega) (fun c1 => ?_) (fun c1 => absurd c1 (by omega))
    exact app_tail hg hR eN z2 z3 hx hy z4 (fun h' hR' => hc h' (fin σ _ _ c h' hg hn hR'))
def f_R_append (x : Int) (σ : SS) : Option (Unit × SS) :=
  ck (0 < σ.1 51 99 ∧ 0 ≤ σ.1 51 1) (lb (if σ.1 51 99 ≤ σ.1 51 1 ∧ σ.1 51 99 < 12000 then gv σ else σ) fun σ1 => ck (rng (σ1.1 51 1 + 1)) (some ((), sF (gS σ1 52 (σ1.1 51 99).toNat (σ1.1 51 1) x) 51 1 (σ1.1 51 1 + 1))))
theorem rap_tail {g : MG} {d w mc ms a b c n m : Nat} {Q : MO → List MC → Prop} {h : List MC} {σ : SS} {x : Int} (hd : 1 ≤ d) (hw : 22 ≤ w) (hg : gd a b c) (hR : Rep (lyf a b c n m) h σ) (hn : (m : Int) = σ.1 51 99) (hx : rng x) (hr : rng (σ.1 51 1 + 1)) (kq : ∀ h', Rep (lyf a b c n m) h' (sF (gS σ 52 m (σ.1 51 1) x) 51 1 (σ.1 51 1 + 1)) → Q (.inl none) h') : Ev g none M_R_append d w 41 [(0, mr 51), (1, iI x)] [] h mc ms Q := by
  have hL : lyf a b c n m 51 = some (LO 5 [rf c, nu, nu, rf 53, rf 54]) := rfl
  have r1 := hR.rf 51 99
  have r2 := hR.rf 51 1
  refine e_aload_n d_R_append_41 rfl rfl ?_
  refine z_gr d_R_append_42 f_R_9 hR hL rfl ?_
  refine e_aload_n d_R_append_45 rfl rfl ?_
  refine z_gi d_R_append_46 f_R_21 hR hL rfl ?_
  refine e_iload_n d_R_append_49 rfl rfl ?_
  refine z_invS (mc1 := 0) (ms1 := 0) (mc2 := mc) (ms2 := ms) (st' := []) (av := [mr c, iI (σ.1 51 1), iI x]) d_R_append_50 me_H_set l_R_63 (c_H_set hR (lyf_c hg) (by omega) r2 hx) rfl rfl (Nat.le_of_ble_eq_true rfl) rfl (Nat.le_of_ble_eq_true rfl) hd hw (by omega) (by omega) (fun r h9 hP => ?_) (fun E h9 hE => hE.elim)
  obtain ⟨rfl, hR2⟩ := hP
  refine e_aload_n d_R_append_53 rfl rfl ?_
  refine e_dup d_R_append_54 rfl ?_
  refine z_gi d_R_append_55 f_R_21 hR2 hL rfl ?_
  rw [gS_f]
  refine e_iconst (v := iv 1) d_R_append_58 rfl ?_
  refine z_iadd d_R_append_59 ?_
  refine z_pi (v := σ.1 51 1 + 1) d_R_append_60 p_R_21 hR2 hL rfl hr (fun h4 hR4 => ?_)
  exact e_return d_R_append_63 rfl (kq h4 hR4)
theorem c_R_append {g : MG} {h : List MC} {σ : SS} {x : Int} (hW : Wd h σ) (hx : rng x) : Cw g M_R_append 2 48 [mr 51, iI x] gU cU1 h σ (f_R_append x σ) := by
  refine w_of (fun d w Q hF hL => ?_)
  unfold f_R_append
  refine w_ck (fun z => ?_)
  obtain ⟨z1, z2⟩ := z
  obtain ⟨hn, a, b, c, hg, hR⟩ := hW
  have hly : lyf a b c (σ.1 1 99).toNat (σ.1 51 99).toNat 51 = some (LO 5 [rf c, nu, nu, rf 53, rf 54]) := rfl
  have r1 := hR.rf 51 99
  have r2 := hR.rf 51 1
  have eN : ((σ.1 51 99).toNat : Int) = σ.1 51 99 := by omega
  have fin : ∀ (τ : SS) (a b c : Nat) (h9 : List MC), gd a b c → 0 ≤ τ.1 1 99 ∧ 0 ≤ τ.1 51 99 ∧ 0 ≤ τ.1 0 99 → Rep (lyf a b c (τ.1 1 99).toNat (τ.1 51 99).toNat) h9 (sF (gS τ 52 (τ.1 51 99).toNat (τ.1 51 1) x) 51 1 (τ.1 51 1 + 1)) → Wd h9 (sF (gS τ 52 (τ.1 51 99).toNat (τ.1 51 1) x) 51 1 (τ.1 51 1 + 1)) := by
    intro τ a b c h9 hg hn hR9
    refine ⟨by rw [sF_g (by decide), sF_g (by decide), sF_g (by decide), gS_f]; exact hn, a, b, c, hg, ?_⟩
    rw [sF_g (by decide), sF_g (by decide), gS_f]
    exact hR9
  have eK : ∀ τ : SS, K (sF (gS τ 52 (τ.1 51 99).toNat (τ.1 51 1) x) 51 1 (τ.1 51 1 + 1)) = K τ := fun τ => by rw [sF_K (by decide), gS_K]
  have mk : ∀ (τ : SS) (a b c n m : Nat) (h9 : List MC), gd a b c → rng (τ.1 51 1 + 1) → Rep (lyf a b c n m) h9 τ → ∃ h8, Rep (lyf a b c n m) h8 (sF (gS τ 52 m (τ.1 51 1) x) 51 1 (τ.1 51 1 + 1)) := by
    intro τ a b c n m h9 hg hr hR9
    have key : ∃ h7, Rep (lyf a b c n m) h7 (gS τ 52 m (τ.1 51 1) x) := by
      unfold gS
      split
      · exact ⟨_, hR9.setA (lyf_c hg) hx⟩
      · exact ⟨_, hR9⟩
    obtain ⟨h7, hR7⟩ := key
    exact ⟨_, hR7.setF (k := 1) (show lyf a b c n m 51 = some (LO 5 [rf c, nu, nu, rf 53, rf 54]) from rfl) hr⟩
  by_cases cg : σ.1 51 99 ≤ σ.1 51 1 ∧ σ.1 51 99 < 12000
  · rw [if_pos cg]
    refine (?_ : Ew g none M_R_append d w Q gU (cU1 Q) 0 (m_args 0 [mr 51, iI x]) [] h σ (ck (rng ((gv σ).1 51 1 + 1)) _))
    refine w_ck (fun z4 => ?_)
    intro a9 σ9 hm
    cases hm
    have hrg : rng (2 * σ.1 51 99) := by omega
    have kg : K (gv σ) = K σ + 2 * (σ.1 51 99).toNat := by
      unfold K
      rw [gv_g, gv_f (by decide), gv_f (by decide)]
      omega
    obtain ⟨hg2, hR2⟩ := hR.growR hg eN hrg rfl
    have e51 : ((gv σ).1 1 99) = σ.1 1 99 := gv_f (by decide)
    have e0 : ((gv σ).1 0 99) = σ.1 0 99 := gv_f (by decide)
    have e2n : ((gv σ).1 51 99).toNat = 2 * (σ.1 51 99).toNat := by rw [gv_g]; omega
    have hn2 : 0 ≤ (gv σ).1 1 99 ∧ 0 ≤ (gv σ).1 51 99 ∧ 0 ≤ (gv σ).1 0 99 := by rw [gv_g, e51, e0]; omega
    have cv : ∀ (n m n' m' : Nat) (h9 : List MC), n = n' → m = m' → Rep (lyf a b h.length n m) h9 (gv σ) → Rep (lyf a b h.length n' m') h9 (gv σ) := by
      intro n m n' m' h9 e1 e2 k
      subst e1
      subst e2
      exact k
    have hR3 := cv _ _ _ _ _ (congrArg Int.toNat e51).symm e2n.symm hR2
    obtain ⟨h8, hR8⟩ := mk (gv σ) _ _ _ _ _ _ hg2 z4 hR3
    refine ⟨⟨h8, fin (gv σ) _ _ _ h8 hg2 hn2 hR8⟩, by rw [eK, kg]; omega, True.intro, fun mc ms hc => ?_⟩
    rw [eK, kg]
    have hlen := hR.long hg
    refine Ev.room (mc2 := 1 + 0) (ms2 := 2 * (σ.1 51 99).toNat + 0) (by omega) (by omega) ?_
    show Ev g none M_R_append d w 0 [(0, mr 51), (1, iI x)] [] h _ _ Q
    refine e_aload_n d_R_append_0 rfl rfl ?_
    refine z_gi d_R_append_1 f_R_21 hR hly rfl ?_
    refine e_aload_n d_R_append_4 rfl rfl ?_
    refine z_gr d_R_append_5 f_R_9 hR hly rfl ?_
    refine z_len d_R_append_8 hR (lyf_c hg) ?_
    refine z_icmp_lt (tgt := 41) d_R_append_9 (by decide) r2 (by omega) (fun c1 => absurd c1 (by omega)) (fun _ => ?_)
    refine e_aload_n d_R_append_12 rfl rfl ?_
    refine z_gr d_R_append_13 f_R_9 hR hly rfl ?_
    refine z_len d_R_append_16 hR (lyf_c hg) ?_
    refine e_sipush (v := iv 12000) d_R_append_17 (by decide) ?_
    refine z_icmp_ge (tgt := 41) d_R_append_20 (by decide) (by omega) (by decide) (fun c1 => absurd c1 (by omega)) (fun _ => ?_)
    refine e_aload_n d_R_append_23 rfl rfl ?_
    refine e_aload_n d_R_append_24 rfl rfl ?_
    refine z_gr d_R_append_25 f_R_9 hR hly rfl ?_
    refine e_iconst (v := iv 2) d_R_append_28 rfl ?_
    refine e_aload_n d_R_append_29 rfl rfl ?_
    refine z_gr d_R_append_30 f_R_9 hR hly rfl ?_
    refine z_len d_R_append_33 hR (lyf_c hg) ?_
    refine z_imul d_R_append_34 ?_
    have e2c : (2 : Int) * ((σ.1 51 99).toNat : Int) = ((2 * (σ.1 51 99).toNat : Nat) : Int) := by omega
    rw [e2c]
    refine z_invS (mc1 := 1) (ms1 := 2 * (σ.1 51 99).toNat) (mc2 := 0) (ms2 := 0) (st' := [mr 51]) (av := [mr c, iI ((2 * (σ.1 51 99).toNat : Nat) : Int)]) d_R_append_35 me_Ar_copyOf l_R_77 (c_copyOf (hR.at c _ (lyf_c hg)) (by omega) (by omega)) rfl rfl (Nat.le_of_ble_eq_true rfl) rfl (Nat.le_of_ble_eq_true rfl) hF hL (Nat.le_refl _) (Nat.le_refl _) (fun r h9 hP => ?_) (fun E h9 hE => hE.elim)
    obtain ⟨rfl, rfl⟩ := hP
    have o1 : (h ++ [cI (2 * (σ.1 51 99).toNat) fun j => if j < (σ.1 51 99).toNat then iv (σ.2.1 52 j) else 0])[51]? = some (cO 5 [mr c, iI (σ.1 51 1), iI (σ.1 51 2), mr 53, mr 54]) := by
      rw [List.getElem?_append_left (by omega), hR.at 51 _ hly]
      rfl
    refine e_putfield d_R_append_38 p_R_9 o1 (Nat.le_of_ble_eq_true rfl) (m_fits_a _ _) rfl ?_
    have hcc : ∀ h', Rep (lyf a b h.length ((gv σ).1 1 99).toNat ((gv σ).1 51 99).toNat) h' (sF (gS (gv σ) 52 ((gv σ).1 51 99).toNat ((gv σ).1 51 1) x) 51 1 ((gv σ).1 51 1 + 1)) → Q (.inl none) h' := fun h' hR' => hc h' (fin (gv σ) _ _ _ h' hg2 hn2 hR')
    exact rap_tail (Nat.le_trans (by decide) hF) (Nat.le_trans (by decide) hL) hg2 hR3 (by rw [e2n, gv_g]; omega) hx z4 hcc
  · rw [if_neg cg]
    refine (?_ : Ew g none M_R_append d w Q gU (cU1 Q) 0 (m_args 0 [mr 51, iI x]) [] h σ (ck (rng (σ.1 51 1 + 1)) _))
    refine w_ck (fun z4 => ?_)
    intro a9 σ9 hm
    cases hm
    obtain ⟨h8, hR8⟩ := mk σ _ _ c _ _ _ hg z4 hR
    refine ⟨⟨h8, fin σ _ _ c h8 hg hn hR8⟩, by rw [eK]; exact Nat.le_refl _, True.intro, fun mc ms hc => ?_⟩
    have tail := fun mc ms => rap_tail (g := g) (d := d) (w := w) (mc := mc) (ms := ms) (Nat.le_trans (by decide) hF) (Nat.le_trans (by decide) hL) hg hR eN hx z4 (fun h' hR' => hc h' (fin σ _ _ c h' hg hn hR'))
    show Ev g none M_R_append d w 0 [(0, mr 51), (1, iI x)] [] h _ _ Q
    refine e_aload_n d_R_append_0 rfl rfl ?_
    refine z_gi d_R_append_1 f_R_21 hR hly rfl ?_
    refine e_aload_n d_R_append_4 rfl rfl ?_
    refine z_gr d_R_append_5 f_R_9 hR hly rfl ?_
    refine z_len d_R_append_8 hR (lyf_c hg) ?_
    refine z_icmp_lt (tgt := 41) d_R_append_9 (by decide) r2 (by omega) (fun c1 => tail _ _) (fun c1 => ?_)
    refine e_aload_n d_R_append_12 rfl rfl ?_
    refine z_gr d_R_append_13 f_R_9 hR hly rfl ?_
    refine z_len d_R_append_16 hR (lyf_c hg) ?_
    refine e_sipush (v := iv 12000) d_R_append_17 (by decide) ?_
    exact z_icmp_ge (tgt := 41) d_R_append_20 (by decide) (by omega) (by decide) (fun c2 => tail _ _) (fun c2 => absurd c2 (by omega))
/-! a slot's place; an item that was read -/
def f_H_slotAt (s : Int) (σ : SS) : Option ((Nat ⊕ String) × SS) := if s < 0 then ck (rng (σ.1 0 99 + 1)) (some (.inr "java/lang/IllegalArgumentException", thr σ)) else if s < 8 then some (.inl (14 + 2 * s.toNat), σ) else ck (rng (σ.1 0 99 + 1)) (some (.inr "java/lang/IllegalArgumentException", thr σ))
theorem oa6 : m_oa 6 := fun _ => ⟨3, _, rfl, rfl⟩
theorem or0_2 : orf 0 0 2 13 := orf_tb (l := _) rfl rfl
theorem slt_of {k : Nat} (h : k < 8) : slt (14 + 2 * k) := by unfold slt; omega
theorem c_H_slotAt {g : MG} {h : List MC} {σ : SS} {s : Int} (hl : g.1.stackTraces = false) (hW : Wd h σ) (hs : rng s) : Cw g M_H_slotAt 6 90 [mr 0, iI s] (gS2 slt gE) (fun Q => cS2 (cP1 Q) (cE1 Q)) h σ (f_H_slotAt s σ) := by
  refine w_of (fun d w Q hF hL => ?_)
  unfold f_H_slotAt
  have thrown : Ew g none M_H_slotAt d w Q (gS2 slt gE) (cS2 (cP1 Q) (cE1 Q)) 22 [(0, mr 0), (1, iI s)] [] h σ (ck (rng (σ.1 0 99 + 1)) (some (.inr "java/lang/IllegalArgumentException", thr σ))) := by
    refine w_step (fun _ _ k => e_null d_H_slotAt_22 k) ?_
    refine w_step (fun _ _ k => e_astore_n (lv2 := [(2, mn), (0, mr 0), (1, iI s)]) d_H_slotAt_23 rfl (by decide) rfl k) ?_
    refine w_step (fun _ _ k => e_aload_n d_H_slotAt_24 rfl rfl k) ?_
    refine w_step (fun _ _ k => e_ifnonnull0 d_H_slotAt_25 k) ?_
    exact w_throw hl d_H_slotAt_28 d_H_slotAt_31 d_H_slotAt_32 d_H_slotAt_34 d_H_slotAt_37 tw_H_211 rfl (Nat.le_of_ble_eq_true rfl) hF hL hW (fun _ _ _ k => k) True.intro
  show Ew g none M_H_slotAt d w Q (gS2 slt gE) (cS2 (cP1 Q) (cE1 Q)) 0 [(0, mr 0), (1, iI s)] [] h σ _
  refine w_iload_n d_H_slotAt_0 rfl rfl ?_
  refine w_if_lt 22 d_H_slotAt_1 (by decide) hs (fun c1 => thrown) (fun c1 => ?_)
  refine w_iload_n d_H_slotAt_4 rfl rfl ?_
  refine w_aload_n d_H_slotAt_5 rfl rfl ?_
  refine w_gr d_H_slotAt_6 f_H_30 hW or0_2 ?_
  have h13 : h[13]? = some (cR 6 8 (fun k => if k < 8 then some (14 + 2 * k) else none)) := by
    obtain ⟨-, a, b, c, hg, hR⟩ := hW
    exact hR.at 13 _ (lyf_tb hg rfl)
  refine w_step (fun _ _ k => e_alenR d_H_slotAt_9 oa6 h13 (show Ev g none M_H_slotAt d w _ _ (iI 8 :: _) h _ _ Q from k)) ?_
  refine w_icmp_ge 22 d_H_slotAt_10 (by decide) hs (by decide) (fun c2 => ?_) (fun c2 => thrown)
  refine w_aload_n d_H_slotAt_13 rfl rfl ?_
  refine w_gr d_H_slotAt_14 f_H_30 hW or0_2 ?_
  refine w_iload_n d_H_slotAt_17 rfl rfl ?_
  have e8 : (if (iv s).toNatClampNeg < 8 then some (14 + 2 * (iv s).toNatClampNeg) else none) = some (14 + 2 * s.toNat) := by
    rw [iv_cl (by omega) (by omega), if_pos (by omega)]
  refine w_step (fun _ _ k => e_aaload d_H_slotAt_18 oa6 h13 (iv_in (by omega) (by omega) (by decide)) (by rw [e8]; exact k)) ?_
  refine w_goto 23 d_H_slotAt_19 (by decide) ?_
  refine w_astore_n [(2, mr (14 + 2 * s.toNat)), (0, mr 0), (1, iI s)] d_H_slotAt_23 rfl (by decide) rfl ?_
  refine w_aload_n d_H_slotAt_24 rfl rfl ?_
  refine w_step (fun _ _ k => e_ifnonnull1 (tgt := 38) d_H_slotAt_25 (by decide) k) ?_
  refine w_aload_n d_H_slotAt_38 rfl rfl ?_
  exact w_aret d_H_slotAt_39 rfl (Or.inl ⟨_, rfl⟩) hW (fun _ _ _ k => k) (show slt _ from slt_of (by omega))
def f_H_item (i : Int) (σ : SS) : Option ((Int ⊕ String) × SS) := if i < 0 then ck (rng (σ.1 0 99 + 1)) (some (.inr "java/lang/IndexOutOfBoundsException", thr σ)) else if i < σ.1 51 1 then some (.inl (gA σ 52 (σ.1 51 99).toNat i), σ) else ck (rng (σ.1 0 99 + 1)) (some (.inr "java/lang/IndexOutOfBoundsException", thr σ))
theorem c_H_item {g : MG} {h : List MC} {σ : SS} {s : Int} (hl : g.1.stackTraces = false) (hW : Wd h σ) (hs : rng s) : Cw g M_H_item 6 90 [mr 0, iI s] (gS2 rng gE) (fun Q => cS2 (cI1 Q) (cE1 Q)) h σ (f_H_item s σ) := by
  refine w_of (fun d w Q hF hL => ?_)
  unfold f_H_item
  have thrown : Ew g none M_H_item d w Q (gS2 rng gE) (cS2 (cI1 Q) (cE1 Q)) 15 [(0, mr 0), (1, iI s)] [] h σ (ck (rng (σ.1 0 99 + 1)) (some (.inr "java/lang/IndexOutOfBoundsException", thr σ))) := w_throw hl d_H_item_15 d_H_item_18 d_H_item_19 d_H_item_21 d_H_item_24 tw_H_160 rfl (Nat.le_of_ble_eq_true rfl) hF hL hW (fun _ _ _ k => k) True.intro
  show Ew g none M_H_item d w Q (gS2 rng gE) (cS2 (cI1 Q) (cE1 Q)) 0 [(0, mr 0), (1, iI s)] [] h σ _
  refine w_iload_n d_H_item_0 rfl rfl ?_
  refine w_if_lt 15 d_H_item_1 (by decide) hs (fun c1 => thrown) (fun c1 => ?_)
  refine w_iload_n d_H_item_4 rfl rfl ?_
  refine w_aload_n d_H_item_5 rfl rfl ?_
  refine w_gr d_H_item_6 f_H_61 hW or0_6 ?_
  refine w_gi d_H_item_9 f_H_155 hW oi51_1 ?_
  refine w_icmp_lt 25 d_H_item_12 (by decide) hs (hW.rf _ _) (fun c2 => ?_) (fun c2 => thrown)
  refine w_aload_n d_H_item_25 rfl rfl ?_
  refine w_gr d_H_item_26 f_H_61 hW or0_6 ?_
  intro a9 σ9 hm
  cases hm
  refine ⟨⟨h, hW⟩, Nat.le_refl _, hW.ga _ _ _, fun mc ms hc => ?_⟩
  have hh := hc h hW
  obtain ⟨-, a, b, c, hg, hR⟩ := hW
  have hr := toNat_lt (hR.rf 51 99)
  refine z_gr d_H_item_29 f_H_163 hR (show lyf a b c _ _ 51 = some (LO 5 [rf c, nu, nu, rf 53, rf 54]) from rfl) rfl ?_
  refine e_iload_n d_H_item_32 rfl rfl ?_
  refine z_invS (mc1 := 0) (ms1 := 0) (mc2 := 0) (ms2 := 0) (st' := []) (av := [mr c, iI s]) d_H_item_33 me_H_at l_H_167 (c_H_at hR (lyf_c hg) hr hs) rfl rfl (Nat.le_of_ble_eq_true rfl) rfl (Nat.le_of_ble_eq_true rfl) (Nat.le_trans (by decide) hF) (Nat.le_trans (by decide) hL) (by omega) (by omega) (fun r h9 hP => ?_) (fun E h9 hE => hE.elim)
  obtain ⟨rfl, rfl⟩ := hP
  exact z_iret d_H_item_36 rfl hh
