def f_N_isForeign (fu : Nat) (q : Nat) (x2 : Int) (σ : SS) : Option (Int × SS) := ck (rng ((σ.1 45 9) - (σ.1 q 9))) (ck (rng (x2 - ((σ.1 45 9) - (σ.1 q 9)))) (lb (x2 - ((σ.1 45 9) - (σ.1 q 9))) fun y3 => if y3 < 0 then (some (0, σ)) else (sq (f_U_parameterFor fu q y3 σ) fun (a6 : Int) σ7 => if a6 = (-1) then (some (1, σ7)) else (some (0, σ7)))))
theorem c_N_isForeign {g : MG} {fu : Nat} {h : List MC} {σ : SS} {q : Nat} {x2 : Int} (hW : Wd h σ) (hq : cur q) (r2 : rng x2) : Cw g M_N_isForeign 2 43 [mr 42, mr q, iI x2] rng cI1 h σ (f_N_isForeign fu q x2 σ) := by
  refine w_of (fun d w Q hF hL => ?_)
  unfold f_N_isForeign
  show Ew g none M_N_isForeign d w Q rng (cI1 Q) 0 [(0, mr 42), (1, mr q), (2, iI x2)] [] h σ _
  refine w_iload_n d_N_isForeign_0 rfl rfl ?_
  refine w_aload_n d_N_isForeign_1 rfl rfl ?_
  refine w_gr d_N_isForeign_2 f_N_42 hW or42_5 ?_
  refine w_gi d_N_isForeign_5 f_N_142 hW (cur_i9 cur45) ?_
  refine w_aload_n d_N_isForeign_8 rfl rfl ?_
  refine w_gi d_N_isForeign_9 f_N_142 hW (cur_i9 hq) ?_
  refine w_isub d_N_isForeign_12 (fun c1 => ?_)
  refine w_isub d_N_isForeign_13 (fun c2 => ?_)
  refine w_top (fun y3 e4 => ?_)
  have ry3 : rng y3 := e4 ▸ c2
  refine w_istore_n [(3, iI y3), (0, mr 42), (1, mr q), (2, iI x2)] d_N_isForeign_14 rfl (by decide) rfl ?_
  refine w_iload_n d_N_isForeign_15 rfl rfl ?_
  refine w_if_lt 32 d_N_isForeign_16 (by decide) ry3 (fun c5 => ?_) (fun c5 => ?_)
  · refine w_iconst d_N_isForeign_32 ?_
    exact w_zret d_N_isForeign_33 rfl (by decide) hW (fun _ _ _ k => k) (show rng 0 by decide)
  · refine w_aload_n d_N_isForeign_19 rfl rfl ?_
    refine w_iload_n d_N_isForeign_20 rfl rfl ?_
    refine w_cVI [iI y3] [] d_N_isForeign_21 me_U_parameterFor l_N_96 hW (c_U_parameterFor hW hq ry3) rfl rfl (Nat.le_of_ble_eq_true rfl) rfl (Nat.le_of_ble_eq_true rfl) (Nat.le_trans (Nat.le_of_ble_eq_true rfl) hF) (Nat.le_trans (Nat.le_of_ble_eq_true rfl) hL) (cur_ob hq) ⟨_, _, rfl⟩ (fun a6 σ7 h8 W9 q10 => ?_)
    refine w_iconst d_N_isForeign_24 ?_
    refine w_icmp_ne 32 d_N_isForeign_25 (by decide) q10 (show rng (-1) by decide) (fun c11 => ?_) (fun c11 => ?_)
    · refine w_iconst d_N_isForeign_28 ?_
      refine w_goto 33 d_N_isForeign_29 (by decide) ?_
      exact w_zret d_N_isForeign_33 rfl (by decide) W9 (fun _ _ _ k => k) (show rng 1 by decide)
    · refine w_iconst d_N_isForeign_32 ?_
      exact w_zret d_N_isForeign_33 rfl (by decide) W9 (fun _ _ _ k => k) (show rng 0 by decide)
def l_N_dropForeign_4 (fu : Nat) (q : Nat) : Nat → Int → Int → SS → Option ((Int) × SS)
  | 0, _, _, _ => none
  | n + 1, x2, x3, σ => if x3 < (σ.1 45 11) then (sq (f_N_isForeign fu q (gA σ (45 + 5) 4 x3) σ) fun (a2 : Int) σ3 => sq (if a2 = 0 then (lb (gS σ3 43 4 x2 x3) fun σ9 => ck (rng (x2 + 1)) (some ((x2 + 1), σ9))) else (some (x2, σ3))) fun (z13 : Int) σ14 => ck (rng (x3 + 1)) (l_N_dropForeign_4 fu q n z13 (x3 + 1) σ14)) else (some (x2, σ))
def f_N_dropForeign (fu : Nat) (q : Nat) (σ : SS) : Option (Int × SS) := sq (l_N_dropForeign_4 fu q fu 0 0 σ) fun (z1 : Int) σ2 => if z1 = (σ2.1 45 11) then (some (0, σ2)) else (sq (f_G_makeNew z1 σ2) fun (a7 : Int) σ8 => sq (f_G_fillWithHole fu (σ2.1 45 8) a7 43 σ8) fun (a12 : Int) σ13 => if a12 = 0 then (some (5, σ13)) else (some (0, σ13)))
theorem w_N_dropForeign_4 {g : MG} {d w fu : Nat} {Q : MO → List MC → Prop} {q : Nat} (hF : 4 ≤ d) (hL : 96 ≤ w) (hq : cur q) : ∀ (n : Nat) (x2 : Int) (x3 : Int) (σ : SS) (h : List MC), Wd h σ → rng x2 → rng x3 → Ew g none M_N_dropForeign d w Q rng (cJ g none M_N_dropForeign d w Q 52 (fun x => [(0, mr 42), (2, iI x)]) (fun x => [])) 4 [(0, mr 42), (1, mr q), (2, iI x2), (3, iI x3)] [] h σ (l_N_dropForeign_4 fu q n x2 x3 σ) := by
  intro n
  induction n with
  | zero =>
    intro x2 x3 σ h hW r2 r3 a9 σ9 hm
    rw [l_N_dropForeign_4] at hm
    cases hm
  | succ n ih =>
    intro x2 x3 σ h hW r2 r3
    rw [l_N_dropForeign_4]
    refine w_iload_n d_N_dropForeign_4 rfl rfl ?_
    refine w_aload_n d_N_dropForeign_5 rfl rfl ?_
    refine w_gr d_N_dropForeign_6 f_N_42 hW or42_5 ?_
    refine w_gi d_N_dropForeign_9 f_N_72 hW (cur_i11 cur45) ?_
    refine w_icmp_ge 52 d_N_dropForeign_12 (by decide) r3 (hW.rf _ _) (fun c1 => ?_) (fun c1 => ?_)
    · refine w_aload_n d_N_dropForeign_15 rfl rfl ?_
      refine w_aload_n d_N_dropForeign_16 rfl rfl ?_
      refine w_aload_n d_N_dropForeign_17 rfl rfl ?_
      refine w_gr d_N_dropForeign_18 f_N_42 hW or42_5 ?_
      refine w_gr d_N_dropForeign_21 f_N_75 hW (cur_r10 cur45) ?_
      refine w_iload_n d_N_dropForeign_24 rfl rfl ?_
      refine w_at d_N_dropForeign_25 l_N_78 hW (cur_a5 cur45) r3 (Nat.le_of_ble_eq_true rfl) (Nat.le_trans (Nat.le_of_ble_eq_true rfl) hF) (Nat.le_trans (Nat.le_of_ble_eq_true rfl) hL) ?_
      refine w_cVI [mr q, iI (gA σ (45 + 5) 4 x3)] [] d_N_dropForeign_28 me_N_isForeign l_N_126 hW (c_N_isForeign hW hq (hW.ga _ _ _)) rfl rfl (Nat.le_of_ble_eq_true rfl) rfl (Nat.le_of_ble_eq_true rfl) (Nat.le_trans (Nat.le_of_ble_eq_true rfl) hF) (Nat.le_trans (Nat.le_of_ble_eq_true rfl) hL) ob42 ⟨_, _, rfl⟩ (fun a2 σ3 h4 W5 q6 => ?_)
      refine w_sq (G1 := rng) (J := 46) (lvJ := fun x => [(0, mr 42), (1, mr q), (2, iI x), (3, iI x3)]) (stJ := fun x => []) ?_ (fun z13 σ14 h15 W16 q17 => ?_)
      · refine w_if_ne 46 d_N_dropForeign_31 (by decide) q6 (fun c7 => ?_) (fun c7 => ?_)
        · refine w_aload_n d_N_dropForeign_34 rfl rfl ?_
          refine w_gr d_N_dropForeign_35 f_N_9 W5 or42_6 ?_
          refine w_iload_n d_N_dropForeign_38 rfl rfl ?_
          refine w_iload_n d_N_dropForeign_39 rfl rfl ?_
          refine w_set d_N_dropForeign_40 l_N_82 W5 ia43 r2 r3 (Nat.le_of_ble_eq_true rfl) (Nat.le_trans (Nat.le_of_ble_eq_true rfl) hF) (Nat.le_trans (Nat.le_of_ble_eq_true rfl) hL) (fun h8 σ9 e10 W11 => ?_)
          refine w_iinc [(2, iI (x2 + 1)), (0, mr 42), (1, mr q), (3, iI x3)] d_N_dropForeign_43 rfl (by decide) rfl (fun c12 => ?_)
          exact w_exit [(0, mr 42), (1, mr q), (2, iI (x2 + 1)), (3, iI x3)] (m_sc2 rfl (m_sc2 rfl (m_sc2 rfl (m_sc2 rfl (m_sn _))))) W11 (fun _ _ _ k => k) c12
        · exact w_exit [(0, mr 42), (1, mr q), (2, iI x2), (3, iI x3)] (m_sc2 rfl (m_sc2 rfl (m_sc2 rfl (m_sc2 rfl (m_sn _))))) W5 (fun _ _ _ k => k) r2
      · show Ew _ _ _ _ _ _ _ _ 46 [(0, mr 42), (1, mr q), (2, iI z13), (3, iI x3)] [] _ _ _
        refine w_iinc [(3, iI (x3 + 1)), (0, mr 42), (1, mr q), (2, iI z13)] d_N_dropForeign_46 rfl (by decide) rfl (fun c18 => ?_)
        refine w_goto 4 d_N_dropForeign_49 (by decide) ?_
        exact w_sub (m_sc2 rfl (m_sc2 rfl (m_sc2 rfl (m_sc2 rfl (m_sn _))))) (ih z13 (x3 + 1) _ _ W16 q17 c18)
    · exact w_exit [(0, mr 42), (2, iI x2)] (m_sc2 rfl (m_sc2 rfl (m_sn _))) hW (fun _ _ _ k => k) r2
theorem c_N_dropForeign {g : MG} {fu : Nat} {h : List MC} {σ : SS} {q : Nat} (hW : Wd h σ) (hq : cur q) : Cw g M_N_dropForeign 4 96 [mr 42, mr q] rng cI1 h σ (f_N_dropForeign fu q σ) := by
  refine w_of (fun d w Q hF hL => ?_)
  unfold f_N_dropForeign
  show Ew g none M_N_dropForeign d w Q rng (cI1 Q) 0 [(0, mr 42), (1, mr q)] [] h σ _
  refine w_iconst d_N_dropForeign_0 ?_
  refine w_istore_n [(2, iI 0), (0, mr 42), (1, mr q)] d_N_dropForeign_1 rfl (by decide) rfl ?_
  refine w_iconst d_N_dropForeign_2 ?_
  refine w_istore_n [(3, iI 0), (2, iI 0), (0, mr 42), (1, mr q)] d_N_dropForeign_3 rfl (by decide) rfl ?_
  refine w_sq (G1 := rng) (J := 52) (lvJ := fun x => [(0, mr 42), (2, iI x)]) (stJ := fun x => []) (w_sub (m_sc2 rfl (m_sc2 rfl (m_sc2 rfl (m_sc2 rfl (m_sn _))))) (w_N_dropForeign_4 hF hL hq fu 0 0 _ _ hW (show rng 0 by decide) (show rng 0 by decide))) (fun z1 σ2 h3 W4 q5 => ?_)
  show Ew _ _ _ _ _ _ _ _ 52 [(0, mr 42), (2, iI z1)] [] _ _ _
  refine w_iload_n d_N_dropForeign_52 rfl rfl ?_
  refine w_aload_n d_N_dropForeign_53 rfl rfl ?_
  refine w_gr d_N_dropForeign_54 f_N_42 W4 or42_5 ?_
  refine w_gi d_N_dropForeign_57 f_N_72 W4 (cur_i11 cur45) ?_
  refine w_icmp_ne 65 d_N_dropForeign_60 (by decide) q5 (W4.rf _ _) (fun c6 => ?_) (fun c6 => ?_)
  · refine w_iconst d_N_dropForeign_63 ?_
    exact w_iret d_N_dropForeign_64 rfl W4 (fun _ _ _ k => k) (show rng 0 by decide)
  · refine w_aload_n d_N_dropForeign_65 rfl rfl ?_
    refine w_gr d_N_dropForeign_66 f_N_22 W4 or42_1 ?_
    refine w_aload_n d_N_dropForeign_69 rfl rfl ?_
    refine w_gr d_N_dropForeign_70 f_N_42 W4 or42_5 ?_
    refine w_gi d_N_dropForeign_73 f_N_54 W4 (cur_i8 cur45) ?_
    refine w_aload_n d_N_dropForeign_76 rfl rfl ?_
    refine w_gr d_N_dropForeign_77 f_N_22 W4 or42_1 ?_
    refine w_iload_n d_N_dropForeign_80 rfl rfl ?_
    refine w_cVI [iI z1] [iI (σ2.1 45 8), mr 7] d_N_dropForeign_81 me_G_makeNew l_N_86 W4 (c_G_makeNew W4 q5) rfl rfl (Nat.le_of_ble_eq_true rfl) rfl (Nat.le_of_ble_eq_true rfl) (Nat.le_trans (Nat.le_of_ble_eq_true rfl) hF) (Nat.le_trans (Nat.le_of_ble_eq_true rfl) hL) ob7 ⟨_, _, rfl⟩ (fun a7 σ8 h9 W10 q11 => ?_)
    refine w_aload_n d_N_dropForeign_84 rfl rfl ?_
    refine w_gr d_N_dropForeign_85 f_N_9 W10 or42_6 ?_
    refine w_cVI [iI (σ2.1 45 8), iI a7, mr 43] [] d_N_dropForeign_88 me_G_fillWithHole l_N_92 W10 (c_G_fillWithHole W10 (W4.rf _ _) q11 ia43) rfl rfl (Nat.le_of_ble_eq_true rfl) rfl (Nat.le_of_ble_eq_true rfl) (Nat.le_trans (Nat.le_of_ble_eq_true rfl) hF) (Nat.le_trans (Nat.le_of_ble_eq_true rfl) hL) ob7 ⟨_, _, rfl⟩ (fun a12 σ13 h14 W15 q16 => ?_)
    refine w_istore_n [(3, iI a12), (0, mr 42), (2, iI z1)] d_N_dropForeign_91 rfl (by decide) rfl ?_
    refine w_iload_n d_N_dropForeign_92 rfl rfl ?_
    refine w_if_eq 100 d_N_dropForeign_93 (by decide) q16 (fun c17 => ?_) (fun c17 => ?_)
    · refine w_iconst d_N_dropForeign_100 ?_
      exact w_iret d_N_dropForeign_101 rfl W15 (fun _ _ _ k => k) (show rng 5 by decide)
    · refine w_iconst d_N_dropForeign_96 ?_
      refine w_goto 101 d_N_dropForeign_97 (by decide) ?_
      exact w_iret d_N_dropForeign_101 rfl W15 (fun _ _ _ k => k) (show rng 0 by decide)
def f_N_dueAfter (q : Nat) (x2 : Int) (σ : SS) : Option (Int × SS) := if (σ.1 q 7) = 1 then (sq (f_O_arityOf (σ.1 q 8) σ) fun (a2 : Int) σ3 => ck (rng (x2 - 1)) (ck (rng ((x2 - 1) + a2)) (some (((x2 - 1) + a2), σ3)))) else (ck (rng (x2 - 1)) (ck (rng ((x2 - 1) + 0)) (some (((x2 - 1) + 0), σ))))
theorem c_N_dueAfter {g : MG} {h : List MC} {σ : SS} {q : Nat} {x2 : Int} (hW : Wd h σ) (hq : cur q) (r2 : rng x2) : Cw g M_N_dueAfter 2 42 [mr 42, mr q, iI x2] rng cI1 h σ (f_N_dueAfter q x2 σ) := by
  refine w_of (fun d w Q hF hL => ?_)
  unfold f_N_dueAfter
  show Ew g none M_N_dueAfter d w Q rng (cI1 Q) 0 [(0, mr 42), (1, mr q), (2, iI x2)] [] h σ _
  refine w_aload_n d_N_dueAfter_0 rfl rfl ?_
  refine w_gi d_N_dueAfter_1 f_N_50 hW (cur_i7 hq) ?_
  refine w_iconst d_N_dueAfter_4 ?_
  refine w_icmp_ne 22 d_N_dueAfter_5 (by decide) (hW.rf _ _) (show rng 1 by decide) (fun c1 => ?_) (fun c1 => ?_)
  · refine w_aload_n d_N_dueAfter_8 rfl rfl ?_
    refine w_gr d_N_dueAfter_9 f_N_26 hW or42_2 ?_
    refine w_aload_n d_N_dueAfter_12 rfl rfl ?_
    refine w_gi d_N_dueAfter_13 f_N_54 hW (cur_i8 hq) ?_
    refine w_cVI [iI (σ.1 q 8)] [] d_N_dueAfter_16 me_O_arityOf l_N_137 hW (c_O_arityOf hW (hW.rf _ _)) rfl rfl (Nat.le_of_ble_eq_true rfl) rfl (Nat.le_of_ble_eq_true rfl) (Nat.le_trans (Nat.le_of_ble_eq_true rfl) hF) (Nat.le_trans (Nat.le_of_ble_eq_true rfl) hL) ob4 ⟨_, _, rfl⟩ (fun a2 σ3 h4 W5 q6 => ?_)
    refine w_goto 23 d_N_dueAfter_19 (by decide) ?_
    refine w_istore_n [(3, iI a2), (0, mr 42), (1, mr q), (2, iI x2)] d_N_dueAfter_23 rfl (by decide) rfl ?_
    refine w_iload_n d_N_dueAfter_24 rfl rfl ?_
    refine w_iconst d_N_dueAfter_25 ?_
    refine w_isub d_N_dueAfter_26 (fun c7 => ?_)
    refine w_iload_n d_N_dueAfter_27 rfl rfl ?_
    refine w_iadd d_N_dueAfter_28 (fun c8 => ?_)
    exact w_iret d_N_dueAfter_29 rfl W5 (fun _ _ _ k => k) c8
  · refine w_iconst d_N_dueAfter_22 ?_
    refine w_istore_n [(3, iI 0), (0, mr 42), (1, mr q), (2, iI x2)] d_N_dueAfter_23 rfl (by decide) rfl ?_
    refine w_iload_n d_N_dueAfter_24 rfl rfl ?_
    refine w_iconst d_N_dueAfter_25 ?_
    refine w_isub d_N_dueAfter_26 (fun c9 => ?_)
    refine w_iload_n d_N_dueAfter_27 rfl rfl ?_
    refine w_iadd d_N_dueAfter_28 (fun c10 => ?_)
    exact w_iret d_N_dueAfter_29 rfl hW (fun _ _ _ k => k) c10
def l_N_admitTerm_9 (fu : Nat) (q : Nat) : Nat → Int → Int → SS → Option ((Int ⊕ (Unit)) × SS)
  | 0, _, _, _ => none
  | n + 1, x2, x3, σ => if x3 < 1000000 then (ck (rng ((σ.1 42 8) + 1)) (lb (sF σ 42 8 ((σ.1 42 8) + 1)) fun σ4 => sq (if (σ4.1 45 7) = 0 then (sq (f_N_isForeign fu q (σ4.1 45 8) σ4) fun (a8 : Int) σ9 => sq (if a8 = 0 then (some (0, σ9)) else (some (2, σ9))) fun (z14 : Int) σ15 => some (z14, σ15)) else (if (σ4.1 45 7) = 2 then (sq (if (σ4.1 45 8) = (σ4.1 q 8) then (some (3, σ4)) else (sq (f_N_dropForeign fu q σ4) fun (a21 : Int) σ22 => some (a21, σ22))) fun (z26 : Int) σ27 => some (z26, σ27)) else (some (0, σ4)))) fun (z31 : Int) σ32 => sq (f_N_dueAfter 45 x2 σ32) fun (a36 : Int) σ37 => if z31 = 0 then (if a36 = 0 then (some (.inl z31, σ37)) else (sq (f_U_advance fu 45 σ37) fun (a43 : Int) σ44 => if a43 = 0 then (some (.inl z31, σ44)) else (ck (rng (x3 + 1)) (l_N_admitTerm_9 fu q n a36 (x3 + 1) σ44)))) else (some (.inl z31, σ37)))) else (some (.inr (), σ))
def f_N_admitTerm (fu : Nat) (q : Nat) (σ : SS) : Option (Int × SS) := lb (sF σ 42 8 0) fun σ2 => sr (l_N_admitTerm_9 fu q fu 1 0 σ2) fun (z5 : Unit) σ6 => some (0, σ6)
theorem w_N_admitTerm_9 {g : MG} {d w fu : Nat} {Q : MO → List MC → Prop} {q : Nat} (hF : 5 ≤ d) (hL : 119 ≤ w) (hq : cur q) : ∀ (n : Nat) (x2 : Int) (x3 : Int) (σ : SS) (h : List MC), Wd h σ → rng x2 → rng x3 → Ew g none M_N_admitTerm d w Q (gS2 rng gU) (cS2 (cI1 Q) (cJ g none M_N_admitTerm d w Q 137 (fun x => []) (fun x => []))) 9 [(0, mr 42), (1, mr q), (2, iI x2), (3, iI x3)] [] h σ (l_N_admitTerm_9 fu q n x2 x3 σ) := by
  intro n
  induction n with
  | zero =>
    intro x2 x3 σ h hW r2 r3 a9 σ9 hm
    rw [l_N_admitTerm_9] at hm
    cases hm
  | succ n ih =>
    intro x2 x3 σ h hW r2 r3
    rw [l_N_admitTerm_9]
    refine w_iload_n d_N_admitTerm_9 rfl rfl ?_
    refine w_ldc 1000000 d_N_admitTerm_10 k_N_45 (by decide) ?_
    refine w_icmp_ge 137 d_N_admitTerm_12 (by decide) r3 (show rng 1000000 by decide) (fun c1 => ?_) (fun c1 => ?_)
    · refine w_aload_n d_N_admitTerm_15 rfl rfl ?_
      refine w_dup d_N_admitTerm_16 rfl ?_
      refine w_gi d_N_admitTerm_17 f_N_107 hW oi42_8 ?_
      refine w_iconst d_N_admitTerm_20 ?_
      refine w_iadd d_N_admitTerm_21 (fun c2 => ?_)
      refine w_pi d_N_admitTerm_22 p_N_107 hW oi42_8 (by decide) c2 (fun h3 σ4 e5 W6 => ?_)
      refine w_iconst d_N_admitTerm_25 ?_
      refine w_istore [(4, iI 0), (0, mr 42), (1, mr q), (2, iI x2), (3, iI x3)] d_N_admitTerm_26 (by decide) rfl ?_
      refine w_aload_n d_N_admitTerm_28 rfl rfl ?_
      refine w_gr d_N_admitTerm_29 f_N_42 W6 or42_5 ?_
      refine w_gi d_N_admitTerm_32 f_N_50 W6 (cur_i7 cur45) ?_
      refine w_sq (G1 := rng) (J := 99) (lvJ := fun x => [(0, mr 42), (1, mr q), (2, iI x2), (3, iI x3), (4, iI x)]) (stJ := fun x => []) ?_ (fun z31 σ32 h33 W34 q35 => ?_)
      · refine w_if_ne 63 d_N_admitTerm_35 (by decide) (W6.rf _ _) (fun c7 => ?_) (fun c7 => ?_)
        · refine w_aload_n d_N_admitTerm_38 rfl rfl ?_
          refine w_aload_n d_N_admitTerm_39 rfl rfl ?_
          refine w_aload_n d_N_admitTerm_40 rfl rfl ?_
          refine w_gr d_N_admitTerm_41 f_N_42 W6 or42_5 ?_
          refine w_gi d_N_admitTerm_44 f_N_54 W6 (cur_i8 cur45) ?_
          refine w_cVI [mr q, iI (σ4.1 45 8)] [] d_N_admitTerm_47 me_N_isForeign l_N_126 W6 (c_N_isForeign W6 hq (W6.rf _ _)) rfl rfl (Nat.le_of_ble_eq_true rfl) rfl (Nat.le_of_ble_eq_true rfl) (Nat.le_trans (Nat.le_of_ble_eq_true rfl) hF) (Nat.le_trans (Nat.le_of_ble_eq_true rfl) hL) ob42 ⟨_, _, rfl⟩ (fun a8 σ9 h10 W11 q12 => ?_)
          refine w_sq (G1 := rng) (J := 58) (lvJ := fun x => [(0, mr 42), (1, mr q), (2, iI x2), (3, iI x3)]) (stJ := fun x => [iI x]) ?_ (fun z14 σ15 h16 W17 q18 => ?_)
          · refine w_if_eq 57 d_N_admitTerm_50 (by decide) q12 (fun c13 => ?_) (fun c13 => ?_)
            · refine w_iconst d_N_admitTerm_57 ?_
              exact w_exit [(0, mr 42), (1, mr q), (2, iI x2), (3, iI x3)] (m_sc2 rfl (m_sc2 rfl (m_sc2 rfl (m_sc2 rfl (m_sn _))))) W11 (fun _ _ _ k => k) (show rng 0 by decide)
            · refine w_iconst d_N_admitTerm_53 ?_
              refine w_goto 58 d_N_admitTerm_54 (by decide) ?_
              exact w_exit [(0, mr 42), (1, mr q), (2, iI x2), (3, iI x3)] (m_sc2 rfl (m_sc2 rfl (m_sc2 rfl (m_sc2 rfl (m_sn _))))) W11 (fun _ _ _ k => k) (show rng 2 by decide)
          · show Ew _ _ _ _ _ _ _ _ 58 [(0, mr 42), (1, mr q), (2, iI x2), (3, iI x3)] [iI z14] _ _ _
            refine w_istore [(4, iI z14), (0, mr 42), (1, mr q), (2, iI x2), (3, iI x3)] d_N_admitTerm_58 (by decide) rfl ?_
            refine w_goto 99 d_N_admitTerm_60 (by decide) ?_
            exact w_exit [(0, mr 42), (1, mr q), (2, iI x2), (3, iI x3), (4, iI z14)] (m_sc2 rfl (m_sc2 rfl (m_sc2 rfl (m_sc2 rfl (m_sc2 rfl (m_sn _)))))) W17 (fun _ _ _ k => k) q18
        · refine w_aload_n d_N_admitTerm_63 rfl rfl ?_
          refine w_gr d_N_admitTerm_64 f_N_42 W6 or42_5 ?_
          refine w_gi d_N_admitTerm_67 f_N_50 W6 (cur_i7 cur45) ?_
          refine w_iconst d_N_admitTerm_70 ?_
          refine w_icmp_ne 99 d_N_admitTerm_71 (by decide) (W6.rf _ _) (show rng 2 by decide) (fun c19 => ?_) (fun c19 => ?_)
          · refine w_aload_n d_N_admitTerm_74 rfl rfl ?_
            refine w_gr d_N_admitTerm_75 f_N_42 W6 or42_5 ?_
            refine w_gi d_N_admitTerm_78 f_N_54 W6 (cur_i8 cur45) ?_
            refine w_aload_n d_N_admitTerm_81 rfl rfl ?_
            refine w_gi d_N_admitTerm_82 f_N_54 W6 (cur_i8 hq) ?_
            refine w_sq (G1 := rng) (J := 97) (lvJ := fun x => [(0, mr 42), (1, mr q), (2, iI x2), (3, iI x3)]) (stJ := fun x => [iI x]) ?_ (fun z26 σ27 h28 W29 q30 => ?_)
            · refine w_icmp_ne 92 d_N_admitTerm_85 (by decide) (W6.rf _ _) (W6.rf _ _) (fun c20 => ?_) (fun c20 => ?_)
              · refine w_iconst d_N_admitTerm_88 ?_
                refine w_goto 97 d_N_admitTerm_89 (by decide) ?_
                exact w_exit [(0, mr 42), (1, mr q), (2, iI x2), (3, iI x3)] (m_sc2 rfl (m_sc2 rfl (m_sc2 rfl (m_sc2 rfl (m_sn _))))) W6 (fun _ _ _ k => k) (show rng 3 by decide)
              · refine w_aload_n d_N_admitTerm_92 rfl rfl ?_
                refine w_aload_n d_N_admitTerm_93 rfl rfl ?_
                refine w_cVI [mr q] [] d_N_admitTerm_94 me_N_dropForeign l_N_130 W6 (c_N_dropForeign W6 hq) rfl rfl (Nat.le_of_ble_eq_true rfl) rfl (Nat.le_of_ble_eq_true rfl) (Nat.le_trans (Nat.le_of_ble_eq_true rfl) hF) (Nat.le_trans (Nat.le_of_ble_eq_true rfl) hL) ob42 ⟨_, _, rfl⟩ (fun a21 σ22 h23 W24 q25 => ?_)
                exact w_exit [(0, mr 42), (1, mr q), (2, iI x2), (3, iI x3)] (m_sc2 rfl (m_sc2 rfl (m_sc2 rfl (m_sc2 rfl (m_sn _))))) W24 (fun _ _ _ k => k) q25
            · show Ew _ _ _ _ _ _ _ _ 97 [(0, mr 42), (1, mr q), (2, iI x2), (3, iI x3)] [iI z26] _ _ _
              refine w_istore [(4, iI z26), (0, mr 42), (1, mr q), (2, iI x2), (3, iI x3)] d_N_admitTerm_97 (by decide) rfl ?_
              exact w_exit [(0, mr 42), (1, mr q), (2, iI x2), (3, iI x3), (4, iI z26)] (m_sc2 rfl (m_sc2 rfl (m_sc2 rfl (m_sc2 rfl (m_sc2 rfl (m_sn _)))))) W29 (fun _ _ _ k => k) q30
          · exact w_exit [(0, mr 42), (1, mr q), (2, iI x2), (3, iI x3), (4, iI 0)] (m_sc2 rfl (m_sc2 rfl (m_sc2 rfl (m_sc2 rfl (m_sc2 rfl (m_sn _)))))) W6 (fun _ _ _ k => k) (show rng 0 by decide)
      · show Ew _ _ _ _ _ _ _ _ 99 [(0, mr 42), (1, mr q), (2, iI x2), (3, iI x3), (4, iI z31)] [] _ _ _
        refine w_aload_n d_N_admitTerm_99 rfl rfl ?_
        refine w_aload_n d_N_admitTerm_100 rfl rfl ?_
        refine w_gr d_N_admitTerm_101 f_N_42 W34 or42_5 ?_
        refine w_iload_n d_N_admitTerm_104 rfl rfl ?_
        refine w_cVI [mr 45, iI x2] [] d_N_admitTerm_105 me_N_dueAfter l_N_133 W34 (c_N_dueAfter W34 cur45 r2) rfl rfl (Nat.le_of_ble_eq_true rfl) rfl (Nat.le_of_ble_eq_true rfl) (Nat.le_trans (Nat.le_of_ble_eq_true rfl) hF) (Nat.le_trans (Nat.le_of_ble_eq_true rfl) hL) ob42 ⟨_, _, rfl⟩ (fun a36 σ37 h38 W39 q40 => ?_)
        refine w_istore_n [(2, iI a36), (0, mr 42), (1, mr q), (3, iI x3), (4, iI z31)] d_N_admitTerm_108 rfl (by decide) rfl ?_
        refine w_iload d_N_admitTerm_109 rfl ?_
        refine w_if_ne 128 d_N_admitTerm_111 (by decide) q35 (fun c41 => ?_) (fun c41 => ?_)
        · refine w_iload_n d_N_admitTerm_114 rfl rfl ?_
          refine w_if_eq 128 d_N_admitTerm_115 (by decide) q40 (fun c42 => ?_) (fun c42 => ?_)
          · refine w_iload d_N_admitTerm_128 rfl ?_
            exact w_iret d_N_admitTerm_130 rfl W39 (fun _ _ _ k => k) q35
          · refine w_aload_n d_N_admitTerm_118 rfl rfl ?_
            refine w_gr d_N_admitTerm_119 f_N_42 W39 or42_5 ?_
            refine w_cVI [] [] d_N_admitTerm_122 me_U_advance l_N_46 W39 (c_U_advance W39 cur45) rfl rfl (Nat.le_of_ble_eq_true rfl) rfl (Nat.le_of_ble_eq_true rfl) (Nat.le_trans (Nat.le_of_ble_eq_true rfl) hF) (Nat.le_trans (Nat.le_of_ble_eq_true rfl) hL) (cur_ob cur45) ⟨_, _, rfl⟩ (fun a43 σ44 h45 W46 q47 => ?_)
            refine w_if_ne 131 d_N_admitTerm_125 (by decide) q47 (fun c48 => ?_) (fun c48 => ?_)
            · refine w_iload d_N_admitTerm_128 rfl ?_
              exact w_iret d_N_admitTerm_130 rfl W46 (fun _ _ _ k => k) q35
            · refine w_iinc [(3, iI (x3 + 1)), (2, iI a36), (0, mr 42), (1, mr q), (4, iI z31)] d_N_admitTerm_131 rfl (by decide) rfl (fun c49 => ?_)
              refine w_goto 9 d_N_admitTerm_134 (by decide) ?_
              exact w_sub (m_sc2 rfl (m_sc2 rfl (m_sc2 rfl (m_sc2 rfl (m_sn _))))) (ih a36 (x3 + 1) _ _ W46 q40 c49)
        · refine w_iload d_N_admitTerm_128 rfl ?_
          exact w_iret d_N_admitTerm_130 rfl W39 (fun _ _ _ k => k) q35
    · exact w_exit [] (m_sn _) hW (fun _ _ _ k => k) True.intro
theorem c_N_admitTerm {g : MG} {fu : Nat} {h : List MC} {σ : SS} {q : Nat} (hW : Wd h σ) (hq : cur q) : Cw g M_N_admitTerm 5 119 [mr 42, mr q] rng cI1 h σ (f_N_admitTerm fu q σ) := by
  refine w_of (fun d w Q hF hL => ?_)
  unfold f_N_admitTerm
  show Ew g none M_N_admitTerm d w Q rng (cI1 Q) 0 [(0, mr 42), (1, mr q)] [] h σ _
  refine w_aload_n d_N_admitTerm_0 rfl rfl ?_
  refine w_iconst d_N_admitTerm_1 ?_
  refine w_pi d_N_admitTerm_2 p_N_107 hW oi42_8 (by decide) (show rng 0 by decide) (fun h1 σ2 e3 W4 => ?_)
  refine w_iconst d_N_admitTerm_5 ?_
  refine w_istore_n [(2, iI 1), (0, mr 42), (1, mr q)] d_N_admitTerm_6 rfl (by decide) rfl ?_
  refine w_iconst d_N_admitTerm_7 ?_
  refine w_istore_n [(3, iI 0), (2, iI 1), (0, mr 42), (1, mr q)] d_N_admitTerm_8 rfl (by decide) rfl ?_
  refine w_sr (G1 := gU) (J := 137) (lvJ := fun x => []) (stJ := fun x => []) (w_sub (m_sc2 rfl (m_sc2 rfl (m_sc2 rfl (m_sc2 rfl (m_sn _))))) (w_N_admitTerm_9 hF hL hq fu 1 0 _ _ W4 (show rng 1 by decide) (show rng 0 by decide))) (fun z5 σ6 h7 W8 q9 => ?_)
  show Ew _ _ _ _ _ _ _ _ 137 [] [] _ _ _
  refine w_iconst d_N_admitTerm_137 ?_
  exact w_iret d_N_admitTerm_138 rfl W8 (fun _ _ _ k => k) (show rng 0 by decide)
def f_N_inside (fu : Nat) (q : Nat) (x2 : Int) (x3 : Int) (σ : SS) : Option (Int × SS) := if x2 < x3 then (some (x2, σ)) else (ck (rng (x2 - x3)) (sq (f_U_parameterFor fu q (x2 - x3) σ) fun (a3 : Int) σ4 => ck (rng (a3 + x3)) (some ((a3 + x3), σ4))))
theorem c_N_inside {g : MG} {fu : Nat} {h : List MC} {σ : SS} {q : Nat} {x2 : Int} {x3 : Int} (hW : Wd h σ) (hq : cur q) (r2 : rng x2) (r3 : rng x3) : Cw g M_N_inside 2 43 [mr 42, mr q, iI x2, iI x3] rng cI1 h σ (f_N_inside fu q x2 x3 σ) := by
  refine w_of (fun d w Q hF hL => ?_)
  unfold f_N_inside
  show Ew g none M_N_inside d w Q rng (cI1 Q) 0 [(0, mr 42), (1, mr q), (2, iI x2), (3, iI x3)] [] h σ _
  refine w_iload_n d_N_inside_0 rfl rfl ?_
  refine w_iload_n d_N_inside_1 rfl rfl ?_
  refine w_icmp_ge 9 d_N_inside_2 (by decide) r2 r3 (fun c1 => ?_) (fun c1 => ?_)
  · refine w_iload_n d_N_inside_5 rfl rfl ?_
    refine w_goto 18 d_N_inside_6 (by decide) ?_
    exact w_iret d_N_inside_18 rfl hW (fun _ _ _ k => k) r2
  · refine w_aload_n d_N_inside_9 rfl rfl ?_
    refine w_iload_n d_N_inside_10 rfl rfl ?_
    refine w_iload_n d_N_inside_11 rfl rfl ?_
    refine w_isub d_N_inside_12 (fun c2 => ?_)
    refine w_cVI [iI (x2 - x3)] [] d_N_inside_13 me_U_parameterFor l_N_96 hW (c_U_parameterFor hW hq c2) rfl rfl (Nat.le_of_ble_eq_true rfl) rfl (Nat.le_of_ble_eq_true rfl) (Nat.le_trans (Nat.le_of_ble_eq_true rfl) hF) (Nat.le_trans (Nat.le_of_ble_eq_true rfl) hL) (cur_ob hq) ⟨_, _, rfl⟩ (fun a3 σ4 h5 W6 q7 => ?_)
    refine w_iload_n d_N_inside_16 rfl rfl ?_
    refine w_iadd d_N_inside_17 (fun c8 => ?_)
    exact w_iret d_N_inside_18 rfl W6 (fun _ _ _ k => k) c8
def l_N_copyHere_56 (fu : Nat) (q : Nat) (r : Nat) : Nat → Int → Int → SS → Option ((Unit) × SS)
  | 0, _, _, _ => none
  | n + 1, x3, x5, σ => if x5 < (σ.1 r 11) then (sq (f_N_inside fu q (gA σ (r + 5) 4 x5) x3 σ) fun (a2 : Int) σ3 => ck (rng (4 * a2 + 0)) (sq (f_C_append (4 * a2 + 0) x3 σ3) fun (a8 : Unit) σ9 => ck (rng (x5 + 1)) (l_N_copyHere_56 fu q r n x3 (x5 + 1) σ9))) else (some ((), σ))
def f_N_copyHere (fu : Nat) (q : Nat) (r : Nat) (σ : SS) : Option (Unit × SS) := ck (rng ((σ.1 r 9) - (σ.1 q 9))) (lb ((σ.1 r 9) - (σ.1 q 9)) fun y2 => sq (if (σ.1 r 7) = 0 then (sq (f_N_inside fu q (σ.1 r 8) y2 σ) fun (a5 : Int) σ6 => some (a5, σ6)) else (some ((σ.1 r 8), σ))) fun (z10 : Int) σ11 => ck (rng (4 * z10 + (σ11.1 r 7))) (sq (f_C_append (4 * z10 + (σ11.1 r 7)) y2 σ11) fun (a16 : Unit) σ17 => sq (l_N_copyHere_56 fu q r fu y2 0 σ17) fun (z21 : Unit) σ22 => some ((), σ22)))
theorem w_N_copyHere_56 {g : MG} {d w fu : Nat} {Q : MO → List MC → Prop} {q : Nat} {r : Nat} (hF : 3 ≤ d) (hL : 70 ≤ w) (hq : cur q) (hr : cur r) : ∀ (n : Nat) (x3 : Int) (x5 : Int) (σ : SS) (h : List MC), Wd h σ → rng x3 → rng x5 → Ew g none M_N_copyHere d w Q gU (cJ g none M_N_copyHere d w Q 102 (fun x => []) (fun x => [])) 56 [(0, mr 42), (1, mr q), (2, mr r), (3, iI x3), (5, iI x5)] [] h σ (l_N_copyHere_56 fu q r n x3 x5 σ) := by
  intro n
  induction n with
  | zero =>
    intro x3 x5 σ h hW r3 r5 a9 σ9 hm
    rw [l_N_copyHere_56] at hm
    cases hm
  | succ n ih =>
    intro x3 x5 σ h hW r3 r5
    rw [l_N_copyHere_56]
    refine w_iload d_N_copyHere_56 rfl ?_
    refine w_aload_n d_N_copyHere_58 rfl rfl ?_
    refine w_gi d_N_copyHere_59 f_N_72 hW (cur_i11 hr) ?_
    refine w_icmp_ge 102 d_N_copyHere_62 (by decide) r5 (hW.rf _ _) (fun c1 => ?_) (fun c1 => ?_)
    · refine w_aload_n d_N_copyHere_65 rfl rfl ?_
      refine w_aload_n d_N_copyHere_66 rfl rfl ?_
      refine w_aload_n d_N_copyHere_67 rfl rfl ?_
      refine w_gr d_N_copyHere_68 f_N_75 hW (cur_r10 hr) ?_
      refine w_iload d_N_copyHere_71 rfl ?_
      refine w_at d_N_copyHere_73 l_N_78 hW (cur_a5 hr) r5 (Nat.le_of_ble_eq_true rfl) (Nat.le_trans (Nat.le_of_ble_eq_true rfl) hF) (Nat.le_trans (Nat.le_of_ble_eq_true rfl) hL) ?_
      refine w_iload_n d_N_copyHere_76 rfl rfl ?_
      refine w_cVI [mr q, iI (gA σ (r + 5) 4 x5), iI x3] [] d_N_copyHere_77 me_N_inside l_N_148 hW (c_N_inside hW hq (hW.ga _ _ _) r3) rfl rfl (Nat.le_of_ble_eq_true rfl) rfl (Nat.le_of_ble_eq_true rfl) (Nat.le_trans (Nat.le_of_ble_eq_true rfl) hF) (Nat.le_trans (Nat.le_of_ble_eq_true rfl) hL) ob42 ⟨_, _, rfl⟩ (fun a2 σ3 h4 W5 q6 => ?_)
      refine w_istore [(6, iI a2), (0, mr 42), (1, mr q), (2, mr r), (3, iI x3), (5, iI x5)] d_N_copyHere_80 (by decide) rfl ?_
      refine w_aload_n d_N_copyHere_82 rfl rfl ?_
      refine w_gr d_N_copyHere_83 f_N_18 W5 or42_0 ?_
      refine w_iconst d_N_copyHere_86 ?_
      refine w_iload d_N_copyHere_87 rfl ?_
      refine w_codeOf d_N_copyHere_89 l_N_152 (Nat.le_of_ble_eq_true rfl) (Nat.le_trans (Nat.le_of_ble_eq_true rfl) hF) (Nat.le_trans (Nat.le_of_ble_eq_true rfl) hL) (fun c7 => ?_)
      refine w_iload_n d_N_copyHere_92 rfl rfl ?_
      refine w_cVU [iI (4 * a2 + 0), iI x3] [] d_N_copyHere_93 me_C_append l_N_156 W5 (c_C_append W5 c7 r3) rfl rfl (Nat.le_of_ble_eq_true rfl) rfl (Nat.le_of_ble_eq_true rfl) (Nat.le_trans (Nat.le_of_ble_eq_true rfl) hF) (Nat.le_trans (Nat.le_of_ble_eq_true rfl) hL) ob1 ⟨_, _, rfl⟩ (fun a8 σ9 h10 W11 q12 => ?_)
      refine w_iinc [(5, iI (x5 + 1)), (6, iI a2), (0, mr 42), (1, mr q), (2, mr r), (3, iI x3)] d_N_copyHere_96 rfl (by decide) rfl (fun c13 => ?_)
      refine w_goto 56 d_N_copyHere_99 (by decide) ?_
      exact w_sub (m_sc2 rfl (m_sc2 rfl (m_sc2 rfl (m_sc2 rfl (m_sc2 rfl (m_sn _)))))) (ih x3 (x5 + 1) _ _ W11 r3 c13)
    · exact w_exit [] (m_sn _) hW (fun _ _ _ k => k) True.intro
theorem c_N_copyHere {g : MG} {fu : Nat} {h : List MC} {σ : SS} {q : Nat} {r : Nat} (hW : Wd h σ) (hq : cur q) (hr : cur r) : Cw g M_N_copyHere 3 70 [mr 42, mr q, mr r] gU cU1 h σ (f_N_copyHere fu q r σ) := by
  refine w_of (fun d w Q hF hL => ?_)
  unfold f_N_copyHere
  show Ew g none M_N_copyHere d w Q gU (cU1 Q) 0 [(0, mr 42), (1, mr q), (2, mr r)] [] h σ _
  refine w_aload_n d_N_copyHere_0 rfl rfl ?_
  refine w_gi d_N_copyHere_1 f_N_142 hW (cur_i9 hr) ?_
  refine w_aload_n d_N_copyHere_4 rfl rfl ?_
  refine w_gi d_N_copyHere_5 f_N_142 hW (cur_i9 hq) ?_
  refine w_isub d_N_copyHere_8 (fun c1 => ?_)
  refine w_top (fun y2 e3 => ?_)
  have ry2 : rng y2 := e3 ▸ c1
  refine w_istore_n [(3, iI y2), (0, mr 42), (1, mr q), (2, mr r)] d_N_copyHere_9 rfl (by decide) rfl ?_
  refine w_aload_n d_N_copyHere_10 rfl rfl ?_
  refine w_gi d_N_copyHere_11 f_N_50 hW (cur_i7 hr) ?_
  refine w_sq (G1 := rng) (J := 34) (lvJ := fun x => [(0, mr 42), (1, mr q), (2, mr r), (3, iI y2)]) (stJ := fun x => [iI x]) ?_ (fun z10 σ11 h12 W13 q14 => ?_)
  · refine w_if_ne 30 d_N_copyHere_14 (by decide) (hW.rf _ _) (fun c4 => ?_) (fun c4 => ?_)
    · refine w_aload_n d_N_copyHere_17 rfl rfl ?_
      refine w_aload_n d_N_copyHere_18 rfl rfl ?_
      refine w_aload_n d_N_copyHere_19 rfl rfl ?_
      refine w_gi d_N_copyHere_20 f_N_54 hW (cur_i8 hr) ?_
      refine w_iload_n d_N_copyHere_23 rfl rfl ?_
      refine w_cVI [mr q, iI (σ.1 r 8), iI y2] [] d_N_copyHere_24 me_N_inside l_N_148 hW (c_N_inside hW hq (hW.rf _ _) ry2) rfl rfl (Nat.le_of_ble_eq_true rfl) rfl (Nat.le_of_ble_eq_true rfl) (Nat.le_trans (Nat.le_of_ble_eq_true rfl) hF) (Nat.le_trans (Nat.le_of_ble_eq_true rfl) hL) ob42 ⟨_, _, rfl⟩ (fun a5 σ6 h7 W8 q9 => ?_)
      refine w_goto 34 d_N_copyHere_27 (by decide) ?_
      exact w_exit [(0, mr 42), (1, mr q), (2, mr r), (3, iI y2)] (m_sc2 rfl (m_sc2 rfl (m_sc2 rfl (m_sc2 rfl (m_sn _))))) W8 (fun _ _ _ k => k) q9
    · refine w_aload_n d_N_copyHere_30 rfl rfl ?_
      refine w_gi d_N_copyHere_31 f_N_54 hW (cur_i8 hr) ?_
      exact w_exit [(0, mr 42), (1, mr q), (2, mr r), (3, iI y2)] (m_sc2 rfl (m_sc2 rfl (m_sc2 rfl (m_sc2 rfl (m_sn _))))) hW (fun _ _ _ k => k) (hW.rf _ _)
  · show Ew _ _ _ _ _ _ _ _ 34 [(0, mr 42), (1, mr q), (2, mr r), (3, iI y2)] [iI z10] _ _ _
    refine w_istore [(4, iI z10), (0, mr 42), (1, mr q), (2, mr r), (3, iI y2)] d_N_copyHere_34 (by decide) rfl ?_
    refine w_aload_n d_N_copyHere_36 rfl rfl ?_
    refine w_gr d_N_copyHere_37 f_N_18 W13 or42_0 ?_
    refine w_aload_n d_N_copyHere_40 rfl rfl ?_
    refine w_gi d_N_copyHere_41 f_N_50 W13 (cur_i7 hr) ?_
    refine w_iload d_N_copyHere_44 rfl ?_
    refine w_codeOf d_N_copyHere_46 l_N_152 (Nat.le_of_ble_eq_true rfl) (Nat.le_trans (Nat.le_of_ble_eq_true rfl) hF) (Nat.le_trans (Nat.le_of_ble_eq_true rfl) hL) (fun c15 => ?_)
    refine w_iload_n d_N_copyHere_49 rfl rfl ?_
    refine w_cVU [iI (4 * z10 + (σ11.1 r 7)), iI y2] [] d_N_copyHere_50 me_C_append l_N_156 W13 (c_C_append W13 c15 ry2) rfl rfl (Nat.le_of_ble_eq_true rfl) rfl (Nat.le_of_ble_eq_true rfl) (Nat.le_trans (Nat.le_of_ble_eq_true rfl) hF) (Nat.le_trans (Nat.le_of_ble_eq_true rfl) hL) ob1 ⟨_, _, rfl⟩ (fun a16 σ17 h18 W19 q20 => ?_)
    refine w_iconst d_N_copyHere_53 ?_
    refine w_istore [(5, iI 0), (4, iI z10), (0, mr 42), (1, mr q), (2, mr r), (3, iI y2)] d_N_copyHere_54 (by decide) rfl ?_
    refine w_sq (G1 := gU) (J := 102) (lvJ := fun x => []) (stJ := fun x => []) (w_sub (m_sc2 rfl (m_sc2 rfl (m_sc2 rfl (m_sc2 rfl (m_sc2 rfl (m_sn _)))))) (w_N_copyHere_56 hF hL hq hr fu y2 0 _ _ W19 ry2 (show rng 0 by decide))) (fun z21 σ22 h23 W24 q25 => ?_)
    show Ew _ _ _ _ _ _ _ _ 102 [] [] _ _ _
    exact w_ret d_N_copyHere_102 rfl W24 (fun _ _ _ k => k) True.intro
def l_N_copyTerm_5 (fu : Nat) (q : Nat) (r : Nat) : Nat → Int → Int → SS → Option ((Unit ⊕ (Unit)) × SS)
  | 0, _, _, _ => none
  | n + 1, x3, x4, σ => if x4 < 1000000 then (sq (f_N_copyHere fu q r σ) fun (a2 : Unit) σ3 => sq (f_N_dueAfter r x3 σ3) fun (a7 : Int) σ8 => if a7 = 0 then (some (.inl (), σ8)) else (sq (f_U_advance fu r σ8) fun (a13 : Int) σ14 => if a13 = 0 then (some (.inl (), σ14)) else (ck (rng (x4 + 1)) (l_N_copyTerm_5 fu q r n a7 (x4 + 1) σ14)))) else (some (.inr (), σ))
def f_N_copyTerm (fu : Nat) (q : Nat) (r : Nat) (σ : SS) : Option (Unit × SS) := sr (l_N_copyTerm_5 fu q r fu 1 0 σ) fun (z1 : Unit) σ2 => some ((), σ2)
theorem w_N_copyTerm_5 {g : MG} {d w fu : Nat} {Q : MO → List MC → Prop} {q : Nat} {r : Nat} (hF : 4 ≤ d) (hL : 96 ≤ w) (hq : cur q) (hr : cur r) : ∀ (n : Nat) (x3 : Int) (x4 : Int) (σ : SS) (h : List MC), Wd h σ → rng x3 → rng x4 → Ew g none M_N_copyTerm d w Q (gS2 gU gU) (cS2 (cU1 Q) (cJ g none M_N_copyTerm d w Q 43 (fun x => []) (fun x => []))) 5 [(0, mr 42), (1, mr q), (2, mr r), (3, iI x3), (4, iI x4)] [] h σ (l_N_copyTerm_5 fu q r n x3 x4 σ) := by
  intro n
  induction n with
  | zero =>
    intro x3 x4 σ h hW r3 r4 a9 σ9 hm
    rw [l_N_copyTerm_5] at hm
    cases hm
  | succ n ih =>
    intro x3 x4 σ h hW r3 r4
    rw [l_N_copyTerm_5]
    refine w_iload d_N_copyTerm_5 rfl ?_
    refine w_ldc 1000000 d_N_copyTerm_7 k_N_45 (by decide) ?_
    refine w_icmp_ge 43 d_N_copyTerm_9 (by decide) r4 (show rng 1000000 by decide) (fun c1 => ?_) (fun c1 => ?_)
    · refine w_aload_n d_N_copyTerm_12 rfl rfl ?_
      refine w_aload_n d_N_copyTerm_13 rfl rfl ?_
      refine w_aload_n d_N_copyTerm_14 rfl rfl ?_
      refine w_cVU [mr q, mr r] [] d_N_copyTerm_15 me_N_copyHere l_N_145 hW (c_N_copyHere hW hq hr) rfl rfl (Nat.le_of_ble_eq_true rfl) rfl (Nat.le_of_ble_eq_true rfl) (Nat.le_trans (Nat.le_of_ble_eq_true rfl) hF) (Nat.le_trans (Nat.le_of_ble_eq_true rfl) hL) ob42 ⟨_, _, rfl⟩ (fun a2 σ3 h4 W5 q6 => ?_)
      refine w_aload_n d_N_copyTerm_18 rfl rfl ?_
      refine w_aload_n d_N_copyTerm_19 rfl rfl ?_
      refine w_iload_n d_N_copyTerm_20 rfl rfl ?_
      refine w_cVI [mr r, iI x3] [] d_N_copyTerm_21 me_N_dueAfter l_N_133 W5 (c_N_dueAfter W5 hr r3) rfl rfl (Nat.le_of_ble_eq_true rfl) rfl (Nat.le_of_ble_eq_true rfl) (Nat.le_trans (Nat.le_of_ble_eq_true rfl) hF) (Nat.le_trans (Nat.le_of_ble_eq_true rfl) hL) ob42 ⟨_, _, rfl⟩ (fun a7 σ8 h9 W10 q11 => ?_)
      refine w_istore_n [(3, iI a7), (0, mr 42), (1, mr q), (2, mr r), (4, iI x4)] d_N_copyTerm_24 rfl (by decide) rfl ?_
      refine w_iload_n d_N_copyTerm_25 rfl rfl ?_
      refine w_if_eq 36 d_N_copyTerm_26 (by decide) q11 (fun c12 => ?_) (fun c12 => ?_)
      · exact w_ret d_N_copyTerm_36 rfl W10 (fun _ _ _ k => k) True.intro
      · refine w_aload_n d_N_copyTerm_29 rfl rfl ?_
        refine w_cVI [] [] d_N_copyTerm_30 me_U_advance l_N_46 W10 (c_U_advance W10 hr) rfl rfl (Nat.le_of_ble_eq_true rfl) rfl (Nat.le_of_ble_eq_true rfl) (Nat.le_trans (Nat.le_of_ble_eq_true rfl) hF) (Nat.le_trans (Nat.le_of_ble_eq_true rfl) hL) (cur_ob hr) ⟨_, _, rfl⟩ (fun a13 σ14 h15 W16 q17 => ?_)
        refine w_if_ne 37 d_N_copyTerm_33 (by decide) q17 (fun c18 => ?_) (fun c18 => ?_)
        · exact w_ret d_N_copyTerm_36 rfl W16 (fun _ _ _ k => k) True.intro
        · refine w_iinc [(4, iI (x4 + 1)), (3, iI a7), (0, mr 42), (1, mr q), (2, mr r)] d_N_copyTerm_37 rfl (by decide) rfl (fun c19 => ?_)
          refine w_goto 5 d_N_copyTerm_40 (by decide) ?_
          exact w_sub (m_sc2 rfl (m_sc2 rfl (m_sc2 rfl (m_sc2 rfl (m_sc2 rfl (m_sn _)))))) (ih a7 (x4 + 1) _ _ W16 q11 c19)
    · exact w_exit [] (m_sn _) hW (fun _ _ _ k => k) True.intro
theorem c_N_copyTerm {g : MG} {fu : Nat} {h : List MC} {σ : SS} {q : Nat} {r : Nat} (hW : Wd h σ) (hq : cur q) (hr : cur r) : Cw g M_N_copyTerm 4 96 [mr 42, mr q, mr r] gU cU1 h σ (f_N_copyTerm fu q r σ) := by
  refine w_of (fun d w Q hF hL => ?_)
  unfold f_N_copyTerm
  show Ew g none M_N_copyTerm d w Q gU (cU1 Q) 0 [(0, mr 42), (1, mr q), (2, mr r)] [] h σ _
  refine w_iconst d_N_copyTerm_0 ?_
  refine w_istore_n [(3, iI 1), (0, mr 42), (1, mr q), (2, mr r)] d_N_copyTerm_1 rfl (by decide) rfl ?_
  refine w_iconst d_N_copyTerm_2 ?_
  refine w_istore [(4, iI 0), (3, iI 1), (0, mr 42), (1, mr q), (2, mr r)] d_N_copyTerm_3 (by decide) rfl ?_
  refine w_sr (G1 := gU) (J := 43) (lvJ := fun x => []) (stJ := fun x => []) (w_sub (m_sc2 rfl (m_sc2 rfl (m_sc2 rfl (m_sc2 rfl (m_sc2 rfl (m_sn _)))))) (w_N_copyTerm_5 hF hL hq hr fu 1 0 _ _ hW (show rng 1 by decide) (show rng 0 by decide))) (fun z1 σ2 h3 W4 q5 => ?_)
  show Ew _ _ _ _ _ _ _ _ 43 [] [] _ _ _
  exact w_ret d_N_copyTerm_43 rfl W4 (fun _ _ _ k => k) True.intro
def l_Ar_fill_5 (fu : Nat) (q nq : Nat) : Nat → Int → Int → Int → SS → Option ((Unit) × SS)
  | 0, _, _, _, _ => none
  | n + 1, x1, x2, x3, σ => if x2 < x3 then (ck (inb nq x2) (lb (sA σ q x2 x1) fun σ4 => ck (rng (x2 + 1)) (l_Ar_fill_5 fu q nq n x1 (x2 + 1) x3 σ4))) else (some ((), σ))
def f_Ar_fill (fu : Nat) (q nq : Nat) (x1 : Int) (σ : SS) : Option (Unit × SS) := lb ((nq : Nat) : Int) fun y1 => sq (l_Ar_fill_5 fu q nq fu x1 0 y1 σ) fun (z3 : Unit) σ4 => some ((), σ4)
theorem w_Ar_fill_5 {g : MG} {d w fu : Nat} {Q : MO → List MC → Prop} {q nq : Nat} (hF : 0 ≤ d) (hL : 0 ≤ w) (hq : ia q nq) : ∀ (n : Nat) (x1 : Int) (x2 : Int) (x3 : Int) (σ : SS) (h : List MC), Wd h σ → rng x1 → rng x2 → rng x3 → Ew g none M_Ar_fill d w Q gU (cJ g none M_Ar_fill d w Q 20 (fun x => []) (fun x => [])) 5 [(0, mr q), (1, iI x1), (2, iI x2), (3, iI x3)] [] h σ (l_Ar_fill_5 fu q nq n x1 x2 x3 σ) := by
  intro n
  induction n with
  | zero =>
    intro x1 x2 x3 σ h hW r1 r2 r3 a9 σ9 hm
    rw [l_Ar_fill_5] at hm
    cases hm
  | succ n ih =>
    intro x1 x2 x3 σ h hW r1 r2 r3
    rw [l_Ar_fill_5]
    refine w_iload_n d_Ar_fill_5 rfl rfl ?_
    refine w_iload_n d_Ar_fill_6 rfl rfl ?_
    refine w_icmp_ge 20 d_Ar_fill_7 (by decide) r2 r3 (fun c1 => ?_) (fun c1 => ?_)
    · refine w_aload_n d_Ar_fill_10 rfl rfl ?_
      refine w_iload_n d_Ar_fill_11 rfl rfl ?_
      refine w_iload_n d_Ar_fill_12 rfl rfl ?_
      refine w_ast d_Ar_fill_13 hW hq r1 (fun c2 h3 σ4 e5 W6 => ?_)
      refine w_iinc [(2, iI (x2 + 1)), (0, mr q), (1, iI x1), (3, iI x3)] d_Ar_fill_14 rfl (by decide) rfl (fun c7 => ?_)
      refine w_goto 5 d_Ar_fill_17 (by decide) ?_
      exact w_sub (m_sc2 rfl (m_sc2 rfl (m_sc2 rfl (m_sc2 rfl (m_sn _))))) (ih x1 (x2 + 1) x3 _ _ W6 r1 c7 r3)
    · exact w_exit [] (m_sn _) hW (fun _ _ _ k => k) True.intro
theorem c_Ar_fill {g : MG} {fu : Nat} {h : List MC} {σ : SS} {q nq : Nat} {x1 : Int} (hW : Wd h σ) (hq : ia q nq) (r1 : rng x1) : Cw g M_Ar_fill 0 0 [mr q, iI x1] gU cU1 h σ (f_Ar_fill fu q nq x1 σ) := by
  refine w_of (fun d w Q hF hL => ?_)
  unfold f_Ar_fill
  show Ew g none M_Ar_fill d w Q gU (cU1 Q) 0 [(0, mr q), (1, iI x1)] [] h σ _
  refine w_iconst d_Ar_fill_0 ?_
  refine w_istore_n [(2, iI 0), (0, mr q), (1, iI x1)] d_Ar_fill_1 rfl (by decide) rfl ?_
  refine w_aload_n d_Ar_fill_2 rfl rfl ?_
  refine w_len d_Ar_fill_3 hW hq ?_
  refine w_top (fun y1 e2 => ?_)
  have ry1 : rng y1 := e2 ▸ (by have := hq.1; omega)
  refine w_istore_n [(3, iI y1), (2, iI 0), (0, mr q), (1, iI x1)] d_Ar_fill_4 rfl (by decide) rfl ?_
  refine w_sq (G1 := gU) (J := 20) (lvJ := fun x => []) (stJ := fun x => []) (w_sub (m_sc2 rfl (m_sc2 rfl (m_sc2 rfl (m_sc2 rfl (m_sn _))))) (w_Ar_fill_5 hF hL hq fu x1 0 y1 _ _ hW r1 (show rng 0 by decide) ry1)) (fun z3 σ4 h5 W6 q7 => ?_)
  show Ew _ _ _ _ _ _ _ _ 20 [] [] _ _ _
  exact w_ret d_Ar_fill_20 rfl W6 (fun _ _ _ k => k) True.intro
def l_G_sumFrom_5 (fu : Nat) : Nat → Int → Int → Int → SS → Option ((Int) × SS)
  | 0, _, _, _, _ => none
  | n + 1, x2, x3, x4, σ => if x4 < x2 then (sq (f_C_codeAt x4 σ) fun (a2 : Int) σ3 => sq (if (a2 % 4) = 2 then (lb (a2 / 4) fun y8 => ck (rng (x3 + (gA σ3 11 324 y8))) (lb (x3 + (gA σ3 11 324 y8)) fun y11 => sq (f_G_parametersOf y8 σ3) fun (a13 : Int) σ14 => ck (rng (x4 + a13)) (lb (x4 + a13) fun y19 => some ((y11, y19), σ14)))) else (ck (rng (x3 + 1)) (some (((x3 + 1), x4), σ3)))) fun (z22 : Int × Int) σ23 => ck (rng (z22.2 + 1)) (l_G_sumFrom_5 fu n x2 z22.1 (z22.2 + 1) σ23)) else (some (x3, σ))
def f_G_sumFrom (fu : Nat) (x1 : Int) (x2 : Int) (σ : SS) : Option (Int × SS) := sq (l_G_sumFrom_5 fu fu x2 0 x1 σ) fun (z1 : Int) σ2 => some (z1, σ2)
theorem w_G_sumFrom_5 {g : MG} {d w fu : Nat} {Q : MO → List MC → Prop} (hF : 2 ≤ d) (hL : 42 ≤ w) : ∀ (n : Nat) (x2 : Int) (x3 : Int) (x4 : Int) (σ : SS) (h : List MC), Wd h σ → rng x2 → rng x3 → rng x4 → Ew g none M_G_sumFrom d w Q rng (cJ g none M_G_sumFrom d w Q 73 (fun x => [(3, iI x)]) (fun x => [])) 5 [(0, mr 7), (2, iI x2), (3, iI x3), (4, iI x4)] [] h σ (l_G_sumFrom_5 fu n x2 x3 x4 σ) := by
  intro n
  induction n with
  | zero =>
    intro x2 x3 x4 σ h hW r2 r3 r4 a9 σ9 hm
    rw [l_G_sumFrom_5] at hm
    cases hm
  | succ n ih =>
    intro x2 x3 x4 σ h hW r2 r3 r4
    rw [l_G_sumFrom_5]
    refine w_iload d_G_sumFrom_5 rfl ?_
    refine w_iload_n d_G_sumFrom_7 rfl rfl ?_
    refine w_icmp_ge 73 d_G_sumFrom_8 (by decide) r4 r2 (fun c1 => ?_) (fun c1 => ?_)
    · refine w_aload_n d_G_sumFrom_11 rfl rfl ?_
      refine w_gr d_G_sumFrom_12 f_G_27 hW or7_0 ?_
      refine w_iload d_G_sumFrom_15 rfl ?_
      refine w_cVI [iI x4] [] d_G_sumFrom_17 me_C_codeAt l_G_83 hW (c_C_codeAt hW r4) rfl rfl (Nat.le_of_ble_eq_true rfl) rfl (Nat.le_of_ble_eq_true rfl) (Nat.le_trans (Nat.le_of_ble_eq_true rfl) hF) (Nat.le_trans (Nat.le_of_ble_eq_true rfl) hL) ob1 ⟨_, _, rfl⟩ (fun a2 σ3 h4 W5 q6 => ?_)
      refine w_istore [(5, iI a2), (0, mr 7), (2, iI x2), (3, iI x3), (4, iI x4)] d_G_sumFrom_20 (by decide) rfl ?_
      refine w_iload d_G_sumFrom_22 rfl ?_
      refine w_H_sortOf d_G_sumFrom_24 l_G_86 (Nat.le_of_ble_eq_true rfl) (Nat.le_trans (Nat.le_of_ble_eq_true rfl) hF) (Nat.le_trans (Nat.le_of_ble_eq_true rfl) hL) ?_
      refine w_iconst d_G_sumFrom_27 ?_
      refine w_sq (G1 := (fun x => rng x.1 ∧ rng x.2)) (J := 67) (lvJ := fun x => [(0, mr 7), (2, iI x2), (3, iI x.1), (4, iI x.2)]) (stJ := fun x => []) ?_ (fun z22 σ23 h24 W25 q26 => ?_)
      · refine w_icmp_ne 64 d_G_sumFrom_28 (by decide) (rngm _) (show rng 2 by decide) (fun c7 => ?_) (fun c7 => ?_)
        · refine w_iload d_G_sumFrom_31 rfl ?_
          refine w_H_numberOf d_G_sumFrom_33 l_G_89 q6 (Nat.le_of_ble_eq_true rfl) (Nat.le_trans (Nat.le_of_ble_eq_true rfl) hF) (Nat.le_trans (Nat.le_of_ble_eq_true rfl) hL) ?_
          refine w_top (fun y8 e9 => ?_)
          have ry8 : rng y8 := e9 ▸ (rng4 q6)
          refine w_istore [(6, iI y8), (5, iI a2), (0, mr 7), (2, iI x2), (3, iI x3), (4, iI x4)] d_G_sumFrom_36 (by decide) rfl ?_
          refine w_iload_n d_G_sumFrom_38 rfl rfl ?_
          refine w_aload_n d_G_sumFrom_39 rfl rfl ?_
          refine w_gr d_G_sumFrom_40 f_G_21 W5 or7_4 ?_
          refine w_iload d_G_sumFrom_43 rfl ?_
          refine w_at d_G_sumFrom_45 l_G_42 W5 ia11 ry8 (Nat.le_of_ble_eq_true rfl) (Nat.le_trans (Nat.le_of_ble_eq_true rfl) hF) (Nat.le_trans (Nat.le_of_ble_eq_true rfl) hL) ?_
          refine w_iadd d_G_sumFrom_48 (fun c10 => ?_)
          refine w_top (fun y11 e12 => ?_)
          have ry11 : rng y11 := e12 ▸ c10
          refine w_istore_n [(3, iI y11), (6, iI y8), (5, iI a2), (0, mr 7), (2, iI x2), (4, iI x4)] d_G_sumFrom_49 rfl (by decide) rfl ?_
          refine w_iload d_G_sumFrom_50 rfl ?_
          refine w_aload_n d_G_sumFrom_52 rfl rfl ?_
          refine w_iload d_G_sumFrom_53 rfl ?_
          refine w_cVI [iI y8] [iI x4] d_G_sumFrom_55 me_G_parametersOf l_G_59 W5 (c_G_parametersOf W5 ry8) rfl rfl (Nat.le_of_ble_eq_true rfl) rfl (Nat.le_of_ble_eq_true rfl) (Nat.le_trans (Nat.le_of_ble_eq_true rfl) hF) (Nat.le_trans (Nat.le_of_ble_eq_true rfl) hL) ob7 ⟨_, _, rfl⟩ (fun a13 σ14 h15 W16 q17 => ?_)
          refine w_iadd d_G_sumFrom_58 (fun c18 => ?_)
          refine w_top (fun y19 e20 => ?_)
          have ry19 : rng y19 := e20 ▸ c18
          refine w_istore [(4, iI y19), (3, iI y11), (6, iI y8), (5, iI a2), (0, mr 7), (2, iI x2)] d_G_sumFrom_59 (by decide) rfl ?_
          refine w_goto 67 d_G_sumFrom_61 (by decide) ?_
          exact w_exit [(0, mr 7), (2, iI x2), (3, iI y11), (4, iI y19)] (m_sc2 rfl (m_sc2 rfl (m_sc2 rfl (m_sc2 rfl (m_sn _))))) W16 (fun _ _ _ k => k) (And.intro ry11 ry19)
        · refine w_iinc [(3, iI (x3 + 1)), (5, iI a2), (0, mr 7), (2, iI x2), (4, iI x4)] d_G_sumFrom_64 rfl (by decide) rfl (fun c21 => ?_)
          exact w_exit [(0, mr 7), (2, iI x2), (3, iI (x3 + 1)), (4, iI x4)] (m_sc2 rfl (m_sc2 rfl (m_sc2 rfl (m_sc2 rfl (m_sn _))))) W5 (fun _ _ _ k => k) (And.intro c21 r4)
      · show Ew _ _ _ _ _ _ _ _ 67 [(0, mr 7), (2, iI x2), (3, iI z22.1), (4, iI z22.2)] [] _ _ _
        refine w_iinc [(4, iI (z22.2 + 1)), (0, mr 7), (2, iI x2), (3, iI z22.1)] d_G_sumFrom_67 rfl (by decide) rfl (fun c27 => ?_)
        refine w_goto 5 d_G_sumFrom_70 (by decide) ?_
        exact w_sub (m_sc2 rfl (m_sc2 rfl (m_sc2 rfl (m_sc2 rfl (m_sn _))))) (ih x2 z22.1 (z22.2 + 1) _ _ W25 r2 q26.1 c27)
    · exact w_exit [(3, iI x3)] (m_sc2 rfl (m_sn _)) hW (fun _ _ _ k => k) r3
theorem c_G_sumFrom {g : MG} {fu : Nat} {h : List MC} {σ : SS} {x1 : Int} {x2 : Int} (hW : Wd h σ) (r1 : rng x1) (r2 : rng x2) : Cw g M_G_sumFrom 2 42 [mr 7, iI x1, iI x2] rng cI1 h σ (f_G_sumFrom fu x1 x2 σ) := by
  refine w_of (fun d w Q hF hL => ?_)
  unfold f_G_sumFrom
  show Ew g none M_G_sumFrom d w Q rng (cI1 Q) 0 [(0, mr 7), (1, iI x1), (2, iI x2)] [] h σ _
  refine w_iconst d_G_sumFrom_0 ?_
  refine w_istore_n [(3, iI 0), (0, mr 7), (1, iI x1), (2, iI x2)] d_G_sumFrom_1 rfl (by decide) rfl ?_
  refine w_iload_n d_G_sumFrom_2 rfl rfl ?_
  refine w_istore [(4, iI x1), (3, iI 0), (0, mr 7), (1, iI x1), (2, iI x2)] d_G_sumFrom_3 (by decide) rfl ?_
  refine w_sq (G1 := rng) (J := 73) (lvJ := fun x => [(3, iI x)]) (stJ := fun x => []) (w_sub (m_sc2 rfl (m_sc2 rfl (m_sc2 rfl (m_sc2 rfl (m_sn _))))) (w_G_sumFrom_5 hF hL fu x2 0 x1 _ _ hW r2 (show rng 0 by decide) r1)) (fun z1 σ2 h3 W4 q5 => ?_)
  show Ew _ _ _ _ _ _ _ _ 73 [(3, iI z1)] [] _ _ _
  refine w_iload_n d_G_sumFrom_73 rfl rfl ?_
  exact w_iret d_G_sumFrom_74 rfl W4 (fun _ _ _ k => k) q5
def l_G_measureAll_17 (fu : Nat) : Nat → Int → Int → SS → Option ((Int) × SS)
  | 0, _, _, _ => none
  | n + 1, x1, x2, σ => if x2 < 0 then (some (x1, σ)) else (lb (gA σ 12 324 x2) fun y2 => sq (f_G_sumFrom fu (gA σ 9 324 y2) (gA σ 10 324 y2) σ) fun (a4 : Int) σ5 => lb (gS σ5 11 324 y2 a4) fun σ10 => lb (mx x1 a4) fun y13 => ck (rng (x2 + (-1))) (l_G_measureAll_17 fu n y13 (x2 + (-1)) σ10))
def f_G_measureAll (fu : Nat) (σ : SS) : Option (Int × SS) := sq (f_Ar_fill fu 11 324 1 σ) fun (a1 : Unit) σ2 => ck (rng ((σ2.1 7 8) - 1)) (lb ((σ2.1 7 8) - 1) fun y7 => sq (l_G_measureAll_17 fu fu 1 y7 σ2) fun (z9 : Int) σ10 => some (z9, σ10))
theorem w_G_measureAll_17 {g : MG} {d w fu : Nat} {Q : MO → List MC → Prop} (hF : 3 ≤ d) (hL : 68 ≤ w) : ∀ (n : Nat) (x1 : Int) (x2 : Int) (σ : SS) (h : List MC), Wd h σ → rng x1 → rng x2 → Ew g none M_G_measureAll d w Q rng (cJ g none M_G_measureAll d w Q 75 (fun x => [(1, iI x)]) (fun x => [])) 17 [(0, mr 7), (1, iI x1), (2, iI x2)] [] h σ (l_G_measureAll_17 fu n x1 x2 σ) := by
  intro n
  induction n with
  | zero =>
    intro x1 x2 σ h hW r1 r2 a9 σ9 hm
    rw [l_G_measureAll_17] at hm
    cases hm
  | succ n ih =>
    intro x1 x2 σ h hW r1 r2
    rw [l_G_measureAll_17]
    refine w_iload_n d_G_measureAll_17 rfl rfl ?_
    refine w_if_lt 75 d_G_measureAll_18 (by decide) r2 (fun c1 => ?_) (fun c1 => ?_)
    · exact w_exit [(1, iI x1)] (m_sc2 rfl (m_sn _)) hW (fun _ _ _ k => k) r1
    · refine w_aload_n d_G_measureAll_21 rfl rfl ?_
      refine w_gr d_G_measureAll_22 f_G_24 hW or7_5 ?_
      refine w_iload_n d_G_measureAll_25 rfl rfl ?_
      refine w_at d_G_measureAll_26 l_G_42 hW ia12 r2 (Nat.le_of_ble_eq_true rfl) (Nat.le_trans (Nat.le_of_ble_eq_true rfl) hF) (Nat.le_trans (Nat.le_of_ble_eq_true rfl) hL) ?_
      refine w_top (fun y2 e3 => ?_)
      have ry2 : rng y2 := e3 ▸ (hW.ga _ _ _)
      refine w_istore_n [(3, iI y2), (0, mr 7), (1, iI x1), (2, iI x2)] d_G_measureAll_29 rfl (by decide) rfl ?_
      refine w_aload_n d_G_measureAll_30 rfl rfl ?_
      refine w_aload_n d_G_measureAll_31 rfl rfl ?_
      refine w_gr d_G_measureAll_32 f_G_15 hW or7_2 ?_
      refine w_iload_n d_G_measureAll_35 rfl rfl ?_
      refine w_at d_G_measureAll_36 l_G_42 hW ia9 ry2 (Nat.le_of_ble_eq_true rfl) (Nat.le_trans (Nat.le_of_ble_eq_true rfl) hF) (Nat.le_trans (Nat.le_of_ble_eq_true rfl) hL) ?_
      refine w_aload_n d_G_measureAll_39 rfl rfl ?_
      refine w_gr d_G_measureAll_40 f_G_18 hW or7_3 ?_
      refine w_iload_n d_G_measureAll_43 rfl rfl ?_
      refine w_at d_G_measureAll_44 l_G_42 hW ia10 ry2 (Nat.le_of_ble_eq_true rfl) (Nat.le_trans (Nat.le_of_ble_eq_true rfl) hF) (Nat.le_trans (Nat.le_of_ble_eq_true rfl) hL) ?_
      refine w_cVI [iI (gA σ 9 324 y2), iI (gA σ 10 324 y2)] [] d_G_measureAll_47 me_G_sumFrom l_G_75 hW (c_G_sumFrom hW (hW.ga _ _ _) (hW.ga _ _ _)) rfl rfl (Nat.le_of_ble_eq_true rfl) rfl (Nat.le_of_ble_eq_true rfl) (Nat.le_trans (Nat.le_of_ble_eq_true rfl) hF) (Nat.le_trans (Nat.le_of_ble_eq_true rfl) hL) ob7 ⟨_, _, rfl⟩ (fun a4 σ5 h6 W7 q8 => ?_)
      refine w_istore [(4, iI a4), (3, iI y2), (0, mr 7), (1, iI x1), (2, iI x2)] d_G_measureAll_50 (by decide) rfl ?_
      refine w_aload_n d_G_measureAll_52 rfl rfl ?_
      refine w_gr d_G_measureAll_53 f_G_21 W7 or7_4 ?_
      refine w_iload_n d_G_measureAll_56 rfl rfl ?_
      refine w_iload d_G_measureAll_57 rfl ?_
      refine w_set d_G_measureAll_59 l_G_35 W7 ia11 ry2 q8 (Nat.le_of_ble_eq_true rfl) (Nat.le_trans (Nat.le_of_ble_eq_true rfl) hF) (Nat.le_trans (Nat.le_of_ble_eq_true rfl) hL) (fun h9 σ10 e11 W12 => ?_)
      refine w_iload_n d_G_measureAll_62 rfl rfl ?_
      refine w_iload d_G_measureAll_63 rfl ?_
      refine w_max d_G_measureAll_65 lm_G_78 r1 q8 (Nat.le_of_ble_eq_true rfl) (Nat.le_trans (Nat.le_of_ble_eq_true rfl) hF) (Nat.le_trans (Nat.le_of_ble_eq_true rfl) hL) ?_
      refine w_top (fun y13 e14 => ?_)
      have ry13 : rng y13 := e14 ▸ (mx_rng r1 q8)
      refine w_istore_n [(1, iI y13), (4, iI a4), (3, iI y2), (0, mr 7), (2, iI x2)] d_G_measureAll_68 rfl (by decide) rfl ?_
      refine w_iinc [(2, iI (x2 + (-1))), (1, iI y13), (4, iI a4), (3, iI y2), (0, mr 7)] d_G_measureAll_69 rfl (by decide) rfl (fun c15 => ?_)
      refine w_goto 17 d_G_measureAll_72 (by decide) ?_
      exact w_sub (m_sc2 rfl (m_sc2 rfl (m_sc2 rfl (m_sn _)))) (ih y13 (x2 + (-1)) _ _ W12 ry13 c15)
theorem c_G_measureAll {g : MG} {fu : Nat} {h : List MC} {σ : SS} (hW : Wd h σ) : Cw g M_G_measureAll 3 68 [mr 7] rng cI1 h σ (f_G_measureAll fu σ) := by
  refine w_of (fun d w Q hF hL => ?_)
  unfold f_G_measureAll
  show Ew g none M_G_measureAll d w Q rng (cI1 Q) 0 [(0, mr 7)] [] h σ _
  refine w_aload_n d_G_measureAll_0 rfl rfl ?_
  refine w_gr d_G_measureAll_1 f_G_21 hW or7_4 ?_
  refine w_iconst d_G_measureAll_4 ?_
  refine w_cSU [mr 11, iI 1] [] d_G_measureAll_5 me_Ar_fill l_G_69 hW (c_Ar_fill hW ia11 (show rng 1 by decide)) rfl rfl (Nat.le_of_ble_eq_true rfl) rfl (Nat.le_of_ble_eq_true rfl) (Nat.le_trans (Nat.le_of_ble_eq_true rfl) hF) (Nat.le_trans (Nat.le_of_ble_eq_true rfl) hL) (fun a1 σ2 h3 W4 q5 => ?_)
  refine w_iconst d_G_measureAll_8 ?_
  refine w_istore_n [(1, iI 1), (0, mr 7)] d_G_measureAll_9 rfl (by decide) rfl ?_
  refine w_aload_n d_G_measureAll_10 rfl rfl ?_
  refine w_gi d_G_measureAll_11 f_G_66 W4 oi7_8 ?_
  refine w_iconst d_G_measureAll_14 ?_
  refine w_isub d_G_measureAll_15 (fun c6 => ?_)
  refine w_top (fun y7 e8 => ?_)
  have ry7 : rng y7 := e8 ▸ c6
  refine w_istore_n [(2, iI y7), (1, iI 1), (0, mr 7)] d_G_measureAll_16 rfl (by decide) rfl ?_
  refine w_sq (G1 := rng) (J := 75) (lvJ := fun x => [(1, iI x)]) (stJ := fun x => []) (w_sub (m_sc2 rfl (m_sc2 rfl (m_sc2 rfl (m_sn _)))) (w_G_measureAll_17 hF hL fu 1 y7 _ _ W4 (show rng 1 by decide) ry7)) (fun z9 σ10 h11 W12 q13 => ?_)
  show Ew _ _ _ _ _ _ _ _ 75 [(1, iI z9)] [] _ _ _
  refine w_iload_n d_G_measureAll_75 rfl rfl ?_
  exact w_iret d_G_measureAll_76 rfl W12 (fun _ _ _ k => k) q13
def f_N_fillWithTerm (fu : Nat) (q : Nat) (r : Nat) (σ : SS) : Option (Int × SS) := sq (f_U_copyFrom fu 45 r σ) fun (a1 : Unit) σ2 => sq (f_N_admitTerm fu q σ2) fun (a6 : Int) σ7 => if a6 = 0 then (if 80 < (σ7.1 42 8) then (some (4, σ7)) else (lb (σ7.1 1 2) fun y13 => sq (f_N_copyTerm fu q r σ7) fun (a15 : Unit) σ16 => sq (f_G_fillFrom (σ16.1 q 8) y13 σ16) fun (a20 : Unit) σ21 => sq (f_G_measureAll fu σ21) fun (a25 : Int) σ26 => if 80 < a25 then (some (4, σ26)) else (some (0, σ26)))) else (some (a6, σ7))
theorem c_N_fillWithTerm {g : MG} {fu : Nat} {h : List MC} {σ : SS} {q : Nat} {r : Nat} (hW : Wd h σ) (hq : cur q) (hr : cur r) : Cw g M_N_fillWithTerm 6 143 [mr 42, mr q, mr r] rng cI1 h σ (f_N_fillWithTerm fu q r σ) := by
  refine w_of (fun d w Q hF hL => ?_)
  unfold f_N_fillWithTerm
  show Ew g none M_N_fillWithTerm d w Q rng (cI1 Q) 0 [(0, mr 42), (1, mr q), (2, mr r)] [] h σ _
  refine w_aload_n d_N_fillWithTerm_0 rfl rfl ?_
  refine w_gr d_N_fillWithTerm_1 f_N_42 hW or42_5 ?_
  refine w_aload_n d_N_fillWithTerm_4 rfl rfl ?_
  refine w_cVU [mr r] [] d_N_fillWithTerm_5 me_U_copyFrom l_N_99 hW (c_U_copyFrom hW cur45 hr) rfl rfl (Nat.le_of_ble_eq_true rfl) rfl (Nat.le_of_ble_eq_true rfl) (Nat.le_trans (Nat.le_of_ble_eq_true rfl) hF) (Nat.le_trans (Nat.le_of_ble_eq_true rfl) hL) (cur_ob cur45) ⟨_, _, rfl⟩ (fun a1 σ2 h3 W4 q5 => ?_)
  refine w_aload_n d_N_fillWithTerm_8 rfl rfl ?_
  refine w_aload_n d_N_fillWithTerm_9 rfl rfl ?_
  refine w_cVI [mr q] [] d_N_fillWithTerm_10 me_N_admitTerm l_N_103 W4 (c_N_admitTerm W4 hq) rfl rfl (Nat.le_of_ble_eq_true rfl) rfl (Nat.le_of_ble_eq_true rfl) (Nat.le_trans (Nat.le_of_ble_eq_true rfl) hF) (Nat.le_trans (Nat.le_of_ble_eq_true rfl) hL) ob42 ⟨_, _, rfl⟩ (fun a6 σ7 h8 W9 q10 => ?_)
  refine w_istore_n [(3, iI a6), (0, mr 42), (1, mr q), (2, mr r)] d_N_fillWithTerm_13 rfl (by decide) rfl ?_
  refine w_iload_n d_N_fillWithTerm_14 rfl rfl ?_
  refine w_if_eq 20 d_N_fillWithTerm_15 (by decide) q10 (fun c11 => ?_) (fun c11 => ?_)
  · refine w_aload_n d_N_fillWithTerm_20 rfl rfl ?_
    refine w_gi d_N_fillWithTerm_21 f_N_107 W9 oi42_8 ?_
    refine w_bipush d_N_fillWithTerm_24 (by decide) ?_
    refine w_icmp_le 31 d_N_fillWithTerm_26 (by decide) (W9.rf _ _) (show rng 80 by decide) (fun c12 => ?_) (fun c12 => ?_)
    · refine w_iconst d_N_fillWithTerm_29 ?_
      exact w_iret d_N_fillWithTerm_30 rfl W9 (fun _ _ _ k => k) (show rng 4 by decide)
    · refine w_aload_n d_N_fillWithTerm_31 rfl rfl ?_
      refine w_gr d_N_fillWithTerm_32 f_N_18 W9 or42_0 ?_
      refine w_gi d_N_fillWithTerm_35 f_N_110 W9 oi1_2 ?_
      refine w_top (fun y13 e14 => ?_)
      have ry13 : rng y13 := e14 ▸ (W9.rf _ _)
      refine w_istore [(4, iI y13), (3, iI a6), (0, mr 42), (1, mr q), (2, mr r)] d_N_fillWithTerm_38 (by decide) rfl ?_
      refine w_aload_n d_N_fillWithTerm_40 rfl rfl ?_
      refine w_aload_n d_N_fillWithTerm_41 rfl rfl ?_
      refine w_aload_n d_N_fillWithTerm_42 rfl rfl ?_
      refine w_cVU [mr q, mr r] [] d_N_fillWithTerm_43 me_N_copyTerm l_N_115 W9 (c_N_copyTerm W9 hq hr) rfl rfl (Nat.le_of_ble_eq_true rfl) rfl (Nat.le_of_ble_eq_true rfl) (Nat.le_trans (Nat.le_of_ble_eq_true rfl) hF) (Nat.le_trans (Nat.le_of_ble_eq_true rfl) hL) ob42 ⟨_, _, rfl⟩ (fun a15 σ16 h17 W18 q19 => ?_)
      refine w_aload_n d_N_fillWithTerm_46 rfl rfl ?_
      refine w_gr d_N_fillWithTerm_47 f_N_22 W18 or42_1 ?_
      refine w_aload_n d_N_fillWithTerm_50 rfl rfl ?_
      refine w_gi d_N_fillWithTerm_51 f_N_54 W18 (cur_i8 hq) ?_
      refine w_iload d_N_fillWithTerm_54 rfl ?_
      refine w_cVU [iI (σ16.1 q 8), iI y13] [] d_N_fillWithTerm_56 me_G_fillFrom l_N_119 W18 (c_G_fillFrom W18 (W18.rf _ _) ry13) rfl rfl (Nat.le_of_ble_eq_true rfl) rfl (Nat.le_of_ble_eq_true rfl) (Nat.le_trans (Nat.le_of_ble_eq_true rfl) hF) (Nat.le_trans (Nat.le_of_ble_eq_true rfl) hL) ob7 ⟨_, _, rfl⟩ (fun a20 σ21 h22 W23 q24 => ?_)
      refine w_aload_n d_N_fillWithTerm_59 rfl rfl ?_
      refine w_gr d_N_fillWithTerm_60 f_N_22 W23 or42_1 ?_
      refine w_cVI [] [] d_N_fillWithTerm_63 me_G_measureAll l_N_123 W23 (c_G_measureAll W23 ) rfl rfl (Nat.le_of_ble_eq_true rfl) rfl (Nat.le_of_ble_eq_true rfl) (Nat.le_trans (Nat.le_of_ble_eq_true rfl) hF) (Nat.le_trans (Nat.le_of_ble_eq_true rfl) hL) ob7 ⟨_, _, rfl⟩ (fun a25 σ26 h27 W28 q29 => ?_)
      refine w_bipush d_N_fillWithTerm_66 (by decide) ?_
      refine w_icmp_le 75 d_N_fillWithTerm_68 (by decide) q29 (show rng 80 by decide) (fun c30 => ?_) (fun c30 => ?_)
      · refine w_iconst d_N_fillWithTerm_71 ?_
        refine w_goto 76 d_N_fillWithTerm_72 (by decide) ?_
        exact w_iret d_N_fillWithTerm_76 rfl W28 (fun _ _ _ k => k) (show rng 4 by decide)
      · refine w_iconst d_N_fillWithTerm_75 ?_
        exact w_iret d_N_fillWithTerm_76 rfl W28 (fun _ _ _ k => k) (show rng 0 by decide)
  · refine w_iload_n d_N_fillWithTerm_18 rfl rfl ?_
    exact w_iret d_N_fillWithTerm_19 rfl W9 (fun _ _ _ k => k) q10
