def l_U_standsAs_26 (fu : Nat) (p : Nat) (q : Nat) : Nat → Int → SS → Option ((Int ⊕ (Unit)) × SS)
  | 0, _, _ => none
  | n + 1, x2, σ => if x2 < (σ.1 p 11) then (if (gA σ (p + 5) 4 x2) = (gA σ (q + 5) 4 x2) then (ck (rng (x2 + 1)) (l_U_standsAs_26 fu p q n (x2 + 1) σ)) else (some (.inl 0, σ))) else (some (.inr (), σ))
def f_U_standsAs (fu : Nat) (p : Nat) (q : Nat) (σ : SS) : Option (Int × SS) := if (σ.1 p 7) = (σ.1 q 7) then (if (σ.1 p 8) = (σ.1 q 8) then (sr (l_U_standsAs_26 fu p q fu 0 σ) fun (z3 : Unit) σ4 => some (1, σ4)) else (some (0, σ))) else (some (0, σ))
theorem w_U_standsAs_26 {g : MG} {d w fu : Nat} {Q : MO → List MC → Prop} {p : Nat} {q : Nat} (hF : 1 ≤ d) (hL : 21 ≤ w) (hp : cur p) (hq : cur q) : ∀ (n : Nat) (x2 : Int) (σ : SS) (h : List MC), Wd h σ → rng x2 → Ew g none M_U_standsAs d w Q (gS2 rng gU) (cS2 (cI1 Q) (cJ g none M_U_standsAs d w Q 61 (fun x => []) (fun x => []))) 26 [(0, mr p), (1, mr q), (2, iI x2)] [] h σ (l_U_standsAs_26 fu p q n x2 σ) := by
  intro n
  induction n with
  | zero =>
    intro x2 σ h hW r2 a9 σ9 hm
    rw [l_U_standsAs_26] at hm
    cases hm
  | succ n ih =>
    intro x2 σ h hW r2
    rw [l_U_standsAs_26]
    refine w_iload_n d_U_standsAs_26 rfl rfl ?_
    refine w_aload_n d_U_standsAs_27 rfl rfl ?_
    refine w_gi d_U_standsAs_28 f_U_56 hW (cur_i11 hp) ?_
    refine w_icmp_ge 61 d_U_standsAs_31 (by decide) r2 (hW.rf _ _) (fun c1 => ?_) (fun c1 => ?_)
    · refine w_aload_n d_U_standsAs_34 rfl rfl ?_
      refine w_gr d_U_standsAs_35 f_U_24 hW (cur_r10 hp) ?_
      refine w_iload_n d_U_standsAs_38 rfl rfl ?_
      refine w_at d_U_standsAs_39 l_U_43 hW (cur_a5 hp) r2 (Nat.le_of_ble_eq_true rfl) (Nat.le_trans (Nat.le_of_ble_eq_true rfl) hF) (Nat.le_trans (Nat.le_of_ble_eq_true rfl) hL) ?_
      refine w_aload_n d_U_standsAs_42 rfl rfl ?_
      refine w_gr d_U_standsAs_43 f_U_24 hW (cur_r10 hq) ?_
      refine w_iload_n d_U_standsAs_46 rfl rfl ?_
      refine w_at d_U_standsAs_47 l_U_43 hW (cur_a5 hq) r2 (Nat.le_of_ble_eq_true rfl) (Nat.le_trans (Nat.le_of_ble_eq_true rfl) hF) (Nat.le_trans (Nat.le_of_ble_eq_true rfl) hL) ?_
      refine w_icmp_eq 55 d_U_standsAs_50 (by decide) (hW.ga _ _ _) (hW.ga _ _ _) (fun c2 => ?_) (fun c2 => ?_)
      · refine w_iinc [(2, iI (x2 + 1)), (0, mr p), (1, mr q)] d_U_standsAs_55 rfl (by decide) rfl (fun c3 => ?_)
        refine w_goto 26 d_U_standsAs_58 (by decide) ?_
        exact w_sub (m_sc2 rfl (m_sc2 rfl (m_sc2 rfl (m_sn _)))) (ih (x2 + 1) _ _ hW c3)
      · refine w_iconst d_U_standsAs_53 ?_
        exact w_zret d_U_standsAs_54 rfl (by decide) hW (fun _ _ _ k => k) (show rng 0 by decide)
    · exact w_exit [] (m_sn _) hW (fun _ _ _ k => k) True.intro
theorem c_U_standsAs {g : MG} {fu : Nat} {h : List MC} {σ : SS} {p : Nat} {q : Nat} (hW : Wd h σ) (hp : cur p) (hq : cur q) : Cw g M_U_standsAs 1 21 [mr p, mr q] rng cI1 h σ (f_U_standsAs fu p q σ) := by
  refine w_of (fun d w Q hF hL => ?_)
  unfold f_U_standsAs
  show Ew g none M_U_standsAs d w Q rng (cI1 Q) 0 [(0, mr p), (1, mr q)] [] h σ _
  refine w_aload_n d_U_standsAs_0 rfl rfl ?_
  refine w_gi d_U_standsAs_1 f_U_47 hW (cur_i7 hp) ?_
  refine w_aload_n d_U_standsAs_4 rfl rfl ?_
  refine w_gi d_U_standsAs_5 f_U_47 hW (cur_i7 hq) ?_
  refine w_icmp_ne 22 d_U_standsAs_8 (by decide) (hW.rf _ _) (hW.rf _ _) (fun c1 => ?_) (fun c1 => ?_)
  · refine w_aload_n d_U_standsAs_11 rfl rfl ?_
    refine w_gi d_U_standsAs_12 f_U_50 hW (cur_i8 hp) ?_
    refine w_aload_n d_U_standsAs_15 rfl rfl ?_
    refine w_gi d_U_standsAs_16 f_U_50 hW (cur_i8 hq) ?_
    refine w_icmp_eq 24 d_U_standsAs_19 (by decide) (hW.rf _ _) (hW.rf _ _) (fun c2 => ?_) (fun c2 => ?_)
    · refine w_iconst d_U_standsAs_24 ?_
      refine w_istore_n [(2, iI 0), (0, mr p), (1, mr q)] d_U_standsAs_25 rfl (by decide) rfl ?_
      refine w_sr (G1 := gU) (J := 61) (lvJ := fun x => []) (stJ := fun x => []) (w_sub (m_sc2 rfl (m_sc2 rfl (m_sc2 rfl (m_sn _)))) (w_U_standsAs_26 hF hL hp hq fu 0 _ _ hW (show rng 0 by decide))) (fun z3 σ4 h5 W6 q7 => ?_)
      show Ew _ _ _ _ _ _ _ _ 61 [] [] _ _ _
      refine w_iconst d_U_standsAs_61 ?_
      exact w_zret d_U_standsAs_62 rfl (by decide) W6 (fun _ _ _ k => k) (show rng 1 by decide)
    · refine w_iconst d_U_standsAs_22 ?_
      exact w_zret d_U_standsAs_23 rfl (by decide) hW (fun _ _ _ k => k) (show rng 0 by decide)
  · refine w_iconst d_U_standsAs_22 ?_
    exact w_zret d_U_standsAs_23 rfl (by decide) hW (fun _ _ _ k => k) (show rng 0 by decide)
def l_N_solve_2 (fu : Nat) : Nat → Int → SS → Option ((Int ⊕ (Unit)) × SS)
  | 0, _, _ => none
  | n + 1, x1, σ => if x1 < 1000000 then (sq (f_U_advance fu 30 σ) fun (a2 : Int) σ3 => if a2 = 0 then (some (.inl 0, σ3)) else (sq (f_U_advance fu 36 σ3) fun (a8 : Int) σ9 => if a8 = 0 then (some (.inl 0, σ9)) else (sq (if (σ9.1 30 7) = 2 then (if (σ9.1 36 7) = 2 then (sq (if (σ9.1 30 8) = (σ9.1 36 8) then (sq (f_N_narrowToSame fu σ9) fun (a17 : Int) σ18 => some (a17, σ18)) else (sq (f_N_joinHoles fu σ9) fun (a22 : Int) σ23 => some (a22, σ23))) fun (z27 : Int) σ28 => some (z27, σ28)) else (if (σ9.1 30 7) = 2 then (sq (f_N_fillWithTerm fu 30 36 σ9) fun (a33 : Int) σ34 => some (a33, σ34)) else (if (σ9.1 36 7) = 2 then (sq (f_N_fillWithTerm fu 36 30 σ9) fun (a39 : Int) σ40 => some (a39, σ40)) else (sq (f_U_standsAs fu 30 36 σ9) fun (a44 : Int) σ45 => sq (if a44 = 0 then (some (1, σ45)) else (some (0, σ45))) fun (z50 : Int) σ51 => some (z50, σ51))))) else (if (σ9.1 30 7) = 2 then (sq (f_N_fillWithTerm fu 30 36 σ9) fun (a56 : Int) σ57 => some (a56, σ57)) else (if (σ9.1 36 7) = 2 then (sq (f_N_fillWithTerm fu 36 30 σ9) fun (a62 : Int) σ63 => some (a62, σ63)) else (sq (f_U_standsAs fu 30 36 σ9) fun (a67 : Int) σ68 => sq (if a67 = 0 then (some (1, σ68)) else (some (0, σ68))) fun (z73 : Int) σ74 => some (z73, σ74))))) fun (z78 : Int) σ79 => if z78 = 0 then (ck (rng (x1 + 1)) (l_N_solve_2 fu n (x1 + 1) σ79)) else (some (.inl z78, σ79))))) else (some (.inr (), σ))
def f_N_solve (fu : Nat) (σ : SS) : Option (Int × SS) := sr (l_N_solve_2 fu fu 0 σ) fun (z1 : Unit) σ2 => some (0, σ2)
theorem w_N_solve_2 {g : MG} {d w fu : Nat} {Q : MO → List MC → Prop} (hF : 7 ≤ d) (hL : 167 ≤ w) : ∀ (n : Nat) (x1 : Int) (σ : SS) (h : List MC), Wd h σ → rng x1 → Ew g none M_N_solve d w Q (gS2 rng gU) (cS2 (cI1 Q) (cJ g none M_N_solve d w Q 170 (fun x => []) (fun x => []))) 2 [(0, mr 42), (1, iI x1)] [] h σ (l_N_solve_2 fu n x1 σ) := by
  intro n
  induction n with
  | zero =>
    intro x1 σ h hW r1 a9 σ9 hm
    rw [l_N_solve_2] at hm
    cases hm
  | succ n ih =>
    intro x1 σ h hW r1
    rw [l_N_solve_2]
    refine w_iload_n d_N_solve_2 rfl rfl ?_
    refine w_ldc 1000000 d_N_solve_3 k_N_45 (by decide) ?_
    refine w_icmp_ge 170 d_N_solve_5 (by decide) r1 (show rng 1000000 by decide) (fun c1 => ?_) (fun c1 => ?_)
    · refine w_aload_n d_N_solve_8 rfl rfl ?_
      refine w_gr d_N_solve_9 f_N_30 hW or42_3 ?_
      refine w_cVI [] [] d_N_solve_12 me_U_advance l_N_46 hW (c_U_advance hW cur30) rfl rfl (Nat.le_of_ble_eq_true rfl) rfl (Nat.le_of_ble_eq_true rfl) (Nat.le_trans (Nat.le_of_ble_eq_true rfl) hF) (Nat.le_trans (Nat.le_of_ble_eq_true rfl) hL) (cur_ob cur30) ⟨_, _, rfl⟩ (fun a2 σ3 h4 W5 q6 => ?_)
      refine w_if_eq 28 d_N_solve_15 (by decide) q6 (fun c7 => ?_) (fun c7 => ?_)
      · refine w_iconst d_N_solve_28 ?_
        exact w_iret d_N_solve_29 rfl W5 (fun _ _ _ k => k) (show rng 0 by decide)
      · refine w_aload_n d_N_solve_18 rfl rfl ?_
        refine w_gr d_N_solve_19 f_N_34 W5 or42_4 ?_
        refine w_cVI [] [] d_N_solve_22 me_U_advance l_N_46 W5 (c_U_advance W5 cur36) rfl rfl (Nat.le_of_ble_eq_true rfl) rfl (Nat.le_of_ble_eq_true rfl) (Nat.le_trans (Nat.le_of_ble_eq_true rfl) hF) (Nat.le_trans (Nat.le_of_ble_eq_true rfl) hL) (cur_ob cur36) ⟨_, _, rfl⟩ (fun a8 σ9 h10 W11 q12 => ?_)
        refine w_if_ne 30 d_N_solve_25 (by decide) q12 (fun c13 => ?_) (fun c13 => ?_)
        · refine w_iconst d_N_solve_28 ?_
          exact w_iret d_N_solve_29 rfl W11 (fun _ _ _ k => k) (show rng 0 by decide)
        · refine w_aload_n d_N_solve_30 rfl rfl ?_
          refine w_gr d_N_solve_31 f_N_30 W11 or42_3 ?_
          refine w_gi d_N_solve_34 f_N_50 W11 (cur_i7 cur30) ?_
          refine w_iconst d_N_solve_37 ?_
          refine w_sq (G1 := rng) (J := 158) (lvJ := fun x => [(0, mr 42), (1, iI x1), (2, iI x)]) (stJ := fun x => []) ?_ (fun z78 σ79 h80 W81 q82 => ?_)
          · refine w_icmp_ne 84 d_N_solve_38 (by decide) (W11.rf _ _) (show rng 2 by decide) (fun c14 => ?_) (fun c14 => ?_)
            · refine w_aload_n d_N_solve_41 rfl rfl ?_
              refine w_gr d_N_solve_42 f_N_34 W11 or42_4 ?_
              refine w_gi d_N_solve_45 f_N_50 W11 (cur_i7 cur36) ?_
              refine w_iconst d_N_solve_48 ?_
              refine w_icmp_ne 84 d_N_solve_49 (by decide) (W11.rf _ _) (show rng 2 by decide) (fun c15 => ?_) (fun c15 => ?_)
              · refine w_aload_n d_N_solve_52 rfl rfl ?_
                refine w_gr d_N_solve_53 f_N_30 W11 or42_3 ?_
                refine w_gi d_N_solve_56 f_N_54 W11 (cur_i8 cur30) ?_
                refine w_aload_n d_N_solve_59 rfl rfl ?_
                refine w_gr d_N_solve_60 f_N_34 W11 or42_4 ?_
                refine w_gi d_N_solve_63 f_N_54 W11 (cur_i8 cur36) ?_
                refine w_sq (G1 := rng) (J := 80) (lvJ := fun x => [(0, mr 42), (1, iI x1)]) (stJ := fun x => [iI x]) ?_ (fun z27 σ28 h29 W30 q31 => ?_)
                · refine w_icmp_ne 76 d_N_solve_66 (by decide) (W11.rf _ _) (W11.rf _ _) (fun c16 => ?_) (fun c16 => ?_)
                  · refine w_aload_n d_N_solve_69 rfl rfl ?_
                    refine w_cVI [] [] d_N_solve_70 me_N_narrowToSame l_N_57 W11 (c_N_narrowToSame W11 ) rfl rfl (Nat.le_of_ble_eq_true rfl) rfl (Nat.le_of_ble_eq_true rfl) (Nat.le_trans (Nat.le_of_ble_eq_true rfl) hF) (Nat.le_trans (Nat.le_of_ble_eq_true rfl) hL) ob42 ⟨_, _, rfl⟩ (fun a17 σ18 h19 W20 q21 => ?_)
                    refine w_goto 80 d_N_solve_73 (by decide) ?_
                    exact w_exit [(0, mr 42), (1, iI x1)] (m_sc2 rfl (m_sc2 rfl (m_sn _))) W20 (fun _ _ _ k => k) q21
                  · refine w_aload_n d_N_solve_76 rfl rfl ?_
                    refine w_cVI [] [] d_N_solve_77 me_N_joinHoles l_N_61 W11 (c_N_joinHoles W11 ) rfl rfl (Nat.le_of_ble_eq_true rfl) rfl (Nat.le_of_ble_eq_true rfl) (Nat.le_trans (Nat.le_of_ble_eq_true rfl) hF) (Nat.le_trans (Nat.le_of_ble_eq_true rfl) hL) ob42 ⟨_, _, rfl⟩ (fun a22 σ23 h24 W25 q26 => ?_)
                    exact w_exit [(0, mr 42), (1, iI x1)] (m_sc2 rfl (m_sc2 rfl (m_sn _))) W25 (fun _ _ _ k => k) q26
                · show Ew _ _ _ _ _ _ _ _ 80 [(0, mr 42), (1, iI x1)] [iI z27] _ _ _
                  refine w_istore_n [(2, iI z27), (0, mr 42), (1, iI x1)] d_N_solve_80 rfl (by decide) rfl ?_
                  refine w_goto 158 d_N_solve_81 (by decide) ?_
                  exact w_exit [(0, mr 42), (1, iI x1), (2, iI z27)] (m_sc2 rfl (m_sc2 rfl (m_sc2 rfl (m_sn _)))) W30 (fun _ _ _ k => k) q31
              · refine w_aload_n d_N_solve_84 rfl rfl ?_
                refine w_gr d_N_solve_85 f_N_30 W11 or42_3 ?_
                refine w_gi d_N_solve_88 f_N_50 W11 (cur_i7 cur30) ?_
                refine w_iconst d_N_solve_91 ?_
                refine w_icmp_ne 111 d_N_solve_92 (by decide) (W11.rf _ _) (show rng 2 by decide) (fun c32 => ?_) (fun c32 => ?_)
                · refine w_aload_n d_N_solve_95 rfl rfl ?_
                  refine w_aload_n d_N_solve_96 rfl rfl ?_
                  refine w_gr d_N_solve_97 f_N_30 W11 or42_3 ?_
                  refine w_aload_n d_N_solve_100 rfl rfl ?_
                  refine w_gr d_N_solve_101 f_N_34 W11 or42_4 ?_
                  refine w_cVI [mr 30, mr 36] [] d_N_solve_104 me_N_fillWithTerm l_N_64 W11 (c_N_fillWithTerm W11 cur30 cur36) rfl rfl (Nat.le_of_ble_eq_true rfl) rfl (Nat.le_of_ble_eq_true rfl) (Nat.le_trans (Nat.le_of_ble_eq_true rfl) hF) (Nat.le_trans (Nat.le_of_ble_eq_true rfl) hL) ob42 ⟨_, _, rfl⟩ (fun a33 σ34 h35 W36 q37 => ?_)
                  refine w_istore_n [(2, iI a33), (0, mr 42), (1, iI x1)] d_N_solve_107 rfl (by decide) rfl ?_
                  refine w_goto 158 d_N_solve_108 (by decide) ?_
                  exact w_exit [(0, mr 42), (1, iI x1), (2, iI a33)] (m_sc2 rfl (m_sc2 rfl (m_sc2 rfl (m_sn _)))) W36 (fun _ _ _ k => k) q37
                · refine w_aload_n d_N_solve_111 rfl rfl ?_
                  refine w_gr d_N_solve_112 f_N_34 W11 or42_4 ?_
                  refine w_gi d_N_solve_115 f_N_50 W11 (cur_i7 cur36) ?_
                  refine w_iconst d_N_solve_118 ?_
                  refine w_icmp_ne 138 d_N_solve_119 (by decide) (W11.rf _ _) (show rng 2 by decide) (fun c38 => ?_) (fun c38 => ?_)
                  · refine w_aload_n d_N_solve_122 rfl rfl ?_
                    refine w_aload_n d_N_solve_123 rfl rfl ?_
                    refine w_gr d_N_solve_124 f_N_34 W11 or42_4 ?_
                    refine w_aload_n d_N_solve_127 rfl rfl ?_
                    refine w_gr d_N_solve_128 f_N_30 W11 or42_3 ?_
                    refine w_cVI [mr 36, mr 30] [] d_N_solve_131 me_N_fillWithTerm l_N_64 W11 (c_N_fillWithTerm W11 cur36 cur30) rfl rfl (Nat.le_of_ble_eq_true rfl) rfl (Nat.le_of_ble_eq_true rfl) (Nat.le_trans (Nat.le_of_ble_eq_true rfl) hF) (Nat.le_trans (Nat.le_of_ble_eq_true rfl) hL) ob42 ⟨_, _, rfl⟩ (fun a39 σ40 h41 W42 q43 => ?_)
                    refine w_istore_n [(2, iI a39), (0, mr 42), (1, iI x1)] d_N_solve_134 rfl (by decide) rfl ?_
                    refine w_goto 158 d_N_solve_135 (by decide) ?_
                    exact w_exit [(0, mr 42), (1, iI x1), (2, iI a39)] (m_sc2 rfl (m_sc2 rfl (m_sc2 rfl (m_sn _)))) W42 (fun _ _ _ k => k) q43
                  · refine w_aload_n d_N_solve_138 rfl rfl ?_
                    refine w_gr d_N_solve_139 f_N_30 W11 or42_3 ?_
                    refine w_aload_n d_N_solve_142 rfl rfl ?_
                    refine w_gr d_N_solve_143 f_N_34 W11 or42_4 ?_
                    refine w_cVI [mr 36] [] d_N_solve_146 me_U_standsAs l_N_68 W11 (c_U_standsAs W11 cur30 cur36) rfl rfl (Nat.le_of_ble_eq_true rfl) rfl (Nat.le_of_ble_eq_true rfl) (Nat.le_trans (Nat.le_of_ble_eq_true rfl) hF) (Nat.le_trans (Nat.le_of_ble_eq_true rfl) hL) (cur_ob cur30) ⟨_, _, rfl⟩ (fun a44 σ45 h46 W47 q48 => ?_)
                    refine w_sq (G1 := rng) (J := 157) (lvJ := fun x => [(0, mr 42), (1, iI x1)]) (stJ := fun x => [iI x]) ?_ (fun z50 σ51 h52 W53 q54 => ?_)
                    · refine w_if_eq 156 d_N_solve_149 (by decide) q48 (fun c49 => ?_) (fun c49 => ?_)
                      · refine w_iconst d_N_solve_156 ?_
                        exact w_exit [(0, mr 42), (1, iI x1)] (m_sc2 rfl (m_sc2 rfl (m_sn _))) W47 (fun _ _ _ k => k) (show rng 1 by decide)
                      · refine w_iconst d_N_solve_152 ?_
                        refine w_goto 157 d_N_solve_153 (by decide) ?_
                        exact w_exit [(0, mr 42), (1, iI x1)] (m_sc2 rfl (m_sc2 rfl (m_sn _))) W47 (fun _ _ _ k => k) (show rng 0 by decide)
                    · show Ew _ _ _ _ _ _ _ _ 157 [(0, mr 42), (1, iI x1)] [iI z50] _ _ _
                      refine w_istore_n [(2, iI z50), (0, mr 42), (1, iI x1)] d_N_solve_157 rfl (by decide) rfl ?_
                      exact w_exit [(0, mr 42), (1, iI x1), (2, iI z50)] (m_sc2 rfl (m_sc2 rfl (m_sc2 rfl (m_sn _)))) W53 (fun _ _ _ k => k) q54
            · refine w_aload_n d_N_solve_84 rfl rfl ?_
              refine w_gr d_N_solve_85 f_N_30 W11 or42_3 ?_
              refine w_gi d_N_solve_88 f_N_50 W11 (cur_i7 cur30) ?_
              refine w_iconst d_N_solve_91 ?_
              refine w_icmp_ne 111 d_N_solve_92 (by decide) (W11.rf _ _) (show rng 2 by decide) (fun c55 => ?_) (fun c55 => ?_)
              · refine w_aload_n d_N_solve_95 rfl rfl ?_
                refine w_aload_n d_N_solve_96 rfl rfl ?_
                refine w_gr d_N_solve_97 f_N_30 W11 or42_3 ?_
                refine w_aload_n d_N_solve_100 rfl rfl ?_
                refine w_gr d_N_solve_101 f_N_34 W11 or42_4 ?_
                refine w_cVI [mr 30, mr 36] [] d_N_solve_104 me_N_fillWithTerm l_N_64 W11 (c_N_fillWithTerm W11 cur30 cur36) rfl rfl (Nat.le_of_ble_eq_true rfl) rfl (Nat.le_of_ble_eq_true rfl) (Nat.le_trans (Nat.le_of_ble_eq_true rfl) hF) (Nat.le_trans (Nat.le_of_ble_eq_true rfl) hL) ob42 ⟨_, _, rfl⟩ (fun a56 σ57 h58 W59 q60 => ?_)
                refine w_istore_n [(2, iI a56), (0, mr 42), (1, iI x1)] d_N_solve_107 rfl (by decide) rfl ?_
                refine w_goto 158 d_N_solve_108 (by decide) ?_
                exact w_exit [(0, mr 42), (1, iI x1), (2, iI a56)] (m_sc2 rfl (m_sc2 rfl (m_sc2 rfl (m_sn _)))) W59 (fun _ _ _ k => k) q60
              · refine w_aload_n d_N_solve_111 rfl rfl ?_
                refine w_gr d_N_solve_112 f_N_34 W11 or42_4 ?_
                refine w_gi d_N_solve_115 f_N_50 W11 (cur_i7 cur36) ?_
                refine w_iconst d_N_solve_118 ?_
                refine w_icmp_ne 138 d_N_solve_119 (by decide) (W11.rf _ _) (show rng 2 by decide) (fun c61 => ?_) (fun c61 => ?_)
                · refine w_aload_n d_N_solve_122 rfl rfl ?_
                  refine w_aload_n d_N_solve_123 rfl rfl ?_
                  refine w_gr d_N_solve_124 f_N_34 W11 or42_4 ?_
                  refine w_aload_n d_N_solve_127 rfl rfl ?_
                  refine w_gr d_N_solve_128 f_N_30 W11 or42_3 ?_
                  refine w_cVI [mr 36, mr 30] [] d_N_solve_131 me_N_fillWithTerm l_N_64 W11 (c_N_fillWithTerm W11 cur36 cur30) rfl rfl (Nat.le_of_ble_eq_true rfl) rfl (Nat.le_of_ble_eq_true rfl) (Nat.le_trans (Nat.le_of_ble_eq_true rfl) hF) (Nat.le_trans (Nat.le_of_ble_eq_true rfl) hL) ob42 ⟨_, _, rfl⟩ (fun a62 σ63 h64 W65 q66 => ?_)
                  refine w_istore_n [(2, iI a62), (0, mr 42), (1, iI x1)] d_N_solve_134 rfl (by decide) rfl ?_
                  refine w_goto 158 d_N_solve_135 (by decide) ?_
                  exact w_exit [(0, mr 42), (1, iI x1), (2, iI a62)] (m_sc2 rfl (m_sc2 rfl (m_sc2 rfl (m_sn _)))) W65 (fun _ _ _ k => k) q66
                · refine w_aload_n d_N_solve_138 rfl rfl ?_
                  refine w_gr d_N_solve_139 f_N_30 W11 or42_3 ?_
                  refine w_aload_n d_N_solve_142 rfl rfl ?_
                  refine w_gr d_N_solve_143 f_N_34 W11 or42_4 ?_
                  refine w_cVI [mr 36] [] d_N_solve_146 me_U_standsAs l_N_68 W11 (c_U_standsAs W11 cur30 cur36) rfl rfl (Nat.le_of_ble_eq_true rfl) rfl (Nat.le_of_ble_eq_true rfl) (Nat.le_trans (Nat.le_of_ble_eq_true rfl) hF) (Nat.le_trans (Nat.le_of_ble_eq_true rfl) hL) (cur_ob cur30) ⟨_, _, rfl⟩ (fun a67 σ68 h69 W70 q71 => ?_)
                  refine w_sq (G1 := rng) (J := 157) (lvJ := fun x => [(0, mr 42), (1, iI x1)]) (stJ := fun x => [iI x]) ?_ (fun z73 σ74 h75 W76 q77 => ?_)
                  · refine w_if_eq 156 d_N_solve_149 (by decide) q71 (fun c72 => ?_) (fun c72 => ?_)
                    · refine w_iconst d_N_solve_156 ?_
                      exact w_exit [(0, mr 42), (1, iI x1)] (m_sc2 rfl (m_sc2 rfl (m_sn _))) W70 (fun _ _ _ k => k) (show rng 1 by decide)
                    · refine w_iconst d_N_solve_152 ?_
                      refine w_goto 157 d_N_solve_153 (by decide) ?_
                      exact w_exit [(0, mr 42), (1, iI x1)] (m_sc2 rfl (m_sc2 rfl (m_sn _))) W70 (fun _ _ _ k => k) (show rng 0 by decide)
                  · show Ew _ _ _ _ _ _ _ _ 157 [(0, mr 42), (1, iI x1)] [iI z73] _ _ _
                    refine w_istore_n [(2, iI z73), (0, mr 42), (1, iI x1)] d_N_solve_157 rfl (by decide) rfl ?_
                    exact w_exit [(0, mr 42), (1, iI x1), (2, iI z73)] (m_sc2 rfl (m_sc2 rfl (m_sc2 rfl (m_sn _)))) W76 (fun _ _ _ k => k) q77
          · show Ew _ _ _ _ _ _ _ _ 158 [(0, mr 42), (1, iI x1), (2, iI z78)] [] _ _ _
            refine w_iload_n d_N_solve_158 rfl rfl ?_
            refine w_if_eq 164 d_N_solve_159 (by decide) q82 (fun c83 => ?_) (fun c83 => ?_)
            · refine w_iinc [(1, iI (x1 + 1)), (0, mr 42), (2, iI z78)] d_N_solve_164 rfl (by decide) rfl (fun c84 => ?_)
              refine w_goto 2 d_N_solve_167 (by decide) ?_
              exact w_sub (m_sc2 rfl (m_sc2 rfl (m_sn _))) (ih (x1 + 1) _ _ W81 c84)
            · refine w_iload_n d_N_solve_162 rfl rfl ?_
              exact w_iret d_N_solve_163 rfl W81 (fun _ _ _ k => k) q82
    · exact w_exit [] (m_sn _) hW (fun _ _ _ k => k) True.intro
theorem c_N_solve {g : MG} {fu : Nat} {h : List MC} {σ : SS} (hW : Wd h σ) : Cw g M_N_solve 7 167 [mr 42] rng cI1 h σ (f_N_solve fu σ) := by
  refine w_of (fun d w Q hF hL => ?_)
  unfold f_N_solve
  show Ew g none M_N_solve d w Q rng (cI1 Q) 0 [(0, mr 42)] [] h σ _
  refine w_iconst d_N_solve_0 ?_
  refine w_istore_n [(1, iI 0), (0, mr 42)] d_N_solve_1 rfl (by decide) rfl ?_
  refine w_sr (G1 := gU) (J := 170) (lvJ := fun x => []) (stJ := fun x => []) (w_sub (m_sc2 rfl (m_sc2 rfl (m_sn _))) (w_N_solve_2 hF hL fu 0 _ _ hW (show rng 0 by decide))) (fun z1 σ2 h3 W4 q5 => ?_)
  show Ew _ _ _ _ _ _ _ _ 170 [] [] _ _ _
  refine w_iconst d_N_solve_170 ?_
  exact w_iret d_N_solve_171 rfl W4 (fun _ _ _ k => k) (show rng 0 by decide)
def f_H_unify (fu : Nat) (x1 : Int) (x2 : Int) (σ : SS) : Option ((Int ⊕ String) × SS) := sx (f_H_startBoth x1 x2 σ) fun (a1 : Unit) σ2 => lb (σ2.1 7 8) fun y6 => lb (σ2.1 7 7) fun y8 => sq (f_N_solve fu σ2) fun (a10 : Int) σ11 => if a10 = 0 then (ck (rng ((σ11.1 0 7) + 1)) (lb (sF σ11 0 7 ((σ11.1 0 7) + 1)) fun σ18 => some (.inl a10, σ18))) else (sq (f_G_undoTo fu y6 y8 σ11) fun (a21 : Unit) σ22 => ck (rng ((σ22.1 0 8) + 1)) (lb (sF σ22 0 8 ((σ22.1 0 8) + 1)) fun σ28 => some (.inl a10, σ28)))
theorem c_H_unify {g : MG} {fu : Nat} {h : List MC} {σ : SS} {x1 : Int} {x2 : Int} (hl : g.1.stackTraces = false) (hW : Wd h σ) (r1 : rng x1) (r2 : rng x2) : Cw g M_H_unify 8 189 [mr 0, iI x1, iI x2] (gS2 rng gE) (fun Q => cS2 (cI1 Q) (cE1 Q)) h σ (f_H_unify fu x1 x2 σ) := by
  refine w_of (fun d w Q hF hL => ?_)
  unfold f_H_unify
  show Ew g none M_H_unify d w Q (gS2 rng gE) (cS2 (cI1 Q) (cE1 Q)) 0 [(0, mr 0), (1, iI x1), (2, iI x2)] [] h σ _
  refine w_aload_n d_H_unify_0 rfl rfl ?_
  refine w_iload_n d_H_unify_1 rfl rfl ?_
  refine w_iload_n d_H_unify_2 rfl rfl ?_
  refine w_xVU [iI x1, iI x2] [] d_H_unify_3 me_H_startBoth l_H_129 rfl hW (c_H_startBoth hl hW r1 r2) rfl rfl (Nat.le_of_ble_eq_true rfl) rfl (Nat.le_of_ble_eq_true rfl) (Nat.le_trans (Nat.le_of_ble_eq_true rfl) hF) (Nat.le_trans (Nat.le_of_ble_eq_true rfl) hL) ob0 ⟨_, _, rfl⟩ (fun a1 σ2 h3 W4 q5 => ?_)
  refine w_aload_n d_H_unify_6 rfl rfl ?_
  refine w_gr d_H_unify_7 f_H_24 W4 or0_1 ?_
  refine w_gi d_H_unify_10 f_H_132 W4 oi7_8 ?_
  refine w_top (fun y6 e7 => ?_)
  have ry6 : rng y6 := e7 ▸ (W4.rf _ _)
  refine w_istore_n [(3, iI y6), (0, mr 0), (1, iI x1), (2, iI x2)] d_H_unify_13 rfl (by decide) rfl ?_
  refine w_aload_n d_H_unify_14 rfl rfl ?_
  refine w_gr d_H_unify_15 f_H_24 W4 or0_1 ?_
  refine w_gi d_H_unify_18 f_H_136 W4 oi7_7 ?_
  refine w_top (fun y8 e9 => ?_)
  have ry8 : rng y8 := e9 ▸ (W4.rf _ _)
  refine w_istore [(4, iI y8), (3, iI y6), (0, mr 0), (1, iI x1), (2, iI x2)] d_H_unify_21 (by decide) rfl ?_
  refine w_aload_n d_H_unify_23 rfl rfl ?_
  refine w_gr d_H_unify_24 f_H_54 W4 or0_5 ?_
  refine w_cVI [] [] d_H_unify_27 me_N_solve l_H_139 W4 (c_N_solve W4 ) rfl rfl (Nat.le_of_ble_eq_true rfl) rfl (Nat.le_of_ble_eq_true rfl) (Nat.le_trans (Nat.le_of_ble_eq_true rfl) hF) (Nat.le_trans (Nat.le_of_ble_eq_true rfl) hL) ob42 ⟨_, _, rfl⟩ (fun a10 σ11 h12 W13 q14 => ?_)
  refine w_istore [(5, iI a10), (4, iI y8), (3, iI y6), (0, mr 0), (1, iI x1), (2, iI x2)] d_H_unify_30 (by decide) rfl ?_
  refine w_iload d_H_unify_32 rfl ?_
  refine w_if_ne 50 d_H_unify_34 (by decide) q14 (fun c15 => ?_) (fun c15 => ?_)
  · refine w_aload_n d_H_unify_37 rfl rfl ?_
    refine w_dup d_H_unify_38 rfl ?_
    refine w_gi d_H_unify_39 f_H_142 W13 oi0_7 ?_
    refine w_iconst d_H_unify_42 ?_
    refine w_iadd d_H_unify_43 (fun c16 => ?_)
    refine w_pi d_H_unify_44 p_H_142 W13 oi0_7 (by decide) c16 (fun h17 σ18 e19 W20 => ?_)
    refine w_goto 70 d_H_unify_47 (by decide) ?_
    refine w_iload d_H_unify_70 rfl ?_
    exact w_iret d_H_unify_72 rfl W20 (fun _ _ _ k => k) q14
  · refine w_aload_n d_H_unify_50 rfl rfl ?_
    refine w_gr d_H_unify_51 f_H_24 W13 or0_1 ?_
    refine w_iload_n d_H_unify_54 rfl rfl ?_
    refine w_iload d_H_unify_55 rfl ?_
    refine w_cVU [iI y6, iI y8] [] d_H_unify_57 me_G_undoTo l_H_145 W13 (c_G_undoTo W13 ry6 ry8) rfl rfl (Nat.le_of_ble_eq_true rfl) rfl (Nat.le_of_ble_eq_true rfl) (Nat.le_trans (Nat.le_of_ble_eq_true rfl) hF) (Nat.le_trans (Nat.le_of_ble_eq_true rfl) hL) ob7 ⟨_, _, rfl⟩ (fun a21 σ22 h23 W24 q25 => ?_)
    refine w_aload_n d_H_unify_60 rfl rfl ?_
    refine w_dup d_H_unify_61 rfl ?_
    refine w_gi d_H_unify_62 f_H_148 W24 oi0_8 ?_
    refine w_iconst d_H_unify_65 ?_
    refine w_iadd d_H_unify_66 (fun c26 => ?_)
    refine w_pi d_H_unify_67 p_H_148 W24 oi0_8 (by decide) c26 (fun h27 σ28 e29 W30 => ?_)
    refine w_iload d_H_unify_70 rfl ?_
    exact w_iret d_H_unify_72 rfl W30 (fun _ _ _ k => k) q14
def l_R_risingOrder_17 (fu : Nat) (q : Nat) : Nat → Int → Int → Int → Int → SS → Option ((Int) × SS)
  | 0, _, _, _, _, _ => none
  | n + 1, x1, x2, x3, x4, σ => if x4 < (σ.1 q 11) then (sq (if (gA σ (q + 5) 4 x4) < (gA σ (q + 5) 4 x2) then (ck (rng (x3 + 1)) (some ((x3 + 1), σ))) else (some (x3, σ))) fun (z4 : Int) σ5 => ck (rng (x4 + 1)) (l_R_risingOrder_17 fu q n x1 x2 z4 (x4 + 1) σ5)) else (some (x3, σ))
def l_R_risingOrder_4 (fu : Nat) (q : Nat) : Nat → Int → Int → SS → Option ((Int) × SS)
  | 0, _, _, _ => none
  | n + 1, x1, x2, σ => if x2 < (σ.1 q 11) then (sq (l_R_risingOrder_17 fu q fu x1 x2 0 0 σ) fun (z2 : Int) σ3 => ck (rng (2 * z2)) (lb (bo x1 (bs x2 (2 * z2))) fun y8 => ck (rng (x2 + 1)) (l_R_risingOrder_4 fu q n y8 (x2 + 1) σ3))) else (some (x1, σ))
def f_R_risingOrder (fu : Nat) (q : Nat) (σ : SS) : Option (Int × SS) := sq (l_R_risingOrder_4 fu q fu 0 0 σ) fun (z1 : Int) σ2 => some (z1, σ2)
theorem w_R_risingOrder_17 {g : MG} {d w fu : Nat} {Q : MO → List MC → Prop} {q : Nat} (hF : 1 ≤ d) (hL : 21 ≤ w) (hq : cur q) : ∀ (n : Nat) (x1 : Int) (x2 : Int) (x3 : Int) (x4 : Int) (σ : SS) (h : List MC), Wd h σ → rng x1 → rng x2 → rng x3 → rng x4 → Ew g none M_R_risingOrder d w Q rng (cJ g none M_R_risingOrder d w Q 55 (fun x => [(0, mr q), (1, iI x1), (2, iI x2), (3, iI x)]) (fun x => [])) 17 [(0, mr q), (1, iI x1), (2, iI x2), (3, iI x3), (4, iI x4)] [] h σ (l_R_risingOrder_17 fu q n x1 x2 x3 x4 σ) := by
  intro n
  induction n with
  | zero =>
    intro x1 x2 x3 x4 σ h hW r1 r2 r3 r4 a9 σ9 hm
    rw [l_R_risingOrder_17] at hm
    cases hm
  | succ n ih =>
    intro x1 x2 x3 x4 σ h hW r1 r2 r3 r4
    rw [l_R_risingOrder_17]
    refine w_iload d_R_risingOrder_17 rfl ?_
    refine w_aload_n d_R_risingOrder_19 rfl rfl ?_
    refine w_gi d_R_risingOrder_20 f_R_71 hW (cur_i11 hq) ?_
    refine w_icmp_ge 55 d_R_risingOrder_23 (by decide) r4 (hW.rf _ _) (fun c1 => ?_) (fun c1 => ?_)
    · refine w_aload_n d_R_risingOrder_26 rfl rfl ?_
      refine w_gr d_R_risingOrder_27 f_R_74 hW (cur_r10 hq) ?_
      refine w_iload d_R_risingOrder_30 rfl ?_
      refine w_at d_R_risingOrder_32 l_R_59 hW (cur_a5 hq) r4 (Nat.le_of_ble_eq_true rfl) (Nat.le_trans (Nat.le_of_ble_eq_true rfl) hF) (Nat.le_trans (Nat.le_of_ble_eq_true rfl) hL) ?_
      refine w_aload_n d_R_risingOrder_35 rfl rfl ?_
      refine w_gr d_R_risingOrder_36 f_R_74 hW (cur_r10 hq) ?_
      refine w_iload_n d_R_risingOrder_39 rfl rfl ?_
      refine w_at d_R_risingOrder_40 l_R_59 hW (cur_a5 hq) r2 (Nat.le_of_ble_eq_true rfl) (Nat.le_trans (Nat.le_of_ble_eq_true rfl) hF) (Nat.le_trans (Nat.le_of_ble_eq_true rfl) hL) ?_
      refine w_sq (G1 := rng) (J := 49) (lvJ := fun x => [(0, mr q), (1, iI x1), (2, iI x2), (3, iI x), (4, iI x4)]) (stJ := fun x => []) ?_ (fun z4 σ5 h6 W7 q8 => ?_)
      · refine w_icmp_ge 49 d_R_risingOrder_43 (by decide) (hW.ga _ _ _) (hW.ga _ _ _) (fun c2 => ?_) (fun c2 => ?_)
        · refine w_iinc [(3, iI (x3 + 1)), (0, mr q), (1, iI x1), (2, iI x2), (4, iI x4)] d_R_risingOrder_46 rfl (by decide) rfl (fun c3 => ?_)
          exact w_exit [(0, mr q), (1, iI x1), (2, iI x2), (3, iI (x3 + 1)), (4, iI x4)] (m_sc2 rfl (m_sc2 rfl (m_sc2 rfl (m_sc2 rfl (m_sc2 rfl (m_sn _)))))) hW (fun _ _ _ k => k) c3
        · exact w_exit [(0, mr q), (1, iI x1), (2, iI x2), (3, iI x3), (4, iI x4)] (m_sc2 rfl (m_sc2 rfl (m_sc2 rfl (m_sc2 rfl (m_sc2 rfl (m_sn _)))))) hW (fun _ _ _ k => k) r3
      · show Ew _ _ _ _ _ _ _ _ 49 [(0, mr q), (1, iI x1), (2, iI x2), (3, iI z4), (4, iI x4)] [] _ _ _
        refine w_iinc [(4, iI (x4 + 1)), (0, mr q), (1, iI x1), (2, iI x2), (3, iI z4)] d_R_risingOrder_49 rfl (by decide) rfl (fun c9 => ?_)
        refine w_goto 17 d_R_risingOrder_52 (by decide) ?_
        exact w_sub (m_sc2 rfl (m_sc2 rfl (m_sc2 rfl (m_sc2 rfl (m_sc2 rfl (m_sn _)))))) (ih x1 x2 z4 (x4 + 1) _ _ W7 r1 r2 q8 c9)
    · exact w_exit [(0, mr q), (1, iI x1), (2, iI x2), (3, iI x3)] (m_sc2 rfl (m_sc2 rfl (m_sc2 rfl (m_sc2 rfl (m_sn _))))) hW (fun _ _ _ k => k) r3
theorem w_R_risingOrder_4 {g : MG} {d w fu : Nat} {Q : MO → List MC → Prop} {q : Nat} (hF : 1 ≤ d) (hL : 21 ≤ w) (hq : cur q) : ∀ (n : Nat) (x1 : Int) (x2 : Int) (σ : SS) (h : List MC), Wd h σ → rng x1 → rng x2 → Ew g none M_R_risingOrder d w Q rng (cJ g none M_R_risingOrder d w Q 69 (fun x => [(1, iI x)]) (fun x => [])) 4 [(0, mr q), (1, iI x1), (2, iI x2)] [] h σ (l_R_risingOrder_4 fu q n x1 x2 σ) := by
  intro n
  induction n with
  | zero =>
    intro x1 x2 σ h hW r1 r2 a9 σ9 hm
    rw [l_R_risingOrder_4] at hm
    cases hm
  | succ n ih =>
    intro x1 x2 σ h hW r1 r2
    rw [l_R_risingOrder_4]
    refine w_iload_n d_R_risingOrder_4 rfl rfl ?_
    refine w_aload_n d_R_risingOrder_5 rfl rfl ?_
    refine w_gi d_R_risingOrder_6 f_R_71 hW (cur_i11 hq) ?_
    refine w_icmp_ge 69 d_R_risingOrder_9 (by decide) r2 (hW.rf _ _) (fun c1 => ?_) (fun c1 => ?_)
    · refine w_iconst d_R_risingOrder_12 ?_
      refine w_istore_n [(3, iI 0), (0, mr q), (1, iI x1), (2, iI x2)] d_R_risingOrder_13 rfl (by decide) rfl ?_
      refine w_iconst d_R_risingOrder_14 ?_
      refine w_istore [(4, iI 0), (3, iI 0), (0, mr q), (1, iI x1), (2, iI x2)] d_R_risingOrder_15 (by decide) rfl ?_
      refine w_sq (G1 := rng) (J := 55) (lvJ := fun x => [(0, mr q), (1, iI x1), (2, iI x2), (3, iI x)]) (stJ := fun x => []) (w_sub (m_sc2 rfl (m_sc2 rfl (m_sc2 rfl (m_sc2 rfl (m_sc2 rfl (m_sn _)))))) (w_R_risingOrder_17 hF hL hq fu x1 x2 0 0 _ _ hW r1 r2 (show rng 0 by decide) (show rng 0 by decide))) (fun z2 σ3 h4 W5 q6 => ?_)
      show Ew _ _ _ _ _ _ _ _ 55 [(0, mr q), (1, iI x1), (2, iI x2), (3, iI z2)] [] _ _ _
      refine w_iload_n d_R_risingOrder_55 rfl rfl ?_
      refine w_iload_n d_R_risingOrder_56 rfl rfl ?_
      refine w_iconst d_R_risingOrder_57 ?_
      refine w_iload_n d_R_risingOrder_58 rfl rfl ?_
      refine w_imul d_R_risingOrder_59 (fun c7 => ?_)
      refine w_ishl d_R_risingOrder_60 ?_
      refine w_ior d_R_risingOrder_61 ?_
      refine w_top (fun y8 e9 => ?_)
      have ry8 : rng y8 := e9 ▸ (bo_rng _ _)
      refine w_istore_n [(1, iI y8), (0, mr q), (2, iI x2), (3, iI z2)] d_R_risingOrder_62 rfl (by decide) rfl ?_
      refine w_iinc [(2, iI (x2 + 1)), (1, iI y8), (0, mr q), (3, iI z2)] d_R_risingOrder_63 rfl (by decide) rfl (fun c10 => ?_)
      refine w_goto 4 d_R_risingOrder_66 (by decide) ?_
      exact w_sub (m_sc2 rfl (m_sc2 rfl (m_sc2 rfl (m_sn _)))) (ih y8 (x2 + 1) _ _ W5 ry8 c10)
    · exact w_exit [(1, iI x1)] (m_sc2 rfl (m_sn _)) hW (fun _ _ _ k => k) r1
theorem c_R_risingOrder {g : MG} {fu : Nat} {h : List MC} {σ : SS} {q : Nat} (hW : Wd h σ) (hq : cur q) : Cw g M_R_risingOrder 1 21 [mr q] rng cI1 h σ (f_R_risingOrder fu q σ) := by
  refine w_of (fun d w Q hF hL => ?_)
  unfold f_R_risingOrder
  show Ew g none M_R_risingOrder d w Q rng (cI1 Q) 0 [(0, mr q)] [] h σ _
  refine w_iconst d_R_risingOrder_0 ?_
  refine w_istore_n [(1, iI 0), (0, mr q)] d_R_risingOrder_1 rfl (by decide) rfl ?_
  refine w_iconst d_R_risingOrder_2 ?_
  refine w_istore_n [(2, iI 0), (1, iI 0), (0, mr q)] d_R_risingOrder_3 rfl (by decide) rfl ?_
  refine w_sq (G1 := rng) (J := 69) (lvJ := fun x => [(1, iI x)]) (stJ := fun x => []) (w_sub (m_sc2 rfl (m_sc2 rfl (m_sc2 rfl (m_sn _)))) (w_R_risingOrder_4 hF hL hq fu 0 0 _ _ hW (show rng 0 by decide) (show rng 0 by decide))) (fun z1 σ2 h3 W4 q5 => ?_)
  show Ew _ _ _ _ _ _ _ _ 69 [(1, iI z1)] [] _ _ _
  refine w_iload_n d_R_risingOrder_69 rfl rfl ?_
  exact w_iret d_R_risingOrder_70 rfl W4 (fun _ _ _ k => k) q5
def l_R_takeHole_80 (fu : Nat) (q : Nat) : Nat → Int → Int → SS → Option ((Unit) × SS)
  | 0, _, _, _ => none
  | n + 1, x3, x4, σ => if x4 < (σ.1 q 11) then (ck (rng (2 * x4)) (lb ((bh x3 (2 * x4)) % 4) fun y3 => ck (rng (4 * (gA σ (q + 5) 4 y3) + 0)) (sq (f_R_append (4 * (gA σ (q + 5) 4 y3) + 0) σ) fun (a6 : Unit) σ7 => ck (rng (x4 + 1)) (l_R_takeHole_80 fu q n x3 (x4 + 1) σ7)))) else (some ((), σ))
def f_R_takeHole (fu : Nat) (q : Nat) (σ : SS) : Option (Unit × SS) := lb (σ.1 q 8) fun y1 => sq (if (gA σ 53 324 y1) = 0 then (ck (rng ((σ.1 51 2) + 1)) (lb (sF σ 51 2 ((σ.1 51 2) + 1)) fun σ6 => lb (gS σ6 53 324 y1 (σ6.1 51 2)) fun σ10 => sq (f_R_risingOrder fu q σ10) fun (a13 : Int) σ14 => lb (gS σ14 54 324 y1 a13) fun σ19 => some ((), σ19))) else (some ((), σ))) fun (z22 : Unit) σ23 => ck (rng ((gA σ23 53 324 y1) - 1)) (ck (rng (4 * ((gA σ23 53 324 y1) - 1) + 2)) (sq (f_R_append (4 * ((gA σ23 53 324 y1) - 1) + 2) σ23) fun (a29 : Unit) σ30 => lb (gA σ30 54 324 y1) fun y34 => sq (l_R_takeHole_80 fu q fu y34 0 σ30) fun (z36 : Unit) σ37 => some ((), σ37)))
theorem w_R_takeHole_80 {g : MG} {d w fu : Nat} {Q : MO → List MC → Prop} {q : Nat} (hF : 3 ≤ d) (hL : 69 ≤ w) (hq : cur q) : ∀ (n : Nat) (x3 : Int) (x4 : Int) (σ : SS) (h : List MC), Wd h σ → rng x3 → rng x4 → Ew g none M_R_takeHole d w Q gU (cJ g none M_R_takeHole d w Q 122 (fun x => []) (fun x => [])) 80 [(0, mr 51), (1, mr q), (3, iI x3), (4, iI x4)] [] h σ (l_R_takeHole_80 fu q n x3 x4 σ) := by
  intro n
  induction n with
  | zero =>
    intro x3 x4 σ h hW r3 r4 a9 σ9 hm
    rw [l_R_takeHole_80] at hm
    cases hm
  | succ n ih =>
    intro x3 x4 σ h hW r3 r4
    rw [l_R_takeHole_80]
    refine w_iload d_R_takeHole_80 rfl ?_
    refine w_aload_n d_R_takeHole_82 rfl rfl ?_
    refine w_gi d_R_takeHole_83 f_R_71 hW (cur_i11 hq) ?_
    refine w_icmp_ge 122 d_R_takeHole_86 (by decide) r4 (hW.rf _ _) (fun c1 => ?_) (fun c1 => ?_)
    · refine w_iload_n d_R_takeHole_89 rfl rfl ?_
      refine w_iconst d_R_takeHole_90 ?_
      refine w_iload d_R_takeHole_91 rfl ?_
      refine w_imul d_R_takeHole_93 (fun c2 => ?_)
      refine w_ishr d_R_takeHole_94 ?_
      refine w_iconst d_R_takeHole_95 ?_
      refine w_and3 d_R_takeHole_96 ?_
      refine w_top (fun y3 e4 => ?_)
      have ry3 : rng y3 := e4 ▸ (rngm _)
      refine w_istore [(5, iI y3), (0, mr 51), (1, mr q), (3, iI x3), (4, iI x4)] d_R_takeHole_97 (by decide) rfl ?_
      refine w_aload_n d_R_takeHole_99 rfl rfl ?_
      refine w_iconst d_R_takeHole_100 ?_
      refine w_aload_n d_R_takeHole_101 rfl rfl ?_
      refine w_gr d_R_takeHole_102 f_R_74 hW (cur_r10 hq) ?_
      refine w_iload d_R_takeHole_105 rfl ?_
      refine w_at d_R_takeHole_107 l_R_59 hW (cur_a5 hq) ry3 (Nat.le_of_ble_eq_true rfl) (Nat.le_trans (Nat.le_of_ble_eq_true rfl) hF) (Nat.le_trans (Nat.le_of_ble_eq_true rfl) hL) ?_
      refine w_codeOf d_R_takeHole_110 l_R_51 (Nat.le_of_ble_eq_true rfl) (Nat.le_trans (Nat.le_of_ble_eq_true rfl) hF) (Nat.le_trans (Nat.le_of_ble_eq_true rfl) hL) (fun c5 => ?_)
      refine w_cVU [iI (4 * (gA σ (q + 5) 4 y3) + 0)] [] d_R_takeHole_113 me_R_append l_R_55 hW (c_R_append hW c5) rfl rfl (Nat.le_of_ble_eq_true rfl) rfl (Nat.le_of_ble_eq_true rfl) (Nat.le_trans (Nat.le_of_ble_eq_true rfl) hF) (Nat.le_trans (Nat.le_of_ble_eq_true rfl) hL) ob51 ⟨_, _, rfl⟩ (fun a6 σ7 h8 W9 q10 => ?_)
      refine w_iinc [(4, iI (x4 + 1)), (5, iI y3), (0, mr 51), (1, mr q), (3, iI x3)] d_R_takeHole_116 rfl (by decide) rfl (fun c11 => ?_)
      refine w_goto 80 d_R_takeHole_119 (by decide) ?_
      exact w_sub (m_sc2 rfl (m_sc2 rfl (m_sc2 rfl (m_sc2 rfl (m_sn _))))) (ih x3 (x4 + 1) _ _ W9 r3 c11)
    · exact w_exit [] (m_sn _) hW (fun _ _ _ k => k) True.intro
theorem c_R_takeHole {g : MG} {fu : Nat} {h : List MC} {σ : SS} {q : Nat} (hW : Wd h σ) (hq : cur q) : Cw g M_R_takeHole 3 69 [mr 51, mr q] gU cU1 h σ (f_R_takeHole fu q σ) := by
  refine w_of (fun d w Q hF hL => ?_)
  unfold f_R_takeHole
  show Ew g none M_R_takeHole d w Q gU (cU1 Q) 0 [(0, mr 51), (1, mr q)] [] h σ _
  refine w_aload_n d_R_takeHole_0 rfl rfl ?_
  refine w_gi d_R_takeHole_1 f_R_48 hW (cur_i8 hq) ?_
  refine w_top (fun y1 e2 => ?_)
  have ry1 : rng y1 := e2 ▸ (hW.rf _ _)
  refine w_istore_n [(2, iI y1), (0, mr 51), (1, mr q)] d_R_takeHole_4 rfl (by decide) rfl ?_
  refine w_aload_n d_R_takeHole_5 rfl rfl ?_
  refine w_gr d_R_takeHole_6 f_R_15 hW or51_3 ?_
  refine w_iload_n d_R_takeHole_9 rfl rfl ?_
  refine w_at d_R_takeHole_10 l_R_59 hW ia53 ry1 (Nat.le_of_ble_eq_true rfl) (Nat.le_trans (Nat.le_of_ble_eq_true rfl) hF) (Nat.le_trans (Nat.le_of_ble_eq_true rfl) hL) ?_
  refine w_sq (G1 := gU) (J := 50) (lvJ := fun x => [(0, mr 51), (1, mr q), (2, iI y1)]) (stJ := fun x => []) ?_ (fun z22 σ23 h24 W25 q26 => ?_)
  · refine w_if_ne 50 d_R_takeHole_13 (by decide) (hW.ga _ _ _) (fun c3 => ?_) (fun c3 => ?_)
    · refine w_aload_n d_R_takeHole_16 rfl rfl ?_
      refine w_dup d_R_takeHole_17 rfl ?_
      refine w_gi d_R_takeHole_18 f_R_25 hW oi51_2 ?_
      refine w_iconst d_R_takeHole_21 ?_
      refine w_iadd d_R_takeHole_22 (fun c4 => ?_)
      refine w_pi d_R_takeHole_23 p_R_25 hW oi51_2 (by decide) c4 (fun h5 σ6 e7 W8 => ?_)
      refine w_aload_n d_R_takeHole_26 rfl rfl ?_
      refine w_gr d_R_takeHole_27 f_R_15 W8 or51_3 ?_
      refine w_iload_n d_R_takeHole_30 rfl rfl ?_
      refine w_aload_n d_R_takeHole_31 rfl rfl ?_
      refine w_gi d_R_takeHole_32 f_R_25 W8 oi51_2 ?_
      refine w_set d_R_takeHole_35 l_R_63 W8 ia53 ry1 (W8.rf _ _) (Nat.le_of_ble_eq_true rfl) (Nat.le_trans (Nat.le_of_ble_eq_true rfl) hF) (Nat.le_trans (Nat.le_of_ble_eq_true rfl) hL) (fun h9 σ10 e11 W12 => ?_)
      refine w_aload_n d_R_takeHole_38 rfl rfl ?_
      refine w_gr d_R_takeHole_39 f_R_18 W12 or51_4 ?_
      refine w_iload_n d_R_takeHole_42 rfl rfl ?_
      refine w_aload_n d_R_takeHole_43 rfl rfl ?_
      refine w_cSI [mr q] [iI y1, mr 54] d_R_takeHole_44 me_R_risingOrder l_R_67 W12 (c_R_risingOrder W12 hq) rfl rfl (Nat.le_of_ble_eq_true rfl) rfl (Nat.le_of_ble_eq_true rfl) (Nat.le_trans (Nat.le_of_ble_eq_true rfl) hF) (Nat.le_trans (Nat.le_of_ble_eq_true rfl) hL) (fun a13 σ14 h15 W16 q17 => ?_)
      refine w_set d_R_takeHole_47 l_R_63 W16 ia54 ry1 q17 (Nat.le_of_ble_eq_true rfl) (Nat.le_trans (Nat.le_of_ble_eq_true rfl) hF) (Nat.le_trans (Nat.le_of_ble_eq_true rfl) hL) (fun h18 σ19 e20 W21 => ?_)
      exact w_exit [(0, mr 51), (1, mr q), (2, iI y1)] (m_sc2 rfl (m_sc2 rfl (m_sc2 rfl (m_sn _)))) W21 (fun _ _ _ k => k) True.intro
    · exact w_exit [(0, mr 51), (1, mr q), (2, iI y1)] (m_sc2 rfl (m_sc2 rfl (m_sc2 rfl (m_sn _)))) hW (fun _ _ _ k => k) True.intro
  · show Ew _ _ _ _ _ _ _ _ 50 [(0, mr 51), (1, mr q), (2, iI y1)] [] _ _ _
    refine w_aload_n d_R_takeHole_50 rfl rfl ?_
    refine w_iconst d_R_takeHole_51 ?_
    refine w_aload_n d_R_takeHole_52 rfl rfl ?_
    refine w_gr d_R_takeHole_53 f_R_15 W25 or51_3 ?_
    refine w_iload_n d_R_takeHole_56 rfl rfl ?_
    refine w_at d_R_takeHole_57 l_R_59 W25 ia53 ry1 (Nat.le_of_ble_eq_true rfl) (Nat.le_trans (Nat.le_of_ble_eq_true rfl) hF) (Nat.le_trans (Nat.le_of_ble_eq_true rfl) hL) ?_
    refine w_iconst d_R_takeHole_60 ?_
    refine w_isub d_R_takeHole_61 (fun c27 => ?_)
    refine w_codeOf d_R_takeHole_62 l_R_51 (Nat.le_of_ble_eq_true rfl) (Nat.le_trans (Nat.le_of_ble_eq_true rfl) hF) (Nat.le_trans (Nat.le_of_ble_eq_true rfl) hL) (fun c28 => ?_)
    refine w_cVU [iI (4 * ((gA σ23 53 324 y1) - 1) + 2)] [] d_R_takeHole_65 me_R_append l_R_55 W25 (c_R_append W25 c28) rfl rfl (Nat.le_of_ble_eq_true rfl) rfl (Nat.le_of_ble_eq_true rfl) (Nat.le_trans (Nat.le_of_ble_eq_true rfl) hF) (Nat.le_trans (Nat.le_of_ble_eq_true rfl) hL) ob51 ⟨_, _, rfl⟩ (fun a29 σ30 h31 W32 q33 => ?_)
    refine w_aload_n d_R_takeHole_68 rfl rfl ?_
    refine w_gr d_R_takeHole_69 f_R_18 W32 or51_4 ?_
    refine w_iload_n d_R_takeHole_72 rfl rfl ?_
    refine w_at d_R_takeHole_73 l_R_59 W32 ia54 ry1 (Nat.le_of_ble_eq_true rfl) (Nat.le_trans (Nat.le_of_ble_eq_true rfl) hF) (Nat.le_trans (Nat.le_of_ble_eq_true rfl) hL) ?_
    refine w_top (fun y34 e35 => ?_)
    have ry34 : rng y34 := e35 ▸ (W32.ga _ _ _)
    refine w_istore_n [(3, iI y34), (0, mr 51), (1, mr q), (2, iI y1)] d_R_takeHole_76 rfl (by decide) rfl ?_
    refine w_iconst d_R_takeHole_77 ?_
    refine w_istore [(4, iI 0), (3, iI y34), (0, mr 51), (1, mr q), (2, iI y1)] d_R_takeHole_78 (by decide) rfl ?_
    refine w_sq (G1 := gU) (J := 122) (lvJ := fun x => []) (stJ := fun x => []) (w_sub (m_sc2 rfl (m_sc2 rfl (m_sc2 rfl (m_sc2 rfl (m_sn _))))) (w_R_takeHole_80 hF hL hq fu y34 0 _ _ W32 ry34 (show rng 0 by decide))) (fun z36 σ37 h38 W39 q40 => ?_)
    show Ew _ _ _ _ _ _ _ _ 122 [] [] _ _ _
    exact w_ret d_R_takeHole_122 rfl W39 (fun _ _ _ k => k) True.intro
def l_R_takeAll_20 (fu : Nat) (q : Nat) : Nat → Int → SS → Option ((Unit) × SS)
  | 0, _, _ => none
  | n + 1, x2, σ => if x2 < 1000000 then (sq (f_U_advance fu q σ) fun (a2 : Int) σ3 => if a2 = 0 then (some ((), σ3)) else (sq (if (σ3.1 q 7) = 2 then (sq (f_R_takeHole fu q σ3) fun (a9 : Unit) σ10 => some ((), σ10)) else (ck (rng (4 * (σ3.1 q 8) + (σ3.1 q 7))) (sq (f_R_append (4 * (σ3.1 q 8) + (σ3.1 q 7)) σ3) fun (a15 : Unit) σ16 => some ((), σ16)))) fun (z20 : Unit) σ21 => ck (rng (x2 + 1)) (l_R_takeAll_20 fu q n (x2 + 1) σ21))) else (some ((), σ))
def f_R_takeAll (fu : Nat) (q : Nat) (σ : SS) : Option (Unit × SS) := lb (sF σ 51 1 0) fun σ2 => lb (sF σ2 51 2 0) fun σ6 => sq (f_Ar_fill fu 53 324 0 σ6) fun (a9 : Unit) σ10 => sq (l_R_takeAll_20 fu q fu 0 σ10) fun (z14 : Unit) σ15 => some ((), σ15)
theorem w_R_takeAll_20 {g : MG} {d w fu : Nat} {Q : MO → List MC → Prop} {q : Nat} (hF : 4 ≤ d) (hL : 94 ≤ w) (hq : cur q) : ∀ (n : Nat) (x2 : Int) (σ : SS) (h : List MC), Wd h σ → rng x2 → Ew g none M_R_takeAll d w Q gU (cJ g none M_R_takeAll d w Q 70 (fun x => []) (fun x => [])) 20 [(0, mr 51), (1, mr q), (2, iI x2)] [] h σ (l_R_takeAll_20 fu q n x2 σ) := by
  intro n
  induction n with
  | zero =>
    intro x2 σ h hW r2 a9 σ9 hm
    rw [l_R_takeAll_20] at hm
    cases hm
  | succ n ih =>
    intro x2 σ h hW r2
    rw [l_R_takeAll_20]
    refine w_iload_n d_R_takeAll_20 rfl rfl ?_
    refine w_ldc 1000000 d_R_takeAll_21 k_R_34 (by decide) ?_
    refine w_icmp_ge 70 d_R_takeAll_23 (by decide) r2 (show rng 1000000 by decide) (fun c1 => ?_) (fun c1 => ?_)
    · refine w_aload_n d_R_takeAll_26 rfl rfl ?_
      refine w_cVI [] [] d_R_takeAll_27 me_U_advance l_R_35 hW (c_U_advance hW hq) rfl rfl (Nat.le_of_ble_eq_true rfl) rfl (Nat.le_of_ble_eq_true rfl) (Nat.le_trans (Nat.le_of_ble_eq_true rfl) hF) (Nat.le_trans (Nat.le_of_ble_eq_true rfl) hL) (cur_ob hq) ⟨_, _, rfl⟩ (fun a2 σ3 h4 W5 q6 => ?_)
      refine w_if_eq 70 d_R_takeAll_30 (by decide) q6 (fun c7 => ?_) (fun c7 => ?_)
      · exact w_exit [] (m_sn _) W5 (fun _ _ _ k => k) True.intro
      · refine w_aload_n d_R_takeAll_33 rfl rfl ?_
        refine w_gi d_R_takeAll_34 f_R_41 W5 (cur_i7 hq) ?_
        refine w_iconst d_R_takeAll_37 ?_
        refine w_sq (G1 := gU) (J := 64) (lvJ := fun x => [(0, mr 51), (1, mr q), (2, iI x2)]) (stJ := fun x => []) ?_ (fun z20 σ21 h22 W23 q24 => ?_)
        · refine w_icmp_ne 49 d_R_takeAll_38 (by decide) (W5.rf _ _) (show rng 2 by decide) (fun c8 => ?_) (fun c8 => ?_)
          · refine w_aload_n d_R_takeAll_41 rfl rfl ?_
            refine w_aload_n d_R_takeAll_42 rfl rfl ?_
            refine w_cVU [mr q] [] d_R_takeAll_43 me_R_takeHole l_R_44 W5 (c_R_takeHole W5 hq) rfl rfl (Nat.le_of_ble_eq_true rfl) rfl (Nat.le_of_ble_eq_true rfl) (Nat.le_trans (Nat.le_of_ble_eq_true rfl) hF) (Nat.le_trans (Nat.le_of_ble_eq_true rfl) hL) ob51 ⟨_, _, rfl⟩ (fun a9 σ10 h11 W12 q13 => ?_)
            refine w_goto 64 d_R_takeAll_46 (by decide) ?_
            exact w_exit [(0, mr 51), (1, mr q), (2, iI x2)] (m_sc2 rfl (m_sc2 rfl (m_sc2 rfl (m_sn _)))) W12 (fun _ _ _ k => k) True.intro
          · refine w_aload_n d_R_takeAll_49 rfl rfl ?_
            refine w_aload_n d_R_takeAll_50 rfl rfl ?_
            refine w_gi d_R_takeAll_51 f_R_41 W5 (cur_i7 hq) ?_
            refine w_aload_n d_R_takeAll_54 rfl rfl ?_
            refine w_gi d_R_takeAll_55 f_R_48 W5 (cur_i8 hq) ?_
            refine w_codeOf d_R_takeAll_58 l_R_51 (Nat.le_of_ble_eq_true rfl) (Nat.le_trans (Nat.le_of_ble_eq_true rfl) hF) (Nat.le_trans (Nat.le_of_ble_eq_true rfl) hL) (fun c14 => ?_)
            refine w_cVU [iI (4 * (σ3.1 q 8) + (σ3.1 q 7))] [] d_R_takeAll_61 me_R_append l_R_55 W5 (c_R_append W5 c14) rfl rfl (Nat.le_of_ble_eq_true rfl) rfl (Nat.le_of_ble_eq_true rfl) (Nat.le_trans (Nat.le_of_ble_eq_true rfl) hF) (Nat.le_trans (Nat.le_of_ble_eq_true rfl) hL) ob51 ⟨_, _, rfl⟩ (fun a15 σ16 h17 W18 q19 => ?_)
            exact w_exit [(0, mr 51), (1, mr q), (2, iI x2)] (m_sc2 rfl (m_sc2 rfl (m_sc2 rfl (m_sn _)))) W18 (fun _ _ _ k => k) True.intro
        · show Ew _ _ _ _ _ _ _ _ 64 [(0, mr 51), (1, mr q), (2, iI x2)] [] _ _ _
          refine w_iinc [(2, iI (x2 + 1)), (0, mr 51), (1, mr q)] d_R_takeAll_64 rfl (by decide) rfl (fun c25 => ?_)
          refine w_goto 20 d_R_takeAll_67 (by decide) ?_
          exact w_sub (m_sc2 rfl (m_sc2 rfl (m_sc2 rfl (m_sn _)))) (ih (x2 + 1) _ _ W23 c25)
    · exact w_exit [] (m_sn _) hW (fun _ _ _ k => k) True.intro
theorem c_R_takeAll {g : MG} {fu : Nat} {h : List MC} {σ : SS} {q : Nat} (hW : Wd h σ) (hq : cur q) : Cw g M_R_takeAll 4 94 [mr 51, mr q] gU cU1 h σ (f_R_takeAll fu q σ) := by
  refine w_of (fun d w Q hF hL => ?_)
  unfold f_R_takeAll
  show Ew g none M_R_takeAll d w Q gU (cU1 Q) 0 [(0, mr 51), (1, mr q)] [] h σ _
  refine w_aload_n d_R_takeAll_0 rfl rfl ?_
  refine w_iconst d_R_takeAll_1 ?_
  refine w_pi d_R_takeAll_2 p_R_21 hW oi51_1 (by decide) (show rng 0 by decide) (fun h1 σ2 e3 W4 => ?_)
  refine w_aload_n d_R_takeAll_5 rfl rfl ?_
  refine w_iconst d_R_takeAll_6 ?_
  refine w_pi d_R_takeAll_7 p_R_25 W4 oi51_2 (by decide) (show rng 0 by decide) (fun h5 σ6 e7 W8 => ?_)
  refine w_aload_n d_R_takeAll_10 rfl rfl ?_
  refine w_gr d_R_takeAll_11 f_R_15 W8 or51_3 ?_
  refine w_iconst d_R_takeAll_14 ?_
  refine w_cSU [mr 53, iI 0] [] d_R_takeAll_15 me_Ar_fill l_R_28 W8 (c_Ar_fill W8 ia53 (show rng 0 by decide)) rfl rfl (Nat.le_of_ble_eq_true rfl) rfl (Nat.le_of_ble_eq_true rfl) (Nat.le_trans (Nat.le_of_ble_eq_true rfl) hF) (Nat.le_trans (Nat.le_of_ble_eq_true rfl) hL) (fun a9 σ10 h11 W12 q13 => ?_)
  refine w_iconst d_R_takeAll_18 ?_
  refine w_istore_n [(2, iI 0), (0, mr 51), (1, mr q)] d_R_takeAll_19 rfl (by decide) rfl ?_
  refine w_sq (G1 := gU) (J := 70) (lvJ := fun x => []) (stJ := fun x => []) (w_sub (m_sc2 rfl (m_sc2 rfl (m_sc2 rfl (m_sn _)))) (w_R_takeAll_20 hF hL hq fu 0 _ _ W12 (show rng 0 by decide))) (fun z14 σ15 h16 W17 q18 => ?_)
  show Ew _ _ _ _ _ _ _ _ 70 [] [] _ _ _
  exact w_ret d_R_takeAll_70 rfl W17 (fun _ _ _ k => k) True.intro
def f_H_read (fu : Nat) (x1 : Int) (σ : SS) : Option ((Int ⊕ String) × SS) := sx (f_H_startBoth x1 x1 σ) fun (a1 : Unit) σ2 => sq (f_R_takeAll fu 30 σ2) fun (a6 : Unit) σ7 => some (.inl (σ7.1 51 1), σ7)
theorem c_H_read {g : MG} {fu : Nat} {h : List MC} {σ : SS} {x1 : Int} (hl : g.1.stackTraces = false) (hW : Wd h σ) (r1 : rng x1) : Cw g M_H_read 8 136 [mr 0, iI x1] (gS2 rng gE) (fun Q => cS2 (cI1 Q) (cE1 Q)) h σ (f_H_read fu x1 σ) := by
  refine w_of (fun d w Q hF hL => ?_)
  unfold f_H_read
  show Ew g none M_H_read d w Q (gS2 rng gE) (cS2 (cI1 Q) (cE1 Q)) 0 [(0, mr 0), (1, iI x1)] [] h σ _
  refine w_aload_n d_H_read_0 rfl rfl ?_
  refine w_iload_n d_H_read_1 rfl rfl ?_
  refine w_iload_n d_H_read_2 rfl rfl ?_
  refine w_xVU [iI x1, iI x1] [] d_H_read_3 me_H_startBoth l_H_129 rfl hW (c_H_startBoth hl hW r1 r1) rfl rfl (Nat.le_of_ble_eq_true rfl) rfl (Nat.le_of_ble_eq_true rfl) (Nat.le_trans (Nat.le_of_ble_eq_true rfl) hF) (Nat.le_trans (Nat.le_of_ble_eq_true rfl) hL) ob0 ⟨_, _, rfl⟩ (fun a1 σ2 h3 W4 q5 => ?_)
  refine w_aload_n d_H_read_6 rfl rfl ?_
  refine w_gr d_H_read_7 f_H_61 W4 or0_6 ?_
  refine w_aload_n d_H_read_10 rfl rfl ?_
  refine w_gr d_H_read_11 f_H_42 W4 or0_3 ?_
  refine w_cVU [mr 30] [] d_H_read_14 me_R_takeAll l_H_151 W4 (c_R_takeAll W4 cur30) rfl rfl (Nat.le_of_ble_eq_true rfl) rfl (Nat.le_of_ble_eq_true rfl) (Nat.le_trans (Nat.le_of_ble_eq_true rfl) hF) (Nat.le_trans (Nat.le_of_ble_eq_true rfl) hL) ob51 ⟨_, _, rfl⟩ (fun a6 σ7 h8 W9 q10 => ?_)
  refine w_aload_n d_H_read_17 rfl rfl ?_
  refine w_gr d_H_read_18 f_H_61 W9 or0_6 ?_
  refine w_gi d_H_read_21 f_H_155 W9 oi51_1 ?_
  exact w_iret d_H_read_24 rfl W9 (fun _ _ _ k => k) (W9.rf _ _)
def l_H_isSame_8 (fu : Nat) : Nat → Int → SS → Option (((Int ⊕ String) ⊕ (Unit)) × SS)
  | 0, _, _ => none
  | n + 1, x3, σ => if x3 < 1000000 then (sq (f_U_advance fu 30 σ) fun (a2 : Int) σ3 => sq (f_U_advance fu 36 σ3) fun (a7 : Int) σ8 => if a2 = a7 then (if a2 = 0 then (some (.inl (.inl 1), σ8)) else (sq (f_U_standsAs fu 30 36 σ8) fun (a14 : Int) σ15 => if a14 = 0 then (some (.inl (.inl 0), σ15)) else (ck (rng (x3 + 1)) (l_H_isSame_8 fu n (x3 + 1) σ15)))) else (some (.inl (.inl 0), σ8))) else (some (.inr (), σ))
def f_H_isSame (fu : Nat) (x1 : Int) (x2 : Int) (σ : SS) : Option ((Int ⊕ String) × SS) := sx (f_H_startBoth x1 x2 σ) fun (a1 : Unit) σ2 => sr (l_H_isSame_8 fu fu 0 σ2) fun (z6 : Unit) σ7 => some (.inl 0, σ7)
theorem w_H_isSame_8 {g : MG} {d w fu : Nat} {Q : MO → List MC → Prop} (hl : g.1.stackTraces = false) (hF : 8 ≤ d) (hL : 136 ≤ w) : ∀ (n : Nat) (x3 : Int) (σ : SS) (h : List MC), Wd h σ → rng x3 → Ew g none M_H_isSame d w Q (gS2 (gS2 rng gE) gU) (cS2 (cS2 (cI1 Q) (cE1 Q)) (cJ g none M_H_isSame d w Q 66 (fun x => []) (fun x => []))) 8 [(0, mr 0), (3, iI x3)] [] h σ (l_H_isSame_8 fu n x3 σ) := by
  intro n
  induction n with
  | zero =>
    intro x3 σ h hW r3 a9 σ9 hm
    rw [l_H_isSame_8] at hm
    cases hm
  | succ n ih =>
    intro x3 σ h hW r3
    rw [l_H_isSame_8]
    refine w_iload_n d_H_isSame_8 rfl rfl ?_
    refine w_ldc 1000000 d_H_isSame_9 k_H_171 (by decide) ?_
    refine w_icmp_ge 66 d_H_isSame_11 (by decide) r3 (show rng 1000000 by decide) (fun c1 => ?_) (fun c1 => ?_)
    · refine w_aload_n d_H_isSame_14 rfl rfl ?_
      refine w_gr d_H_isSame_15 f_H_42 hW or0_3 ?_
      refine w_cVI [] [] d_H_isSame_18 me_U_advance l_H_172 hW (c_U_advance hW cur30) rfl rfl (Nat.le_of_ble_eq_true rfl) rfl (Nat.le_of_ble_eq_true rfl) (Nat.le_trans (Nat.le_of_ble_eq_true rfl) hF) (Nat.le_trans (Nat.le_of_ble_eq_true rfl) hL) (cur_ob cur30) ⟨_, _, rfl⟩ (fun a2 σ3 h4 W5 q6 => ?_)
      refine w_istore [(4, iI a2), (0, mr 0), (3, iI x3)] d_H_isSame_21 (by decide) rfl ?_
      refine w_iload d_H_isSame_23 rfl ?_
      refine w_aload_n d_H_isSame_25 rfl rfl ?_
      refine w_gr d_H_isSame_26 f_H_46 W5 or0_4 ?_
      refine w_cVI [] [iI a2] d_H_isSame_29 me_U_advance l_H_172 W5 (c_U_advance W5 cur36) rfl rfl (Nat.le_of_ble_eq_true rfl) rfl (Nat.le_of_ble_eq_true rfl) (Nat.le_trans (Nat.le_of_ble_eq_true rfl) hF) (Nat.le_trans (Nat.le_of_ble_eq_true rfl) hL) (cur_ob cur36) ⟨_, _, rfl⟩ (fun a7 σ8 h9 W10 q11 => ?_)
      refine w_icmp_eq 37 d_H_isSame_32 (by decide) q6 q11 (fun c12 => ?_) (fun c12 => ?_)
      · refine w_iload d_H_isSame_37 rfl ?_
        refine w_if_ne 44 d_H_isSame_39 (by decide) q6 (fun c13 => ?_) (fun c13 => ?_)
        · refine w_iconst d_H_isSame_42 ?_
          exact w_zret d_H_isSame_43 rfl (by decide) W10 (fun _ _ _ k => k) (show rng 1 by decide)
        · refine w_aload_n d_H_isSame_44 rfl rfl ?_
          refine w_gr d_H_isSame_45 f_H_42 W10 or0_3 ?_
          refine w_aload_n d_H_isSame_48 rfl rfl ?_
          refine w_gr d_H_isSame_49 f_H_46 W10 or0_4 ?_
          refine w_cVI [mr 36] [] d_H_isSame_52 me_U_standsAs l_H_176 W10 (c_U_standsAs W10 cur30 cur36) rfl rfl (Nat.le_of_ble_eq_true rfl) rfl (Nat.le_of_ble_eq_true rfl) (Nat.le_trans (Nat.le_of_ble_eq_true rfl) hF) (Nat.le_trans (Nat.le_of_ble_eq_true rfl) hL) (cur_ob cur30) ⟨_, _, rfl⟩ (fun a14 σ15 h16 W17 q18 => ?_)
          refine w_if_ne 60 d_H_isSame_55 (by decide) q18 (fun c19 => ?_) (fun c19 => ?_)
          · refine w_iconst d_H_isSame_58 ?_
            exact w_zret d_H_isSame_59 rfl (by decide) W17 (fun _ _ _ k => k) (show rng 0 by decide)
          · refine w_iinc [(3, iI (x3 + 1)), (4, iI a2), (0, mr 0)] d_H_isSame_60 rfl (by decide) rfl (fun c20 => ?_)
            refine w_goto 8 d_H_isSame_63 (by decide) ?_
            exact w_sub (m_sc2 rfl (m_sc2 rfl (m_sn _))) (ih (x3 + 1) _ _ W17 c20)
      · refine w_iconst d_H_isSame_35 ?_
        exact w_zret d_H_isSame_36 rfl (by decide) W10 (fun _ _ _ k => k) (show rng 0 by decide)
    · exact w_exit [] (m_sn _) hW (fun _ _ _ k => k) True.intro
theorem c_H_isSame {g : MG} {fu : Nat} {h : List MC} {σ : SS} {x1 : Int} {x2 : Int} (hl : g.1.stackTraces = false) (hW : Wd h σ) (r1 : rng x1) (r2 : rng x2) : Cw g M_H_isSame 8 136 [mr 0, iI x1, iI x2] (gS2 rng gE) (fun Q => cS2 (cI1 Q) (cE1 Q)) h σ (f_H_isSame fu x1 x2 σ) := by
  refine w_of (fun d w Q hF hL => ?_)
  unfold f_H_isSame
  show Ew g none M_H_isSame d w Q (gS2 rng gE) (cS2 (cI1 Q) (cE1 Q)) 0 [(0, mr 0), (1, iI x1), (2, iI x2)] [] h σ _
  refine w_aload_n d_H_isSame_0 rfl rfl ?_
  refine w_iload_n d_H_isSame_1 rfl rfl ?_
  refine w_iload_n d_H_isSame_2 rfl rfl ?_
  refine w_xVU [iI x1, iI x2] [] d_H_isSame_3 me_H_startBoth l_H_129 rfl hW (c_H_startBoth hl hW r1 r2) rfl rfl (Nat.le_of_ble_eq_true rfl) rfl (Nat.le_of_ble_eq_true rfl) (Nat.le_trans (Nat.le_of_ble_eq_true rfl) hF) (Nat.le_trans (Nat.le_of_ble_eq_true rfl) hL) ob0 ⟨_, _, rfl⟩ (fun a1 σ2 h3 W4 q5 => ?_)
  refine w_iconst d_H_isSame_6 ?_
  refine w_istore_n [(3, iI 0), (0, mr 0), (1, iI x1), (2, iI x2)] d_H_isSame_7 rfl (by decide) rfl ?_
  refine w_sr (G1 := gU) (J := 66) (lvJ := fun x => []) (stJ := fun x => []) (w_sub (m_sc2 rfl (m_sc2 rfl (m_sn _))) (w_H_isSame_8 hl hF hL fu 0 _ _ W4 (show rng 0 by decide))) (fun z6 σ7 h8 W9 q10 => ?_)
  show Ew _ _ _ _ _ _ _ _ 66 [] [] _ _ _
  refine w_iconst d_H_isSame_66 ?_
  exact w_zret d_H_isSame_67 rfl (by decide) W9 (fun _ _ _ k => k) (show rng 0 by decide)
def f_H_refuseUntold (x1 : Int) (σ : SS) : Option ((Unit ⊕ String) × SS) := if x1 < 0 then (ck (rng (σ.1 0 99 + 1)) (some (.inr "java/lang/IllegalArgumentException", thr σ))) else (if x1 < (σ.1 7 6) then (some (.inl (), σ)) else (ck (rng (σ.1 0 99 + 1)) (some (.inr "java/lang/IllegalArgumentException", thr σ))))
theorem c_H_refuseUntold {g : MG} {h : List MC} {σ : SS} {x1 : Int} (hl : g.1.stackTraces = false) (hW : Wd h σ) (r1 : rng x1) : Cw g M_H_refuseUntold 6 90 [mr 0, iI x1] (gS2 gU gE) (fun Q => cS2 (cU1 Q) (cE1 Q)) h σ (f_H_refuseUntold x1 σ) := by
  refine w_of (fun d w Q hF hL => ?_)
  unfold f_H_refuseUntold
  show Ew g none M_H_refuseUntold d w Q (gS2 gU gE) (cS2 (cU1 Q) (cE1 Q)) 0 [(0, mr 0), (1, iI x1)] [] h σ _
  refine w_iload_n d_H_refuseUntold_0 rfl rfl ?_
  refine w_if_lt 15 d_H_refuseUntold_1 (by decide) r1 (fun c1 => ?_) (fun c1 => ?_)
  · exact w_throw hl d_H_refuseUntold_15 d_H_refuseUntold_18 d_H_refuseUntold_19 d_H_refuseUntold_21 d_H_refuseUntold_24 tw_H_241 rfl (Nat.le_of_ble_eq_true rfl) (Nat.le_trans (Nat.le_of_ble_eq_true rfl) hF) (Nat.le_trans (Nat.le_of_ble_eq_true rfl) hL) hW (fun _ _ _ k => k) True.intro
  · refine w_iload_n d_H_refuseUntold_4 rfl rfl ?_
    refine w_aload_n d_H_refuseUntold_5 rfl rfl ?_
    refine w_gr d_H_refuseUntold_6 f_H_24 hW or0_1 ?_
    refine w_gi d_H_refuseUntold_9 f_H_204 hW oi7_6 ?_
    refine w_icmp_lt 25 d_H_refuseUntold_12 (by decide) r1 (hW.rf _ _) (fun c2 => ?_) (fun c2 => ?_)
    · exact w_ret d_H_refuseUntold_25 rfl hW (fun _ _ _ k => k) True.intro
    · exact w_throw hl d_H_refuseUntold_15 d_H_refuseUntold_18 d_H_refuseUntold_19 d_H_refuseUntold_21 d_H_refuseUntold_24 tw_H_241 rfl (Nat.le_of_ble_eq_true rfl) (Nat.le_trans (Nat.le_of_ble_eq_true rfl) hF) (Nat.le_trans (Nat.le_of_ble_eq_true rfl) hL) hW (fun _ _ _ k => k) True.intro
