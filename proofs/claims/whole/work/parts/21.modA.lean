/-! MODELS of the reference and their proofs. Written by wip/whole/mg.py. -/
def f_D_thrown (σ : SS) : Option (Int × SS) := some ((σ.1 55 0), σ)
theorem c_D_thrown {g : MG} {h : List MC} {σ : SS} (hW : Wd h σ) : Cw g M_D_thrown 0 0 [mr 55] rng cI1 h σ (f_D_thrown σ) := by
  refine w_of (fun d w Q hF hL => ?_)
  unfold f_D_thrown
  show Ew g none M_D_thrown d w Q rng (cI1 Q) 0 [(0, mr 55)] [] h σ _
  refine w_aload_n d_D_thrown_0 rfl rfl ?_
  refine w_gi d_D_thrown_1 f_D_100 hW oi55_0 ?_
  exact w_iret d_D_thrown_4 rfl hW (fun _ _ _ k => k) (hW.rf _ _)
def f_D_fails (x1 : Int) (x2 : Int) (σ : SS) : Option (Int × SS) := sq (if x1 = 0 then (if x2 = 0 then (some (0, σ)) else (some (2, σ))) else (some (1, σ))) fun (z3 : Int) σ4 => lb (sF σ4 55 0 z3) fun σ9 => if 0 < (σ9.1 55 0) then (some (1, σ9)) else (some (0, σ9))
theorem c_D_fails {g : MG} {h : List MC} {σ : SS} {x1 : Int} {x2 : Int} (hW : Wd h σ) (r1 : rng x1) (r2 : rng x2) : Cw g M_D_fails 0 0 [mr 55, iI x1, iI x2] rng cI1 h σ (f_D_fails x1 x2 σ) := by
  refine w_of (fun d w Q hF hL => ?_)
  unfold f_D_fails
  show Ew g none M_D_fails d w Q rng (cI1 Q) 0 [(0, mr 55), (1, iI x1), (2, iI x2)] [] h σ _
  refine w_aload_n d_D_fails_0 rfl rfl ?_
  refine w_iload_n d_D_fails_1 rfl rfl ?_
  refine w_sq (G1 := rng) (J := 18) (lvJ := fun x => [(0, mr 55)]) (stJ := fun x => [iI x, mr 55]) ?_ (fun z3 σ4 h5 W6 q7 => ?_)
  · refine w_if_eq 9 d_D_fails_2 (by decide) r1 (fun c1 => ?_) (fun c1 => ?_)
    · refine w_iload_n d_D_fails_9 rfl rfl ?_
      refine w_if_eq 17 d_D_fails_10 (by decide) r2 (fun c2 => ?_) (fun c2 => ?_)
      · refine w_iconst d_D_fails_17 ?_
        exact w_exit [(0, mr 55)] (m_sc2 rfl (m_sn _)) hW (fun _ _ _ k => k) (show rng 0 by decide)
      · refine w_iconst d_D_fails_13 ?_
        refine w_goto 18 d_D_fails_14 (by decide) ?_
        exact w_exit [(0, mr 55)] (m_sc2 rfl (m_sn _)) hW (fun _ _ _ k => k) (show rng 2 by decide)
    · refine w_iconst d_D_fails_5 ?_
      refine w_goto 18 d_D_fails_6 (by decide) ?_
      exact w_exit [(0, mr 55)] (m_sc2 rfl (m_sn _)) hW (fun _ _ _ k => k) (show rng 1 by decide)
  · show Ew _ _ _ _ _ _ _ _ 18 [(0, mr 55)] [iI z3, mr 55] _ _ _
    refine w_pi d_D_fails_18 p_D_100 W6 oi55_0 (by decide) q7 (fun h8 σ9 e10 W11 => ?_)
    refine w_aload_n d_D_fails_21 rfl rfl ?_
    refine w_gi d_D_fails_22 f_D_100 W11 oi55_0 ?_
    refine w_if_le 32 d_D_fails_25 (by decide) (W11.rf _ _) (fun c12 => ?_) (fun c12 => ?_)
    · refine w_iconst d_D_fails_28 ?_
      refine w_goto 33 d_D_fails_29 (by decide) ?_
      exact w_zret d_D_fails_33 rfl (by decide) W11 (fun _ _ _ k => k) (show rng 1 by decide)
    · refine w_iconst d_D_fails_32 ?_
      exact w_zret d_D_fails_33 rfl (by decide) W11 (fun _ _ _ k => k) (show rng 0 by decide)
def f_D_operation (x1 : Int) (x2 : Int) (x3 : Int) (σ : SS) : Option (Int × SS) := sq (if x1 < (-1) then (some (0, σ)) else (if x1 < 3 then (if x2 < (-1) then (some (0, σ)) else (if x2 < 3 then (if x3 < (-1) then (some (0, σ)) else (if x3 < 3 then (if x1 < 0 then (if x2 < 0 then (if x2 < 0 then (if x3 < 0 then (some (1, σ)) else (some (0, σ))) else (some (1, σ))) else (some (0, σ))) else (if x2 < 0 then (if x3 < 0 then (some (1, σ)) else (some (0, σ))) else (some (1, σ)))) else (some (0, σ)))) else (some (0, σ)))) else (some (0, σ)))) fun (z13 : Int) σ14 => sq (if z13 = 0 then (some (1, σ14)) else (some (0, σ14))) fun (z19 : Int) σ20 => sq (f_D_fails z19 0 σ20) fun (a24 : Int) σ25 => if a24 = 0 then (if (σ25.1 55 1) = 16 then (some ((-1), σ25)) else (sq (if x1 < 0 then (some (0, σ25)) else (if x2 < 0 then (some (1, σ25)) else (if x3 < 0 then (some (2, σ25)) else (some (3, σ25))))) fun (z34 : Int) σ35 => ck (inb 16 (σ25.1 55 1)) (lb (sA σ35 56 (σ25.1 55 1) z34) fun σ41 => ck (rng (3 * (σ41.1 55 1))) (ck (inb 48 (3 * (σ41.1 55 1))) (lb (sA σ41 57 (3 * (σ41.1 55 1)) x1) fun σ47 => ck (rng (3 * (σ47.1 55 1))) (ck (rng ((3 * (σ47.1 55 1)) + 1)) (ck (inb 48 ((3 * (σ47.1 55 1)) + 1)) (lb (sA σ47 57 ((3 * (σ47.1 55 1)) + 1) x2) fun σ54 => ck (rng (3 * (σ54.1 55 1))) (ck (rng ((3 * (σ54.1 55 1)) + 2)) (ck (inb 48 ((3 * (σ54.1 55 1)) + 2)) (lb (sA σ54 57 ((3 * (σ54.1 55 1)) + 2) x3) fun σ61 => ck (rng ((σ61.1 55 1) + 1)) (lb (sF σ61 55 1 ((σ61.1 55 1) + 1)) fun σ66 => ck (rng ((σ66.1 55 1) - 1)) (some (((σ66.1 55 1) - 1), σ66)))))))))))))) else (some (0, σ25))
theorem c_D_operation {g : MG} {h : List MC} {σ : SS} {x1 : Int} {x2 : Int} {x3 : Int} (hW : Wd h σ) (r1 : rng x1) (r2 : rng x2) (r3 : rng x3) : Cw g M_D_operation 1 22 [mr 55, iI x1, iI x2, iI x3] rng cI1 h σ (f_D_operation x1 x2 x3 σ) := by
  refine w_of (fun d w Q hF hL => ?_)
  unfold f_D_operation
  show Ew g none M_D_operation d w Q rng (cI1 Q) 0 [(0, mr 55), (1, iI x1), (2, iI x2), (3, iI x3)] [] h σ _
  refine w_iload_n d_D_operation_0 rfl rfl ?_
  refine w_iconst d_D_operation_1 ?_
  refine w_sq (G1 := rng) (J := 51) (lvJ := fun x => [(0, mr 55), (1, iI x1), (2, iI x2), (3, iI x3)]) (stJ := fun x => [iI x]) ?_ (fun z13 σ14 h15 W16 q17 => ?_)
  · refine w_icmp_lt 50 d_D_operation_2 (by decide) r1 (show rng (-1) by decide) (fun c1 => ?_) (fun c1 => ?_)
    · refine w_iconst d_D_operation_50 ?_
      exact w_exit [(0, mr 55), (1, iI x1), (2, iI x2), (3, iI x3)] (m_sc2 rfl (m_sc2 rfl (m_sc2 rfl (m_sc2 rfl (m_sn _))))) hW (fun _ _ _ k => k) (show rng 0 by decide)
    · refine w_iload_n d_D_operation_5 rfl rfl ?_
      refine w_iconst d_D_operation_6 ?_
      refine w_icmp_ge 50 d_D_operation_7 (by decide) r1 (show rng 3 by decide) (fun c2 => ?_) (fun c2 => ?_)
      · refine w_iload_n d_D_operation_10 rfl rfl ?_
        refine w_iconst d_D_operation_11 ?_
        refine w_icmp_lt 50 d_D_operation_12 (by decide) r2 (show rng (-1) by decide) (fun c3 => ?_) (fun c3 => ?_)
        · refine w_iconst d_D_operation_50 ?_
          exact w_exit [(0, mr 55), (1, iI x1), (2, iI x2), (3, iI x3)] (m_sc2 rfl (m_sc2 rfl (m_sc2 rfl (m_sc2 rfl (m_sn _))))) hW (fun _ _ _ k => k) (show rng 0 by decide)
        · refine w_iload_n d_D_operation_15 rfl rfl ?_
          refine w_iconst d_D_operation_16 ?_
          refine w_icmp_ge 50 d_D_operation_17 (by decide) r2 (show rng 3 by decide) (fun c4 => ?_) (fun c4 => ?_)
          · refine w_iload_n d_D_operation_20 rfl rfl ?_
            refine w_iconst d_D_operation_21 ?_
            refine w_icmp_lt 50 d_D_operation_22 (by decide) r3 (show rng (-1) by decide) (fun c5 => ?_) (fun c5 => ?_)
            · refine w_iconst d_D_operation_50 ?_
              exact w_exit [(0, mr 55), (1, iI x1), (2, iI x2), (3, iI x3)] (m_sc2 rfl (m_sc2 rfl (m_sc2 rfl (m_sc2 rfl (m_sn _))))) hW (fun _ _ _ k => k) (show rng 0 by decide)
            · refine w_iload_n d_D_operation_25 rfl rfl ?_
              refine w_iconst d_D_operation_26 ?_
              refine w_icmp_ge 50 d_D_operation_27 (by decide) r3 (show rng 3 by decide) (fun c6 => ?_) (fun c6 => ?_)
              · refine w_iload_n d_D_operation_30 rfl rfl ?_
                refine w_if_ge 38 d_D_operation_31 (by decide) r1 (fun c7 => ?_) (fun c7 => ?_)
                · refine w_iload_n d_D_operation_34 rfl rfl ?_
                  refine w_if_ge 50 d_D_operation_35 (by decide) r2 (fun c8 => ?_) (fun c8 => ?_)
                  · refine w_iload_n d_D_operation_38 rfl rfl ?_
                    refine w_if_ge 46 d_D_operation_39 (by decide) r2 (fun c9 => ?_) (fun c9 => ?_)
                    · refine w_iload_n d_D_operation_42 rfl rfl ?_
                      refine w_if_ge 50 d_D_operation_43 (by decide) r3 (fun c10 => ?_) (fun c10 => ?_)
                      · refine w_iconst d_D_operation_46 ?_
                        refine w_goto 51 d_D_operation_47 (by decide) ?_
                        exact w_exit [(0, mr 55), (1, iI x1), (2, iI x2), (3, iI x3)] (m_sc2 rfl (m_sc2 rfl (m_sc2 rfl (m_sc2 rfl (m_sn _))))) hW (fun _ _ _ k => k) (show rng 1 by decide)
                      · refine w_iconst d_D_operation_50 ?_
                        exact w_exit [(0, mr 55), (1, iI x1), (2, iI x2), (3, iI x3)] (m_sc2 rfl (m_sc2 rfl (m_sc2 rfl (m_sc2 rfl (m_sn _))))) hW (fun _ _ _ k => k) (show rng 0 by decide)
                    · refine w_iconst d_D_operation_46 ?_
                      refine w_goto 51 d_D_operation_47 (by decide) ?_
                      exact w_exit [(0, mr 55), (1, iI x1), (2, iI x2), (3, iI x3)] (m_sc2 rfl (m_sc2 rfl (m_sc2 rfl (m_sc2 rfl (m_sn _))))) hW (fun _ _ _ k => k) (show rng 1 by decide)
                  · refine w_iconst d_D_operation_50 ?_
                    exact w_exit [(0, mr 55), (1, iI x1), (2, iI x2), (3, iI x3)] (m_sc2 rfl (m_sc2 rfl (m_sc2 rfl (m_sc2 rfl (m_sn _))))) hW (fun _ _ _ k => k) (show rng 0 by decide)
                · refine w_iload_n d_D_operation_38 rfl rfl ?_
                  refine w_if_ge 46 d_D_operation_39 (by decide) r2 (fun c11 => ?_) (fun c11 => ?_)
                  · refine w_iload_n d_D_operation_42 rfl rfl ?_
                    refine w_if_ge 50 d_D_operation_43 (by decide) r3 (fun c12 => ?_) (fun c12 => ?_)
                    · refine w_iconst d_D_operation_46 ?_
                      refine w_goto 51 d_D_operation_47 (by decide) ?_
                      exact w_exit [(0, mr 55), (1, iI x1), (2, iI x2), (3, iI x3)] (m_sc2 rfl (m_sc2 rfl (m_sc2 rfl (m_sc2 rfl (m_sn _))))) hW (fun _ _ _ k => k) (show rng 1 by decide)
                    · refine w_iconst d_D_operation_50 ?_
                      exact w_exit [(0, mr 55), (1, iI x1), (2, iI x2), (3, iI x3)] (m_sc2 rfl (m_sc2 rfl (m_sc2 rfl (m_sc2 rfl (m_sn _))))) hW (fun _ _ _ k => k) (show rng 0 by decide)
                  · refine w_iconst d_D_operation_46 ?_
                    refine w_goto 51 d_D_operation_47 (by decide) ?_
                    exact w_exit [(0, mr 55), (1, iI x1), (2, iI x2), (3, iI x3)] (m_sc2 rfl (m_sc2 rfl (m_sc2 rfl (m_sc2 rfl (m_sn _))))) hW (fun _ _ _ k => k) (show rng 1 by decide)
              · refine w_iconst d_D_operation_50 ?_
                exact w_exit [(0, mr 55), (1, iI x1), (2, iI x2), (3, iI x3)] (m_sc2 rfl (m_sc2 rfl (m_sc2 rfl (m_sc2 rfl (m_sn _))))) hW (fun _ _ _ k => k) (show rng 0 by decide)
          · refine w_iconst d_D_operation_50 ?_
            exact w_exit [(0, mr 55), (1, iI x1), (2, iI x2), (3, iI x3)] (m_sc2 rfl (m_sc2 rfl (m_sc2 rfl (m_sc2 rfl (m_sn _))))) hW (fun _ _ _ k => k) (show rng 0 by decide)
      · refine w_iconst d_D_operation_50 ?_
        exact w_exit [(0, mr 55), (1, iI x1), (2, iI x2), (3, iI x3)] (m_sc2 rfl (m_sc2 rfl (m_sc2 rfl (m_sc2 rfl (m_sn _))))) hW (fun _ _ _ k => k) (show rng 0 by decide)
  · show Ew _ _ _ _ _ _ _ _ 51 [(0, mr 55), (1, iI x1), (2, iI x2), (3, iI x3)] [iI z13] _ _ _
    refine w_istore [(4, iI z13), (0, mr 55), (1, iI x1), (2, iI x2), (3, iI x3)] d_D_operation_51 (by decide) rfl ?_
    refine w_aload_n d_D_operation_53 rfl rfl ?_
    refine w_iload d_D_operation_54 rfl ?_
    refine w_sq (G1 := rng) (J := 64) (lvJ := fun x => [(0, mr 55), (1, iI x1), (2, iI x2), (3, iI x3)]) (stJ := fun x => [iI x, mr 55]) ?_ (fun z19 σ20 h21 W22 q23 => ?_)
    · refine w_if_ne 63 d_D_operation_56 (by decide) q17 (fun c18 => ?_) (fun c18 => ?_)
      · refine w_iconst d_D_operation_59 ?_
        refine w_goto 64 d_D_operation_60 (by decide) ?_
        exact w_exit [(0, mr 55), (1, iI x1), (2, iI x2), (3, iI x3)] (m_sc2 rfl (m_sc2 rfl (m_sc2 rfl (m_sc2 rfl (m_sn _))))) W16 (fun _ _ _ k => k) (show rng 1 by decide)
      · refine w_iconst d_D_operation_63 ?_
        exact w_exit [(0, mr 55), (1, iI x1), (2, iI x2), (3, iI x3)] (m_sc2 rfl (m_sc2 rfl (m_sc2 rfl (m_sc2 rfl (m_sn _))))) W16 (fun _ _ _ k => k) (show rng 0 by decide)
    · show Ew _ _ _ _ _ _ _ _ 64 [(0, mr 55), (1, iI x1), (2, iI x2), (3, iI x3)] [iI z19, mr 55] _ _ _
      refine w_iconst d_D_operation_64 ?_
      refine w_cVI [iI z19, iI 0] [] d_D_operation_65 me_D_fails l_D_104 W22 (c_D_fails W22 q23 (show rng 0 by decide)) rfl rfl (Nat.le_of_ble_eq_true rfl) rfl (Nat.le_of_ble_eq_true rfl) (Nat.le_trans (Nat.le_of_ble_eq_true rfl) hF) (Nat.le_trans (Nat.le_of_ble_eq_true rfl) hL) ob55 ⟨_, _, rfl⟩ (fun a24 σ25 h26 W27 q28 => ?_)
      refine w_if_eq 73 d_D_operation_68 (by decide) q28 (fun c29 => ?_) (fun c29 => ?_)
      · refine w_aload_n d_D_operation_73 rfl rfl ?_
        refine w_gi d_D_operation_74 f_D_108 W27 oi55_1 ?_
        refine w_bipush d_D_operation_77 (by decide) ?_
        refine w_icmp_ne 84 d_D_operation_79 (by decide) (W27.rf _ _) (show rng 16 by decide) (fun c30 => ?_) (fun c30 => ?_)
        · refine w_iconst d_D_operation_82 ?_
          exact w_iret d_D_operation_83 rfl W27 (fun _ _ _ k => k) (show rng (-1) by decide)
        · refine w_aload_n d_D_operation_84 rfl rfl ?_
          refine w_gr d_D_operation_85 f_D_7 W27 or55_4 ?_
          refine w_aload_n d_D_operation_88 rfl rfl ?_
          refine w_gi d_D_operation_89 f_D_108 W27 oi55_1 ?_
          refine w_iload_n d_D_operation_92 rfl rfl ?_
          refine w_sq (G1 := rng) (J := 117) (lvJ := fun x => [(0, mr 55), (1, iI x1), (2, iI x2), (3, iI x3)]) (stJ := fun x => [iI x, iI (σ25.1 55 1), mr 56]) ?_ (fun z34 σ35 h36 W37 q38 => ?_)
          · refine w_if_ge 100 d_D_operation_93 (by decide) r1 (fun c31 => ?_) (fun c31 => ?_)
            · refine w_iconst d_D_operation_96 ?_
              refine w_goto 117 d_D_operation_97 (by decide) ?_
              exact w_exit [(0, mr 55), (1, iI x1), (2, iI x2), (3, iI x3)] (m_sc2 rfl (m_sc2 rfl (m_sc2 rfl (m_sc2 rfl (m_sn _))))) W27 (fun _ _ _ k => k) (show rng 0 by decide)
            · refine w_iload_n d_D_operation_100 rfl rfl ?_
              refine w_if_ge 108 d_D_operation_101 (by decide) r2 (fun c32 => ?_) (fun c32 => ?_)
              · refine w_iconst d_D_operation_104 ?_
                refine w_goto 117 d_D_operation_105 (by decide) ?_
                exact w_exit [(0, mr 55), (1, iI x1), (2, iI x2), (3, iI x3)] (m_sc2 rfl (m_sc2 rfl (m_sc2 rfl (m_sc2 rfl (m_sn _))))) W27 (fun _ _ _ k => k) (show rng 1 by decide)
              · refine w_iload_n d_D_operation_108 rfl rfl ?_
                refine w_if_ge 116 d_D_operation_109 (by decide) r3 (fun c33 => ?_) (fun c33 => ?_)
                · refine w_iconst d_D_operation_112 ?_
                  refine w_goto 117 d_D_operation_113 (by decide) ?_
                  exact w_exit [(0, mr 55), (1, iI x1), (2, iI x2), (3, iI x3)] (m_sc2 rfl (m_sc2 rfl (m_sc2 rfl (m_sc2 rfl (m_sn _))))) W27 (fun _ _ _ k => k) (show rng 2 by decide)
                · refine w_iconst d_D_operation_116 ?_
                  exact w_exit [(0, mr 55), (1, iI x1), (2, iI x2), (3, iI x3)] (m_sc2 rfl (m_sc2 rfl (m_sc2 rfl (m_sc2 rfl (m_sn _))))) W27 (fun _ _ _ k => k) (show rng 3 by decide)
          · show Ew _ _ _ _ _ _ _ _ 117 [(0, mr 55), (1, iI x1), (2, iI x2), (3, iI x3)] [iI z34, iI (σ25.1 55 1), mr 56] _ _ _
            refine w_ast d_D_operation_117 W37 ia56 q38 (fun c39 h40 σ41 e42 W43 => ?_)
            refine w_aload_n d_D_operation_118 rfl rfl ?_
            refine w_gr d_D_operation_119 f_D_13 W43 or55_5 ?_
            refine w_iconst d_D_operation_122 ?_
            refine w_aload_n d_D_operation_123 rfl rfl ?_
            refine w_gi d_D_operation_124 f_D_108 W43 oi55_1 ?_
            refine w_imul d_D_operation_127 (fun c44 => ?_)
            refine w_iload_n d_D_operation_128 rfl rfl ?_
            refine w_ast d_D_operation_129 W43 ia57 r1 (fun c45 h46 σ47 e48 W49 => ?_)
            refine w_aload_n d_D_operation_130 rfl rfl ?_
            refine w_gr d_D_operation_131 f_D_13 W49 or55_5 ?_
            refine w_iconst d_D_operation_134 ?_
            refine w_aload_n d_D_operation_135 rfl rfl ?_
            refine w_gi d_D_operation_136 f_D_108 W49 oi55_1 ?_
            refine w_imul d_D_operation_139 (fun c50 => ?_)
            refine w_iconst d_D_operation_140 ?_
            refine w_iadd d_D_operation_141 (fun c51 => ?_)
            refine w_iload_n d_D_operation_142 rfl rfl ?_
            refine w_ast d_D_operation_143 W49 ia57 r2 (fun c52 h53 σ54 e55 W56 => ?_)
            refine w_aload_n d_D_operation_144 rfl rfl ?_
            refine w_gr d_D_operation_145 f_D_13 W56 or55_5 ?_
            refine w_iconst d_D_operation_148 ?_
            refine w_aload_n d_D_operation_149 rfl rfl ?_
            refine w_gi d_D_operation_150 f_D_108 W56 oi55_1 ?_
            refine w_imul d_D_operation_153 (fun c57 => ?_)
            refine w_iconst d_D_operation_154 ?_
            refine w_iadd d_D_operation_155 (fun c58 => ?_)
            refine w_iload_n d_D_operation_156 rfl rfl ?_
            refine w_ast d_D_operation_157 W56 ia57 r3 (fun c59 h60 σ61 e62 W63 => ?_)
            refine w_aload_n d_D_operation_158 rfl rfl ?_
            refine w_dup d_D_operation_159 rfl ?_
            refine w_gi d_D_operation_160 f_D_108 W63 oi55_1 ?_
            refine w_iconst d_D_operation_163 ?_
            refine w_iadd d_D_operation_164 (fun c64 => ?_)
            refine w_pi d_D_operation_165 p_D_108 W63 oi55_1 (by decide) c64 (fun h65 σ66 e67 W68 => ?_)
            refine w_aload_n d_D_operation_168 rfl rfl ?_
            refine w_gi d_D_operation_169 f_D_108 W68 oi55_1 ?_
            refine w_iconst d_D_operation_172 ?_
            refine w_isub d_D_operation_173 (fun c69 => ?_)
            exact w_iret d_D_operation_174 rfl W68 (fun _ _ _ k => k) c69
      · refine w_iconst d_D_operation_71 ?_
        exact w_iret d_D_operation_72 rfl W27 (fun _ _ _ k => k) (show rng 0 by decide)
def f_D_hole (x1 : Int) (σ : SS) : Option (Int × SS) := sq (if x1 < 0 then (some (1, σ)) else (if 4 < x1 then (some (1, σ)) else (some (0, σ)))) fun (z3 : Int) σ4 => sq (f_D_fails z3 0 σ4) fun (a8 : Int) σ9 => if a8 = 0 then (if (σ9.1 55 2) = 24 then (some ((-1), σ9)) else (ck (inb 324 (σ9.1 55 2)) (lb (sA σ9 58 (σ9.1 55 2) x1) fun σ17 => ck (inb 324 (σ17.1 55 2)) (lb (sA σ17 61 (σ17.1 55 2) 0) fun σ22 => ck (rng ((σ22.1 55 2) + 1)) (lb (sF σ22 55 2 ((σ22.1 55 2) + 1)) fun σ27 => ck (rng ((σ27.1 55 2) - 1)) (some (((σ27.1 55 2) - 1), σ27))))))) else (some (0, σ9))
theorem c_D_hole {g : MG} {h : List MC} {σ : SS} {x1 : Int} (hW : Wd h σ) (r1 : rng x1) : Cw g M_D_hole 1 22 [mr 55, iI x1] rng cI1 h σ (f_D_hole x1 σ) := by
  refine w_of (fun d w Q hF hL => ?_)
  unfold f_D_hole
  show Ew g none M_D_hole d w Q rng (cI1 Q) 0 [(0, mr 55), (1, iI x1)] [] h σ _
  refine w_aload_n d_D_hole_0 rfl rfl ?_
  refine w_iload_n d_D_hole_1 rfl rfl ?_
  refine w_sq (G1 := rng) (J := 15) (lvJ := fun x => [(0, mr 55), (1, iI x1)]) (stJ := fun x => [iI x, mr 55]) ?_ (fun z3 σ4 h5 W6 q7 => ?_)
  · refine w_if_lt 10 d_D_hole_2 (by decide) r1 (fun c1 => ?_) (fun c1 => ?_)
    · refine w_iconst d_D_hole_10 ?_
      refine w_goto 15 d_D_hole_11 (by decide) ?_
      exact w_exit [(0, mr 55), (1, iI x1)] (m_sc2 rfl (m_sc2 rfl (m_sn _))) hW (fun _ _ _ k => k) (show rng 1 by decide)
    · refine w_iload_n d_D_hole_5 rfl rfl ?_
      refine w_iconst d_D_hole_6 ?_
      refine w_icmp_le 14 d_D_hole_7 (by decide) r1 (show rng 4 by decide) (fun c2 => ?_) (fun c2 => ?_)
      · refine w_iconst d_D_hole_10 ?_
        refine w_goto 15 d_D_hole_11 (by decide) ?_
        exact w_exit [(0, mr 55), (1, iI x1)] (m_sc2 rfl (m_sc2 rfl (m_sn _))) hW (fun _ _ _ k => k) (show rng 1 by decide)
      · refine w_iconst d_D_hole_14 ?_
        exact w_exit [(0, mr 55), (1, iI x1)] (m_sc2 rfl (m_sc2 rfl (m_sn _))) hW (fun _ _ _ k => k) (show rng 0 by decide)
  · show Ew _ _ _ _ _ _ _ _ 15 [(0, mr 55), (1, iI x1)] [iI z3, mr 55] _ _ _
    refine w_iconst d_D_hole_15 ?_
    refine w_cVI [iI z3, iI 0] [] d_D_hole_16 me_D_fails l_D_104 W6 (c_D_fails W6 q7 (show rng 0 by decide)) rfl rfl (Nat.le_of_ble_eq_true rfl) rfl (Nat.le_of_ble_eq_true rfl) (Nat.le_trans (Nat.le_of_ble_eq_true rfl) hF) (Nat.le_trans (Nat.le_of_ble_eq_true rfl) hL) ob55 ⟨_, _, rfl⟩ (fun a8 σ9 h10 W11 q12 => ?_)
    refine w_if_eq 24 d_D_hole_19 (by decide) q12 (fun c13 => ?_) (fun c13 => ?_)
    · refine w_aload_n d_D_hole_24 rfl rfl ?_
      refine w_gi d_D_hole_25 f_D_111 W11 oi55_2 ?_
      refine w_bipush d_D_hole_28 (by decide) ?_
      refine w_icmp_ne 35 d_D_hole_30 (by decide) (W11.rf _ _) (show rng 24 by decide) (fun c14 => ?_) (fun c14 => ?_)
      · refine w_iconst d_D_hole_33 ?_
        exact w_iret d_D_hole_34 rfl W11 (fun _ _ _ k => k) (show rng (-1) by decide)
      · refine w_aload_n d_D_hole_35 rfl rfl ?_
        refine w_gr d_D_hole_36 f_D_16 W11 or55_6 ?_
        refine w_aload_n d_D_hole_39 rfl rfl ?_
        refine w_gi d_D_hole_40 f_D_111 W11 oi55_2 ?_
        refine w_iload_n d_D_hole_43 rfl rfl ?_
        refine w_ast d_D_hole_44 W11 ia58 r1 (fun c15 h16 σ17 e18 W19 => ?_)
        refine w_aload_n d_D_hole_45 rfl rfl ?_
        refine w_gr d_D_hole_46 f_D_26 W19 or55_9 ?_
        refine w_aload_n d_D_hole_49 rfl rfl ?_
        refine w_gi d_D_hole_50 f_D_111 W19 oi55_2 ?_
        refine w_iconst d_D_hole_53 ?_
        refine w_bst d_D_hole_54 W19 za61 (by decide) (fun c20 h21 σ22 e23 W24 => ?_)
        refine w_aload_n d_D_hole_55 rfl rfl ?_
        refine w_dup d_D_hole_56 rfl ?_
        refine w_gi d_D_hole_57 f_D_111 W24 oi55_2 ?_
        refine w_iconst d_D_hole_60 ?_
        refine w_iadd d_D_hole_61 (fun c25 => ?_)
        refine w_pi d_D_hole_62 p_D_111 W24 oi55_2 (by decide) c25 (fun h26 σ27 e28 W29 => ?_)
        refine w_aload_n d_D_hole_65 rfl rfl ?_
        refine w_gi d_D_hole_66 f_D_111 W29 oi55_2 ?_
        refine w_iconst d_D_hole_69 ?_
        refine w_isub d_D_hole_70 (fun c30 => ?_)
        exact w_iret d_D_hole_71 rfl W29 (fun _ _ _ k => k) c30
    · refine w_iconst d_D_hole_22 ?_
      exact w_iret d_D_hole_23 rfl W11 (fun _ _ _ k => k) (show rng 0 by decide)
def f_D_isSlot (x0 : Int) (σ : SS) : Option (Int × SS) := if x0 < 0 then (some (0, σ)) else (if x0 < 8 then (some (1, σ)) else (some (0, σ)))
theorem c_D_isSlot {g : MG} {h : List MC} {σ : SS} {x0 : Int} (hW : Wd h σ) (r0 : rng x0) : Cw g M_D_isSlot 0 0 [iI x0] rng cI1 h σ (f_D_isSlot x0 σ) := by
  refine w_of (fun d w Q hF hL => ?_)
  unfold f_D_isSlot
  show Ew g none M_D_isSlot d w Q rng (cI1 Q) 0 [(0, iI x0)] [] h σ _
  refine w_iload_n d_D_isSlot_0 rfl rfl ?_
  refine w_if_lt 14 d_D_isSlot_1 (by decide) r0 (fun c1 => ?_) (fun c1 => ?_)
  · refine w_iconst d_D_isSlot_14 ?_
    exact w_zret d_D_isSlot_15 rfl (by decide) hW (fun _ _ _ k => k) (show rng 0 by decide)
  · refine w_iload_n d_D_isSlot_4 rfl rfl ?_
    refine w_bipush d_D_isSlot_5 (by decide) ?_
    refine w_icmp_ge 14 d_D_isSlot_7 (by decide) r0 (show rng 8 by decide) (fun c2 => ?_) (fun c2 => ?_)
    · refine w_iconst d_D_isSlot_10 ?_
      refine w_goto 15 d_D_isSlot_11 (by decide) ?_
      exact w_zret d_D_isSlot_15 rfl (by decide) hW (fun _ _ _ k => k) (show rng 1 by decide)
    · refine w_iconst d_D_isSlot_14 ?_
      exact w_zret d_D_isSlot_15 rfl (by decide) hW (fun _ _ _ k => k) (show rng 0 by decide)
def f_D_begin (x1 : Int) (x2 : Int) (σ : SS) : Option (Int × SS) := sq (f_D_isSlot x1 σ) fun (a1 : Int) σ2 => sq (if a1 = 0 then (some (1, σ2)) else (if x2 < 0 then (some (1, σ2)) else (if 6 < x2 then (some (1, σ2)) else (some (0, σ2))))) fun (z9 : Int) σ10 => sq (f_D_fails z9 0 σ10) fun (a14 : Int) σ15 => if a14 = 0 then (ck (inb 8 x1) (lb (sA σ15 70 x1 1) fun σ22 => ck (inb 8 x1) (lb (sA σ22 64 x1 0) fun σ27 => ck (inb 8 x1) (lb (sA σ27 65 x1 0) fun σ32 => ck (inb 8 x1) (lb (sA σ32 66 x1 x2) fun σ37 => ck (inb 8 x1) (lb (sA σ37 67 x1 1) fun σ42 => ck (rng (160 * x1)) (ck (inb 1280 (160 * x1)) (lb (sA σ42 68 (160 * x1) x2) fun σ48 => some (1, σ48))))))))) else (some (0, σ15))
theorem c_D_begin {g : MG} {h : List MC} {σ : SS} {x1 : Int} {x2 : Int} (hW : Wd h σ) (r1 : rng x1) (r2 : rng x2) : Cw g M_D_begin 1 22 [mr 55, iI x1, iI x2] rng cI1 h σ (f_D_begin x1 x2 σ) := by
  refine w_of (fun d w Q hF hL => ?_)
  unfold f_D_begin
  show Ew g none M_D_begin d w Q rng (cI1 Q) 0 [(0, mr 55), (1, iI x1), (2, iI x2)] [] h σ _
  refine w_aload_n d_D_begin_0 rfl rfl ?_
  refine w_iload_n d_D_begin_1 rfl rfl ?_
  refine w_cSI [iI x1] [mr 55] d_D_begin_2 me_D_isSlot l_D_114 hW (c_D_isSlot hW r1) rfl rfl (Nat.le_of_ble_eq_true rfl) rfl (Nat.le_of_ble_eq_true rfl) (Nat.le_trans (Nat.le_of_ble_eq_true rfl) hF) (Nat.le_trans (Nat.le_of_ble_eq_true rfl) hL) (fun a1 σ2 h3 W4 q5 => ?_)
  refine w_sq (G1 := rng) (J := 23) (lvJ := fun x => [(0, mr 55), (1, iI x1), (2, iI x2)]) (stJ := fun x => [iI x, mr 55]) ?_ (fun z9 σ10 h11 W12 q13 => ?_)
  · refine w_if_eq 18 d_D_begin_5 (by decide) q5 (fun c6 => ?_) (fun c6 => ?_)
    · refine w_iconst d_D_begin_18 ?_
      refine w_goto 23 d_D_begin_19 (by decide) ?_
      exact w_exit [(0, mr 55), (1, iI x1), (2, iI x2)] (m_sc2 rfl (m_sc2 rfl (m_sc2 rfl (m_sn _)))) W4 (fun _ _ _ k => k) (show rng 1 by decide)
    · refine w_iload_n d_D_begin_8 rfl rfl ?_
      refine w_if_lt 18 d_D_begin_9 (by decide) r2 (fun c7 => ?_) (fun c7 => ?_)
      · refine w_iconst d_D_begin_18 ?_
        refine w_goto 23 d_D_begin_19 (by decide) ?_
        exact w_exit [(0, mr 55), (1, iI x1), (2, iI x2)] (m_sc2 rfl (m_sc2 rfl (m_sc2 rfl (m_sn _)))) W4 (fun _ _ _ k => k) (show rng 1 by decide)
      · refine w_iload_n d_D_begin_12 rfl rfl ?_
        refine w_bipush d_D_begin_13 (by decide) ?_
        refine w_icmp_le 22 d_D_begin_15 (by decide) r2 (show rng 6 by decide) (fun c8 => ?_) (fun c8 => ?_)
        · refine w_iconst d_D_begin_18 ?_
          refine w_goto 23 d_D_begin_19 (by decide) ?_
          exact w_exit [(0, mr 55), (1, iI x1), (2, iI x2)] (m_sc2 rfl (m_sc2 rfl (m_sc2 rfl (m_sn _)))) W4 (fun _ _ _ k => k) (show rng 1 by decide)
        · refine w_iconst d_D_begin_22 ?_
          exact w_exit [(0, mr 55), (1, iI x1), (2, iI x2)] (m_sc2 rfl (m_sc2 rfl (m_sc2 rfl (m_sn _)))) W4 (fun _ _ _ k => k) (show rng 0 by decide)
  · show Ew _ _ _ _ _ _ _ _ 23 [(0, mr 55), (1, iI x1), (2, iI x2)] [iI z9, mr 55] _ _ _
    refine w_iconst d_D_begin_23 ?_
    refine w_cVI [iI z9, iI 0] [] d_D_begin_24 me_D_fails l_D_104 W12 (c_D_fails W12 q13 (show rng 0 by decide)) rfl rfl (Nat.le_of_ble_eq_true rfl) rfl (Nat.le_of_ble_eq_true rfl) (Nat.le_trans (Nat.le_of_ble_eq_true rfl) hF) (Nat.le_trans (Nat.le_of_ble_eq_true rfl) hL) ob55 ⟨_, _, rfl⟩ (fun a14 σ15 h16 W17 q18 => ?_)
    refine w_if_eq 32 d_D_begin_27 (by decide) q18 (fun c19 => ?_) (fun c19 => ?_)
    · refine w_aload_n d_D_begin_32 rfl rfl ?_
      refine w_gr d_D_begin_33 f_D_54 W17 or55_18 ?_
      refine w_iload_n d_D_begin_36 rfl rfl ?_
      refine w_iconst d_D_begin_37 ?_
      refine w_bst d_D_begin_38 W17 za70 (by decide) (fun c20 h21 σ22 e23 W24 => ?_)
      refine w_aload_n d_D_begin_39 rfl rfl ?_
      refine w_gr d_D_begin_40 f_D_36 W24 or55_12 ?_
      refine w_iload_n d_D_begin_43 rfl rfl ?_
      refine w_iconst d_D_begin_44 ?_
      refine w_ast d_D_begin_45 W24 ia64 (show rng 0 by decide) (fun c25 h26 σ27 e28 W29 => ?_)
      refine w_aload_n d_D_begin_46 rfl rfl ?_
      refine w_gr d_D_begin_47 f_D_39 W29 or55_13 ?_
      refine w_iload_n d_D_begin_50 rfl rfl ?_
      refine w_iconst d_D_begin_51 ?_
      refine w_ast d_D_begin_52 W29 ia65 (show rng 0 by decide) (fun c30 h31 σ32 e33 W34 => ?_)
      refine w_aload_n d_D_begin_53 rfl rfl ?_
      refine w_gr d_D_begin_54 f_D_42 W34 or55_14 ?_
      refine w_iload_n d_D_begin_57 rfl rfl ?_
      refine w_iload_n d_D_begin_58 rfl rfl ?_
      refine w_ast d_D_begin_59 W34 ia66 r2 (fun c35 h36 σ37 e38 W39 => ?_)
      refine w_aload_n d_D_begin_60 rfl rfl ?_
      refine w_gr d_D_begin_61 f_D_45 W39 or55_15 ?_
      refine w_iload_n d_D_begin_64 rfl rfl ?_
      refine w_iconst d_D_begin_65 ?_
      refine w_ast d_D_begin_66 W39 ia67 (show rng 1 by decide) (fun c40 h41 σ42 e43 W44 => ?_)
      refine w_aload_n d_D_begin_67 rfl rfl ?_
      refine w_gr d_D_begin_68 f_D_48 W44 or55_16 ?_
      refine w_sipush d_D_begin_71 (by decide) ?_
      refine w_iload_n d_D_begin_74 rfl rfl ?_
      refine w_imul d_D_begin_75 (fun c45 => ?_)
      refine w_iload_n d_D_begin_76 rfl rfl ?_
      refine w_ast d_D_begin_77 W44 ia68 r2 (fun c46 h47 σ48 e49 W50 => ?_)
      refine w_iconst d_D_begin_78 ?_
      exact w_iret d_D_begin_79 rfl W50 (fun _ _ _ k => k) (show rng 1 by decide)
    · refine w_iconst d_D_begin_30 ?_
      exact w_iret d_D_begin_31 rfl W17 (fun _ _ _ k => k) (show rng 0 by decide)
def l_D_fits_75 (fu : Nat) : Nat → Int → Int → Int → Int → SS → Option ((Int) × SS)
  | 0, _, _, _, _, _ => none
  | n + 1, x1, x3, x5, x6, σ => ck (inb 8 x1) (if x6 < (σ.2.1 64 x1) then (sq (if x5 = 0 then (some (0, σ)) else (ck (rng (160 * x1)) (ck (rng ((160 * x1) + x6)) (ck (inb 1280 ((160 * x1) + x6)) (ck (rng (4 * x3)) (if (σ.2.1 63 ((160 * x1) + x6)) = (4 * x3) then (some (0, σ)) else (some (1, σ)))))))) fun (z9 : Int) σ10 => ck (rng (x6 + 1)) (l_D_fits_75 fu n x1 x3 z9 (x6 + 1) σ10)) else (some (x5, σ)))
def f_D_fits (fu : Nat) (x1 : Int) (x2 : Int) (x3 : Int) (σ : SS) : Option (Int × SS) := ck (rng (160 * x1)) (ck (inb 8 x1) (ck (rng ((160 * x1) + (σ.2.1 67 x1))) (ck (rng (((160 * x1) + (σ.2.1 67 x1)) - 1)) (ck (inb 1280 (((160 * x1) + (σ.2.1 67 x1)) - 1)) (lb (σ.2.1 68 (((160 * x1) + (σ.2.1 67 x1)) - 1)) fun y6 => if y6 < 100 then (if x3 < 0 then (some (0, σ)) else (sr (if x2 = 0 then (if x3 < y6 then (some (.inl 1, σ)) else (some (.inr (), σ))) else (some (.inr (), σ))) fun (z12 : Unit) σ13 => sr (if x2 = 1 then (if x3 < (σ13.1 55 1) then (some (.inl 1, σ13)) else (some (.inr (), σ13))) else (some (.inr (), σ13))) fun (z19 : Unit) σ20 => if x2 = 2 then (if x3 < (σ20.1 55 2) then (some (1, σ20)) else (some (0, σ20))) else (some (0, σ20)))) else (sq (if x2 = 0 then (if x3 < 0 then (some (0, σ)) else (ck (rng (y6 - 100)) (if x3 < (y6 - 100) then (some (1, σ)) else (some (0, σ))))) else (some (0, σ))) fun (z30 : Int) σ31 => ck (rng (160 * x1)) (ck (inb 8 x1) (ck (rng ((160 * x1) + (σ31.2.1 67 x1))) (ck (rng (((160 * x1) + (σ31.2.1 67 x1)) - 1)) (ck (inb 1280 (((160 * x1) + (σ31.2.1 67 x1)) - 1)) (ck (rng ((σ31.2.1 69 (((160 * x1) + (σ31.2.1 67 x1)) - 1)) + 1)) (lb ((σ31.2.1 69 (((160 * x1) + (σ31.2.1 67 x1)) - 1)) + 1) fun y41 => sq (l_D_fits_75 fu fu x1 x3 z30 y41 σ31) fun (z43 : Int) σ44 => ck (z43 = 0 ∨ z43 = 1) (some (z43, σ44))))))))))))))
theorem w_D_fits_75 {g : MG} {d w fu : Nat} {Q : MO → List MC → Prop} (hF : 0 ≤ d) (hL : 0 ≤ w) : ∀ (n : Nat) (x1 : Int) (x3 : Int) (x5 : Int) (x6 : Int) (σ : SS) (h : List MC), Wd h σ → rng x1 → rng x3 → rng x5 → rng x6 → Ew g none M_D_fits d w Q rng (cJ g none M_D_fits d w Q 123 (fun x => [(5, iI x)]) (fun x => [])) 75 [(0, mr 55), (1, iI x1), (3, iI x3), (5, iI x5), (6, iI x6)] [] h σ (l_D_fits_75 fu n x1 x3 x5 x6 σ) := by
  intro n
  induction n with
  | zero =>
    intro x1 x3 x5 x6 σ h hW r1 r3 r5 r6 a9 σ9 hm
    rw [l_D_fits_75] at hm
    cases hm
  | succ n ih =>
    intro x1 x3 x5 x6 σ h hW r1 r3 r5 r6
    rw [l_D_fits_75]
    refine w_iload d_D_fits_75 rfl ?_
    refine w_aload_n d_D_fits_77 rfl rfl ?_
    refine w_gr d_D_fits_78 f_D_36 hW or55_12 ?_
    refine w_iload_n d_D_fits_81 rfl rfl ?_
    refine w_ald d_D_fits_82 hW ia64 (fun c1 => ?_)
    refine w_icmp_ge 123 d_D_fits_83 (by decide) r6 (hW.ra _ _) (fun c2 => ?_) (fun c2 => ?_)
    · refine w_iload d_D_fits_86 rfl ?_
      refine w_sq (G1 := rng) (J := 115) (lvJ := fun x => [(0, mr 55), (1, iI x1), (3, iI x3), (6, iI x6)]) (stJ := fun x => [iI x]) ?_ (fun z9 σ10 h11 W12 q13 => ?_)
      · refine w_if_eq 114 d_D_fits_88 (by decide) r5 (fun c3 => ?_) (fun c3 => ?_)
        · refine w_iconst d_D_fits_114 ?_
          exact w_exit [(0, mr 55), (1, iI x1), (3, iI x3), (6, iI x6)] (m_sc2 rfl (m_sc2 rfl (m_sc2 rfl (m_sc2 rfl (m_sn _))))) hW (fun _ _ _ k => k) (show rng 0 by decide)
        · refine w_aload_n d_D_fits_91 rfl rfl ?_
          refine w_gr d_D_fits_92 f_D_33 hW or55_11 ?_
          refine w_sipush d_D_fits_95 (by decide) ?_
          refine w_iload_n d_D_fits_98 rfl rfl ?_
          refine w_imul d_D_fits_99 (fun c4 => ?_)
          refine w_iload d_D_fits_100 rfl ?_
          refine w_iadd d_D_fits_102 (fun c5 => ?_)
          refine w_ald d_D_fits_103 hW ia63 (fun c6 => ?_)
          refine w_iconst d_D_fits_104 ?_
          refine w_iload_n d_D_fits_105 rfl rfl ?_
          refine w_imul d_D_fits_106 (fun c7 => ?_)
          refine w_icmp_eq 114 d_D_fits_107 (by decide) (hW.ra _ _) c7 (fun c8 => ?_) (fun c8 => ?_)
          · refine w_iconst d_D_fits_114 ?_
            exact w_exit [(0, mr 55), (1, iI x1), (3, iI x3), (6, iI x6)] (m_sc2 rfl (m_sc2 rfl (m_sc2 rfl (m_sc2 rfl (m_sn _))))) hW (fun _ _ _ k => k) (show rng 0 by decide)
          · refine w_iconst d_D_fits_110 ?_
            refine w_goto 115 d_D_fits_111 (by decide) ?_
            exact w_exit [(0, mr 55), (1, iI x1), (3, iI x3), (6, iI x6)] (m_sc2 rfl (m_sc2 rfl (m_sc2 rfl (m_sc2 rfl (m_sn _))))) hW (fun _ _ _ k => k) (show rng 1 by decide)
      · show Ew _ _ _ _ _ _ _ _ 115 [(0, mr 55), (1, iI x1), (3, iI x3), (6, iI x6)] [iI z9] _ _ _
        refine w_istore [(5, iI z9), (0, mr 55), (1, iI x1), (3, iI x3), (6, iI x6)] d_D_fits_115 (by decide) rfl ?_
        refine w_iinc [(6, iI (x6 + 1)), (5, iI z9), (0, mr 55), (1, iI x1), (3, iI x3)] d_D_fits_117 rfl (by decide) rfl (fun c14 => ?_)
        refine w_goto 75 d_D_fits_120 (by decide) ?_
        exact w_sub (m_sc2 rfl (m_sc2 rfl (m_sc2 rfl (m_sc2 rfl (m_sc2 rfl (m_sn _)))))) (ih x1 x3 z9 (x6 + 1) _ _ W12 r1 r3 q13 c14)
    · exact w_exit [(5, iI x5)] (m_sc2 rfl (m_sn _)) hW (fun _ _ _ k => k) r5
theorem c_D_fits {g : MG} {fu : Nat} {h : List MC} {σ : SS} {x1 : Int} {x2 : Int} {x3 : Int} (hW : Wd h σ) (r1 : rng x1) (r2 : rng x2) (r3 : rng x3) : Cw g M_D_fits 0 0 [mr 55, iI x1, iI x2, iI x3] rng cI1 h σ (f_D_fits fu x1 x2 x3 σ) := by
  refine w_of (fun d w Q hF hL => ?_)
  unfold f_D_fits
  show Ew g none M_D_fits d w Q rng (cI1 Q) 0 [(0, mr 55), (1, iI x1), (2, iI x2), (3, iI x3)] [] h σ _
  refine w_aload_n d_D_fits_0 rfl rfl ?_
  refine w_gr d_D_fits_1 f_D_48 hW or55_16 ?_
  refine w_sipush d_D_fits_4 (by decide) ?_
  refine w_iload_n d_D_fits_7 rfl rfl ?_
  refine w_imul d_D_fits_8 (fun c1 => ?_)
  refine w_aload_n d_D_fits_9 rfl rfl ?_
  refine w_gr d_D_fits_10 f_D_45 hW or55_15 ?_
  refine w_iload_n d_D_fits_13 rfl rfl ?_
  refine w_ald d_D_fits_14 hW ia67 (fun c2 => ?_)
  refine w_iadd d_D_fits_15 (fun c3 => ?_)
  refine w_iconst d_D_fits_16 ?_
  refine w_isub d_D_fits_17 (fun c4 => ?_)
  refine w_ald d_D_fits_18 hW ia68 (fun c5 => ?_)
  refine w_top (fun y6 e7 => ?_)
  have ry6 : rng y6 := e7 ▸ (hW.ra _ _)
  refine w_istore [(4, iI y6), (0, mr 55), (1, iI x1), (2, iI x2), (3, iI x3)] d_D_fits_19 (by decide) rfl ?_
  refine w_iload d_D_fits_21 rfl ?_
  refine w_bipush d_D_fits_23 (by decide) ?_
  refine w_icmp_lt 126 d_D_fits_25 (by decide) ry6 (show rng 100 by decide) (fun c8 => ?_) (fun c8 => ?_)
  · refine w_iload_n d_D_fits_126 rfl rfl ?_
    refine w_if_lt 170 d_D_fits_127 (by decide) r3 (fun c9 => ?_) (fun c9 => ?_)
    · refine w_iconst d_D_fits_170 ?_
      exact w_zret d_D_fits_171 rfl (by decide) hW (fun _ _ _ k => k) (show rng 0 by decide)
    · refine w_iload_n d_D_fits_130 rfl rfl ?_
      refine w_sr (G1 := gU) (J := 140) (lvJ := fun x => [(0, mr 55), (2, iI x2), (3, iI x3)]) (stJ := fun x => []) ?_ (fun z12 σ13 h14 W15 q16 => ?_)
      · refine w_if_ne 140 d_D_fits_131 (by decide) r2 (fun c10 => ?_) (fun c10 => ?_)
        · refine w_iload_n d_D_fits_134 rfl rfl ?_
          refine w_iload d_D_fits_135 rfl ?_
          refine w_icmp_lt 166 d_D_fits_137 (by decide) r3 ry6 (fun c11 => ?_) (fun c11 => ?_)
          · refine w_iconst d_D_fits_166 ?_
            refine w_goto 171 d_D_fits_167 (by decide) ?_
            exact w_zret d_D_fits_171 rfl (by decide) hW (fun _ _ _ k => k) (show rng 1 by decide)
          · exact w_exit [(0, mr 55), (2, iI x2), (3, iI x3)] (m_sc2 rfl (m_sc2 rfl (m_sc2 rfl (m_sn _)))) hW (fun _ _ _ k => k) True.intro
        · exact w_exit [(0, mr 55), (2, iI x2), (3, iI x3)] (m_sc2 rfl (m_sc2 rfl (m_sc2 rfl (m_sn _)))) hW (fun _ _ _ k => k) True.intro
      · show Ew _ _ _ _ _ _ _ _ 140 [(0, mr 55), (2, iI x2), (3, iI x3)] [] _ _ _
        refine w_iload_n d_D_fits_140 rfl rfl ?_
        refine w_iconst d_D_fits_141 ?_
        refine w_sr (G1 := gU) (J := 153) (lvJ := fun x => [(0, mr 55), (2, iI x2), (3, iI x3)]) (stJ := fun x => []) ?_ (fun z19 σ20 h21 W22 q23 => ?_)
        · refine w_icmp_ne 153 d_D_fits_142 (by decide) r2 (show rng 1 by decide) (fun c17 => ?_) (fun c17 => ?_)
          · refine w_iload_n d_D_fits_145 rfl rfl ?_
            refine w_aload_n d_D_fits_146 rfl rfl ?_
            refine w_gi d_D_fits_147 f_D_108 W15 oi55_1 ?_
            refine w_icmp_lt 166 d_D_fits_150 (by decide) r3 (W15.rf _ _) (fun c18 => ?_) (fun c18 => ?_)
            · refine w_iconst d_D_fits_166 ?_
              refine w_goto 171 d_D_fits_167 (by decide) ?_
              exact w_zret d_D_fits_171 rfl (by decide) W15 (fun _ _ _ k => k) (show rng 1 by decide)
            · exact w_exit [(0, mr 55), (2, iI x2), (3, iI x3)] (m_sc2 rfl (m_sc2 rfl (m_sc2 rfl (m_sn _)))) W15 (fun _ _ _ k => k) True.intro
          · exact w_exit [(0, mr 55), (2, iI x2), (3, iI x3)] (m_sc2 rfl (m_sc2 rfl (m_sc2 rfl (m_sn _)))) W15 (fun _ _ _ k => k) True.intro
        · show Ew _ _ _ _ _ _ _ _ 153 [(0, mr 55), (2, iI x2), (3, iI x3)] [] _ _ _
          refine w_iload_n d_D_fits_153 rfl rfl ?_
          refine w_iconst d_D_fits_154 ?_
          refine w_icmp_ne 170 d_D_fits_155 (by decide) r2 (show rng 2 by decide) (fun c24 => ?_) (fun c24 => ?_)
          · refine w_iload_n d_D_fits_158 rfl rfl ?_
            refine w_aload_n d_D_fits_159 rfl rfl ?_
            refine w_gi d_D_fits_160 f_D_111 W22 oi55_2 ?_
            refine w_icmp_ge 170 d_D_fits_163 (by decide) r3 (W22.rf _ _) (fun c25 => ?_) (fun c25 => ?_)
            · refine w_iconst d_D_fits_166 ?_
              refine w_goto 171 d_D_fits_167 (by decide) ?_
              exact w_zret d_D_fits_171 rfl (by decide) W22 (fun _ _ _ k => k) (show rng 1 by decide)
            · refine w_iconst d_D_fits_170 ?_
              exact w_zret d_D_fits_171 rfl (by decide) W22 (fun _ _ _ k => k) (show rng 0 by decide)
          · refine w_iconst d_D_fits_170 ?_
            exact w_zret d_D_fits_171 rfl (by decide) W22 (fun _ _ _ k => k) (show rng 0 by decide)
  · refine w_iload_n d_D_fits_28 rfl rfl ?_
    refine w_sq (G1 := rng) (J := 50) (lvJ := fun x => [(0, mr 55), (1, iI x1), (3, iI x3)]) (stJ := fun x => [iI x]) ?_ (fun z30 σ31 h32 W33 q34 => ?_)
    · refine w_if_ne 49 d_D_fits_29 (by decide) r2 (fun c26 => ?_) (fun c26 => ?_)
      · refine w_iload_n d_D_fits_32 rfl rfl ?_
        refine w_if_lt 49 d_D_fits_33 (by decide) r3 (fun c27 => ?_) (fun c27 => ?_)
        · refine w_iconst d_D_fits_49 ?_
          exact w_exit [(0, mr 55), (1, iI x1), (3, iI x3)] (m_sc2 rfl (m_sc2 rfl (m_sc2 rfl (m_sn _)))) hW (fun _ _ _ k => k) (show rng 0 by decide)
        · refine w_iload_n d_D_fits_36 rfl rfl ?_
          refine w_iload d_D_fits_37 rfl ?_
          refine w_bipush d_D_fits_39 (by decide) ?_
          refine w_isub d_D_fits_41 (fun c28 => ?_)
          refine w_icmp_ge 49 d_D_fits_42 (by decide) r3 c28 (fun c29 => ?_) (fun c29 => ?_)
          · refine w_iconst d_D_fits_45 ?_
            refine w_goto 50 d_D_fits_46 (by decide) ?_
            exact w_exit [(0, mr 55), (1, iI x1), (3, iI x3)] (m_sc2 rfl (m_sc2 rfl (m_sc2 rfl (m_sn _)))) hW (fun _ _ _ k => k) (show rng 1 by decide)
          · refine w_iconst d_D_fits_49 ?_
            exact w_exit [(0, mr 55), (1, iI x1), (3, iI x3)] (m_sc2 rfl (m_sc2 rfl (m_sc2 rfl (m_sn _)))) hW (fun _ _ _ k => k) (show rng 0 by decide)
      · refine w_iconst d_D_fits_49 ?_
        exact w_exit [(0, mr 55), (1, iI x1), (3, iI x3)] (m_sc2 rfl (m_sc2 rfl (m_sc2 rfl (m_sn _)))) hW (fun _ _ _ k => k) (show rng 0 by decide)
    · show Ew _ _ _ _ _ _ _ _ 50 [(0, mr 55), (1, iI x1), (3, iI x3)] [iI z30] _ _ _
      refine w_istore [(5, iI z30), (0, mr 55), (1, iI x1), (3, iI x3)] d_D_fits_50 (by decide) rfl ?_
      refine w_aload_n d_D_fits_52 rfl rfl ?_
      refine w_gr d_D_fits_53 f_D_51 W33 or55_17 ?_
      refine w_sipush d_D_fits_56 (by decide) ?_
      refine w_iload_n d_D_fits_59 rfl rfl ?_
      refine w_imul d_D_fits_60 (fun c35 => ?_)
      refine w_aload_n d_D_fits_61 rfl rfl ?_
      refine w_gr d_D_fits_62 f_D_45 W33 or55_15 ?_
      refine w_iload_n d_D_fits_65 rfl rfl ?_
      refine w_ald d_D_fits_66 W33 ia67 (fun c36 => ?_)
      refine w_iadd d_D_fits_67 (fun c37 => ?_)
      refine w_iconst d_D_fits_68 ?_
      refine w_isub d_D_fits_69 (fun c38 => ?_)
      refine w_ald d_D_fits_70 W33 ia69 (fun c39 => ?_)
      refine w_iconst d_D_fits_71 ?_
      refine w_iadd d_D_fits_72 (fun c40 => ?_)
      refine w_top (fun y41 e42 => ?_)
      have ry41 : rng y41 := e42 ▸ c40
      refine w_istore [(6, iI y41), (5, iI z30), (0, mr 55), (1, iI x1), (3, iI x3)] d_D_fits_73 (by decide) rfl ?_
      refine w_sq (G1 := rng) (J := 123) (lvJ := fun x => [(5, iI x)]) (stJ := fun x => []) (w_sub (m_sc2 rfl (m_sc2 rfl (m_sc2 rfl (m_sc2 rfl (m_sc2 rfl (m_sn _)))))) (w_D_fits_75 hF hL fu x1 x3 z30 y41 _ _ W33 r1 r3 q34 ry41)) (fun z43 σ44 h45 W46 q47 => ?_)
      show Ew _ _ _ _ _ _ _ _ 123 [(5, iI z43)] [] _ _ _
      refine w_iload d_D_fits_123 rfl ?_
      refine w_ck (fun b48 => ?_)
      exact w_zret d_D_fits_125 rfl b48 W46 (fun _ _ _ k => k) q47
def l_D_isTooWide_6 (fu : Nat) : Nat → Int → Int → Int → Int → Int → SS → Option ((Int) × SS)
  | 0, _, _, _, _, _, _ => none
  | n + 1, x1, x2, x3, x4, x5, σ => if x1 = 1 then (ck (inb 16 x2) (if x5 < (σ.2.1 56 x2) then (sq (if x4 = 0 then (ck (rng (3 * x2)) (ck (rng ((3 * x2) + x5)) (ck (inb 48 ((3 * x2) + x5)) (ck (rng (x3 + (σ.2.1 57 ((3 * x2) + x5)))) (if 12 < (x3 + (σ.2.1 57 ((3 * x2) + x5))) then (some (1, σ)) else (some (0, σ))))))) else (some (1, σ))) fun (z10 : Int) σ11 => ck (rng (x5 + 1)) (l_D_isTooWide_6 fu n x1 x2 x3 z10 (x5 + 1) σ11)) else (some (x4, σ)))) else (some (x4, σ))
def f_D_isTooWide (fu : Nat) (x1 : Int) (x2 : Int) (x3 : Int) (σ : SS) : Option (Int × SS) := sq (l_D_isTooWide_6 fu fu x1 x2 x3 0 0 σ) fun (z1 : Int) σ2 => ck (z1 = 0 ∨ z1 = 1) (some (z1, σ2))
theorem w_D_isTooWide_6 {g : MG} {d w fu : Nat} {Q : MO → List MC → Prop} (hF : 0 ≤ d) (hL : 0 ≤ w) : ∀ (n : Nat) (x1 : Int) (x2 : Int) (x3 : Int) (x4 : Int) (x5 : Int) (σ : SS) (h : List MC), Wd h σ → rng x1 → rng x2 → rng x3 → rng x4 → rng x5 → Ew g none M_D_isTooWide d w Q rng (cJ g none M_D_isTooWide d w Q 58 (fun x => [(4, iI x)]) (fun x => [])) 6 [(0, mr 55), (1, iI x1), (2, iI x2), (3, iI x3), (4, iI x4), (5, iI x5)] [] h σ (l_D_isTooWide_6 fu n x1 x2 x3 x4 x5 σ) := by
  intro n
  induction n with
  | zero =>
    intro x1 x2 x3 x4 x5 σ h hW r1 r2 r3 r4 r5 a9 σ9 hm
    rw [l_D_isTooWide_6] at hm
    cases hm
  | succ n ih =>
    intro x1 x2 x3 x4 x5 σ h hW r1 r2 r3 r4 r5
    rw [l_D_isTooWide_6]
    refine w_iload_n d_D_isTooWide_6 rfl rfl ?_
    refine w_iconst d_D_isTooWide_7 ?_
    refine w_icmp_ne 58 d_D_isTooWide_8 (by decide) r1 (show rng 1 by decide) (fun c1 => ?_) (fun c1 => ?_)
    · refine w_iload d_D_isTooWide_11 rfl ?_
      refine w_aload_n d_D_isTooWide_13 rfl rfl ?_
      refine w_gr d_D_isTooWide_14 f_D_7 hW or55_4 ?_
      refine w_iload_n d_D_isTooWide_17 rfl rfl ?_
      refine w_ald d_D_isTooWide_18 hW ia56 (fun c2 => ?_)
      refine w_icmp_ge 58 d_D_isTooWide_19 (by decide) r5 (hW.ra _ _) (fun c3 => ?_) (fun c3 => ?_)
      · refine w_iload d_D_isTooWide_22 rfl ?_
        refine w_sq (G1 := rng) (J := 50) (lvJ := fun x => [(0, mr 55), (1, iI x1), (2, iI x2), (3, iI x3), (5, iI x5)]) (stJ := fun x => [iI x]) ?_ (fun z10 σ11 h12 W13 q14 => ?_)
        · refine w_if_ne 45 d_D_isTooWide_24 (by decide) r4 (fun c4 => ?_) (fun c4 => ?_)
          · refine w_iload_n d_D_isTooWide_27 rfl rfl ?_
            refine w_aload_n d_D_isTooWide_28 rfl rfl ?_
            refine w_gr d_D_isTooWide_29 f_D_13 hW or55_5 ?_
            refine w_iconst d_D_isTooWide_32 ?_
            refine w_iload_n d_D_isTooWide_33 rfl rfl ?_
            refine w_imul d_D_isTooWide_34 (fun c5 => ?_)
            refine w_iload d_D_isTooWide_35 rfl ?_
            refine w_iadd d_D_isTooWide_37 (fun c6 => ?_)
            refine w_ald d_D_isTooWide_38 hW ia57 (fun c7 => ?_)
            refine w_iadd d_D_isTooWide_39 (fun c8 => ?_)
            refine w_bipush d_D_isTooWide_40 (by decide) ?_
            refine w_icmp_le 49 d_D_isTooWide_42 (by decide) c8 (show rng 12 by decide) (fun c9 => ?_) (fun c9 => ?_)
            · refine w_iconst d_D_isTooWide_45 ?_
              refine w_goto 50 d_D_isTooWide_46 (by decide) ?_
              exact w_exit [(0, mr 55), (1, iI x1), (2, iI x2), (3, iI x3), (5, iI x5)] (m_sc2 rfl (m_sc2 rfl (m_sc2 rfl (m_sc2 rfl (m_sc2 rfl (m_sn _)))))) hW (fun _ _ _ k => k) (show rng 1 by decide)
            · refine w_iconst d_D_isTooWide_49 ?_
              exact w_exit [(0, mr 55), (1, iI x1), (2, iI x2), (3, iI x3), (5, iI x5)] (m_sc2 rfl (m_sc2 rfl (m_sc2 rfl (m_sc2 rfl (m_sc2 rfl (m_sn _)))))) hW (fun _ _ _ k => k) (show rng 0 by decide)
          · refine w_iconst d_D_isTooWide_45 ?_
            refine w_goto 50 d_D_isTooWide_46 (by decide) ?_
            exact w_exit [(0, mr 55), (1, iI x1), (2, iI x2), (3, iI x3), (5, iI x5)] (m_sc2 rfl (m_sc2 rfl (m_sc2 rfl (m_sc2 rfl (m_sc2 rfl (m_sn _)))))) hW (fun _ _ _ k => k) (show rng 1 by decide)
        · show Ew _ _ _ _ _ _ _ _ 50 [(0, mr 55), (1, iI x1), (2, iI x2), (3, iI x3), (5, iI x5)] [iI z10] _ _ _
          refine w_istore [(4, iI z10), (0, mr 55), (1, iI x1), (2, iI x2), (3, iI x3), (5, iI x5)] d_D_isTooWide_50 (by decide) rfl ?_
          refine w_iinc [(5, iI (x5 + 1)), (4, iI z10), (0, mr 55), (1, iI x1), (2, iI x2), (3, iI x3)] d_D_isTooWide_52 rfl (by decide) rfl (fun c15 => ?_)
          refine w_goto 6 d_D_isTooWide_55 (by decide) ?_
          exact w_sub (m_sc2 rfl (m_sc2 rfl (m_sc2 rfl (m_sc2 rfl (m_sc2 rfl (m_sc2 rfl (m_sn _))))))) (ih x1 x2 x3 z10 (x5 + 1) _ _ W13 r1 r2 r3 q14 c15)
      · exact w_exit [(4, iI x4)] (m_sc2 rfl (m_sn _)) hW (fun _ _ _ k => k) r4
    · exact w_exit [(4, iI x4)] (m_sc2 rfl (m_sn _)) hW (fun _ _ _ k => k) r4
theorem c_D_isTooWide {g : MG} {fu : Nat} {h : List MC} {σ : SS} {x1 : Int} {x2 : Int} {x3 : Int} (hW : Wd h σ) (r1 : rng x1) (r2 : rng x2) (r3 : rng x3) : Cw g M_D_isTooWide 0 0 [mr 55, iI x1, iI x2, iI x3] rng cI1 h σ (f_D_isTooWide fu x1 x2 x3 σ) := by
  refine w_of (fun d w Q hF hL => ?_)
  unfold f_D_isTooWide
  show Ew g none M_D_isTooWide d w Q rng (cI1 Q) 0 [(0, mr 55), (1, iI x1), (2, iI x2), (3, iI x3)] [] h σ _
  refine w_iconst d_D_isTooWide_0 ?_
  refine w_istore [(4, iI 0), (0, mr 55), (1, iI x1), (2, iI x2), (3, iI x3)] d_D_isTooWide_1 (by decide) rfl ?_
  refine w_iconst d_D_isTooWide_3 ?_
  refine w_istore [(5, iI 0), (4, iI 0), (0, mr 55), (1, iI x1), (2, iI x2), (3, iI x3)] d_D_isTooWide_4 (by decide) rfl ?_
  refine w_sq (G1 := rng) (J := 58) (lvJ := fun x => [(4, iI x)]) (stJ := fun x => []) (w_sub (m_sc2 rfl (m_sc2 rfl (m_sc2 rfl (m_sc2 rfl (m_sc2 rfl (m_sc2 rfl (m_sn _))))))) (w_D_isTooWide_6 hF hL fu x1 x2 x3 0 0 _ _ hW r1 r2 r3 (show rng 0 by decide) (show rng 0 by decide))) (fun z1 σ2 h3 W4 q5 => ?_)
  show Ew _ _ _ _ _ _ _ _ 58 [(4, iI z1)] [] _ _ _
  refine w_iload d_D_isTooWide_58 rfl ?_
  refine w_ck (fun b6 => ?_)
  exact w_zret d_D_isTooWide_60 rfl b6 W4 (fun _ _ _ k => k) q5
def f_D_wait (x1 : Int) (x2 : Int) (x3 : Int) (σ : SS) : Option (Unit × SS) := ck (rng (160 * x1)) (ck (inb 8 x1) (ck (rng ((160 * x1) + (σ.2.1 67 x1))) (ck (inb 1280 ((160 * x1) + (σ.2.1 67 x1))) (lb (sA σ 68 ((160 * x1) + (σ.2.1 67 x1)) x2) fun σ6 => ck (rng (160 * x1)) (ck (inb 8 x1) (ck (rng ((160 * x1) + (σ6.2.1 67 x1))) (ck (inb 1280 ((160 * x1) + (σ6.2.1 67 x1))) (lb (sA σ6 69 ((160 * x1) + (σ6.2.1 67 x1)) x3) fun σ14 => ck (inb 8 x1) (ck (rng ((σ14.2.1 67 x1) + 1)) (ck (inb 8 x1) (lb (sA σ14 67 x1 ((σ14.2.1 67 x1) + 1)) fun σ21 => some ((), σ21))))))))))))
theorem c_D_wait {g : MG} {h : List MC} {σ : SS} {x1 : Int} {x2 : Int} {x3 : Int} (hW : Wd h σ) (r1 : rng x1) (r2 : rng x2) (r3 : rng x3) : Cw g M_D_wait 0 0 [mr 55, iI x1, iI x2, iI x3] gU cU1 h σ (f_D_wait x1 x2 x3 σ) := by
  refine w_of (fun d w Q hF hL => ?_)
  unfold f_D_wait
  show Ew g none M_D_wait d w Q gU (cU1 Q) 0 [(0, mr 55), (1, iI x1), (2, iI x2), (3, iI x3)] [] h σ _
  refine w_aload_n d_D_wait_0 rfl rfl ?_
  refine w_gr d_D_wait_1 f_D_48 hW or55_16 ?_
  refine w_sipush d_D_wait_4 (by decide) ?_
  refine w_iload_n d_D_wait_7 rfl rfl ?_
  refine w_imul d_D_wait_8 (fun c1 => ?_)
  refine w_aload_n d_D_wait_9 rfl rfl ?_
  refine w_gr d_D_wait_10 f_D_45 hW or55_15 ?_
  refine w_iload_n d_D_wait_13 rfl rfl ?_
  refine w_ald d_D_wait_14 hW ia67 (fun c2 => ?_)
  refine w_iadd d_D_wait_15 (fun c3 => ?_)
  refine w_iload_n d_D_wait_16 rfl rfl ?_
  refine w_ast d_D_wait_17 hW ia68 r2 (fun c4 h5 σ6 e7 W8 => ?_)
  refine w_aload_n d_D_wait_18 rfl rfl ?_
  refine w_gr d_D_wait_19 f_D_51 W8 or55_17 ?_
  refine w_sipush d_D_wait_22 (by decide) ?_
  refine w_iload_n d_D_wait_25 rfl rfl ?_
  refine w_imul d_D_wait_26 (fun c9 => ?_)
  refine w_aload_n d_D_wait_27 rfl rfl ?_
  refine w_gr d_D_wait_28 f_D_45 W8 or55_15 ?_
  refine w_iload_n d_D_wait_31 rfl rfl ?_
  refine w_ald d_D_wait_32 W8 ia67 (fun c10 => ?_)
  refine w_iadd d_D_wait_33 (fun c11 => ?_)
  refine w_iload_n d_D_wait_34 rfl rfl ?_
  refine w_ast d_D_wait_35 W8 ia69 r3 (fun c12 h13 σ14 e15 W16 => ?_)
  refine w_aload_n d_D_wait_36 rfl rfl ?_
  refine w_gr d_D_wait_37 f_D_45 W16 or55_15 ?_
  refine w_iload_n d_D_wait_40 rfl rfl ?_
  refine w_dup2 d_D_wait_41 rfl rfl ?_
  refine w_ald d_D_wait_42 W16 ia67 (fun c17 => ?_)
  refine w_iconst d_D_wait_43 ?_
  refine w_iadd d_D_wait_44 (fun c18 => ?_)
  refine w_ast d_D_wait_45 W16 ia67 c18 (fun c19 h20 σ21 e22 W23 => ?_)
  exact w_ret d_D_wait_46 rfl W23 (fun _ _ _ k => k) True.intro
def l_D_put_188 (fu : Nat) : Nat → Int → Int → Int → Int → Int → Int → SS → Option ((Unit) × SS)
  | 0, _, _, _, _, _, _, _ => none
  | n + 1, x1, x2, x3, x6, x7, x8, σ => if x8 < 0 then (some ((), σ)) else (if x2 = 1 then (ck (inb 16 x3) (sq (if x8 < (σ.2.1 56 x3) then (ck (rng (3 * x3)) (ck (rng ((3 * x3) + x8)) (ck (inb 48 ((3 * x3) + x8)) (ck (rng (x6 + (σ.2.1 57 ((3 * x3) + x8)))) (sq (f_D_wait x1 (x6 + (σ.2.1 57 ((3 * x3) + x8))) 0 σ) fun (a9 : Unit) σ10 => some ((), σ10)))))) else (some ((), σ))) fun (z14 : Unit) σ15 => ck (rng (x8 + (-1))) (l_D_put_188 fu n x1 x2 x3 x6 x7 (x8 + (-1)) σ15))) else (some ((), σ)))
def l_D_put_238 (fu : Nat) : Nat → Int → Int → Int → Int → Int → Int → SS → Option ((Unit) × SS)
  | 0, _, _, _, _, _, _, _ => none
  | n + 1, x1, x2, x3, x6, x7, x8, σ => if x2 = 2 then (ck (inb 324 x3) (if x8 < (σ.2.1 58 x3) then (ck (rng (100 + x6)) (sq (f_D_wait x1 (100 + x6) x7 σ) fun (a5 : Unit) σ6 => ck (rng (x8 + 1)) (l_D_put_238 fu n x1 x2 x3 x6 x7 (x8 + 1) σ6))) else (some ((), σ)))) else (some ((), σ))
def f_D_put (fu : Nat) (x1 : Int) (x2 : Int) (x3 : Int) (σ : SS) : Option (Int × SS) := sq (f_D_isSlot x1 σ) fun (a1 : Int) σ2 => sq (if a1 = 0 then (some (0, σ2)) else (ck (inb 8 x1) (if (σ2.2.1 67 x1) = 0 then (some (1, σ2)) else (some (0, σ2))))) fun (z9 : Int) σ10 => sq (if a1 = 0 then (some (1, σ10)) else (if z9 = 0 then (sq (f_D_fits fu x1 x2 x3 σ10) fun (a16 : Int) σ17 => if a16 = 0 then (some (1, σ17)) else (some (0, σ17))) else (some (0, σ10)))) fun (z22 : Int) σ23 => sq (f_D_fails z9 z22 σ23) fun (a27 : Int) σ28 => if a27 = 0 then (ck (rng (160 * x1)) (ck (inb 8 x1) (ck (rng ((160 * x1) + (σ28.2.1 67 x1))) (ck (rng (((160 * x1) + (σ28.2.1 67 x1)) - 1)) (ck (inb 1280 (((160 * x1) + (σ28.2.1 67 x1)) - 1)) (lb (σ28.2.1 68 (((160 * x1) + (σ28.2.1 67 x1)) - 1)) fun y38 => sr (if y38 < 100 then (ck (inb 8 x1) (if (σ28.2.1 65 x1) = 30 then (some (.inl (-1), σ28)) else (sq (f_D_isTooWide fu x2 x3 y38 σ28) fun (a43 : Int) σ44 => if a43 = 0 then (some (.inr (), σ44)) else (some (.inl (-1), σ44))))) else (some (.inr (), σ28))) fun (z49 : Unit) σ50 => ck (inb 8 x1) (lb (σ50.2.1 64 x1) fun y55 => ck (rng (160 * x1)) (ck (rng ((160 * x1) + y55)) (ck (rng (4 * x3)) (ck (rng ((4 * x3) + x2)) (ck (inb 1280 ((160 * x1) + y55)) (lb (sA σ50 63 ((160 * x1) + y55) ((4 * x3) + x2)) fun σ63 => ck (inb 8 x1) (ck (rng ((σ63.2.1 64 x1) + 1)) (ck (inb 8 x1) (lb (sA σ63 64 x1 ((σ63.2.1 64 x1) + 1)) fun σ70 => ck (inb 8 x1) (ck (rng ((σ70.2.1 67 x1) - 1)) (ck (inb 8 x1) (lb (sA σ70 67 x1 ((σ70.2.1 67 x1) - 1)) fun σ77 => if y38 < 100 then (ck (inb 8 x1) (ck (rng ((σ77.2.1 65 x1) + 1)) (ck (inb 8 x1) (lb (sA σ77 65 x1 ((σ77.2.1 65 x1) + 1)) fun σ85 => sq (l_D_put_188 fu fu x1 x2 x3 y38 y55 2 σ85) fun (z88 : Unit) σ89 => sq (l_D_put_238 fu fu x1 x2 x3 y38 y55 0 σ89) fun (z93 : Unit) σ94 => ck (inb 8 x1) (some ((σ94.2.1 67 x1), σ94)))))) else (ck (inb 8 x1) (some ((σ77.2.1 67 x1), σ77))))))))))))))))))))) else (some (0, σ28))
theorem w_D_put_188 {g : MG} {d w fu : Nat} {Q : MO → List MC → Prop} (hF : 1 ≤ d) (hL : 26 ≤ w) : ∀ (n : Nat) (x1 : Int) (x2 : Int) (x3 : Int) (x6 : Int) (x7 : Int) (x8 : Int) (σ : SS) (h : List MC), Wd h σ → rng x1 → rng x2 → rng x3 → rng x6 → rng x7 → rng x8 → Ew g none M_D_put d w Q gU (cJ g none M_D_put d w Q 235 (fun x => [(0, mr 55), (1, iI x1), (2, iI x2), (3, iI x3), (6, iI x6), (7, iI x7)]) (fun x => [])) 188 [(0, mr 55), (1, iI x1), (2, iI x2), (3, iI x3), (6, iI x6), (7, iI x7), (8, iI x8)] [] h σ (l_D_put_188 fu n x1 x2 x3 x6 x7 x8 σ) := by
  intro n
  induction n with
  | zero =>
    intro x1 x2 x3 x6 x7 x8 σ h hW r1 r2 r3 r6 r7 r8 a9 σ9 hm
    rw [l_D_put_188] at hm
    cases hm
  | succ n ih =>
    intro x1 x2 x3 x6 x7 x8 σ h hW r1 r2 r3 r6 r7 r8
    rw [l_D_put_188]
    refine w_iload d_D_put_188 rfl ?_
    refine w_if_lt 235 d_D_put_190 (by decide) r8 (fun c1 => ?_) (fun c1 => ?_)
    · exact w_exit [(0, mr 55), (1, iI x1), (2, iI x2), (3, iI x3), (6, iI x6), (7, iI x7)] (m_sc2 rfl (m_sc2 rfl (m_sc2 rfl (m_sc2 rfl (m_sc2 rfl (m_sc2 rfl (m_sn _))))))) hW (fun _ _ _ k => k) True.intro
    · refine w_iload_n d_D_put_193 rfl rfl ?_
      refine w_iconst d_D_put_194 ?_
      refine w_icmp_ne 235 d_D_put_195 (by decide) r2 (show rng 1 by decide) (fun c2 => ?_) (fun c2 => ?_)
      · refine w_iload d_D_put_198 rfl ?_
        refine w_aload_n d_D_put_200 rfl rfl ?_
        refine w_gr d_D_put_201 f_D_7 hW or55_4 ?_
        refine w_iload_n d_D_put_204 rfl rfl ?_
        refine w_ald d_D_put_205 hW ia56 (fun c3 => ?_)
        refine w_sq (G1 := gU) (J := 229) (lvJ := fun x => [(0, mr 55), (1, iI x1), (2, iI x2), (3, iI x3), (6, iI x6), (7, iI x7), (8, iI x8)]) (stJ := fun x => []) ?_ (fun z14 σ15 h16 W17 q18 => ?_)
        · refine w_icmp_ge 229 d_D_put_206 (by decide) r8 (hW.ra _ _) (fun c4 => ?_) (fun c4 => ?_)
          · refine w_aload_n d_D_put_209 rfl rfl ?_
            refine w_iload_n d_D_put_210 rfl rfl ?_
            refine w_iload d_D_put_211 rfl ?_
            refine w_aload_n d_D_put_213 rfl rfl ?_
            refine w_gr d_D_put_214 f_D_13 hW or55_5 ?_
            refine w_iconst d_D_put_217 ?_
            refine w_iload_n d_D_put_218 rfl rfl ?_
            refine w_imul d_D_put_219 (fun c5 => ?_)
            refine w_iload d_D_put_220 rfl ?_
            refine w_iadd d_D_put_222 (fun c6 => ?_)
            refine w_ald d_D_put_223 hW ia57 (fun c7 => ?_)
            refine w_iadd d_D_put_224 (fun c8 => ?_)
            refine w_iconst d_D_put_225 ?_
            refine w_cVU [iI x1, iI (x6 + (σ.2.1 57 ((3 * x3) + x8))), iI 0] [] d_D_put_226 me_D_wait l_D_125 hW (c_D_wait hW r1 c8 (show rng 0 by decide)) rfl rfl (Nat.le_of_ble_eq_true rfl) rfl (Nat.le_of_ble_eq_true rfl) (Nat.le_trans (Nat.le_of_ble_eq_true rfl) hF) (Nat.le_trans (Nat.le_of_ble_eq_true rfl) hL) ob55 ⟨_, _, rfl⟩ (fun a9 σ10 h11 W12 q13 => ?_)
            exact w_exit [(0, mr 55), (1, iI x1), (2, iI x2), (3, iI x3), (6, iI x6), (7, iI x7), (8, iI x8)] (m_sc2 rfl (m_sc2 rfl (m_sc2 rfl (m_sc2 rfl (m_sc2 rfl (m_sc2 rfl (m_sc2 rfl (m_sn _)))))))) W12 (fun _ _ _ k => k) True.intro
          · exact w_exit [(0, mr 55), (1, iI x1), (2, iI x2), (3, iI x3), (6, iI x6), (7, iI x7), (8, iI x8)] (m_sc2 rfl (m_sc2 rfl (m_sc2 rfl (m_sc2 rfl (m_sc2 rfl (m_sc2 rfl (m_sc2 rfl (m_sn _)))))))) hW (fun _ _ _ k => k) True.intro
        · show Ew _ _ _ _ _ _ _ _ 229 [(0, mr 55), (1, iI x1), (2, iI x2), (3, iI x3), (6, iI x6), (7, iI x7), (8, iI x8)] [] _ _ _
          refine w_iinc [(8, iI (x8 + (-1))), (0, mr 55), (1, iI x1), (2, iI x2), (3, iI x3), (6, iI x6), (7, iI x7)] d_D_put_229 rfl (by decide) rfl (fun c19 => ?_)
          refine w_goto 188 d_D_put_232 (by decide) ?_
          exact w_sub (m_sc2 rfl (m_sc2 rfl (m_sc2 rfl (m_sc2 rfl (m_sc2 rfl (m_sc2 rfl (m_sc2 rfl (m_sn _)))))))) (ih x1 x2 x3 x6 x7 (x8 + (-1)) _ _ W17 r1 r2 r3 r6 r7 c19)
      · exact w_exit [(0, mr 55), (1, iI x1), (2, iI x2), (3, iI x3), (6, iI x6), (7, iI x7)] (m_sc2 rfl (m_sc2 rfl (m_sc2 rfl (m_sc2 rfl (m_sc2 rfl (m_sc2 rfl (m_sn _))))))) hW (fun _ _ _ k => k) True.intro
theorem w_D_put_238 {g : MG} {d w fu : Nat} {Q : MO → List MC → Prop} (hF : 1 ≤ d) (hL : 26 ≤ w) : ∀ (n : Nat) (x1 : Int) (x2 : Int) (x3 : Int) (x6 : Int) (x7 : Int) (x8 : Int) (σ : SS) (h : List MC), Wd h σ → rng x1 → rng x2 → rng x3 → rng x6 → rng x7 → rng x8 → Ew g none M_D_put d w Q gU (cJ g none M_D_put d w Q 272 (fun x => [(0, mr 55), (1, iI x1)]) (fun x => [])) 238 [(0, mr 55), (1, iI x1), (2, iI x2), (3, iI x3), (6, iI x6), (7, iI x7), (8, iI x8)] [] h σ (l_D_put_238 fu n x1 x2 x3 x6 x7 x8 σ) := by
  intro n
  induction n with
  | zero =>
    intro x1 x2 x3 x6 x7 x8 σ h hW r1 r2 r3 r6 r7 r8 a9 σ9 hm
    rw [l_D_put_238] at hm
    cases hm
  | succ n ih =>
    intro x1 x2 x3 x6 x7 x8 σ h hW r1 r2 r3 r6 r7 r8
    rw [l_D_put_238]
    refine w_iload_n d_D_put_238 rfl rfl ?_
    refine w_iconst d_D_put_239 ?_
    refine w_icmp_ne 272 d_D_put_240 (by decide) r2 (show rng 2 by decide) (fun c1 => ?_) (fun c1 => ?_)
    · refine w_iload d_D_put_243 rfl ?_
      refine w_aload_n d_D_put_245 rfl rfl ?_
      refine w_gr d_D_put_246 f_D_16 hW or55_6 ?_
      refine w_iload_n d_D_put_249 rfl rfl ?_
      refine w_ald d_D_put_250 hW ia58 (fun c2 => ?_)
      refine w_icmp_ge 272 d_D_put_251 (by decide) r8 (hW.ra _ _) (fun c3 => ?_) (fun c3 => ?_)
      · refine w_aload_n d_D_put_254 rfl rfl ?_
        refine w_iload_n d_D_put_255 rfl rfl ?_
        refine w_bipush d_D_put_256 (by decide) ?_
        refine w_iload d_D_put_258 rfl ?_
        refine w_iadd d_D_put_260 (fun c4 => ?_)
        refine w_iload d_D_put_261 rfl ?_
        refine w_cVU [iI x1, iI (100 + x6), iI x7] [] d_D_put_263 me_D_wait l_D_125 hW (c_D_wait hW r1 c4 r7) rfl rfl (Nat.le_of_ble_eq_true rfl) rfl (Nat.le_of_ble_eq_true rfl) (Nat.le_trans (Nat.le_of_ble_eq_true rfl) hF) (Nat.le_trans (Nat.le_of_ble_eq_true rfl) hL) ob55 ⟨_, _, rfl⟩ (fun a5 σ6 h7 W8 q9 => ?_)
        refine w_iinc [(8, iI (x8 + 1)), (0, mr 55), (1, iI x1), (2, iI x2), (3, iI x3), (6, iI x6), (7, iI x7)] d_D_put_266 rfl (by decide) rfl (fun c10 => ?_)
        refine w_goto 238 d_D_put_269 (by decide) ?_
        exact w_sub (m_sc2 rfl (m_sc2 rfl (m_sc2 rfl (m_sc2 rfl (m_sc2 rfl (m_sc2 rfl (m_sc2 rfl (m_sn _)))))))) (ih x1 x2 x3 x6 x7 (x8 + 1) _ _ W8 r1 r2 r3 r6 r7 c10)
      · exact w_exit [(0, mr 55), (1, iI x1)] (m_sc2 rfl (m_sc2 rfl (m_sn _))) hW (fun _ _ _ k => k) True.intro
    · exact w_exit [(0, mr 55), (1, iI x1)] (m_sc2 rfl (m_sc2 rfl (m_sn _))) hW (fun _ _ _ k => k) True.intro
theorem c_D_put {g : MG} {fu : Nat} {h : List MC} {σ : SS} {x1 : Int} {x2 : Int} {x3 : Int} (hW : Wd h σ) (r1 : rng x1) (r2 : rng x2) (r3 : rng x3) : Cw g M_D_put 1 26 [mr 55, iI x1, iI x2, iI x3] rng cI1 h σ (f_D_put fu x1 x2 x3 σ) := by
  refine w_of (fun d w Q hF hL => ?_)
  unfold f_D_put
  show Ew g none M_D_put d w Q rng (cI1 Q) 0 [(0, mr 55), (1, iI x1), (2, iI x2), (3, iI x3)] [] h σ _
  refine w_iload_n d_D_put_0 rfl rfl ?_
  refine w_cSI [iI x1] [] d_D_put_1 me_D_isSlot l_D_114 hW (c_D_isSlot hW r1) rfl rfl (Nat.le_of_ble_eq_true rfl) rfl (Nat.le_of_ble_eq_true rfl) (Nat.le_trans (Nat.le_of_ble_eq_true rfl) hF) (Nat.le_trans (Nat.le_of_ble_eq_true rfl) hL) (fun a1 σ2 h3 W4 q5 => ?_)
  refine w_istore [(4, iI a1), (0, mr 55), (1, iI x1), (2, iI x2), (3, iI x3)] d_D_put_4 (by decide) rfl ?_
  refine w_iload d_D_put_6 rfl ?_
  refine w_sq (G1 := rng) (J := 25) (lvJ := fun x => [(0, mr 55), (1, iI x1), (2, iI x2), (3, iI x3), (4, iI a1)]) (stJ := fun x => [iI x]) ?_ (fun z9 σ10 h11 W12 q13 => ?_)
  · refine w_if_eq 24 d_D_put_8 (by decide) q5 (fun c6 => ?_) (fun c6 => ?_)
    · refine w_iconst d_D_put_24 ?_
      exact w_exit [(0, mr 55), (1, iI x1), (2, iI x2), (3, iI x3), (4, iI a1)] (m_sc2 rfl (m_sc2 rfl (m_sc2 rfl (m_sc2 rfl (m_sc2 rfl (m_sn _)))))) W4 (fun _ _ _ k => k) (show rng 0 by decide)
    · refine w_aload_n d_D_put_11 rfl rfl ?_
      refine w_gr d_D_put_12 f_D_45 W4 or55_15 ?_
      refine w_iload_n d_D_put_15 rfl rfl ?_
      refine w_ald d_D_put_16 W4 ia67 (fun c7 => ?_)
      refine w_if_ne 24 d_D_put_17 (by decide) (W4.ra _ _) (fun c8 => ?_) (fun c8 => ?_)
      · refine w_iconst d_D_put_20 ?_
        refine w_goto 25 d_D_put_21 (by decide) ?_
        exact w_exit [(0, mr 55), (1, iI x1), (2, iI x2), (3, iI x3), (4, iI a1)] (m_sc2 rfl (m_sc2 rfl (m_sc2 rfl (m_sc2 rfl (m_sc2 rfl (m_sn _)))))) W4 (fun _ _ _ k => k) (show rng 1 by decide)
      · refine w_iconst d_D_put_24 ?_
        exact w_exit [(0, mr 55), (1, iI x1), (2, iI x2), (3, iI x3), (4, iI a1)] (m_sc2 rfl (m_sc2 rfl (m_sc2 rfl (m_sc2 rfl (m_sc2 rfl (m_sn _)))))) W4 (fun _ _ _ k => k) (show rng 0 by decide)
  · show Ew _ _ _ _ _ _ _ _ 25 [(0, mr 55), (1, iI x1), (2, iI x2), (3, iI x3), (4, iI a1)] [iI z9] _ _ _
    refine w_istore [(5, iI z9), (0, mr 55), (1, iI x1), (2, iI x2), (3, iI x3), (4, iI a1)] d_D_put_25 (by decide) rfl ?_
    refine w_aload_n d_D_put_27 rfl rfl ?_
    refine w_iload d_D_put_28 rfl ?_
    refine w_iload d_D_put_30 rfl ?_
    refine w_sq (G1 := rng) (J := 55) (lvJ := fun x => [(0, mr 55), (1, iI x1), (2, iI x2), (3, iI x3)]) (stJ := fun x => [iI x, iI z9, mr 55]) ?_ (fun z22 σ23 h24 W25 q26 => ?_)
    · refine w_if_eq 50 d_D_put_32 (by decide) q5 (fun c14 => ?_) (fun c14 => ?_)
      · refine w_iconst d_D_put_50 ?_
        refine w_goto 55 d_D_put_51 (by decide) ?_
        exact w_exit [(0, mr 55), (1, iI x1), (2, iI x2), (3, iI x3)] (m_sc2 rfl (m_sc2 rfl (m_sc2 rfl (m_sc2 rfl (m_sn _))))) W12 (fun _ _ _ k => k) (show rng 1 by decide)
      · refine w_iload d_D_put_35 rfl ?_
        refine w_if_ne 54 d_D_put_37 (by decide) q13 (fun c15 => ?_) (fun c15 => ?_)
        · refine w_aload_n d_D_put_40 rfl rfl ?_
          refine w_iload_n d_D_put_41 rfl rfl ?_
          refine w_iload_n d_D_put_42 rfl rfl ?_
          refine w_iload_n d_D_put_43 rfl rfl ?_
          refine w_cVI [iI x1, iI x2, iI x3] [iI z9, mr 55] d_D_put_44 me_D_fits l_D_118 W12 (c_D_fits W12 r1 r2 r3) rfl rfl (Nat.le_of_ble_eq_true rfl) rfl (Nat.le_of_ble_eq_true rfl) (Nat.le_trans (Nat.le_of_ble_eq_true rfl) hF) (Nat.le_trans (Nat.le_of_ble_eq_true rfl) hL) ob55 ⟨_, _, rfl⟩ (fun a16 σ17 h18 W19 q20 => ?_)
          refine w_if_ne 54 d_D_put_47 (by decide) q20 (fun c21 => ?_) (fun c21 => ?_)
          · refine w_iconst d_D_put_50 ?_
            refine w_goto 55 d_D_put_51 (by decide) ?_
            exact w_exit [(0, mr 55), (1, iI x1), (2, iI x2), (3, iI x3)] (m_sc2 rfl (m_sc2 rfl (m_sc2 rfl (m_sc2 rfl (m_sn _))))) W19 (fun _ _ _ k => k) (show rng 1 by decide)
          · refine w_iconst d_D_put_54 ?_
            exact w_exit [(0, mr 55), (1, iI x1), (2, iI x2), (3, iI x3)] (m_sc2 rfl (m_sc2 rfl (m_sc2 rfl (m_sc2 rfl (m_sn _))))) W19 (fun _ _ _ k => k) (show rng 0 by decide)
        · refine w_iconst d_D_put_54 ?_
          exact w_exit [(0, mr 55), (1, iI x1), (2, iI x2), (3, iI x3)] (m_sc2 rfl (m_sc2 rfl (m_sc2 rfl (m_sc2 rfl (m_sn _))))) W12 (fun _ _ _ k => k) (show rng 0 by decide)
    · show Ew _ _ _ _ _ _ _ _ 55 [(0, mr 55), (1, iI x1), (2, iI x2), (3, iI x3)] [iI z22, iI z9, mr 55] _ _ _
      refine w_cVI [iI z9, iI z22] [] d_D_put_55 me_D_fails l_D_104 W25 (c_D_fails W25 q13 q26) rfl rfl (Nat.le_of_ble_eq_true rfl) rfl (Nat.le_of_ble_eq_true rfl) (Nat.le_trans (Nat.le_of_ble_eq_true rfl) hF) (Nat.le_trans (Nat.le_of_ble_eq_true rfl) hL) ob55 ⟨_, _, rfl⟩ (fun a27 σ28 h29 W30 q31 => ?_)
      refine w_if_eq 63 d_D_put_58 (by decide) q31 (fun c32 => ?_) (fun c32 => ?_)
      · refine w_aload_n d_D_put_63 rfl rfl ?_
        refine w_gr d_D_put_64 f_D_48 W30 or55_16 ?_
        refine w_sipush d_D_put_67 (by decide) ?_
        refine w_iload_n d_D_put_70 rfl rfl ?_
        refine w_imul d_D_put_71 (fun c33 => ?_)
        refine w_aload_n d_D_put_72 rfl rfl ?_
        refine w_gr d_D_put_73 f_D_45 W30 or55_15 ?_
        refine w_iload_n d_D_put_76 rfl rfl ?_
        refine w_ald d_D_put_77 W30 ia67 (fun c34 => ?_)
        refine w_iadd d_D_put_78 (fun c35 => ?_)
        refine w_iconst d_D_put_79 ?_
        refine w_isub d_D_put_80 (fun c36 => ?_)
        refine w_ald d_D_put_81 W30 ia68 (fun c37 => ?_)
        refine w_top (fun y38 e39 => ?_)
        have ry38 : rng y38 := e39 ▸ (W30.ra _ _)
        refine w_istore [(6, iI y38), (0, mr 55), (1, iI x1), (2, iI x2), (3, iI x3)] d_D_put_82 (by decide) rfl ?_
        refine w_iload d_D_put_84 rfl ?_
        refine w_bipush d_D_put_86 (by decide) ?_
        refine w_sr (G1 := gU) (J := 115) (lvJ := fun x => [(0, mr 55), (1, iI x1), (2, iI x2), (3, iI x3), (6, iI y38)]) (stJ := fun x => []) ?_ (fun z49 σ50 h51 W52 q53 => ?_)
        · refine w_icmp_ge 115 d_D_put_88 (by decide) ry38 (show rng 100 by decide) (fun c40 => ?_) (fun c40 => ?_)
          · refine w_aload_n d_D_put_91 rfl rfl ?_
            refine w_gr d_D_put_92 f_D_39 W30 or55_13 ?_
            refine w_iload_n d_D_put_95 rfl rfl ?_
            refine w_ald d_D_put_96 W30 ia65 (fun c41 => ?_)
            refine w_bipush d_D_put_97 (by decide) ?_
            refine w_icmp_eq 113 d_D_put_99 (by decide) (W30.ra _ _) (show rng 30 by decide) (fun c42 => ?_) (fun c42 => ?_)
            · refine w_iconst d_D_put_113 ?_
              exact w_iret d_D_put_114 rfl W30 (fun _ _ _ k => k) (show rng (-1) by decide)
            · refine w_aload_n d_D_put_102 rfl rfl ?_
              refine w_iload_n d_D_put_103 rfl rfl ?_
              refine w_iload_n d_D_put_104 rfl rfl ?_
              refine w_iload d_D_put_105 rfl ?_
              refine w_cVI [iI x2, iI x3, iI y38] [] d_D_put_107 me_D_isTooWide l_D_122 W30 (c_D_isTooWide W30 r2 r3 ry38) rfl rfl (Nat.le_of_ble_eq_true rfl) rfl (Nat.le_of_ble_eq_true rfl) (Nat.le_trans (Nat.le_of_ble_eq_true rfl) hF) (Nat.le_trans (Nat.le_of_ble_eq_true rfl) hL) ob55 ⟨_, _, rfl⟩ (fun a43 σ44 h45 W46 q47 => ?_)
              refine w_if_eq 115 d_D_put_110 (by decide) q47 (fun c48 => ?_) (fun c48 => ?_)
              · exact w_exit [(0, mr 55), (1, iI x1), (2, iI x2), (3, iI x3), (6, iI y38)] (m_sc2 rfl (m_sc2 rfl (m_sc2 rfl (m_sc2 rfl (m_sc2 rfl (m_sn _)))))) W46 (fun _ _ _ k => k) True.intro
              · refine w_iconst d_D_put_113 ?_
                exact w_iret d_D_put_114 rfl W46 (fun _ _ _ k => k) (show rng (-1) by decide)
          · exact w_exit [(0, mr 55), (1, iI x1), (2, iI x2), (3, iI x3), (6, iI y38)] (m_sc2 rfl (m_sc2 rfl (m_sc2 rfl (m_sc2 rfl (m_sc2 rfl (m_sn _)))))) W30 (fun _ _ _ k => k) True.intro
        · show Ew _ _ _ _ _ _ _ _ 115 [(0, mr 55), (1, iI x1), (2, iI x2), (3, iI x3), (6, iI y38)] [] _ _ _
          refine w_aload_n d_D_put_115 rfl rfl ?_
          refine w_gr d_D_put_116 f_D_36 W52 or55_12 ?_
          refine w_iload_n d_D_put_119 rfl rfl ?_
          refine w_ald d_D_put_120 W52 ia64 (fun c54 => ?_)
          refine w_top (fun y55 e56 => ?_)
          have ry55 : rng y55 := e56 ▸ (W52.ra _ _)
          refine w_istore [(7, iI y55), (0, mr 55), (1, iI x1), (2, iI x2), (3, iI x3), (6, iI y38)] d_D_put_121 (by decide) rfl ?_
          refine w_aload_n d_D_put_123 rfl rfl ?_
          refine w_gr d_D_put_124 f_D_33 W52 or55_11 ?_
          refine w_sipush d_D_put_127 (by decide) ?_
          refine w_iload_n d_D_put_130 rfl rfl ?_
          refine w_imul d_D_put_131 (fun c57 => ?_)
          refine w_iload d_D_put_132 rfl ?_
          refine w_iadd d_D_put_134 (fun c58 => ?_)
          refine w_iconst d_D_put_135 ?_
          refine w_iload_n d_D_put_136 rfl rfl ?_
          refine w_imul d_D_put_137 (fun c59 => ?_)
          refine w_iload_n d_D_put_138 rfl rfl ?_
          refine w_iadd d_D_put_139 (fun c60 => ?_)
          refine w_ast d_D_put_140 W52 ia63 c60 (fun c61 h62 σ63 e64 W65 => ?_)
          refine w_aload_n d_D_put_141 rfl rfl ?_
          refine w_gr d_D_put_142 f_D_36 W65 or55_12 ?_
          refine w_iload_n d_D_put_145 rfl rfl ?_
          refine w_dup2 d_D_put_146 rfl rfl ?_
          refine w_ald d_D_put_147 W65 ia64 (fun c66 => ?_)
          refine w_iconst d_D_put_148 ?_
          refine w_iadd d_D_put_149 (fun c67 => ?_)
          refine w_ast d_D_put_150 W65 ia64 c67 (fun c68 h69 σ70 e71 W72 => ?_)
          refine w_aload_n d_D_put_151 rfl rfl ?_
          refine w_gr d_D_put_152 f_D_45 W72 or55_15 ?_
          refine w_iload_n d_D_put_155 rfl rfl ?_
          refine w_dup2 d_D_put_156 rfl rfl ?_
          refine w_ald d_D_put_157 W72 ia67 (fun c73 => ?_)
          refine w_iconst d_D_put_158 ?_
          refine w_isub d_D_put_159 (fun c74 => ?_)
          refine w_ast d_D_put_160 W72 ia67 c74 (fun c75 h76 σ77 e78 W79 => ?_)
          refine w_iload d_D_put_161 rfl ?_
          refine w_bipush d_D_put_163 (by decide) ?_
          refine w_icmp_lt 175 d_D_put_165 (by decide) ry38 (show rng 100 by decide) (fun c80 => ?_) (fun c80 => ?_)
          · refine w_aload_n d_D_put_175 rfl rfl ?_
            refine w_gr d_D_put_176 f_D_39 W79 or55_13 ?_
            refine w_iload_n d_D_put_179 rfl rfl ?_
            refine w_dup2 d_D_put_180 rfl rfl ?_
            refine w_ald d_D_put_181 W79 ia65 (fun c81 => ?_)
            refine w_iconst d_D_put_182 ?_
            refine w_iadd d_D_put_183 (fun c82 => ?_)
            refine w_ast d_D_put_184 W79 ia65 c82 (fun c83 h84 σ85 e86 W87 => ?_)
            refine w_iconst d_D_put_185 ?_
            refine w_istore [(8, iI 2), (7, iI y55), (0, mr 55), (1, iI x1), (2, iI x2), (3, iI x3), (6, iI y38)] d_D_put_186 (by decide) rfl ?_
            refine w_sq (G1 := gU) (J := 235) (lvJ := fun x => [(0, mr 55), (1, iI x1), (2, iI x2), (3, iI x3), (6, iI y38), (7, iI y55)]) (stJ := fun x => []) (w_sub (m_sc2 rfl (m_sc2 rfl (m_sc2 rfl (m_sc2 rfl (m_sc2 rfl (m_sc2 rfl (m_sc2 rfl (m_sn _)))))))) (w_D_put_188 hF hL fu x1 x2 x3 y38 y55 2 _ _ W87 r1 r2 r3 ry38 ry55 (show rng 2 by decide))) (fun z88 σ89 h90 W91 q92 => ?_)
            show Ew _ _ _ _ _ _ _ _ 235 [(0, mr 55), (1, iI x1), (2, iI x2), (3, iI x3), (6, iI y38), (7, iI y55)] [] _ _ _
            refine w_iconst d_D_put_235 ?_
            refine w_istore [(8, iI 0), (0, mr 55), (1, iI x1), (2, iI x2), (3, iI x3), (6, iI y38), (7, iI y55)] d_D_put_236 (by decide) rfl ?_
            refine w_sq (G1 := gU) (J := 272) (lvJ := fun x => [(0, mr 55), (1, iI x1)]) (stJ := fun x => []) (w_sub (m_sc2 rfl (m_sc2 rfl (m_sc2 rfl (m_sc2 rfl (m_sc2 rfl (m_sc2 rfl (m_sc2 rfl (m_sn _)))))))) (w_D_put_238 hF hL fu x1 x2 x3 y38 y55 0 _ _ W91 r1 r2 r3 ry38 ry55 (show rng 0 by decide))) (fun z93 σ94 h95 W96 q97 => ?_)
            show Ew _ _ _ _ _ _ _ _ 272 [(0, mr 55), (1, iI x1)] [] _ _ _
            refine w_aload_n d_D_put_272 rfl rfl ?_
            refine w_gr d_D_put_273 f_D_45 W96 or55_15 ?_
            refine w_iload_n d_D_put_276 rfl rfl ?_
            refine w_ald d_D_put_277 W96 ia67 (fun c98 => ?_)
            exact w_iret d_D_put_278 rfl W96 (fun _ _ _ k => k) (W96.ra _ _)
          · refine w_aload_n d_D_put_168 rfl rfl ?_
            refine w_gr d_D_put_169 f_D_45 W79 or55_15 ?_
            refine w_iload_n d_D_put_172 rfl rfl ?_
            refine w_ald d_D_put_173 W79 ia67 (fun c99 => ?_)
            exact w_iret d_D_put_174 rfl W79 (fun _ _ _ k => k) (W79.ra _ _)
      · refine w_iconst d_D_put_61 ?_
        exact w_iret d_D_put_62 rfl W30 (fun _ _ _ k => k) (show rng 0 by decide)
