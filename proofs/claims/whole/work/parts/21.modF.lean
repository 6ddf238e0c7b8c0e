def l_D_empty_9 (fu : Nat) : Nat → Int → Int → SS → Option ((Int) × SS)
  | 0, _, _, _ => none
  | n + 1, x1, x2, σ => if x2 < (σ.1 55 2) then (ck (inb 324 x2) (sq (if (σ.2.1 61 x2) = 0 then (some (0, σ)) else (some (1, σ))) fun (z4 : Int) σ5 => ck (rng (x1 + z4)) (lb (x1 + z4) fun y10 => ck (rng (x2 + 1)) (l_D_empty_9 fu n y10 (x2 + 1) σ5)))) else (some (x1, σ))
def l_D_empty_42 (fu : Nat) : Nat → Int → Int → SS → Option ((Unit) × SS)
  | 0, _, _, _ => none
  | n + 1, x1, x2, σ => if x2 < 324 then (ck (inb 324 x2) (lb (sA σ 61 x2 0) fun σ4 => ck (rng (x2 + 1)) (l_D_empty_42 fu n x1 (x2 + 1) σ4))) else (some ((), σ))
def f_D_empty (fu : Nat) (σ : SS) : Option (Int × SS) := lb (sF σ 55 0 0) fun σ2 => sq (l_D_empty_9 fu fu 0 0 σ2) fun (z5 : Int) σ6 => sq (l_D_empty_42 fu fu z5 0 σ6) fun (z10 : Unit) σ11 => lb (sF σ11 55 3 0) fun σ16 => some (z5, σ16)
theorem w_D_empty_9 {g : MG} {d w fu : Nat} {Q : MO → List MC → Prop} (hF : 0 ≤ d) (hL : 0 ≤ w) : ∀ (n : Nat) (x1 : Int) (x2 : Int) (σ : SS) (h : List MC), Wd h σ → rng x1 → rng x2 → Ew g none M_D_empty d w Q rng (cJ g none M_D_empty d w Q 40 (fun x => [(0, mr 55), (1, iI x)]) (fun x => [])) 9 [(0, mr 55), (1, iI x1), (2, iI x2)] [] h σ (l_D_empty_9 fu n x1 x2 σ) := by
  intro n
  induction n with
  | zero =>
    intro x1 x2 σ h hW r1 r2 a9 σ9 hm
    rw [l_D_empty_9] at hm
    cases hm
  | succ n ih =>
    intro x1 x2 σ h hW r1 r2
    rw [l_D_empty_9]
    refine w_iload_n d_D_empty_9 rfl rfl ?_
    refine w_aload_n d_D_empty_10 rfl rfl ?_
    refine w_gi d_D_empty_11 f_D_111 hW oi55_2 ?_
    refine w_icmp_ge 40 d_D_empty_14 (by decide) r2 (hW.rf _ _) (fun c1 => ?_) (fun c1 => ?_)
    · refine w_iload_n d_D_empty_17 rfl rfl ?_
      refine w_aload_n d_D_empty_18 rfl rfl ?_
      refine w_gr d_D_empty_19 f_D_26 hW or55_9 ?_
      refine w_iload_n d_D_empty_22 rfl rfl ?_
      refine w_bld d_D_empty_23 hW za61 (fun c2 => ?_)
      refine w_sq (G1 := rng) (J := 32) (lvJ := fun x => [(0, mr 55), (2, iI x2)]) (stJ := fun x => [iI x, iI x1]) ?_ (fun z4 σ5 h6 W7 q8 => ?_)
      · refine w_if_eq 31 d_D_empty_24 (by decide) (hW.ra _ _) (fun c3 => ?_) (fun c3 => ?_)
        · refine w_iconst d_D_empty_31 ?_
          exact w_exit [(0, mr 55), (2, iI x2)] (m_sc2 rfl (m_sc2 rfl (m_sn _))) hW (fun _ _ _ k => k) (show rng 0 by decide)
        · refine w_iconst d_D_empty_27 ?_
          refine w_goto 32 d_D_empty_28 (by decide) ?_
          exact w_exit [(0, mr 55), (2, iI x2)] (m_sc2 rfl (m_sc2 rfl (m_sn _))) hW (fun _ _ _ k => k) (show rng 1 by decide)
      · show Ew _ _ _ _ _ _ _ _ 32 [(0, mr 55), (2, iI x2)] [iI z4, iI x1] _ _ _
        refine w_iadd d_D_empty_32 (fun c9 => ?_)
        refine w_top (fun y10 e11 => ?_)
        have ry10 : rng y10 := e11 ▸ c9
        refine w_istore_n [(1, iI y10), (0, mr 55), (2, iI x2)] d_D_empty_33 rfl (by decide) rfl ?_
        refine w_iinc [(2, iI (x2 + 1)), (1, iI y10), (0, mr 55)] d_D_empty_34 rfl (by decide) rfl (fun c12 => ?_)
        refine w_goto 9 d_D_empty_37 (by decide) ?_
        exact w_sub (m_sc2 rfl (m_sc2 rfl (m_sc2 rfl (m_sn _)))) (ih y10 (x2 + 1) _ _ W7 ry10 c12)
    · exact w_exit [(0, mr 55), (1, iI x1)] (m_sc2 rfl (m_sc2 rfl (m_sn _))) hW (fun _ _ _ k => k) r1
theorem w_D_empty_42 {g : MG} {d w fu : Nat} {Q : MO → List MC → Prop} (hF : 0 ≤ d) (hL : 0 ≤ w) : ∀ (n : Nat) (x1 : Int) (x2 : Int) (σ : SS) (h : List MC), Wd h σ → rng x1 → rng x2 → Ew g none M_D_empty d w Q gU (cJ g none M_D_empty d w Q 62 (fun x => [(0, mr 55), (1, iI x1)]) (fun x => [])) 42 [(0, mr 55), (1, iI x1), (2, iI x2)] [] h σ (l_D_empty_42 fu n x1 x2 σ) := by
  intro n
  induction n with
  | zero =>
    intro x1 x2 σ h hW r1 r2 a9 σ9 hm
    rw [l_D_empty_42] at hm
    cases hm
  | succ n ih =>
    intro x1 x2 σ h hW r1 r2
    rw [l_D_empty_42]
    refine w_iload_n d_D_empty_42 rfl rfl ?_
    refine w_sipush d_D_empty_43 (by decide) ?_
    refine w_icmp_ge 62 d_D_empty_46 (by decide) r2 (show rng 324 by decide) (fun c1 => ?_) (fun c1 => ?_)
    · refine w_aload_n d_D_empty_49 rfl rfl ?_
      refine w_gr d_D_empty_50 f_D_26 hW or55_9 ?_
      refine w_iload_n d_D_empty_53 rfl rfl ?_
      refine w_iconst d_D_empty_54 ?_
      refine w_bst d_D_empty_55 hW za61 (by decide) (fun c2 h3 σ4 e5 W6 => ?_)
      refine w_iinc [(2, iI (x2 + 1)), (0, mr 55), (1, iI x1)] d_D_empty_56 rfl (by decide) rfl (fun c7 => ?_)
      refine w_goto 42 d_D_empty_59 (by decide) ?_
      exact w_sub (m_sc2 rfl (m_sc2 rfl (m_sc2 rfl (m_sn _)))) (ih x1 (x2 + 1) _ _ W6 r1 c7)
    · exact w_exit [(0, mr 55), (1, iI x1)] (m_sc2 rfl (m_sc2 rfl (m_sn _))) hW (fun _ _ _ k => k) True.intro
theorem c_D_empty {g : MG} {fu : Nat} {h : List MC} {σ : SS} (hW : Wd h σ) : Cw g M_D_empty 0 0 [mr 55] rng cI1 h σ (f_D_empty fu σ) := by
  refine w_of (fun d w Q hF hL => ?_)
  unfold f_D_empty
  show Ew g none M_D_empty d w Q rng (cI1 Q) 0 [(0, mr 55)] [] h σ _
  refine w_aload_n d_D_empty_0 rfl rfl ?_
  refine w_iconst d_D_empty_1 ?_
  refine w_pi d_D_empty_2 p_D_100 hW oi55_0 (by decide) (show rng 0 by decide) (fun h1 σ2 e3 W4 => ?_)
  refine w_iconst d_D_empty_5 ?_
  refine w_istore_n [(1, iI 0), (0, mr 55)] d_D_empty_6 rfl (by decide) rfl ?_
  refine w_iconst d_D_empty_7 ?_
  refine w_istore_n [(2, iI 0), (1, iI 0), (0, mr 55)] d_D_empty_8 rfl (by decide) rfl ?_
  refine w_sq (G1 := rng) (J := 40) (lvJ := fun x => [(0, mr 55), (1, iI x)]) (stJ := fun x => []) (w_sub (m_sc2 rfl (m_sc2 rfl (m_sc2 rfl (m_sn _)))) (w_D_empty_9 hF hL fu 0 0 _ _ W4 (show rng 0 by decide) (show rng 0 by decide))) (fun z5 σ6 h7 W8 q9 => ?_)
  show Ew _ _ _ _ _ _ _ _ 40 [(0, mr 55), (1, iI z5)] [] _ _ _
  refine w_iconst d_D_empty_40 ?_
  refine w_istore_n [(2, iI 0), (0, mr 55), (1, iI z5)] d_D_empty_41 rfl (by decide) rfl ?_
  refine w_sq (G1 := gU) (J := 62) (lvJ := fun x => [(0, mr 55), (1, iI z5)]) (stJ := fun x => []) (w_sub (m_sc2 rfl (m_sc2 rfl (m_sc2 rfl (m_sn _)))) (w_D_empty_42 hF hL fu z5 0 _ _ W8 q9 (show rng 0 by decide))) (fun z10 σ11 h12 W13 q14 => ?_)
  show Ew _ _ _ _ _ _ _ _ 62 [(0, mr 55), (1, iI z5)] [] _ _ _
  refine w_aload_n d_D_empty_62 rfl rfl ?_
  refine w_iconst d_D_empty_63 ?_
  refine w_pi d_D_empty_64 p_D_144 W13 oi55_3 (by decide) (show rng 0 by decide) (fun h15 σ16 e17 W18 => ?_)
  refine w_iload_n d_D_empty_67 rfl rfl ?_
  exact w_iret d_D_empty_68 rfl W18 (fun _ _ _ k => k) q9
def l_D_count_73 (fu : Nat) : Nat → Int → Int → SS → Option ((Int) × SS)
  | 0, _, _, _ => none
  | n + 1, x2, x3, σ => ck (rng (24 + (σ.1 55 3))) (if x3 < (24 + (σ.1 55 3)) then (ck (inb 324 x3) (sq (if (σ.2.1 61 x3) = 0 then (some (0, σ)) else (some (1, σ))) fun (z5 : Int) σ6 => ck (rng (x2 + z5)) (lb (x2 + z5) fun y11 => ck (rng (x3 + 1)) (l_D_count_73 fu n y11 (x3 + 1) σ6)))) else (some (x2, σ)))
def f_D_count (fu : Nat) (x1 : Int) (σ : SS) : Option (Int × SS) := lb (sF σ 55 0 0) fun σ2 => if x1 = 0 then (some ((σ2.1 55 1), σ2)) else if x1 = 1 then (some ((σ2.1 55 2), σ2)) else if x1 = 2 then (some ((σ2.1 55 3), σ2)) else if x1 = 3 then (sq (l_D_count_73 fu fu 0 0 σ2) fun (z9 : Int) σ10 => some (z9, σ10)) else if x1 = 4 then (some ((σ2.1 55 36), σ2)) else if x1 = 5 then (some ((σ2.1 55 37), σ2)) else if x1 = 6 then (some ((σ2.1 55 38), σ2)) else if x1 = 7 then (some ((σ2.1 55 39), σ2)) else (some ((-1), σ2))
theorem w_D_count_73 {g : MG} {d w fu : Nat} {Q : MO → List MC → Prop} (hF : 0 ≤ d) (hL : 0 ≤ w) : ∀ (n : Nat) (x2 : Int) (x3 : Int) (σ : SS) (h : List MC), Wd h σ → rng x2 → rng x3 → Ew g none M_D_count d w Q rng (cJ g none M_D_count d w Q 107 (fun x => [(2, iI x)]) (fun x => [])) 73 [(0, mr 55), (2, iI x2), (3, iI x3)] [] h σ (l_D_count_73 fu n x2 x3 σ) := by
  intro n
  induction n with
  | zero =>
    intro x2 x3 σ h hW r2 r3 a9 σ9 hm
    rw [l_D_count_73] at hm
    cases hm
  | succ n ih =>
    intro x2 x3 σ h hW r2 r3
    rw [l_D_count_73]
    refine w_iload_n d_D_count_73 rfl rfl ?_
    refine w_bipush d_D_count_74 (by decide) ?_
    refine w_aload_n d_D_count_76 rfl rfl ?_
    refine w_gi d_D_count_77 f_D_144 hW oi55_3 ?_
    refine w_iadd d_D_count_80 (fun c1 => ?_)
    refine w_icmp_ge 107 d_D_count_81 (by decide) r3 c1 (fun c2 => ?_) (fun c2 => ?_)
    · refine w_iload_n d_D_count_84 rfl rfl ?_
      refine w_aload_n d_D_count_85 rfl rfl ?_
      refine w_gr d_D_count_86 f_D_26 hW or55_9 ?_
      refine w_iload_n d_D_count_89 rfl rfl ?_
      refine w_bld d_D_count_90 hW za61 (fun c3 => ?_)
      refine w_sq (G1 := rng) (J := 99) (lvJ := fun x => [(0, mr 55), (3, iI x3)]) (stJ := fun x => [iI x, iI x2]) ?_ (fun z5 σ6 h7 W8 q9 => ?_)
      · refine w_if_eq 98 d_D_count_91 (by decide) (hW.ra _ _) (fun c4 => ?_) (fun c4 => ?_)
        · refine w_iconst d_D_count_98 ?_
          exact w_exit [(0, mr 55), (3, iI x3)] (m_sc2 rfl (m_sc2 rfl (m_sn _))) hW (fun _ _ _ k => k) (show rng 0 by decide)
        · refine w_iconst d_D_count_94 ?_
          refine w_goto 99 d_D_count_95 (by decide) ?_
          exact w_exit [(0, mr 55), (3, iI x3)] (m_sc2 rfl (m_sc2 rfl (m_sn _))) hW (fun _ _ _ k => k) (show rng 1 by decide)
      · show Ew _ _ _ _ _ _ _ _ 99 [(0, mr 55), (3, iI x3)] [iI z5, iI x2] _ _ _
        refine w_iadd d_D_count_99 (fun c10 => ?_)
        refine w_top (fun y11 e12 => ?_)
        have ry11 : rng y11 := e12 ▸ c10
        refine w_istore_n [(2, iI y11), (0, mr 55), (3, iI x3)] d_D_count_100 rfl (by decide) rfl ?_
        refine w_iinc [(3, iI (x3 + 1)), (2, iI y11), (0, mr 55)] d_D_count_101 rfl (by decide) rfl (fun c13 => ?_)
        refine w_goto 73 d_D_count_104 (by decide) ?_
        exact w_sub (m_sc2 rfl (m_sc2 rfl (m_sc2 rfl (m_sn _)))) (ih y11 (x3 + 1) _ _ W8 ry11 c13)
    · exact w_exit [(2, iI x2)] (m_sc2 rfl (m_sn _)) hW (fun _ _ _ k => k) r2
theorem c_D_count {g : MG} {fu : Nat} {h : List MC} {σ : SS} {x1 : Int} (hW : Wd h σ) (r1 : rng x1) : Cw g M_D_count 0 0 [mr 55, iI x1] rng cI1 h σ (f_D_count fu x1 σ) := by
  refine w_of (fun d w Q hF hL => ?_)
  unfold f_D_count
  show Ew g none M_D_count d w Q rng (cI1 Q) 0 [(0, mr 55), (1, iI x1)] [] h σ _
  refine w_aload_n d_D_count_0 rfl rfl ?_
  refine w_iconst d_D_count_1 ?_
  refine w_pi d_D_count_2 p_D_100 hW oi55_0 (by decide) (show rng 0 by decide) (fun h1 σ2 e3 W4 => ?_)
  refine w_iconst d_D_count_5 ?_
  refine w_istore_n [(2, iI 0), (0, mr 55), (1, iI x1)] d_D_count_6 rfl (by decide) rfl ?_
  refine w_iload_n d_D_count_7 rfl rfl ?_
  refine w_both (fun c5 => ?_) (fun c5 => ?_)
  · refine w_val c5 ?_
    refine w_step (fun _ _ k => e_tableIn (off := 48) (tgt := 56) d_D_count_8 (by decide) (by decide) (by decide) (by decide) k) ?_
    refine w_aload_n d_D_count_56 rfl rfl ?_
    refine w_gi d_D_count_57 f_D_108 W4 oi55_1 ?_
    exact w_iret d_D_count_60 rfl W4 (fun _ _ _ k => k) (W4.rf _ _)
  ·
    refine w_both (fun c6 => ?_) (fun c6 => ?_)
    · refine w_val c6 ?_
      refine w_step (fun _ _ k => e_tableIn (off := 53) (tgt := 61) d_D_count_8 (by decide) (by decide) (by decide) (by decide) k) ?_
      refine w_aload_n d_D_count_61 rfl rfl ?_
      refine w_gi d_D_count_62 f_D_111 W4 oi55_2 ?_
      exact w_iret d_D_count_65 rfl W4 (fun _ _ _ k => k) (W4.rf _ _)
    ·
      refine w_both (fun c7 => ?_) (fun c7 => ?_)
      · refine w_val c7 ?_
        refine w_step (fun _ _ k => e_tableIn (off := 58) (tgt := 66) d_D_count_8 (by decide) (by decide) (by decide) (by decide) k) ?_
        refine w_aload_n d_D_count_66 rfl rfl ?_
        refine w_gi d_D_count_67 f_D_144 W4 oi55_3 ?_
        exact w_iret d_D_count_70 rfl W4 (fun _ _ _ k => k) (W4.rf _ _)
      ·
        refine w_both (fun c8 => ?_) (fun c8 => ?_)
        · refine w_val c8 ?_
          refine w_step (fun _ _ k => e_tableIn (off := 63) (tgt := 71) d_D_count_8 (by decide) (by decide) (by decide) (by decide) k) ?_
          refine w_iconst d_D_count_71 ?_
          refine w_istore_n [(3, iI 0), (2, iI 0), (0, mr 55), (1, iI x1)] d_D_count_72 rfl (by decide) rfl ?_
          refine w_sq (G1 := rng) (J := 107) (lvJ := fun x => [(2, iI x)]) (stJ := fun x => []) (w_sub (m_sc2 rfl (m_sc2 rfl (m_sc2 rfl (m_sn _)))) (w_D_count_73 hF hL fu 0 0 _ _ W4 (show rng 0 by decide) (show rng 0 by decide))) (fun z9 σ10 h11 W12 q13 => ?_)
          show Ew _ _ _ _ _ _ _ _ 107 [(2, iI z9)] [] _ _ _
          refine w_iload_n d_D_count_107 rfl rfl ?_
          exact w_iret d_D_count_108 rfl W12 (fun _ _ _ k => k) q13
        ·
          refine w_both (fun c14 => ?_) (fun c14 => ?_)
          · refine w_val c14 ?_
            refine w_step (fun _ _ k => e_tableIn (off := 101) (tgt := 109) d_D_count_8 (by decide) (by decide) (by decide) (by decide) k) ?_
            refine w_aload_n d_D_count_109 rfl rfl ?_
            refine w_gi d_D_count_110 f_D_224 W4 oi55_36 ?_
            exact w_iret d_D_count_113 rfl W4 (fun _ _ _ k => k) (W4.rf _ _)
          ·
            refine w_both (fun c15 => ?_) (fun c15 => ?_)
            · refine w_val c15 ?_
              refine w_step (fun _ _ k => e_tableIn (off := 106) (tgt := 114) d_D_count_8 (by decide) (by decide) (by decide) (by decide) k) ?_
              refine w_aload_n d_D_count_114 rfl rfl ?_
              refine w_gi d_D_count_115 f_D_221 W4 oi55_37 ?_
              exact w_iret d_D_count_118 rfl W4 (fun _ _ _ k => k) (W4.rf _ _)
            ·
              refine w_both (fun c16 => ?_) (fun c16 => ?_)
              · refine w_val c16 ?_
                refine w_step (fun _ _ k => e_tableIn (off := 111) (tgt := 119) d_D_count_8 (by decide) (by decide) (by decide) (by decide) k) ?_
                refine w_aload_n d_D_count_119 rfl rfl ?_
                refine w_gi d_D_count_120 f_D_215 W4 oi55_38 ?_
                exact w_iret d_D_count_123 rfl W4 (fun _ _ _ k => k) (W4.rf _ _)
              ·
                refine w_both (fun c17 => ?_) (fun c17 => ?_)
                · refine w_val c17 ?_
                  refine w_step (fun _ _ k => e_tableIn (off := 116) (tgt := 124) d_D_count_8 (by decide) (by decide) (by decide) (by decide) k) ?_
                  refine w_aload_n d_D_count_124 rfl rfl ?_
                  refine w_gi d_D_count_125 f_D_218 W4 oi55_39 ?_
                  exact w_iret d_D_count_128 rfl W4 (fun _ _ _ k => k) (W4.rf _ _)
                ·
                  refine w_step (fun _ _ k => e_tableOut (tgt := 129) d_D_count_8 (by rw [iv_toInt r1]; omega) (by decide) k) ?_
                  refine w_iconst d_D_count_129 ?_
                  exact w_iret d_D_count_130 rfl W4 (fun _ _ _ k => k) (show rng (-1) by decide)
