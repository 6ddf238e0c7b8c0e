def l_D_unify_13 (fu : Nat) : Nat → Int → Int → Int → SS → Option ((Unit) × SS)
  | 0, _, _, _, _ => none
  | n + 1, x1, x2, x3, σ => if x3 < 324 then (ck (inb 324 x3) (ck ((σ.2.1 61 x3) = 0 ∨ (σ.2.1 61 x3) = 1) (ck (inb 324 x3) (lb (sA σ 62 x3 (σ.2.1 61 x3)) fun σ5 => ck (rng (x3 + 1)) (l_D_unify_13 fu n x1 x2 (x3 + 1) σ5))))) else (some ((), σ))
def l_D_unify_99 (fu : Nat) : Nat → Int → Int → SS → Option ((Int) × SS)
  | 0, _, _, _ => none
  | n + 1, x3, x4, σ => if 0 < (σ.1 55 31) then (if x4 = 0 then (sq (f_D_step fu σ) fun (a3 : Int) σ4 => l_D_unify_99 fu n x3 a3 σ4) else (some (x4, σ))) else (some (x4, σ))
def l_D_unify_128 (fu : Nat) : Nat → Int → Int → Int → SS → Option ((Unit) × SS)
  | 0, _, _, _, _ => none
  | n + 1, x3, x4, x5, σ => if x5 < 324 then (ck (inb 324 x5) (ck ((σ.2.1 62 x5) = 0 ∨ (σ.2.1 62 x5) = 1) (ck (inb 324 x5) (lb (sA σ 61 x5 (σ.2.1 62 x5)) fun σ5 => ck (rng (x5 + 1)) (l_D_unify_128 fu n x3 x4 (x5 + 1) σ5))))) else (some ((), σ))
def f_D_unify (fu : Nat) (x1 : Int) (x2 : Int) (σ : SS) : Option (Int × SS) := sq (f_D_refuses x1 x2 σ) fun (a1 : Int) σ2 => if a1 = 0 then (sq (l_D_unify_13 fu fu x1 x2 0 σ2) fun (z7 : Unit) σ8 => lb (σ8.1 55 3) fun y12 => sq (f_D_slot fu 71 x1 σ8) fun (a14 : Int) σ15 => lb (sF σ15 55 29 a14) fun σ20 => sq (f_D_slot fu 72 x2 σ20) fun (a23 : Int) σ24 => lb (sF σ24 55 30 a23) fun σ29 => lb (sF σ29 55 31 0) fun σ33 => sq (f_D_equation fu 0 (σ33.1 55 29) 0 (σ33.1 55 30) σ33) fun (a36 : Unit) σ37 => sq (l_D_unify_99 fu fu y12 0 σ37) fun (z41 : Int) σ42 => sq (if 0 < z41 then (sq (l_D_unify_128 fu fu y12 z41 0 σ42) fun (z47 : Unit) σ48 => lb (sF σ48 55 3 y12) fun σ53 => some ((), σ53)) else (some ((), σ42))) fun (z56 : Unit) σ57 => sq (if z41 = 0 then (ck (rng ((σ57.1 55 38) + 1)) (some (((σ57.1 55 38) + 1), σ57))) else (some ((σ57.1 55 38), σ57))) fun (z63 : Int) σ64 => lb (sF σ64 55 38 z63) fun σ69 => if z41 = 0 then (lb (sF σ69 55 39 (σ69.1 55 39)) fun σ74 => some (z41, σ74)) else (ck (rng ((σ69.1 55 39) + 1)) (lb (sF σ69 55 39 ((σ69.1 55 39) + 1)) fun σ79 => some (z41, σ79)))) else (some (0, σ2))
theorem w_D_unify_13 {g : MG} {d w fu : Nat} {Q : MO → List MC → Prop} (hF : 7 ≤ d) (hL : 178 ≤ w) : ∀ (n : Nat) (x1 : Int) (x2 : Int) (x3 : Int) (σ : SS) (h : List MC), Wd h σ → rng x1 → rng x2 → rng x3 → Ew g none M_D_unify d w Q gU (cJ g none M_D_unify d w Q 38 (fun x => [(0, mr 55), (1, iI x1), (2, iI x2)]) (fun x => [])) 13 [(0, mr 55), (1, iI x1), (2, iI x2), (3, iI x3)] [] h σ (l_D_unify_13 fu n x1 x2 x3 σ) := by
  intro n
  induction n with
  | zero =>
    intro x1 x2 x3 σ h hW r1 r2 r3 a9 σ9 hm
    rw [l_D_unify_13] at hm
    cases hm
  | succ n ih =>
    intro x1 x2 x3 σ h hW r1 r2 r3
    rw [l_D_unify_13]
    refine w_iload_n d_D_unify_13 rfl rfl ?_
    refine w_sipush d_D_unify_14 (by decide) ?_
    refine w_icmp_ge 38 d_D_unify_17 (by decide) r3 (show rng 324 by decide) (fun c1 => ?_) (fun c1 => ?_)
    · refine w_aload_n d_D_unify_20 rfl rfl ?_
      refine w_gr d_D_unify_21 f_D_30 hW or55_10 ?_
      refine w_iload_n d_D_unify_24 rfl rfl ?_
      refine w_aload_n d_D_unify_25 rfl rfl ?_
      refine w_gr d_D_unify_26 f_D_26 hW or55_9 ?_
      refine w_iload_n d_D_unify_29 rfl rfl ?_
      refine w_bld d_D_unify_30 hW za61 (fun c2 => ?_)
      refine w_ck (fun b8 => ?_)
      refine w_bst d_D_unify_31 hW za62 b8 (fun c3 h4 σ5 e6 W7 => ?_)
      refine w_iinc [(3, iI (x3 + 1)), (0, mr 55), (1, iI x1), (2, iI x2)] d_D_unify_32 rfl (by decide) rfl (fun c9 => ?_)
      refine w_goto 13 d_D_unify_35 (by decide) ?_
      exact w_sub (m_sc2 rfl (m_sc2 rfl (m_sc2 rfl (m_sc2 rfl (m_sn _))))) (ih x1 x2 (x3 + 1) _ _ W7 r1 r2 c9)
    · exact w_exit [(0, mr 55), (1, iI x1), (2, iI x2)] (m_sc2 rfl (m_sc2 rfl (m_sc2 rfl (m_sn _)))) hW (fun _ _ _ k => k) True.intro
theorem w_D_unify_99 {g : MG} {d w fu : Nat} {Q : MO → List MC → Prop} (hF : 7 ≤ d) (hL : 178 ≤ w) : ∀ (n : Nat) (x3 : Int) (x4 : Int) (σ : SS) (h : List MC), Wd h σ → rng x3 → rng x4 → Ew g none M_D_unify d w Q rng (cJ g none M_D_unify d w Q 120 (fun x => [(0, mr 55), (3, iI x3), (4, iI x)]) (fun x => [])) 99 [(0, mr 55), (3, iI x3), (4, iI x4)] [] h σ (l_D_unify_99 fu n x3 x4 σ) := by
  intro n
  induction n with
  | zero =>
    intro x3 x4 σ h hW r3 r4 a9 σ9 hm
    rw [l_D_unify_99] at hm
    cases hm
  | succ n ih =>
    intro x3 x4 σ h hW r3 r4
    rw [l_D_unify_99]
    refine w_aload_n d_D_unify_99 rfl rfl ?_
    refine w_gi d_D_unify_100 f_D_151 hW oi55_31 ?_
    refine w_if_le 120 d_D_unify_103 (by decide) (hW.rf _ _) (fun c1 => ?_) (fun c1 => ?_)
    · refine w_iload d_D_unify_106 rfl ?_
      refine w_if_ne 120 d_D_unify_108 (by decide) r4 (fun c2 => ?_) (fun c2 => ?_)
      · refine w_aload_n d_D_unify_111 rfl rfl ?_
        refine w_cVI [] [] d_D_unify_112 me_D_step l_D_212 hW (c_D_step hW ) rfl rfl (Nat.le_of_ble_eq_true rfl) rfl (Nat.le_of_ble_eq_true rfl) (Nat.le_trans (Nat.le_of_ble_eq_true rfl) hF) (Nat.le_trans (Nat.le_of_ble_eq_true rfl) hL) ob55 ⟨_, _, rfl⟩ (fun a3 σ4 h5 W6 q7 => ?_)
        refine w_istore [(4, iI a3), (0, mr 55), (3, iI x3)] d_D_unify_115 (by decide) rfl ?_
        refine w_goto 99 d_D_unify_117 (by decide) ?_
        exact w_sub (m_sc2 rfl (m_sc2 rfl (m_sc2 rfl (m_sn _)))) (ih x3 a3 _ _ W6 r3 q7)
      · exact w_exit [(0, mr 55), (3, iI x3), (4, iI x4)] (m_sc2 rfl (m_sc2 rfl (m_sc2 rfl (m_sn _)))) hW (fun _ _ _ k => k) r4
    · exact w_exit [(0, mr 55), (3, iI x3), (4, iI x4)] (m_sc2 rfl (m_sc2 rfl (m_sc2 rfl (m_sn _)))) hW (fun _ _ _ k => k) r4
theorem w_D_unify_128 {g : MG} {d w fu : Nat} {Q : MO → List MC → Prop} (hF : 7 ≤ d) (hL : 178 ≤ w) : ∀ (n : Nat) (x3 : Int) (x4 : Int) (x5 : Int) (σ : SS) (h : List MC), Wd h σ → rng x3 → rng x4 → rng x5 → Ew g none M_D_unify d w Q gU (cJ g none M_D_unify d w Q 156 (fun x => [(0, mr 55), (3, iI x3), (4, iI x4)]) (fun x => [])) 128 [(0, mr 55), (3, iI x3), (4, iI x4), (5, iI x5)] [] h σ (l_D_unify_128 fu n x3 x4 x5 σ) := by
  intro n
  induction n with
  | zero =>
    intro x3 x4 x5 σ h hW r3 r4 r5 a9 σ9 hm
    rw [l_D_unify_128] at hm
    cases hm
  | succ n ih =>
    intro x3 x4 x5 σ h hW r3 r4 r5
    rw [l_D_unify_128]
    refine w_iload d_D_unify_128 rfl ?_
    refine w_sipush d_D_unify_130 (by decide) ?_
    refine w_icmp_ge 156 d_D_unify_133 (by decide) r5 (show rng 324 by decide) (fun c1 => ?_) (fun c1 => ?_)
    · refine w_aload_n d_D_unify_136 rfl rfl ?_
      refine w_gr d_D_unify_137 f_D_26 hW or55_9 ?_
      refine w_iload d_D_unify_140 rfl ?_
      refine w_aload_n d_D_unify_142 rfl rfl ?_
      refine w_gr d_D_unify_143 f_D_30 hW or55_10 ?_
      refine w_iload d_D_unify_146 rfl ?_
      refine w_bld d_D_unify_148 hW za62 (fun c2 => ?_)
      refine w_ck (fun b8 => ?_)
      refine w_bst d_D_unify_149 hW za61 b8 (fun c3 h4 σ5 e6 W7 => ?_)
      refine w_iinc [(5, iI (x5 + 1)), (0, mr 55), (3, iI x3), (4, iI x4)] d_D_unify_150 rfl (by decide) rfl (fun c9 => ?_)
      refine w_goto 128 d_D_unify_153 (by decide) ?_
      exact w_sub (m_sc2 rfl (m_sc2 rfl (m_sc2 rfl (m_sc2 rfl (m_sn _))))) (ih x3 x4 (x5 + 1) _ _ W7 r3 r4 c9)
    · exact w_exit [(0, mr 55), (3, iI x3), (4, iI x4)] (m_sc2 rfl (m_sc2 rfl (m_sc2 rfl (m_sn _)))) hW (fun _ _ _ k => k) True.intro
theorem c_D_unify {g : MG} {fu : Nat} {h : List MC} {σ : SS} {x1 : Int} {x2 : Int} (hW : Wd h σ) (r1 : rng x1) (r2 : rng x2) : Cw g M_D_unify 7 178 [mr 55, iI x1, iI x2] rng cI1 h σ (f_D_unify fu x1 x2 σ) := by
  refine w_of (fun d w Q hF hL => ?_)
  unfold f_D_unify
  show Ew g none M_D_unify d w Q rng (cI1 Q) 0 [(0, mr 55), (1, iI x1), (2, iI x2)] [] h σ _
  refine w_aload_n d_D_unify_0 rfl rfl ?_
  refine w_iload_n d_D_unify_1 rfl rfl ?_
  refine w_iload_n d_D_unify_2 rfl rfl ?_
  refine w_cVI [iI x1, iI x2] [] d_D_unify_3 me_D_refuses l_D_205 hW (c_D_refuses hW r1 r2) rfl rfl (Nat.le_of_ble_eq_true rfl) rfl (Nat.le_of_ble_eq_true rfl) (Nat.le_trans (Nat.le_of_ble_eq_true rfl) hF) (Nat.le_trans (Nat.le_of_ble_eq_true rfl) hL) ob55 ⟨_, _, rfl⟩ (fun a1 σ2 h3 W4 q5 => ?_)
  refine w_if_eq 11 d_D_unify_6 (by decide) q5 (fun c6 => ?_) (fun c6 => ?_)
  · refine w_iconst d_D_unify_11 ?_
    refine w_istore_n [(3, iI 0), (0, mr 55), (1, iI x1), (2, iI x2)] d_D_unify_12 rfl (by decide) rfl ?_
    refine w_sq (G1 := gU) (J := 38) (lvJ := fun x => [(0, mr 55), (1, iI x1), (2, iI x2)]) (stJ := fun x => []) (w_sub (m_sc2 rfl (m_sc2 rfl (m_sc2 rfl (m_sc2 rfl (m_sn _))))) (w_D_unify_13 hF hL fu x1 x2 0 _ _ W4 r1 r2 (show rng 0 by decide))) (fun z7 σ8 h9 W10 q11 => ?_)
    show Ew _ _ _ _ _ _ _ _ 38 [(0, mr 55), (1, iI x1), (2, iI x2)] [] _ _ _
    refine w_aload_n d_D_unify_38 rfl rfl ?_
    refine w_gi d_D_unify_39 f_D_144 W10 oi55_3 ?_
    refine w_top (fun y12 e13 => ?_)
    have ry12 : rng y12 := e13 ▸ (W10.rf _ _)
    refine w_istore_n [(3, iI y12), (0, mr 55), (1, iI x1), (2, iI x2)] d_D_unify_42 rfl (by decide) rfl ?_
    refine w_aload_n d_D_unify_43 rfl rfl ?_
    refine w_aload_n d_D_unify_44 rfl rfl ?_
    refine w_aload_n d_D_unify_45 rfl rfl ?_
    refine w_gr d_D_unify_46 f_D_57 W10 or55_19 ?_
    refine w_iload_n d_D_unify_49 rfl rfl ?_
    refine w_cVI [mr 71, iI x1] [mr 55] d_D_unify_50 me_D_slot l_D_209 W10 (c_D_slot W10 ia71 r1) rfl rfl (Nat.le_of_ble_eq_true rfl) rfl (Nat.le_of_ble_eq_true rfl) (Nat.le_trans (Nat.le_of_ble_eq_true rfl) hF) (Nat.le_trans (Nat.le_of_ble_eq_true rfl) hL) ob55 ⟨_, _, rfl⟩ (fun a14 σ15 h16 W17 q18 => ?_)
    refine w_pi d_D_unify_53 p_D_154 W17 oi55_29 (by decide) q18 (fun h19 σ20 e21 W22 => ?_)
    refine w_aload_n d_D_unify_56 rfl rfl ?_
    refine w_aload_n d_D_unify_57 rfl rfl ?_
    refine w_aload_n d_D_unify_58 rfl rfl ?_
    refine w_gr d_D_unify_59 f_D_60 W22 or55_20 ?_
    refine w_iload_n d_D_unify_62 rfl rfl ?_
    refine w_cVI [mr 72, iI x2] [mr 55] d_D_unify_63 me_D_slot l_D_209 W22 (c_D_slot W22 ia72 r2) rfl rfl (Nat.le_of_ble_eq_true rfl) rfl (Nat.le_of_ble_eq_true rfl) (Nat.le_trans (Nat.le_of_ble_eq_true rfl) hF) (Nat.le_trans (Nat.le_of_ble_eq_true rfl) hL) ob55 ⟨_, _, rfl⟩ (fun a23 σ24 h25 W26 q27 => ?_)
    refine w_pi d_D_unify_66 p_D_157 W26 oi55_30 (by decide) q27 (fun h28 σ29 e30 W31 => ?_)
    refine w_aload_n d_D_unify_69 rfl rfl ?_
    refine w_iconst d_D_unify_70 ?_
    refine w_pi d_D_unify_71 p_D_151 W31 oi55_31 (by decide) (show rng 0 by decide) (fun h32 σ33 e34 W35 => ?_)
    refine w_aload_n d_D_unify_74 rfl rfl ?_
    refine w_aload_n d_D_unify_75 rfl rfl ?_
    refine w_gr d_D_unify_76 f_D_57 W35 or55_19 ?_
    refine w_iconst d_D_unify_79 ?_
    refine w_aload_n d_D_unify_80 rfl rfl ?_
    refine w_gi d_D_unify_81 f_D_154 W35 oi55_29 ?_
    refine w_aload_n d_D_unify_84 rfl rfl ?_
    refine w_gr d_D_unify_85 f_D_60 W35 or55_20 ?_
    refine w_iconst d_D_unify_88 ?_
    refine w_aload_n d_D_unify_89 rfl rfl ?_
    refine w_gi d_D_unify_90 f_D_157 W35 oi55_30 ?_
    refine w_cVU [mr 71, iI 0, iI (σ33.1 55 29), mr 72, iI 0, iI (σ33.1 55 30)] [] d_D_unify_93 me_D_equation l_D_177 W35 (c_D_equation W35 (show rng 0 by decide) (W35.rf _ _) (show rng 0 by decide) (W35.rf _ _)) rfl rfl (Nat.le_of_ble_eq_true rfl) rfl (Nat.le_of_ble_eq_true rfl) (Nat.le_trans (Nat.le_of_ble_eq_true rfl) hF) (Nat.le_trans (Nat.le_of_ble_eq_true rfl) hL) ob55 ⟨_, _, rfl⟩ (fun a36 σ37 h38 W39 q40 => ?_)
    refine w_iconst d_D_unify_96 ?_
    refine w_istore [(4, iI 0), (3, iI y12), (0, mr 55), (1, iI x1), (2, iI x2)] d_D_unify_97 (by decide) rfl ?_
    refine w_sq (G1 := rng) (J := 120) (lvJ := fun x => [(0, mr 55), (3, iI y12), (4, iI x)]) (stJ := fun x => []) (w_sub (m_sc2 rfl (m_sc2 rfl (m_sc2 rfl (m_sn _)))) (w_D_unify_99 hF hL fu y12 0 _ _ W39 ry12 (show rng 0 by decide))) (fun z41 σ42 h43 W44 q45 => ?_)
    show Ew _ _ _ _ _ _ _ _ 120 [(0, mr 55), (3, iI y12), (4, iI z41)] [] _ _ _
    refine w_iload d_D_unify_120 rfl ?_
    refine w_sq (G1 := gU) (J := 161) (lvJ := fun x => [(0, mr 55), (4, iI z41)]) (stJ := fun x => []) ?_ (fun z56 σ57 h58 W59 q60 => ?_)
    · refine w_if_le 161 d_D_unify_122 (by decide) q45 (fun c46 => ?_) (fun c46 => ?_)
      · refine w_iconst d_D_unify_125 ?_
        refine w_istore [(5, iI 0), (0, mr 55), (3, iI y12), (4, iI z41)] d_D_unify_126 (by decide) rfl ?_
        refine w_sq (G1 := gU) (J := 156) (lvJ := fun x => [(0, mr 55), (3, iI y12), (4, iI z41)]) (stJ := fun x => []) (w_sub (m_sc2 rfl (m_sc2 rfl (m_sc2 rfl (m_sc2 rfl (m_sn _))))) (w_D_unify_128 hF hL fu y12 z41 0 _ _ W44 ry12 q45 (show rng 0 by decide))) (fun z47 σ48 h49 W50 q51 => ?_)
        show Ew _ _ _ _ _ _ _ _ 156 [(0, mr 55), (3, iI y12), (4, iI z41)] [] _ _ _
        refine w_aload_n d_D_unify_156 rfl rfl ?_
        refine w_iload_n d_D_unify_157 rfl rfl ?_
        refine w_pi d_D_unify_158 p_D_144 W50 oi55_3 (by decide) ry12 (fun h52 σ53 e54 W55 => ?_)
        exact w_exit [(0, mr 55), (4, iI z41)] (m_sc2 rfl (m_sc2 rfl (m_sn _))) W55 (fun _ _ _ k => k) True.intro
      · exact w_exit [(0, mr 55), (4, iI z41)] (m_sc2 rfl (m_sc2 rfl (m_sn _))) W44 (fun _ _ _ k => k) True.intro
    · show Ew _ _ _ _ _ _ _ _ 161 [(0, mr 55), (4, iI z41)] [] _ _ _
      refine w_aload_n d_D_unify_161 rfl rfl ?_
      refine w_iload d_D_unify_162 rfl ?_
      refine w_sq (G1 := rng) (J := 180) (lvJ := fun x => [(0, mr 55), (4, iI z41)]) (stJ := fun x => [iI x, mr 55]) ?_ (fun z63 σ64 h65 W66 q67 => ?_)
      · refine w_if_ne 176 d_D_unify_164 (by decide) q45 (fun c61 => ?_) (fun c61 => ?_)
        · refine w_aload_n d_D_unify_167 rfl rfl ?_
          refine w_gi d_D_unify_168 f_D_215 W59 oi55_38 ?_
          refine w_iconst d_D_unify_171 ?_
          refine w_iadd d_D_unify_172 (fun c62 => ?_)
          refine w_goto 180 d_D_unify_173 (by decide) ?_
          exact w_exit [(0, mr 55), (4, iI z41)] (m_sc2 rfl (m_sc2 rfl (m_sn _))) W59 (fun _ _ _ k => k) c62
        · refine w_aload_n d_D_unify_176 rfl rfl ?_
          refine w_gi d_D_unify_177 f_D_215 W59 oi55_38 ?_
          exact w_exit [(0, mr 55), (4, iI z41)] (m_sc2 rfl (m_sc2 rfl (m_sn _))) W59 (fun _ _ _ k => k) (W59.rf _ _)
      · show Ew _ _ _ _ _ _ _ _ 180 [(0, mr 55), (4, iI z41)] [iI z63, mr 55] _ _ _
        refine w_pi d_D_unify_180 p_D_215 W66 oi55_38 (by decide) q67 (fun h68 σ69 e70 W71 => ?_)
        refine w_aload_n d_D_unify_183 rfl rfl ?_
        refine w_iload d_D_unify_184 rfl ?_
        refine w_if_ne 196 d_D_unify_186 (by decide) q45 (fun c72 => ?_) (fun c72 => ?_)
        · refine w_aload_n d_D_unify_189 rfl rfl ?_
          refine w_gi d_D_unify_190 f_D_218 W71 oi55_39 ?_
          refine w_goto 202 d_D_unify_193 (by decide) ?_
          refine w_pi d_D_unify_202 p_D_218 W71 oi55_39 (by decide) (W71.rf _ _) (fun h73 σ74 e75 W76 => ?_)
          refine w_iload d_D_unify_205 rfl ?_
          exact w_iret d_D_unify_207 rfl W76 (fun _ _ _ k => k) q45
        · refine w_aload_n d_D_unify_196 rfl rfl ?_
          refine w_gi d_D_unify_197 f_D_218 W71 oi55_39 ?_
          refine w_iconst d_D_unify_200 ?_
          refine w_iadd d_D_unify_201 (fun c77 => ?_)
          refine w_pi d_D_unify_202 p_D_218 W71 oi55_39 (by decide) c77 (fun h78 σ79 e80 W81 => ?_)
          refine w_iload d_D_unify_205 rfl ?_
          exact w_iret d_D_unify_207 rfl W81 (fun _ _ _ k => k) q45
  · refine w_iconst d_D_unify_9 ?_
    exact w_iret d_D_unify_10 rfl W4 (fun _ _ _ k => k) (show rng 0 by decide)
def l_D_rank_20 (fu : Nat) : Nat → Int → Int → Int → Int → Int → SS → Option ((Int) × SS)
  | 0, _, _, _, _, _, _ => none
  | n + 1, x1, x3, x4, x5, x6, σ => ck (inb 324 x1) (if x6 < (σ.2.1 58 x1) then (ck (rng (x3 + x6)) (ck (inb 16384 (x3 + x6)) (ck (rng (x3 + x4)) (ck (inb 16384 (x3 + x4)) (sq (if (σ.2.1 71 (x3 + x6)) < (σ.2.1 71 (x3 + x4)) then (some (1, σ)) else (some (0, σ))) fun (z8 : Int) σ9 => ck (rng (x5 + z8)) (lb (x5 + z8) fun y14 => ck (rng (x6 + 1)) (l_D_rank_20 fu n x1 x3 x4 y14 (x6 + 1) σ9))))))) else (some (x5, σ)))
def l_D_rank_3 (fu : Nat) : Nat → Int → Int → Int → SS → Option ((Unit) × SS)
  | 0, _, _, _, _ => none
  | n + 1, x1, x3, x4, σ => ck (inb 324 x1) (if x4 < (σ.2.1 58 x1) then (sq (l_D_rank_20 fu fu x1 x3 x4 0 0 σ) fun (z3 : Int) σ4 => ck (rng (4 * x1)) (ck (rng ((4 * x1) + z3)) (ck (inb 1296 ((4 * x1) + z3)) (lb (sA σ4 84 ((4 * x1) + z3) x4) fun σ12 => ck (rng (x4 + 1)) (l_D_rank_3 fu n x1 x3 (x4 + 1) σ12))))) else (some ((), σ)))
def f_D_rank (fu : Nat) (x1 : Int) (x3 : Int) (σ : SS) : Option (Unit × SS) := sq (l_D_rank_3 fu fu x1 x3 0 σ) fun (z1 : Unit) σ2 => some ((), σ2)
theorem w_D_rank_20 {g : MG} {d w fu : Nat} {Q : MO → List MC → Prop} (hF : 0 ≤ d) (hL : 0 ≤ w) : ∀ (n : Nat) (x1 : Int) (x3 : Int) (x4 : Int) (x5 : Int) (x6 : Int) (σ : SS) (h : List MC), Wd h σ → rng x1 → rng x3 → rng x4 → rng x5 → rng x6 → Ew g none M_D_rank d w Q rng (cJ g none M_D_rank d w Q 62 (fun x => [(0, mr 55), (1, iI x1), (2, mr 71), (3, iI x3), (4, iI x4), (5, iI x)]) (fun x => [])) 20 [(0, mr 55), (1, iI x1), (2, mr 71), (3, iI x3), (4, iI x4), (5, iI x5), (6, iI x6)] [] h σ (l_D_rank_20 fu n x1 x3 x4 x5 x6 σ) := by
  intro n
  induction n with
  | zero =>
    intro x1 x3 x4 x5 x6 σ h hW r1 r3 r4 r5 r6 a9 σ9 hm
    rw [l_D_rank_20] at hm
    cases hm
  | succ n ih =>
    intro x1 x3 x4 x5 x6 σ h hW r1 r3 r4 r5 r6
    rw [l_D_rank_20]
    refine w_iload d_D_rank_20 rfl ?_
    refine w_aload_n d_D_rank_22 rfl rfl ?_
    refine w_gr d_D_rank_23 f_D_16 hW or55_6 ?_
    refine w_iload_n d_D_rank_26 rfl rfl ?_
    refine w_ald d_D_rank_27 hW ia58 (fun c1 => ?_)
    refine w_icmp_ge 62 d_D_rank_28 (by decide) r6 (hW.ra _ _) (fun c2 => ?_) (fun c2 => ?_)
    · refine w_iload d_D_rank_31 rfl ?_
      refine w_aload_n d_D_rank_33 rfl rfl ?_
      refine w_iload_n d_D_rank_34 rfl rfl ?_
      refine w_iload d_D_rank_35 rfl ?_
      refine w_iadd d_D_rank_37 (fun c3 => ?_)
      refine w_ald d_D_rank_38 hW ia71 (fun c4 => ?_)
      refine w_aload_n d_D_rank_39 rfl rfl ?_
      refine w_iload_n d_D_rank_40 rfl rfl ?_
      refine w_iload d_D_rank_41 rfl ?_
      refine w_iadd d_D_rank_43 (fun c5 => ?_)
      refine w_ald d_D_rank_44 hW ia71 (fun c6 => ?_)
      refine w_sq (G1 := rng) (J := 53) (lvJ := fun x => [(0, mr 55), (1, iI x1), (2, mr 71), (3, iI x3), (4, iI x4), (6, iI x6)]) (stJ := fun x => [iI x, iI x5]) ?_ (fun z8 σ9 h10 W11 q12 => ?_)
      · refine w_icmp_ge 52 d_D_rank_45 (by decide) (hW.ra _ _) (hW.ra _ _) (fun c7 => ?_) (fun c7 => ?_)
        · refine w_iconst d_D_rank_48 ?_
          refine w_goto 53 d_D_rank_49 (by decide) ?_
          exact w_exit [(0, mr 55), (1, iI x1), (2, mr 71), (3, iI x3), (4, iI x4), (6, iI x6)] (m_sc2 rfl (m_sc2 rfl (m_sc2 rfl (m_sc2 rfl (m_sc2 rfl (m_sc2 rfl (m_sn _))))))) hW (fun _ _ _ k => k) (show rng 1 by decide)
        · refine w_iconst d_D_rank_52 ?_
          exact w_exit [(0, mr 55), (1, iI x1), (2, mr 71), (3, iI x3), (4, iI x4), (6, iI x6)] (m_sc2 rfl (m_sc2 rfl (m_sc2 rfl (m_sc2 rfl (m_sc2 rfl (m_sc2 rfl (m_sn _))))))) hW (fun _ _ _ k => k) (show rng 0 by decide)
      · show Ew _ _ _ _ _ _ _ _ 53 [(0, mr 55), (1, iI x1), (2, mr 71), (3, iI x3), (4, iI x4), (6, iI x6)] [iI z8, iI x5] _ _ _
        refine w_iadd d_D_rank_53 (fun c13 => ?_)
        refine w_top (fun y14 e15 => ?_)
        have ry14 : rng y14 := e15 ▸ c13
        refine w_istore [(5, iI y14), (0, mr 55), (1, iI x1), (2, mr 71), (3, iI x3), (4, iI x4), (6, iI x6)] d_D_rank_54 (by decide) rfl ?_
        refine w_iinc [(6, iI (x6 + 1)), (5, iI y14), (0, mr 55), (1, iI x1), (2, mr 71), (3, iI x3), (4, iI x4)] d_D_rank_56 rfl (by decide) rfl (fun c16 => ?_)
        refine w_goto 20 d_D_rank_59 (by decide) ?_
        exact w_sub (m_sc2 rfl (m_sc2 rfl (m_sc2 rfl (m_sc2 rfl (m_sc2 rfl (m_sc2 rfl (m_sc2 rfl (m_sn _)))))))) (ih x1 x3 x4 y14 (x6 + 1) _ _ W11 r1 r3 r4 ry14 c16)
    · exact w_exit [(0, mr 55), (1, iI x1), (2, mr 71), (3, iI x3), (4, iI x4), (5, iI x5)] (m_sc2 rfl (m_sc2 rfl (m_sc2 rfl (m_sc2 rfl (m_sc2 rfl (m_sc2 rfl (m_sn _))))))) hW (fun _ _ _ k => k) r5
theorem w_D_rank_3 {g : MG} {d w fu : Nat} {Q : MO → List MC → Prop} (hF : 0 ≤ d) (hL : 0 ≤ w) : ∀ (n : Nat) (x1 : Int) (x3 : Int) (x4 : Int) (σ : SS) (h : List MC), Wd h σ → rng x1 → rng x3 → rng x4 → Ew g none M_D_rank d w Q gU (cJ g none M_D_rank d w Q 81 (fun x => []) (fun x => [])) 3 [(0, mr 55), (1, iI x1), (2, mr 71), (3, iI x3), (4, iI x4)] [] h σ (l_D_rank_3 fu n x1 x3 x4 σ) := by
  intro n
  induction n with
  | zero =>
    intro x1 x3 x4 σ h hW r1 r3 r4 a9 σ9 hm
    rw [l_D_rank_3] at hm
    cases hm
  | succ n ih =>
    intro x1 x3 x4 σ h hW r1 r3 r4
    rw [l_D_rank_3]
    refine w_iload d_D_rank_3 rfl ?_
    refine w_aload_n d_D_rank_5 rfl rfl ?_
    refine w_gr d_D_rank_6 f_D_16 hW or55_6 ?_
    refine w_iload_n d_D_rank_9 rfl rfl ?_
    refine w_ald d_D_rank_10 hW ia58 (fun c1 => ?_)
    refine w_icmp_ge 81 d_D_rank_11 (by decide) r4 (hW.ra _ _) (fun c2 => ?_) (fun c2 => ?_)
    · refine w_iconst d_D_rank_14 ?_
      refine w_istore [(5, iI 0), (0, mr 55), (1, iI x1), (2, mr 71), (3, iI x3), (4, iI x4)] d_D_rank_15 (by decide) rfl ?_
      refine w_iconst d_D_rank_17 ?_
      refine w_istore [(6, iI 0), (5, iI 0), (0, mr 55), (1, iI x1), (2, mr 71), (3, iI x3), (4, iI x4)] d_D_rank_18 (by decide) rfl ?_
      refine w_sq (G1 := rng) (J := 62) (lvJ := fun x => [(0, mr 55), (1, iI x1), (2, mr 71), (3, iI x3), (4, iI x4), (5, iI x)]) (stJ := fun x => []) (w_sub (m_sc2 rfl (m_sc2 rfl (m_sc2 rfl (m_sc2 rfl (m_sc2 rfl (m_sc2 rfl (m_sc2 rfl (m_sn _)))))))) (w_D_rank_20 hF hL fu x1 x3 x4 0 0 _ _ hW r1 r3 r4 (show rng 0 by decide) (show rng 0 by decide))) (fun z3 σ4 h5 W6 q7 => ?_)
      show Ew _ _ _ _ _ _ _ _ 62 [(0, mr 55), (1, iI x1), (2, mr 71), (3, iI x3), (4, iI x4), (5, iI z3)] [] _ _ _
      refine w_aload_n d_D_rank_62 rfl rfl ?_
      refine w_gr d_D_rank_63 f_D_97 W6 or55_35 ?_
      refine w_iconst d_D_rank_66 ?_
      refine w_iload_n d_D_rank_67 rfl rfl ?_
      refine w_imul d_D_rank_68 (fun c8 => ?_)
      refine w_iload d_D_rank_69 rfl ?_
      refine w_iadd d_D_rank_71 (fun c9 => ?_)
      refine w_iload d_D_rank_72 rfl ?_
      refine w_ast d_D_rank_74 W6 ia84 r4 (fun c10 h11 σ12 e13 W14 => ?_)
      refine w_iinc [(4, iI (x4 + 1)), (0, mr 55), (1, iI x1), (2, mr 71), (3, iI x3), (5, iI z3)] d_D_rank_75 rfl (by decide) rfl (fun c15 => ?_)
      refine w_goto 3 d_D_rank_78 (by decide) ?_
      exact w_sub (m_sc2 rfl (m_sc2 rfl (m_sc2 rfl (m_sc2 rfl (m_sc2 rfl (m_sn _)))))) (ih x1 x3 (x4 + 1) _ _ W14 r1 r3 c15)
    · exact w_exit [] (m_sn _) hW (fun _ _ _ k => k) True.intro
theorem c_D_rank {g : MG} {fu : Nat} {h : List MC} {σ : SS} {x1 : Int} {x3 : Int} (hW : Wd h σ) (r1 : rng x1) (r3 : rng x3) : Cw g M_D_rank 0 0 [mr 55, iI x1, mr 71, iI x3] gU cU1 h σ (f_D_rank fu x1 x3 σ) := by
  refine w_of (fun d w Q hF hL => ?_)
  unfold f_D_rank
  show Ew g none M_D_rank d w Q gU (cU1 Q) 0 [(0, mr 55), (1, iI x1), (2, mr 71), (3, iI x3)] [] h σ _
  refine w_iconst d_D_rank_0 ?_
  refine w_istore [(4, iI 0), (0, mr 55), (1, iI x1), (2, mr 71), (3, iI x3)] d_D_rank_1 (by decide) rfl ?_
  refine w_sq (G1 := gU) (J := 81) (lvJ := fun x => []) (stJ := fun x => []) (w_sub (m_sc2 rfl (m_sc2 rfl (m_sc2 rfl (m_sc2 rfl (m_sc2 rfl (m_sn _)))))) (w_D_rank_3 hF hL fu x1 x3 0 _ _ hW r1 r3 (show rng 0 by decide))) (fun z1 σ2 h3 W4 q5 => ?_)
  show Ew _ _ _ _ _ _ _ _ 81 [] [] _ _ _
  exact w_ret d_D_rank_81 rfl W4 (fun _ _ _ k => k) True.intro
def l_D_read_26 (fu : Nat) : Nat → Int → SS → Option ((Unit) × SS)
  | 0, _, _ => none
  | n + 1, x2, σ => if x2 < 324 then (ck (inb 324 x2) (lb (sA σ 83 x2 (-1)) fun σ4 => ck (rng (x2 + 1)) (l_D_read_26 fu n (x2 + 1) σ4))) else (some ((), σ))
def l_D_read_166 (fu : Nat) : Nat → Int → Int → Int → SS → Option ((Unit) × SS)
  | 0, _, _, _, _ => none
  | n + 1, x2, x3, x4, σ => ck (inb 324 x3) (if x4 < (σ.2.1 58 x3) then (ck (rng (x2 + 1)) (ck (rng ((x2 + 1) + x4)) (ck (rng (x2 + 1)) (ck (rng (4 * x3)) (ck (rng ((4 * x3) + x4)) (ck (inb 1296 ((4 * x3) + x4)) (ck (rng ((x2 + 1) + (σ.2.1 84 ((4 * x3) + x4)))) (ck (inb 16384 ((x2 + 1) + (σ.2.1 84 ((4 * x3) + x4)))) (ck (inb 16384 ((x2 + 1) + x4)) (lb (sA σ 82 ((x2 + 1) + x4) (σ.2.1 71 ((x2 + 1) + (σ.2.1 84 ((4 * x3) + x4))))) fun σ13 => ck (rng (x4 + 1)) (l_D_read_166 fu n x2 x3 (x4 + 1) σ13))))))))))) else (some ((), σ)))
def l_D_read_61 (fu : Nat) : Nat → Int → SS → Option ((Unit) × SS)
  | 0, _, _ => none
  | n + 1, x2, σ => if x2 < (σ.1 55 29) then (ck (inb 16384 x2) (ck (inb 16384 x2) (lb (sA σ 82 x2 (σ.2.1 71 x2)) fun σ5 => ck (inb 16384 x2) (lb ((σ5.2.1 71 x2) / 4) fun y9 => ck (inb 16384 x2) (sq (if ((σ5.2.1 71 x2) % 4) = 2 then (ck (inb 324 y9) (sq (if (σ5.2.1 83 y9) < 0 then (ck (inb 324 y9) (lb (sA σ5 83 y9 (σ5.1 55 37)) fun σ17 => ck (rng ((σ17.1 55 37) + 1)) (lb (sF σ17 55 37 ((σ17.1 55 37) + 1)) fun σ22 => ck (rng (x2 + 1)) (sq (f_D_rank fu y9 (x2 + 1) σ22) fun (a26 : Unit) σ27 => some ((), σ27))))) else (some ((), σ5))) fun (z31 : Unit) σ32 => ck (inb 324 y9) (ck (rng (4 * (σ32.2.1 83 y9))) (ck (rng ((4 * (σ32.2.1 83 y9)) + 2)) (ck (inb 16384 x2) (lb (sA σ32 82 x2 ((4 * (σ32.2.1 83 y9)) + 2)) fun σ41 => sq (l_D_read_166 fu fu x2 y9 0 σ41) fun (z44 : Unit) σ45 => ck (inb 324 y9) (ck (rng (x2 + (σ45.2.1 58 y9))) (lb (x2 + (σ45.2.1 58 y9)) fun y51 => some (y51, σ45))))))))) else (some (x2, σ5))) fun (z53 : Int) σ54 => ck (rng (z53 + 1)) (l_D_read_61 fu n (z53 + 1) σ54)))))) else (some ((), σ))
def f_D_read (fu : Nat) (x1 : Int) (σ : SS) : Option (Int × SS) := sq (f_D_refuses x1 x1 σ) fun (a1 : Int) σ2 => if a1 = 0 then (sq (f_D_slot fu 71 x1 σ2) fun (a7 : Int) σ8 => lb (sF σ8 55 29 a7) fun σ13 => sq (l_D_read_26 fu fu 0 σ13) fun (z16 : Unit) σ17 => lb (sF σ17 55 37 0) fun σ22 => lb (sF σ22 55 36 (σ22.1 55 29)) fun σ26 => sq (l_D_read_61 fu fu 0 σ26) fun (z29 : Unit) σ30 => some ((σ30.1 55 36), σ30)) else (some (0, σ2))
theorem w_D_read_26 {g : MG} {d w fu : Nat} {Q : MO → List MC → Prop} (hF : 5 ≤ d) (hL : 126 ≤ w) : ∀ (n : Nat) (x2 : Int) (σ : SS) (h : List MC), Wd h σ → rng x2 → Ew g none M_D_read d w Q gU (cJ g none M_D_read d w Q 46 (fun x => [(0, mr 55)]) (fun x => [])) 26 [(0, mr 55), (2, iI x2)] [] h σ (l_D_read_26 fu n x2 σ) := by
  intro n
  induction n with
  | zero =>
    intro x2 σ h hW r2 a9 σ9 hm
    rw [l_D_read_26] at hm
    cases hm
  | succ n ih =>
    intro x2 σ h hW r2
    rw [l_D_read_26]
    refine w_iload_n d_D_read_26 rfl rfl ?_
    refine w_sipush d_D_read_27 (by decide) ?_
    refine w_icmp_ge 46 d_D_read_30 (by decide) r2 (show rng 324 by decide) (fun c1 => ?_) (fun c1 => ?_)
    · refine w_aload_n d_D_read_33 rfl rfl ?_
      refine w_gr d_D_read_34 f_D_94 hW or55_34 ?_
      refine w_iload_n d_D_read_37 rfl rfl ?_
      refine w_iconst d_D_read_38 ?_
      refine w_ast d_D_read_39 hW ia83 (show rng (-1) by decide) (fun c2 h3 σ4 e5 W6 => ?_)
      refine w_iinc [(2, iI (x2 + 1)), (0, mr 55)] d_D_read_40 rfl (by decide) rfl (fun c7 => ?_)
      refine w_goto 26 d_D_read_43 (by decide) ?_
      exact w_sub (m_sc2 rfl (m_sc2 rfl (m_sn _))) (ih (x2 + 1) _ _ W6 c7)
    · exact w_exit [(0, mr 55)] (m_sc2 rfl (m_sn _)) hW (fun _ _ _ k => k) True.intro
theorem w_D_read_166 {g : MG} {d w fu : Nat} {Q : MO → List MC → Prop} (hF : 5 ≤ d) (hL : 126 ≤ w) : ∀ (n : Nat) (x2 : Int) (x3 : Int) (x4 : Int) (σ : SS) (h : List MC), Wd h σ → rng x2 → rng x3 → rng x4 → Ew g none M_D_read d w Q gU (cJ g none M_D_read d w Q 214 (fun x => [(0, mr 55), (2, iI x2), (3, iI x3)]) (fun x => [])) 166 [(0, mr 55), (2, iI x2), (3, iI x3), (4, iI x4)] [] h σ (l_D_read_166 fu n x2 x3 x4 σ) := by
  intro n
  induction n with
  | zero =>
    intro x2 x3 x4 σ h hW r2 r3 r4 a9 σ9 hm
    rw [l_D_read_166] at hm
    cases hm
  | succ n ih =>
    intro x2 x3 x4 σ h hW r2 r3 r4
    rw [l_D_read_166]
    refine w_iload d_D_read_166 rfl ?_
    refine w_aload_n d_D_read_168 rfl rfl ?_
    refine w_gr d_D_read_169 f_D_16 hW or55_6 ?_
    refine w_iload_n d_D_read_172 rfl rfl ?_
    refine w_ald d_D_read_173 hW ia58 (fun c1 => ?_)
    refine w_icmp_ge 214 d_D_read_174 (by decide) r4 (hW.ra _ _) (fun c2 => ?_) (fun c2 => ?_)
    · refine w_aload_n d_D_read_177 rfl rfl ?_
      refine w_gr d_D_read_178 f_D_91 hW or55_33 ?_
      refine w_iload_n d_D_read_181 rfl rfl ?_
      refine w_iconst d_D_read_182 ?_
      refine w_iadd d_D_read_183 (fun c3 => ?_)
      refine w_iload d_D_read_184 rfl ?_
      refine w_iadd d_D_read_186 (fun c4 => ?_)
      refine w_aload_n d_D_read_187 rfl rfl ?_
      refine w_gr d_D_read_188 f_D_57 hW or55_19 ?_
      refine w_iload_n d_D_read_191 rfl rfl ?_
      refine w_iconst d_D_read_192 ?_
      refine w_iadd d_D_read_193 (fun c5 => ?_)
      refine w_aload_n d_D_read_194 rfl rfl ?_
      refine w_gr d_D_read_195 f_D_97 hW or55_35 ?_
      refine w_iconst d_D_read_198 ?_
      refine w_iload_n d_D_read_199 rfl rfl ?_
      refine w_imul d_D_read_200 (fun c6 => ?_)
      refine w_iload d_D_read_201 rfl ?_
      refine w_iadd d_D_read_203 (fun c7 => ?_)
      refine w_ald d_D_read_204 hW ia84 (fun c8 => ?_)
      refine w_iadd d_D_read_205 (fun c9 => ?_)
      refine w_ald d_D_read_206 hW ia71 (fun c10 => ?_)
      refine w_ast d_D_read_207 hW ia82 (hW.ra _ _) (fun c11 h12 σ13 e14 W15 => ?_)
      refine w_iinc [(4, iI (x4 + 1)), (0, mr 55), (2, iI x2), (3, iI x3)] d_D_read_208 rfl (by decide) rfl (fun c16 => ?_)
      refine w_goto 166 d_D_read_211 (by decide) ?_
      exact w_sub (m_sc2 rfl (m_sc2 rfl (m_sc2 rfl (m_sc2 rfl (m_sn _))))) (ih x2 x3 (x4 + 1) _ _ W15 r2 r3 c16)
    · exact w_exit [(0, mr 55), (2, iI x2), (3, iI x3)] (m_sc2 rfl (m_sc2 rfl (m_sc2 rfl (m_sn _)))) hW (fun _ _ _ k => k) True.intro
theorem w_D_read_61 {g : MG} {d w fu : Nat} {Q : MO → List MC → Prop} (hF : 5 ≤ d) (hL : 126 ≤ w) : ∀ (n : Nat) (x2 : Int) (σ : SS) (h : List MC), Wd h σ → rng x2 → Ew g none M_D_read d w Q gU (cJ g none M_D_read d w Q 229 (fun x => [(0, mr 55)]) (fun x => [])) 61 [(0, mr 55), (2, iI x2)] [] h σ (l_D_read_61 fu n x2 σ) := by
  intro n
  induction n with
  | zero =>
    intro x2 σ h hW r2 a9 σ9 hm
    rw [l_D_read_61] at hm
    cases hm
  | succ n ih =>
    intro x2 σ h hW r2
    rw [l_D_read_61]
    refine w_iload_n d_D_read_61 rfl rfl ?_
    refine w_aload_n d_D_read_62 rfl rfl ?_
    refine w_gi d_D_read_63 f_D_154 hW oi55_29 ?_
    refine w_icmp_ge 229 d_D_read_66 (by decide) r2 (hW.rf _ _) (fun c1 => ?_) (fun c1 => ?_)
    · refine w_aload_n d_D_read_69 rfl rfl ?_
      refine w_gr d_D_read_70 f_D_91 hW or55_33 ?_
      refine w_iload_n d_D_read_73 rfl rfl ?_
      refine w_aload_n d_D_read_74 rfl rfl ?_
      refine w_gr d_D_read_75 f_D_57 hW or55_19 ?_
      refine w_iload_n d_D_read_78 rfl rfl ?_
      refine w_ald d_D_read_79 hW ia71 (fun c2 => ?_)
      refine w_ast d_D_read_80 hW ia82 (hW.ra _ _) (fun c3 h4 σ5 e6 W7 => ?_)
      refine w_aload_n d_D_read_81 rfl rfl ?_
      refine w_gr d_D_read_82 f_D_57 W7 or55_19 ?_
      refine w_iload_n d_D_read_85 rfl rfl ?_
      refine w_ald d_D_read_86 W7 ia71 (fun c8 => ?_)
      refine w_iconst d_D_read_87 ?_
      refine w_shr2 d_D_read_88 (W7.ra _ _) ?_
      refine w_top (fun y9 e10 => ?_)
      have ry9 : rng y9 := e10 ▸ (rng4 (W7.ra _ _))
      refine w_istore_n [(3, iI y9), (0, mr 55), (2, iI x2)] d_D_read_89 rfl (by decide) rfl ?_
      refine w_aload_n d_D_read_90 rfl rfl ?_
      refine w_gr d_D_read_91 f_D_57 W7 or55_19 ?_
      refine w_iload_n d_D_read_94 rfl rfl ?_
      refine w_ald d_D_read_95 W7 ia71 (fun c11 => ?_)
      refine w_D_sort d_D_read_96 l_D_129 (Nat.le_of_ble_eq_true rfl) (Nat.le_trans (Nat.le_of_ble_eq_true rfl) hF) (Nat.le_trans (Nat.le_of_ble_eq_true rfl) hL) ?_
      refine w_iconst d_D_read_99 ?_
      refine w_sq (G1 := rng) (J := 223) (lvJ := fun x => [(0, mr 55), (2, iI x)]) (stJ := fun x => []) ?_ (fun z53 σ54 h55 W56 q57 => ?_)
      · refine w_icmp_eq 106 d_D_read_100 (by decide) (rngm _) (show rng 2 by decide) (fun c12 => ?_) (fun c12 => ?_)
        · refine w_aload_n d_D_read_106 rfl rfl ?_
          refine w_gr d_D_read_107 f_D_94 W7 or55_34 ?_
          refine w_iload_n d_D_read_110 rfl rfl ?_
          refine w_ald d_D_read_111 W7 ia83 (fun c13 => ?_)
          refine w_sq (G1 := gU) (J := 147) (lvJ := fun x => [(0, mr 55), (2, iI x2), (3, iI y9)]) (stJ := fun x => []) ?_ (fun z31 σ32 h33 W34 q35 => ?_)
          · refine w_if_ge 147 d_D_read_112 (by decide) (W7.ra _ _) (fun c14 => ?_) (fun c14 => ?_)
            · refine w_aload_n d_D_read_115 rfl rfl ?_
              refine w_gr d_D_read_116 f_D_94 W7 or55_34 ?_
              refine w_iload_n d_D_read_119 rfl rfl ?_
              refine w_aload_n d_D_read_120 rfl rfl ?_
              refine w_gi d_D_read_121 f_D_221 W7 oi55_37 ?_
              refine w_ast d_D_read_124 W7 ia83 (W7.rf _ _) (fun c15 h16 σ17 e18 W19 => ?_)
              refine w_aload_n d_D_read_125 rfl rfl ?_
              refine w_dup d_D_read_126 rfl ?_
              refine w_gi d_D_read_127 f_D_221 W19 oi55_37 ?_
              refine w_iconst d_D_read_130 ?_
              refine w_iadd d_D_read_131 (fun c20 => ?_)
              refine w_pi d_D_read_132 p_D_221 W19 oi55_37 (by decide) c20 (fun h21 σ22 e23 W24 => ?_)
              refine w_aload_n d_D_read_135 rfl rfl ?_
              refine w_iload_n d_D_read_136 rfl rfl ?_
              refine w_aload_n d_D_read_137 rfl rfl ?_
              refine w_gr d_D_read_138 f_D_57 W24 or55_19 ?_
              refine w_iload_n d_D_read_141 rfl rfl ?_
              refine w_iconst d_D_read_142 ?_
              refine w_iadd d_D_read_143 (fun c25 => ?_)
              refine w_cVU [iI y9, mr 71, iI (x2 + 1)] [] d_D_read_144 me_D_rank l_D_227 W24 (c_D_rank W24 ry9 c25) rfl rfl (Nat.le_of_ble_eq_true rfl) rfl (Nat.le_of_ble_eq_true rfl) (Nat.le_trans (Nat.le_of_ble_eq_true rfl) hF) (Nat.le_trans (Nat.le_of_ble_eq_true rfl) hL) ob55 ⟨_, _, rfl⟩ (fun a26 σ27 h28 W29 q30 => ?_)
              exact w_exit [(0, mr 55), (2, iI x2), (3, iI y9)] (m_sc2 rfl (m_sc2 rfl (m_sc2 rfl (m_sn _)))) W29 (fun _ _ _ k => k) True.intro
            · exact w_exit [(0, mr 55), (2, iI x2), (3, iI y9)] (m_sc2 rfl (m_sc2 rfl (m_sc2 rfl (m_sn _)))) W7 (fun _ _ _ k => k) True.intro
          · show Ew _ _ _ _ _ _ _ _ 147 [(0, mr 55), (2, iI x2), (3, iI y9)] [] _ _ _
            refine w_aload_n d_D_read_147 rfl rfl ?_
            refine w_gr d_D_read_148 f_D_91 W34 or55_33 ?_
            refine w_iload_n d_D_read_151 rfl rfl ?_
            refine w_iconst d_D_read_152 ?_
            refine w_aload_n d_D_read_153 rfl rfl ?_
            refine w_gr d_D_read_154 f_D_94 W34 or55_34 ?_
            refine w_iload_n d_D_read_157 rfl rfl ?_
            refine w_ald d_D_read_158 W34 ia83 (fun c36 => ?_)
            refine w_imul d_D_read_159 (fun c37 => ?_)
            refine w_iconst d_D_read_160 ?_
            refine w_iadd d_D_read_161 (fun c38 => ?_)
            refine w_ast d_D_read_162 W34 ia82 c38 (fun c39 h40 σ41 e42 W43 => ?_)
            refine w_iconst d_D_read_163 ?_
            refine w_istore [(4, iI 0), (0, mr 55), (2, iI x2), (3, iI y9)] d_D_read_164 (by decide) rfl ?_
            refine w_sq (G1 := gU) (J := 214) (lvJ := fun x => [(0, mr 55), (2, iI x2), (3, iI y9)]) (stJ := fun x => []) (w_sub (m_sc2 rfl (m_sc2 rfl (m_sc2 rfl (m_sc2 rfl (m_sn _))))) (w_D_read_166 hF hL fu x2 y9 0 _ _ W43 r2 ry9 (show rng 0 by decide))) (fun z44 σ45 h46 W47 q48 => ?_)
            show Ew _ _ _ _ _ _ _ _ 214 [(0, mr 55), (2, iI x2), (3, iI y9)] [] _ _ _
            refine w_iload_n d_D_read_214 rfl rfl ?_
            refine w_aload_n d_D_read_215 rfl rfl ?_
            refine w_gr d_D_read_216 f_D_16 W47 or55_6 ?_
            refine w_iload_n d_D_read_219 rfl rfl ?_
            refine w_ald d_D_read_220 W47 ia58 (fun c49 => ?_)
            refine w_iadd d_D_read_221 (fun c50 => ?_)
            refine w_top (fun y51 e52 => ?_)
            have ry51 : rng y51 := e52 ▸ c50
            refine w_istore_n [(2, iI y51), (0, mr 55), (3, iI y9)] d_D_read_222 rfl (by decide) rfl ?_
            exact w_exit [(0, mr 55), (2, iI y51)] (m_sc2 rfl (m_sc2 rfl (m_sn _))) W47 (fun _ _ _ k => k) ry51
        · refine w_goto 223 d_D_read_103 (by decide) ?_
          exact w_exit [(0, mr 55), (2, iI x2)] (m_sc2 rfl (m_sc2 rfl (m_sn _))) W7 (fun _ _ _ k => k) r2
      · show Ew _ _ _ _ _ _ _ _ 223 [(0, mr 55), (2, iI z53)] [] _ _ _
        refine w_iinc [(2, iI (z53 + 1)), (0, mr 55)] d_D_read_223 rfl (by decide) rfl (fun c58 => ?_)
        refine w_goto 61 d_D_read_226 (by decide) ?_
        exact w_sub (m_sc2 rfl (m_sc2 rfl (m_sn _))) (ih (z53 + 1) _ _ W56 c58)
    · exact w_exit [(0, mr 55)] (m_sc2 rfl (m_sn _)) hW (fun _ _ _ k => k) True.intro
theorem c_D_read {g : MG} {fu : Nat} {h : List MC} {σ : SS} {x1 : Int} (hW : Wd h σ) (r1 : rng x1) : Cw g M_D_read 5 126 [mr 55, iI x1] rng cI1 h σ (f_D_read fu x1 σ) := by
  refine w_of (fun d w Q hF hL => ?_)
  unfold f_D_read
  show Ew g none M_D_read d w Q rng (cI1 Q) 0 [(0, mr 55), (1, iI x1)] [] h σ _
  refine w_aload_n d_D_read_0 rfl rfl ?_
  refine w_iload_n d_D_read_1 rfl rfl ?_
  refine w_iload_n d_D_read_2 rfl rfl ?_
  refine w_cVI [iI x1, iI x1] [] d_D_read_3 me_D_refuses l_D_205 hW (c_D_refuses hW r1 r1) rfl rfl (Nat.le_of_ble_eq_true rfl) rfl (Nat.le_of_ble_eq_true rfl) (Nat.le_trans (Nat.le_of_ble_eq_true rfl) hF) (Nat.le_trans (Nat.le_of_ble_eq_true rfl) hL) ob55 ⟨_, _, rfl⟩ (fun a1 σ2 h3 W4 q5 => ?_)
  refine w_if_eq 11 d_D_read_6 (by decide) q5 (fun c6 => ?_) (fun c6 => ?_)
  · refine w_aload_n d_D_read_11 rfl rfl ?_
    refine w_aload_n d_D_read_12 rfl rfl ?_
    refine w_aload_n d_D_read_13 rfl rfl ?_
    refine w_gr d_D_read_14 f_D_57 W4 or55_19 ?_
    refine w_iload_n d_D_read_17 rfl rfl ?_
    refine w_cVI [mr 71, iI x1] [mr 55] d_D_read_18 me_D_slot l_D_209 W4 (c_D_slot W4 ia71 r1) rfl rfl (Nat.le_of_ble_eq_true rfl) rfl (Nat.le_of_ble_eq_true rfl) (Nat.le_trans (Nat.le_of_ble_eq_true rfl) hF) (Nat.le_trans (Nat.le_of_ble_eq_true rfl) hL) ob55 ⟨_, _, rfl⟩ (fun a7 σ8 h9 W10 q11 => ?_)
    refine w_pi d_D_read_21 p_D_154 W10 oi55_29 (by decide) q11 (fun h12 σ13 e14 W15 => ?_)
    refine w_iconst d_D_read_24 ?_
    refine w_istore_n [(2, iI 0), (0, mr 55), (1, iI x1)] d_D_read_25 rfl (by decide) rfl ?_
    refine w_sq (G1 := gU) (J := 46) (lvJ := fun x => [(0, mr 55)]) (stJ := fun x => []) (w_sub (m_sc2 rfl (m_sc2 rfl (m_sn _))) (w_D_read_26 hF hL fu 0 _ _ W15 (show rng 0 by decide))) (fun z16 σ17 h18 W19 q20 => ?_)
    show Ew _ _ _ _ _ _ _ _ 46 [(0, mr 55)] [] _ _ _
    refine w_aload_n d_D_read_46 rfl rfl ?_
    refine w_iconst d_D_read_47 ?_
    refine w_pi d_D_read_48 p_D_221 W19 oi55_37 (by decide) (show rng 0 by decide) (fun h21 σ22 e23 W24 => ?_)
    refine w_aload_n d_D_read_51 rfl rfl ?_
    refine w_aload_n d_D_read_52 rfl rfl ?_
    refine w_gi d_D_read_53 f_D_154 W24 oi55_29 ?_
    refine w_pi d_D_read_56 p_D_224 W24 oi55_36 (by decide) (W24.rf _ _) (fun h25 σ26 e27 W28 => ?_)
    refine w_iconst d_D_read_59 ?_
    refine w_istore_n [(2, iI 0), (0, mr 55)] d_D_read_60 rfl (by decide) rfl ?_
    refine w_sq (G1 := gU) (J := 229) (lvJ := fun x => [(0, mr 55)]) (stJ := fun x => []) (w_sub (m_sc2 rfl (m_sc2 rfl (m_sn _))) (w_D_read_61 hF hL fu 0 _ _ W28 (show rng 0 by decide))) (fun z29 σ30 h31 W32 q33 => ?_)
    show Ew _ _ _ _ _ _ _ _ 229 [(0, mr 55)] [] _ _ _
    refine w_aload_n d_D_read_229 rfl rfl ?_
    refine w_gi d_D_read_230 f_D_224 W32 oi55_36 ?_
    exact w_iret d_D_read_233 rfl W32 (fun _ _ _ k => k) (W32.rf _ _)
  · refine w_iconst d_D_read_9 ?_
    exact w_iret d_D_read_10 rfl W4 (fun _ _ _ k => k) (show rng 0 by decide)
def f_D_item (x1 : Int) (σ : SS) : Option (Int × SS) := sq (if x1 < 0 then (some (1, σ)) else (if x1 < (σ.1 55 36) then (some (0, σ)) else (some (1, σ)))) fun (z3 : Int) σ4 => sq (f_D_fails z3 0 σ4) fun (a8 : Int) σ9 => if a8 = 0 then (ck (inb 16384 x1) (some ((σ9.2.1 82 x1), σ9))) else (some (0, σ9))
theorem c_D_item {g : MG} {h : List MC} {σ : SS} {x1 : Int} (hW : Wd h σ) (r1 : rng x1) : Cw g M_D_item 1 22 [mr 55, iI x1] rng cI1 h σ (f_D_item x1 σ) := by
  refine w_of (fun d w Q hF hL => ?_)
  unfold f_D_item
  show Ew g none M_D_item d w Q rng (cI1 Q) 0 [(0, mr 55), (1, iI x1)] [] h σ _
  refine w_aload_n d_D_item_0 rfl rfl ?_
  refine w_iload_n d_D_item_1 rfl rfl ?_
  refine w_sq (G1 := rng) (J := 18) (lvJ := fun x => [(0, mr 55), (1, iI x1)]) (stJ := fun x => [iI x, mr 55]) ?_ (fun z3 σ4 h5 W6 q7 => ?_)
  · refine w_if_lt 13 d_D_item_2 (by decide) r1 (fun c1 => ?_) (fun c1 => ?_)
    · refine w_iconst d_D_item_13 ?_
      refine w_goto 18 d_D_item_14 (by decide) ?_
      exact w_exit [(0, mr 55), (1, iI x1)] (m_sc2 rfl (m_sc2 rfl (m_sn _))) hW (fun _ _ _ k => k) (show rng 1 by decide)
    · refine w_iload_n d_D_item_5 rfl rfl ?_
      refine w_aload_n d_D_item_6 rfl rfl ?_
      refine w_gi d_D_item_7 f_D_224 hW oi55_36 ?_
      refine w_icmp_lt 17 d_D_item_10 (by decide) r1 (hW.rf _ _) (fun c2 => ?_) (fun c2 => ?_)
      · refine w_iconst d_D_item_17 ?_
        exact w_exit [(0, mr 55), (1, iI x1)] (m_sc2 rfl (m_sc2 rfl (m_sn _))) hW (fun _ _ _ k => k) (show rng 0 by decide)
      · refine w_iconst d_D_item_13 ?_
        refine w_goto 18 d_D_item_14 (by decide) ?_
        exact w_exit [(0, mr 55), (1, iI x1)] (m_sc2 rfl (m_sc2 rfl (m_sn _))) hW (fun _ _ _ k => k) (show rng 1 by decide)
  · show Ew _ _ _ _ _ _ _ _ 18 [(0, mr 55), (1, iI x1)] [iI z3, mr 55] _ _ _
    refine w_iconst d_D_item_18 ?_
    refine w_cVI [iI z3, iI 0] [] d_D_item_19 me_D_fails l_D_104 W6 (c_D_fails W6 q7 (show rng 0 by decide)) rfl rfl (Nat.le_of_ble_eq_true rfl) rfl (Nat.le_of_ble_eq_true rfl) (Nat.le_trans (Nat.le_of_ble_eq_true rfl) hF) (Nat.le_trans (Nat.le_of_ble_eq_true rfl) hL) ob55 ⟨_, _, rfl⟩ (fun a8 σ9 h10 W11 q12 => ?_)
    refine w_if_eq 27 d_D_item_22 (by decide) q12 (fun c13 => ?_) (fun c13 => ?_)
    · refine w_aload_n d_D_item_27 rfl rfl ?_
      refine w_gr d_D_item_28 f_D_91 W11 or55_33 ?_
      refine w_iload_n d_D_item_31 rfl rfl ?_
      refine w_ald d_D_item_32 W11 ia82 (fun c14 => ?_)
      exact w_iret d_D_item_33 rfl W11 (fun _ _ _ k => k) (W11.ra _ _)
    · refine w_iconst d_D_item_25 ?_
      exact w_iret d_D_item_26 rfl W11 (fun _ _ _ k => k) (show rng 0 by decide)
def l_D_isSame_57 (fu : Nat) : Nat → Int → Int → SS → Option ((Int) × SS)
  | 0, _, _, _ => none
  | n + 1, x3, x4, σ => if x4 < (σ.1 55 29) then (if x3 = 0 then (some (x3, σ)) else (ck (inb 16384 x4) (ck (inb 16384 x4) (sq (if (σ.2.1 71 x4) = (σ.2.1 72 x4) then (some (1, σ)) else (some (0, σ))) fun (z6 : Int) σ7 => ck (rng (x4 + 1)) (l_D_isSame_57 fu n z6 (x4 + 1) σ7))))) else (some (x3, σ))
def f_D_isSame (fu : Nat) (x1 : Int) (x2 : Int) (σ : SS) : Option (Int × SS) := sq (f_D_refuses x1 x2 σ) fun (a1 : Int) σ2 => if a1 = 0 then (sq (f_D_slot fu 71 x1 σ2) fun (a7 : Int) σ8 => lb (sF σ8 55 29 a7) fun σ13 => sq (f_D_slot fu 72 x2 σ13) fun (a16 : Int) σ17 => lb (sF σ17 55 30 a16) fun σ22 => sq (if (σ22.1 55 29) = (σ22.1 55 30) then (some (1, σ22)) else (some (0, σ22))) fun (z26 : Int) σ27 => sq (l_D_isSame_57 fu fu z26 0 σ27) fun (z31 : Int) σ32 => ck (z31 = 0 ∨ z31 = 1) (some (z31, σ32))) else (some (0, σ2))
theorem w_D_isSame_57 {g : MG} {d w fu : Nat} {Q : MO → List MC → Prop} (hF : 5 ≤ d) (hL : 126 ≤ w) : ∀ (n : Nat) (x3 : Int) (x4 : Int) (σ : SS) (h : List MC), Wd h σ → rng x3 → rng x4 → Ew g none M_D_isSame d w Q rng (cJ g none M_D_isSame d w Q 99 (fun x => [(3, iI x)]) (fun x => [])) 57 [(0, mr 55), (3, iI x3), (4, iI x4)] [] h σ (l_D_isSame_57 fu n x3 x4 σ) := by
  intro n
  induction n with
  | zero =>
    intro x3 x4 σ h hW r3 r4 a9 σ9 hm
    rw [l_D_isSame_57] at hm
    cases hm
  | succ n ih =>
    intro x3 x4 σ h hW r3 r4
    rw [l_D_isSame_57]
    refine w_iload d_D_isSame_57 rfl ?_
    refine w_aload_n d_D_isSame_59 rfl rfl ?_
    refine w_gi d_D_isSame_60 f_D_154 hW oi55_29 ?_
    refine w_icmp_ge 99 d_D_isSame_63 (by decide) r4 (hW.rf _ _) (fun c1 => ?_) (fun c1 => ?_)
    · refine w_iload_n d_D_isSame_66 rfl rfl ?_
      refine w_if_eq 99 d_D_isSame_67 (by decide) r3 (fun c2 => ?_) (fun c2 => ?_)
      · exact w_exit [(3, iI x3)] (m_sc2 rfl (m_sn _)) hW (fun _ _ _ k => k) r3
      · refine w_aload_n d_D_isSame_70 rfl rfl ?_
        refine w_gr d_D_isSame_71 f_D_57 hW or55_19 ?_
        refine w_iload d_D_isSame_74 rfl ?_
        refine w_ald d_D_isSame_76 hW ia71 (fun c3 => ?_)
        refine w_aload_n d_D_isSame_77 rfl rfl ?_
        refine w_gr d_D_isSame_78 f_D_60 hW or55_20 ?_
        refine w_iload d_D_isSame_81 rfl ?_
        refine w_ald d_D_isSame_83 hW ia72 (fun c4 => ?_)
        refine w_sq (G1 := rng) (J := 92) (lvJ := fun x => [(0, mr 55), (4, iI x4)]) (stJ := fun x => [iI x]) ?_ (fun z6 σ7 h8 W9 q10 => ?_)
        · refine w_icmp_ne 91 d_D_isSame_84 (by decide) (hW.ra _ _) (hW.ra _ _) (fun c5 => ?_) (fun c5 => ?_)
          · refine w_iconst d_D_isSame_87 ?_
            refine w_goto 92 d_D_isSame_88 (by decide) ?_
            exact w_exit [(0, mr 55), (4, iI x4)] (m_sc2 rfl (m_sc2 rfl (m_sn _))) hW (fun _ _ _ k => k) (show rng 1 by decide)
          · refine w_iconst d_D_isSame_91 ?_
            exact w_exit [(0, mr 55), (4, iI x4)] (m_sc2 rfl (m_sc2 rfl (m_sn _))) hW (fun _ _ _ k => k) (show rng 0 by decide)
        · show Ew _ _ _ _ _ _ _ _ 92 [(0, mr 55), (4, iI x4)] [iI z6] _ _ _
          refine w_istore_n [(3, iI z6), (0, mr 55), (4, iI x4)] d_D_isSame_92 rfl (by decide) rfl ?_
          refine w_iinc [(4, iI (x4 + 1)), (3, iI z6), (0, mr 55)] d_D_isSame_93 rfl (by decide) rfl (fun c11 => ?_)
          refine w_goto 57 d_D_isSame_96 (by decide) ?_
          exact w_sub (m_sc2 rfl (m_sc2 rfl (m_sc2 rfl (m_sn _)))) (ih z6 (x4 + 1) _ _ W9 q10 c11)
    · exact w_exit [(3, iI x3)] (m_sc2 rfl (m_sn _)) hW (fun _ _ _ k => k) r3
theorem c_D_isSame {g : MG} {fu : Nat} {h : List MC} {σ : SS} {x1 : Int} {x2 : Int} (hW : Wd h σ) (r1 : rng x1) (r2 : rng x2) : Cw g M_D_isSame 5 126 [mr 55, iI x1, iI x2] rng cI1 h σ (f_D_isSame fu x1 x2 σ) := by
  refine w_of (fun d w Q hF hL => ?_)
  unfold f_D_isSame
  show Ew g none M_D_isSame d w Q rng (cI1 Q) 0 [(0, mr 55), (1, iI x1), (2, iI x2)] [] h σ _
  refine w_aload_n d_D_isSame_0 rfl rfl ?_
  refine w_iload_n d_D_isSame_1 rfl rfl ?_
  refine w_iload_n d_D_isSame_2 rfl rfl ?_
  refine w_cVI [iI x1, iI x2] [] d_D_isSame_3 me_D_refuses l_D_205 hW (c_D_refuses hW r1 r2) rfl rfl (Nat.le_of_ble_eq_true rfl) rfl (Nat.le_of_ble_eq_true rfl) (Nat.le_trans (Nat.le_of_ble_eq_true rfl) hF) (Nat.le_trans (Nat.le_of_ble_eq_true rfl) hL) ob55 ⟨_, _, rfl⟩ (fun a1 σ2 h3 W4 q5 => ?_)
  refine w_if_eq 11 d_D_isSame_6 (by decide) q5 (fun c6 => ?_) (fun c6 => ?_)
  · refine w_aload_n d_D_isSame_11 rfl rfl ?_
    refine w_aload_n d_D_isSame_12 rfl rfl ?_
    refine w_aload_n d_D_isSame_13 rfl rfl ?_
    refine w_gr d_D_isSame_14 f_D_57 W4 or55_19 ?_
    refine w_iload_n d_D_isSame_17 rfl rfl ?_
    refine w_cVI [mr 71, iI x1] [mr 55] d_D_isSame_18 me_D_slot l_D_209 W4 (c_D_slot W4 ia71 r1) rfl rfl (Nat.le_of_ble_eq_true rfl) rfl (Nat.le_of_ble_eq_true rfl) (Nat.le_trans (Nat.le_of_ble_eq_true rfl) hF) (Nat.le_trans (Nat.le_of_ble_eq_true rfl) hL) ob55 ⟨_, _, rfl⟩ (fun a7 σ8 h9 W10 q11 => ?_)
    refine w_pi d_D_isSame_21 p_D_154 W10 oi55_29 (by decide) q11 (fun h12 σ13 e14 W15 => ?_)
    refine w_aload_n d_D_isSame_24 rfl rfl ?_
    refine w_aload_n d_D_isSame_25 rfl rfl ?_
    refine w_aload_n d_D_isSame_26 rfl rfl ?_
    refine w_gr d_D_isSame_27 f_D_60 W15 or55_20 ?_
    refine w_iload_n d_D_isSame_30 rfl rfl ?_
    refine w_cVI [mr 72, iI x2] [mr 55] d_D_isSame_31 me_D_slot l_D_209 W15 (c_D_slot W15 ia72 r2) rfl rfl (Nat.le_of_ble_eq_true rfl) rfl (Nat.le_of_ble_eq_true rfl) (Nat.le_trans (Nat.le_of_ble_eq_true rfl) hF) (Nat.le_trans (Nat.le_of_ble_eq_true rfl) hL) ob55 ⟨_, _, rfl⟩ (fun a16 σ17 h18 W19 q20 => ?_)
    refine w_pi d_D_isSame_34 p_D_157 W19 oi55_30 (by decide) q20 (fun h21 σ22 e23 W24 => ?_)
    refine w_aload_n d_D_isSame_37 rfl rfl ?_
    refine w_gi d_D_isSame_38 f_D_154 W24 oi55_29 ?_
    refine w_aload_n d_D_isSame_41 rfl rfl ?_
    refine w_gi d_D_isSame_42 f_D_157 W24 oi55_30 ?_
    refine w_sq (G1 := rng) (J := 53) (lvJ := fun x => [(0, mr 55)]) (stJ := fun x => [iI x]) ?_ (fun z26 σ27 h28 W29 q30 => ?_)
    · refine w_icmp_ne 52 d_D_isSame_45 (by decide) (W24.rf _ _) (W24.rf _ _) (fun c25 => ?_) (fun c25 => ?_)
      · refine w_iconst d_D_isSame_48 ?_
        refine w_goto 53 d_D_isSame_49 (by decide) ?_
        exact w_exit [(0, mr 55)] (m_sc2 rfl (m_sn _)) W24 (fun _ _ _ k => k) (show rng 1 by decide)
      · refine w_iconst d_D_isSame_52 ?_
        exact w_exit [(0, mr 55)] (m_sc2 rfl (m_sn _)) W24 (fun _ _ _ k => k) (show rng 0 by decide)
    · show Ew _ _ _ _ _ _ _ _ 53 [(0, mr 55)] [iI z26] _ _ _
      refine w_istore_n [(3, iI z26), (0, mr 55)] d_D_isSame_53 rfl (by decide) rfl ?_
      refine w_iconst d_D_isSame_54 ?_
      refine w_istore [(4, iI 0), (3, iI z26), (0, mr 55)] d_D_isSame_55 (by decide) rfl ?_
      refine w_sq (G1 := rng) (J := 99) (lvJ := fun x => [(3, iI x)]) (stJ := fun x => []) (w_sub (m_sc2 rfl (m_sc2 rfl (m_sc2 rfl (m_sn _)))) (w_D_isSame_57 hF hL fu z26 0 _ _ W29 q30 (show rng 0 by decide))) (fun z31 σ32 h33 W34 q35 => ?_)
      show Ew _ _ _ _ _ _ _ _ 99 [(3, iI z31)] [] _ _ _
      refine w_iload_n d_D_isSame_99 rfl rfl ?_
      refine w_ck (fun b36 => ?_)
      exact w_zret d_D_isSame_100 rfl b36 W34 (fun _ _ _ k => k) q35
  · refine w_iconst d_D_isSame_9 ?_
    exact w_zret d_D_isSame_10 rfl (by decide) W4 (fun _ _ _ k => k) (show rng 0 by decide)
def f_D_size (fu : Nat) (x1 : Int) (σ : SS) : Option (Int × SS) := sq (if x1 < 0 then (some (1, σ)) else (if x1 < (σ.1 55 2) then (some (0, σ)) else (some (1, σ)))) fun (z3 : Int) σ4 => sq (f_D_fails z3 0 σ4) fun (a8 : Int) σ9 => if a8 = 0 then (sq (f_D_fullSize fu x1 σ9) fun (a14 : Int) σ15 => some (a14, σ15)) else (some (0, σ9))
theorem c_D_size {g : MG} {fu : Nat} {h : List MC} {σ : SS} {x1 : Int} (hW : Wd h σ) (r1 : rng x1) : Cw g M_D_size 5 125 [mr 55, iI x1] rng cI1 h σ (f_D_size fu x1 σ) := by
  refine w_of (fun d w Q hF hL => ?_)
  unfold f_D_size
  show Ew g none M_D_size d w Q rng (cI1 Q) 0 [(0, mr 55), (1, iI x1)] [] h σ _
  refine w_aload_n d_D_size_0 rfl rfl ?_
  refine w_iload_n d_D_size_1 rfl rfl ?_
  refine w_sq (G1 := rng) (J := 18) (lvJ := fun x => [(0, mr 55), (1, iI x1)]) (stJ := fun x => [iI x, mr 55]) ?_ (fun z3 σ4 h5 W6 q7 => ?_)
  · refine w_if_lt 13 d_D_size_2 (by decide) r1 (fun c1 => ?_) (fun c1 => ?_)
    · refine w_iconst d_D_size_13 ?_
      refine w_goto 18 d_D_size_14 (by decide) ?_
      exact w_exit [(0, mr 55), (1, iI x1)] (m_sc2 rfl (m_sc2 rfl (m_sn _))) hW (fun _ _ _ k => k) (show rng 1 by decide)
    · refine w_iload_n d_D_size_5 rfl rfl ?_
      refine w_aload_n d_D_size_6 rfl rfl ?_
      refine w_gi d_D_size_7 f_D_111 hW oi55_2 ?_
      refine w_icmp_lt 17 d_D_size_10 (by decide) r1 (hW.rf _ _) (fun c2 => ?_) (fun c2 => ?_)
      · refine w_iconst d_D_size_17 ?_
        exact w_exit [(0, mr 55), (1, iI x1)] (m_sc2 rfl (m_sc2 rfl (m_sn _))) hW (fun _ _ _ k => k) (show rng 0 by decide)
      · refine w_iconst d_D_size_13 ?_
        refine w_goto 18 d_D_size_14 (by decide) ?_
        exact w_exit [(0, mr 55), (1, iI x1)] (m_sc2 rfl (m_sc2 rfl (m_sn _))) hW (fun _ _ _ k => k) (show rng 1 by decide)
  · show Ew _ _ _ _ _ _ _ _ 18 [(0, mr 55), (1, iI x1)] [iI z3, mr 55] _ _ _
    refine w_iconst d_D_size_18 ?_
    refine w_cVI [iI z3, iI 0] [] d_D_size_19 me_D_fails l_D_104 W6 (c_D_fails W6 q7 (show rng 0 by decide)) rfl rfl (Nat.le_of_ble_eq_true rfl) rfl (Nat.le_of_ble_eq_true rfl) (Nat.le_trans (Nat.le_of_ble_eq_true rfl) hF) (Nat.le_trans (Nat.le_of_ble_eq_true rfl) hL) ob55 ⟨_, _, rfl⟩ (fun a8 σ9 h10 W11 q12 => ?_)
    refine w_if_eq 27 d_D_size_22 (by decide) q12 (fun c13 => ?_) (fun c13 => ?_)
    · refine w_aload_n d_D_size_27 rfl rfl ?_
      refine w_iload_n d_D_size_28 rfl rfl ?_
      refine w_cVI [iI x1] [] d_D_size_29 me_D_fullSize l_D_199 W11 (c_D_fullSize W11 r1) rfl rfl (Nat.le_of_ble_eq_true rfl) rfl (Nat.le_of_ble_eq_true rfl) (Nat.le_trans (Nat.le_of_ble_eq_true rfl) hF) (Nat.le_trans (Nat.le_of_ble_eq_true rfl) hL) ob55 ⟨_, _, rfl⟩ (fun a14 σ15 h16 W17 q18 => ?_)
      exact w_iret d_D_size_32 rfl W17 (fun _ _ _ k => k) q18
    · refine w_iconst d_D_size_25 ?_
      exact w_iret d_D_size_26 rfl W11 (fun _ _ _ k => k) (show rng 0 by decide)
def l_D_uses_49 (fu : Nat) : Nat → Int → Int → SS → Option ((Unit) × SS)
  | 0, _, _, _ => none
  | n + 1, x1, x2, σ => ck (inb 324 x1) (if x2 < (σ.2.1 59 x1) then (ck (rng (400 * x1)) (ck (rng ((400 * x1) + x2)) (ck (inb 129600 ((400 * x1) + x2)) (ck (inb 16384 x2) (lb (sA σ 72 x2 (σ.2.1 60 ((400 * x1) + x2))) fun σ8 => ck (rng (x2 + 1)) (l_D_uses_49 fu n x1 (x2 + 1) σ8)))))) else (some ((), σ)))
def l_D_uses_118 (fu : Nat) : Nat → Int → Int → SS → Option ((Int) × SS)
  | 0, _, _, _ => none
  | n + 1, x2, x3, σ => if x3 < (σ.1 55 30) then (ck (inb 16384 x3) (ck (inb 16384 x3) (ck (rng (((σ.2.1 72 x3) / 4) - (σ.2.1 74 x3))) (lb (((σ.2.1 72 x3) / 4) - (σ.2.1 74 x3)) fun y5 => ck (inb 16384 x3) (sq (if ((σ.2.1 72 x3) % 4) = 0 then (if y5 < 0 then (some (x2, σ)) else (lb (bo x2 (bs 1 y5)) fun y10 => some (y10, σ))) else (some (x2, σ))) fun (z12 : Int) σ13 => ck (rng (x3 + 1)) (l_D_uses_118 fu n z12 (x3 + 1) σ13)))))) else (some (x2, σ))
def f_D_uses (fu : Nat) (x1 : Int) (σ : SS) : Option (Int × SS) := sq (if x1 < 0 then (some (1, σ)) else (if x1 < (σ.1 55 2) then (some (0, σ)) else (some (1, σ)))) fun (z3 : Int) σ4 => sq (f_D_fails z3 0 σ4) fun (a8 : Int) σ9 => if a8 = 0 then (ck (inb 324 x1) (if (σ9.2.1 61 x1) = 0 then (ck (inb 324 x1) (ck (rng ((bs 1 (σ9.2.1 58 x1)) - 1)) (some (((bs 1 (σ9.2.1 58 x1)) - 1), σ9)))) else (sq (l_D_uses_49 fu fu x1 0 σ9) fun (z18 : Unit) σ19 => ck (inb 324 x1) (sq (f_D_write fu 72 (σ19.2.1 59 x1) σ19) fun (a24 : Int) σ25 => lb (sF σ25 55 30 a24) fun σ30 => sq (f_D_measure fu 72 16384 0 (σ30.1 55 30) σ30) fun (a33 : Unit) σ34 => sq (l_D_uses_118 fu fu 0 0 σ34) fun (z38 : Int) σ39 => some (z38, σ39))))) else (some (0, σ9))
theorem w_D_uses_49 {g : MG} {d w fu : Nat} {Q : MO → List MC → Prop} (hF : 4 ≤ d) (hL : 103 ≤ w) : ∀ (n : Nat) (x1 : Int) (x2 : Int) (σ : SS) (h : List MC), Wd h σ → rng x1 → rng x2 → Ew g none M_D_uses d w Q gU (cJ g none M_D_uses d w Q 83 (fun x => [(0, mr 55), (1, iI x1)]) (fun x => [])) 49 [(0, mr 55), (1, iI x1), (2, iI x2)] [] h σ (l_D_uses_49 fu n x1 x2 σ) := by
  intro n
  induction n with
  | zero =>
    intro x1 x2 σ h hW r1 r2 a9 σ9 hm
    rw [l_D_uses_49] at hm
    cases hm
  | succ n ih =>
    intro x1 x2 σ h hW r1 r2
    rw [l_D_uses_49]
    refine w_iload_n d_D_uses_49 rfl rfl ?_
    refine w_aload_n d_D_uses_50 rfl rfl ?_
    refine w_gr d_D_uses_51 f_D_19 hW or55_7 ?_
    refine w_iload_n d_D_uses_54 rfl rfl ?_
    refine w_ald d_D_uses_55 hW ia59 (fun c1 => ?_)
    refine w_icmp_ge 83 d_D_uses_56 (by decide) r2 (hW.ra _ _) (fun c2 => ?_) (fun c2 => ?_)
    · refine w_aload_n d_D_uses_59 rfl rfl ?_
      refine w_gr d_D_uses_60 f_D_60 hW or55_20 ?_
      refine w_iload_n d_D_uses_63 rfl rfl ?_
      refine w_aload_n d_D_uses_64 rfl rfl ?_
      refine w_gr d_D_uses_65 f_D_23 hW or55_8 ?_
      refine w_sipush d_D_uses_68 (by decide) ?_
      refine w_iload_n d_D_uses_71 rfl rfl ?_
      refine w_imul d_D_uses_72 (fun c3 => ?_)
      refine w_iload_n d_D_uses_73 rfl rfl ?_
      refine w_iadd d_D_uses_74 (fun c4 => ?_)
      refine w_ald d_D_uses_75 hW ia60 (fun c5 => ?_)
      refine w_ast d_D_uses_76 hW ia72 (hW.ra _ _) (fun c6 h7 σ8 e9 W10 => ?_)
      refine w_iinc [(2, iI (x2 + 1)), (0, mr 55), (1, iI x1)] d_D_uses_77 rfl (by decide) rfl (fun c11 => ?_)
      refine w_goto 49 d_D_uses_80 (by decide) ?_
      exact w_sub (m_sc2 rfl (m_sc2 rfl (m_sc2 rfl (m_sn _)))) (ih x1 (x2 + 1) _ _ W10 r1 c11)
    · exact w_exit [(0, mr 55), (1, iI x1)] (m_sc2 rfl (m_sc2 rfl (m_sn _))) hW (fun _ _ _ k => k) True.intro
theorem w_D_uses_118 {g : MG} {d w fu : Nat} {Q : MO → List MC → Prop} (hF : 4 ≤ d) (hL : 103 ≤ w) : ∀ (n : Nat) (x2 : Int) (x3 : Int) (σ : SS) (h : List MC), Wd h σ → rng x2 → rng x3 → Ew g none M_D_uses d w Q rng (cJ g none M_D_uses d w Q 173 (fun x => [(2, iI x)]) (fun x => [])) 118 [(0, mr 55), (2, iI x2), (3, iI x3)] [] h σ (l_D_uses_118 fu n x2 x3 σ) := by
  intro n
  induction n with
  | zero =>
    intro x2 x3 σ h hW r2 r3 a9 σ9 hm
    rw [l_D_uses_118] at hm
    cases hm
  | succ n ih =>
    intro x2 x3 σ h hW r2 r3
    rw [l_D_uses_118]
    refine w_iload_n d_D_uses_118 rfl rfl ?_
    refine w_aload_n d_D_uses_119 rfl rfl ?_
    refine w_gi d_D_uses_120 f_D_157 hW oi55_30 ?_
    refine w_icmp_ge 173 d_D_uses_123 (by decide) r3 (hW.rf _ _) (fun c1 => ?_) (fun c1 => ?_)
    · refine w_aload_n d_D_uses_126 rfl rfl ?_
      refine w_gr d_D_uses_127 f_D_60 hW or55_20 ?_
      refine w_iload_n d_D_uses_130 rfl rfl ?_
      refine w_ald d_D_uses_131 hW ia72 (fun c2 => ?_)
      refine w_iconst d_D_uses_132 ?_
      refine w_shr2 d_D_uses_133 (hW.ra _ _) ?_
      refine w_aload_n d_D_uses_134 rfl rfl ?_
      refine w_gr d_D_uses_135 f_D_66 hW or55_22 ?_
      refine w_iload_n d_D_uses_138 rfl rfl ?_
      refine w_ald d_D_uses_139 hW ia74 (fun c3 => ?_)
      refine w_isub d_D_uses_140 (fun c4 => ?_)
      refine w_top (fun y5 e6 => ?_)
      have ry5 : rng y5 := e6 ▸ c4
      refine w_istore [(4, iI y5), (0, mr 55), (2, iI x2), (3, iI x3)] d_D_uses_141 (by decide) rfl ?_
      refine w_aload_n d_D_uses_143 rfl rfl ?_
      refine w_gr d_D_uses_144 f_D_60 hW or55_20 ?_
      refine w_iload_n d_D_uses_147 rfl rfl ?_
      refine w_ald d_D_uses_148 hW ia72 (fun c7 => ?_)
      refine w_D_sort d_D_uses_149 l_D_129 (Nat.le_of_ble_eq_true rfl) (Nat.le_trans (Nat.le_of_ble_eq_true rfl) hF) (Nat.le_trans (Nat.le_of_ble_eq_true rfl) hL) ?_
      refine w_sq (G1 := rng) (J := 167) (lvJ := fun x => [(0, mr 55), (2, iI x), (3, iI x3)]) (stJ := fun x => []) ?_ (fun z12 σ13 h14 W15 q16 => ?_)
      · refine w_if_ne 167 d_D_uses_152 (by decide) (rngm _) (fun c8 => ?_) (fun c8 => ?_)
        · refine w_iload d_D_uses_155 rfl ?_
          refine w_if_lt 167 d_D_uses_157 (by decide) ry5 (fun c9 => ?_) (fun c9 => ?_)
          · exact w_exit [(0, mr 55), (2, iI x2), (3, iI x3)] (m_sc2 rfl (m_sc2 rfl (m_sc2 rfl (m_sn _)))) hW (fun _ _ _ k => k) r2
          · refine w_iload_n d_D_uses_160 rfl rfl ?_
            refine w_iconst d_D_uses_161 ?_
            refine w_iload d_D_uses_162 rfl ?_
            refine w_ishl d_D_uses_164 ?_
            refine w_ior d_D_uses_165 ?_
            refine w_top (fun y10 e11 => ?_)
            have ry10 : rng y10 := e11 ▸ (bo_rng _ _)
            refine w_istore_n [(2, iI y10), (4, iI y5), (0, mr 55), (3, iI x3)] d_D_uses_166 rfl (by decide) rfl ?_
            exact w_exit [(0, mr 55), (2, iI y10), (3, iI x3)] (m_sc2 rfl (m_sc2 rfl (m_sc2 rfl (m_sn _)))) hW (fun _ _ _ k => k) ry10
        · exact w_exit [(0, mr 55), (2, iI x2), (3, iI x3)] (m_sc2 rfl (m_sc2 rfl (m_sc2 rfl (m_sn _)))) hW (fun _ _ _ k => k) r2
      · show Ew _ _ _ _ _ _ _ _ 167 [(0, mr 55), (2, iI z12), (3, iI x3)] [] _ _ _
        refine w_iinc [(3, iI (x3 + 1)), (0, mr 55), (2, iI z12)] d_D_uses_167 rfl (by decide) rfl (fun c17 => ?_)
        refine w_goto 118 d_D_uses_170 (by decide) ?_
        exact w_sub (m_sc2 rfl (m_sc2 rfl (m_sc2 rfl (m_sn _)))) (ih z12 (x3 + 1) _ _ W15 q16 c17)
    · exact w_exit [(2, iI x2)] (m_sc2 rfl (m_sn _)) hW (fun _ _ _ k => k) r2
theorem c_D_uses {g : MG} {fu : Nat} {h : List MC} {σ : SS} {x1 : Int} (hW : Wd h σ) (r1 : rng x1) : Cw g M_D_uses 4 103 [mr 55, iI x1] rng cI1 h σ (f_D_uses fu x1 σ) := by
  refine w_of (fun d w Q hF hL => ?_)
  unfold f_D_uses
  show Ew g none M_D_uses d w Q rng (cI1 Q) 0 [(0, mr 55), (1, iI x1)] [] h σ _
  refine w_aload_n d_D_uses_0 rfl rfl ?_
  refine w_iload_n d_D_uses_1 rfl rfl ?_
  refine w_sq (G1 := rng) (J := 18) (lvJ := fun x => [(0, mr 55), (1, iI x1)]) (stJ := fun x => [iI x, mr 55]) ?_ (fun z3 σ4 h5 W6 q7 => ?_)
  · refine w_if_lt 13 d_D_uses_2 (by decide) r1 (fun c1 => ?_) (fun c1 => ?_)
    · refine w_iconst d_D_uses_13 ?_
      refine w_goto 18 d_D_uses_14 (by decide) ?_
      exact w_exit [(0, mr 55), (1, iI x1)] (m_sc2 rfl (m_sc2 rfl (m_sn _))) hW (fun _ _ _ k => k) (show rng 1 by decide)
    · refine w_iload_n d_D_uses_5 rfl rfl ?_
      refine w_aload_n d_D_uses_6 rfl rfl ?_
      refine w_gi d_D_uses_7 f_D_111 hW oi55_2 ?_
      refine w_icmp_lt 17 d_D_uses_10 (by decide) r1 (hW.rf _ _) (fun c2 => ?_) (fun c2 => ?_)
      · refine w_iconst d_D_uses_17 ?_
        exact w_exit [(0, mr 55), (1, iI x1)] (m_sc2 rfl (m_sc2 rfl (m_sn _))) hW (fun _ _ _ k => k) (show rng 0 by decide)
      · refine w_iconst d_D_uses_13 ?_
        refine w_goto 18 d_D_uses_14 (by decide) ?_
        exact w_exit [(0, mr 55), (1, iI x1)] (m_sc2 rfl (m_sc2 rfl (m_sn _))) hW (fun _ _ _ k => k) (show rng 1 by decide)
  · show Ew _ _ _ _ _ _ _ _ 18 [(0, mr 55), (1, iI x1)] [iI z3, mr 55] _ _ _
    refine w_iconst d_D_uses_18 ?_
    refine w_cVI [iI z3, iI 0] [] d_D_uses_19 me_D_fails l_D_104 W6 (c_D_fails W6 q7 (show rng 0 by decide)) rfl rfl (Nat.le_of_ble_eq_true rfl) rfl (Nat.le_of_ble_eq_true rfl) (Nat.le_trans (Nat.le_of_ble_eq_true rfl) hF) (Nat.le_trans (Nat.le_of_ble_eq_true rfl) hL) ob55 ⟨_, _, rfl⟩ (fun a8 σ9 h10 W11 q12 => ?_)
    refine w_if_eq 27 d_D_uses_22 (by decide) q12 (fun c13 => ?_) (fun c13 => ?_)
    · refine w_aload_n d_D_uses_27 rfl rfl ?_
      refine w_gr d_D_uses_28 f_D_26 W11 or55_9 ?_
      refine w_iload_n d_D_uses_31 rfl rfl ?_
      refine w_bld d_D_uses_32 W11 za61 (fun c14 => ?_)
      refine w_if_ne 47 d_D_uses_33 (by decide) (W11.ra _ _) (fun c15 => ?_) (fun c15 => ?_)
      · refine w_iconst d_D_uses_36 ?_
        refine w_aload_n d_D_uses_37 rfl rfl ?_
        refine w_gr d_D_uses_38 f_D_16 W11 or55_6 ?_
        refine w_iload_n d_D_uses_41 rfl rfl ?_
        refine w_ald d_D_uses_42 W11 ia58 (fun c16 => ?_)
        refine w_ishl d_D_uses_43 ?_
        refine w_iconst d_D_uses_44 ?_
        refine w_isub d_D_uses_45 (fun c17 => ?_)
        exact w_iret d_D_uses_46 rfl W11 (fun _ _ _ k => k) c17
      · refine w_iconst d_D_uses_47 ?_
        refine w_istore_n [(2, iI 0), (0, mr 55), (1, iI x1)] d_D_uses_48 rfl (by decide) rfl ?_
        refine w_sq (G1 := gU) (J := 83) (lvJ := fun x => [(0, mr 55), (1, iI x1)]) (stJ := fun x => []) (w_sub (m_sc2 rfl (m_sc2 rfl (m_sc2 rfl (m_sn _)))) (w_D_uses_49 hF hL fu x1 0 _ _ W11 r1 (show rng 0 by decide))) (fun z18 σ19 h20 W21 q22 => ?_)
        show Ew _ _ _ _ _ _ _ _ 83 [(0, mr 55), (1, iI x1)] [] _ _ _
        refine w_aload_n d_D_uses_83 rfl rfl ?_
        refine w_aload_n d_D_uses_84 rfl rfl ?_
        refine w_aload_n d_D_uses_85 rfl rfl ?_
        refine w_gr d_D_uses_86 f_D_60 W21 or55_20 ?_
        refine w_aload_n d_D_uses_89 rfl rfl ?_
        refine w_gr d_D_uses_90 f_D_19 W21 or55_7 ?_
        refine w_iload_n d_D_uses_93 rfl rfl ?_
        refine w_ald d_D_uses_94 W21 ia59 (fun c23 => ?_)
        refine w_cVI [mr 72, iI (σ19.2.1 59 x1)] [mr 55] d_D_uses_95 me_D_write l_D_141 W21 (c_D_write W21 ia72 (W21.ra _ _)) rfl rfl (Nat.le_of_ble_eq_true rfl) rfl (Nat.le_of_ble_eq_true rfl) (Nat.le_trans (Nat.le_of_ble_eq_true rfl) hF) (Nat.le_trans (Nat.le_of_ble_eq_true rfl) hL) ob55 ⟨_, _, rfl⟩ (fun a24 σ25 h26 W27 q28 => ?_)
        refine w_pi d_D_uses_98 p_D_157 W27 oi55_30 (by decide) q28 (fun h29 σ30 e31 W32 => ?_)
        refine w_aload_n d_D_uses_101 rfl rfl ?_
        refine w_aload_n d_D_uses_102 rfl rfl ?_
        refine w_gr d_D_uses_103 f_D_60 W32 or55_20 ?_
        refine w_iconst d_D_uses_106 ?_
        refine w_aload_n d_D_uses_107 rfl rfl ?_
        refine w_gi d_D_uses_108 f_D_157 W32 oi55_30 ?_
        refine w_cVU [mr 72, iI 0, iI (σ30.1 55 30)] [] d_D_uses_111 me_D_measure l_D_133 W32 (c_D_measure W32 ia72 (show rng 0 by decide) (W32.rf _ _)) rfl rfl (Nat.le_of_ble_eq_true rfl) rfl (Nat.le_of_ble_eq_true rfl) (Nat.le_trans (Nat.le_of_ble_eq_true rfl) hF) (Nat.le_trans (Nat.le_of_ble_eq_true rfl) hL) ob55 ⟨_, _, rfl⟩ (fun a33 σ34 h35 W36 q37 => ?_)
        refine w_iconst d_D_uses_114 ?_
        refine w_istore_n [(2, iI 0), (0, mr 55), (1, iI x1)] d_D_uses_115 rfl (by decide) rfl ?_
        refine w_iconst d_D_uses_116 ?_
        refine w_istore_n [(3, iI 0), (2, iI 0), (0, mr 55), (1, iI x1)] d_D_uses_117 rfl (by decide) rfl ?_
        refine w_sq (G1 := rng) (J := 173) (lvJ := fun x => [(2, iI x)]) (stJ := fun x => []) (w_sub (m_sc2 rfl (m_sc2 rfl (m_sc2 rfl (m_sn _)))) (w_D_uses_118 hF hL fu 0 0 _ _ W36 (show rng 0 by decide) (show rng 0 by decide))) (fun z38 σ39 h40 W41 q42 => ?_)
        show Ew _ _ _ _ _ _ _ _ 173 [(2, iI z38)] [] _ _ _
        refine w_iload_n d_D_uses_173 rfl rfl ?_
        exact w_iret d_D_uses_174 rfl W41 (fun _ _ _ k => k) q42
    · refine w_iconst d_D_uses_25 ?_
      exact w_iret d_D_uses_26 rfl W11 (fun _ _ _ k => k) (show rng 0 by decide)
