def l_U_advance_166 (fu : Nat) (p : Nat) : Nat → Int → Int → Int → Int → SS → Option ((Unit) × SS)
  | 0, _, _, _, _, _ => none
  | n + 1, x1, x2, x3, x4, σ => if x4 < (σ.1 p 11) then (ck (rng (x2 + 1)) (ck (rng ((x2 + 1) + x4)) (sq (f_C_codeAt ((x2 + 1) + x4) σ) fun (a4 : Int) σ5 => lb (a4 / 4) fun y9 => sq (f_U_outside p y9 x3 σ5) fun (a11 : Int) σ12 => lb (gS σ12 (p + 5) 4 x4 a11) fun σ17 => ck (rng (x4 + 1)) (l_U_advance_166 fu p n x1 x2 x3 (x4 + 1) σ17)))) else (some ((), σ))
def l_U_advance_2 (fu : Nat) (p : Nat) : Nat → Int → SS → Option ((Int ⊕ (Unit)) × SS)
  | 0, _, _ => none
  | n + 1, x1, σ => if x1 < 1000000 then (sq (f_U_leaveEnded fu p σ) fun (a2 : Unit) σ3 => lb (gA σ3 (p + 1) 64 (σ3.1 p 6)) fun y7 => if y7 < (gA σ3 (p + 2) 64 (σ3.1 p 6)) then (sq (f_C_boundAt y7 σ3) fun (a10 : Int) σ11 => sq (f_C_codeAt y7 σ11) fun (a15 : Int) σ16 => lb (sF σ16 p 7 (a15 % 4)) fun σ21 => sq (f_C_codeAt y7 σ21) fun (a24 : Int) σ25 => lb (sF σ25 p 8 (a24 / 4)) fun σ30 => ck (rng ((gA σ30 (p + 3) 64 (σ30.1 p 6)) + a10)) (lb (sF σ30 p 9 ((gA σ30 (p + 3) 64 (σ30.1 p 6)) + a10)) fun σ35 => sq (if (σ35.1 p 7) = 2 then (sq (f_G_parametersOf (σ35.1 p 8) σ35) fun (a39 : Int) σ40 => some (a39, σ40)) else (some (0, σ35))) fun (z44 : Int) σ45 => lb (sF σ45 p 11 z44) fun σ50 => ck (rng (y7 + 1)) (ck (rng ((y7 + 1) + (σ50.1 p 11))) (lb (gS σ50 (p + 1) 64 (σ50.1 p 6) ((y7 + 1) + (σ50.1 p 11))) fun σ56 => sq (if (σ56.1 p 7) = 0 then (sq (f_U_outside p (σ56.1 p 8) a10 σ56) fun (a60 : Int) σ61 => lb (sF σ61 p 8 a60) fun σ66 => some ((), σ66)) else (some ((), σ56))) fun (z69 : Unit) σ70 => sq (l_U_advance_166 fu p fu x1 y7 a10 0 σ70) fun (z74 : Unit) σ75 => if (σ75.1 p 7) = 2 then (sq (f_G_isOpen (σ75.1 p 8) σ75) fun (a80 : Int) σ81 => if a80 = 0 then (sq (f_U_enterFilling fu p σ81) fun (a86 : Int) σ87 => if a86 = 0 then (some (.inl 0, σ87)) else (ck (rng (x1 + 1)) (l_U_advance_2 fu p n (x1 + 1) σ87))) else (some (.inl 1, σ81))) else (some (.inl 1, σ75)))))) else (some (.inl 0, σ3))) else (some (.inr (), σ))
def f_U_advance (fu : Nat) (p : Nat) (σ : SS) : Option (Int × SS) := sr (l_U_advance_2 fu p fu 0 σ) fun (z1 : Unit) σ2 => some (0, σ2)
theorem w_U_advance_166 {g : MG} {d w fu : Nat} {Q : MO → List MC → Prop} {p : Nat} (hF : 3 ≤ d) (hL : 62 ≤ w) (hp : cur p) : ∀ (n : Nat) (x1 : Int) (x2 : Int) (x3 : Int) (x4 : Int) (σ : SS) (h : List MC), Wd h σ → rng x1 → rng x2 → rng x3 → rng x4 → Ew g none M_U_advance d w Q gU (cJ g none M_U_advance d w Q 215 (fun x => [(0, mr p), (1, iI x1)]) (fun x => [])) 166 [(0, mr p), (1, iI x1), (2, iI x2), (3, iI x3), (4, iI x4)] [] h σ (l_U_advance_166 fu p n x1 x2 x3 x4 σ) := by
  intro n
  induction n with
  | zero =>
    intro x1 x2 x3 x4 σ h hW r1 r2 r3 r4 a9 σ9 hm
    rw [l_U_advance_166] at hm
    cases hm
  | succ n ih =>
    intro x1 x2 x3 x4 σ h hW r1 r2 r3 r4
    rw [l_U_advance_166]
    refine w_iload d_U_advance_166 rfl ?_
    refine w_aload_n d_U_advance_168 rfl rfl ?_
    refine w_gi d_U_advance_169 f_U_56 hW (cur_i11 hp) ?_
    refine w_icmp_ge 215 d_U_advance_172 (by decide) r4 (hW.rf _ _) (fun c1 => ?_) (fun c1 => ?_)
    · refine w_aload_n d_U_advance_175 rfl rfl ?_
      refine w_gr d_U_advance_176 f_U_27 hW (cur_r0 hp) ?_
      refine w_iload_n d_U_advance_179 rfl rfl ?_
      refine w_iconst d_U_advance_180 ?_
      refine w_iadd d_U_advance_181 (fun c2 => ?_)
      refine w_iload d_U_advance_182 rfl ?_
      refine w_iadd d_U_advance_184 (fun c3 => ?_)
      refine w_cVI [iI ((x2 + 1) + x4)] [] d_U_advance_185 me_C_codeAt l_U_69 hW (c_C_codeAt hW c3) rfl rfl (Nat.le_of_ble_eq_true rfl) rfl (Nat.le_of_ble_eq_true rfl) (Nat.le_trans (Nat.le_of_ble_eq_true rfl) hF) (Nat.le_trans (Nat.le_of_ble_eq_true rfl) hL) ob1 ⟨_, _, rfl⟩ (fun a4 σ5 h6 W7 q8 => ?_)
      refine w_H_numberOf d_U_advance_188 l_U_75 q8 (Nat.le_of_ble_eq_true rfl) (Nat.le_trans (Nat.le_of_ble_eq_true rfl) hF) (Nat.le_trans (Nat.le_of_ble_eq_true rfl) hL) ?_
      refine w_top (fun y9 e10 => ?_)
      have ry9 : rng y9 := e10 ▸ (rng4 q8)
      refine w_istore [(5, iI y9), (0, mr p), (1, iI x1), (2, iI x2), (3, iI x3), (4, iI x4)] d_U_advance_191 (by decide) rfl ?_
      refine w_aload_n d_U_advance_193 rfl rfl ?_
      refine w_gr d_U_advance_194 f_U_24 W7 (cur_r10 hp) ?_
      refine w_iload d_U_advance_197 rfl ?_
      refine w_aload_n d_U_advance_199 rfl rfl ?_
      refine w_iload d_U_advance_200 rfl ?_
      refine w_iload_n d_U_advance_202 rfl rfl ?_
      refine w_cVI [iI y9, iI x3] [iI x4, mr (p + 5)] d_U_advance_203 me_U_outside l_U_83 W7 (c_U_outside W7 hp ry9 r3) rfl rfl (Nat.le_of_ble_eq_true rfl) rfl (Nat.le_of_ble_eq_true rfl) (Nat.le_trans (Nat.le_of_ble_eq_true rfl) hF) (Nat.le_trans (Nat.le_of_ble_eq_true rfl) hL) (cur_ob hp) ⟨_, _, rfl⟩ (fun a11 σ12 h13 W14 q15 => ?_)
      refine w_set d_U_advance_206 l_U_39 W14 (cur_a5 hp) r4 q15 (Nat.le_of_ble_eq_true rfl) (Nat.le_trans (Nat.le_of_ble_eq_true rfl) hF) (Nat.le_trans (Nat.le_of_ble_eq_true rfl) hL) (fun h16 σ17 e18 W19 => ?_)
      refine w_iinc [(4, iI (x4 + 1)), (5, iI y9), (0, mr p), (1, iI x1), (2, iI x2), (3, iI x3)] d_U_advance_209 rfl (by decide) rfl (fun c20 => ?_)
      refine w_goto 166 d_U_advance_212 (by decide) ?_
      exact w_sub (m_sc2 rfl (m_sc2 rfl (m_sc2 rfl (m_sc2 rfl (m_sc2 rfl (m_sn _)))))) (ih x1 x2 x3 (x4 + 1) _ _ W19 r1 r2 r3 c20)
    · exact w_exit [(0, mr p), (1, iI x1)] (m_sc2 rfl (m_sc2 rfl (m_sn _))) hW (fun _ _ _ k => k) True.intro
theorem w_U_advance_2 {g : MG} {d w fu : Nat} {Q : MO → List MC → Prop} {p : Nat} (hF : 3 ≤ d) (hL : 62 ≤ w) (hp : cur p) : ∀ (n : Nat) (x1 : Int) (σ : SS) (h : List MC), Wd h σ → rng x1 → Ew g none M_U_advance d w Q (gS2 rng gU) (cS2 (cI1 Q) (cJ g none M_U_advance d w Q 254 (fun x => []) (fun x => []))) 2 [(0, mr p), (1, iI x1)] [] h σ (l_U_advance_2 fu p n x1 σ) := by
  intro n
  induction n with
  | zero =>
    intro x1 σ h hW r1 a9 σ9 hm
    rw [l_U_advance_2] at hm
    cases hm
  | succ n ih =>
    intro x1 σ h hW r1
    rw [l_U_advance_2]
    refine w_iload_n d_U_advance_2 rfl rfl ?_
    refine w_ldc 1000000 d_U_advance_3 k_U_59 (by decide) ?_
    refine w_icmp_ge 254 d_U_advance_5 (by decide) r1 (show rng 1000000 by decide) (fun c1 => ?_) (fun c1 => ?_)
    · refine w_aload_n d_U_advance_8 rfl rfl ?_
      refine w_cVU [] [] d_U_advance_9 me_U_leaveEnded l_U_60 hW (c_U_leaveEnded hW hp) rfl rfl (Nat.le_of_ble_eq_true rfl) rfl (Nat.le_of_ble_eq_true rfl) (Nat.le_trans (Nat.le_of_ble_eq_true rfl) hF) (Nat.le_trans (Nat.le_of_ble_eq_true rfl) hL) (cur_ob hp) ⟨_, _, rfl⟩ (fun a2 σ3 h4 W5 q6 => ?_)
      refine w_aload_n d_U_advance_12 rfl rfl ?_
      refine w_gr d_U_advance_13 f_U_9 W5 (cur_r2 hp) ?_
      refine w_aload_n d_U_advance_16 rfl rfl ?_
      refine w_gi d_U_advance_17 f_U_35 W5 (cur_i6 hp) ?_
      refine w_at d_U_advance_20 l_U_43 W5 (cur_a1 hp) (W5.rf _ _) (Nat.le_of_ble_eq_true rfl) (Nat.le_trans (Nat.le_of_ble_eq_true rfl) hF) (Nat.le_trans (Nat.le_of_ble_eq_true rfl) hL) ?_
      refine w_top (fun y7 e8 => ?_)
      have ry7 : rng y7 := e8 ▸ (W5.ga _ _ _)
      refine w_istore_n [(2, iI y7), (0, mr p), (1, iI x1)] d_U_advance_23 rfl (by decide) rfl ?_
      refine w_iload_n d_U_advance_24 rfl rfl ?_
      refine w_aload_n d_U_advance_25 rfl rfl ?_
      refine w_gr d_U_advance_26 f_U_15 W5 (cur_r3 hp) ?_
      refine w_aload_n d_U_advance_29 rfl rfl ?_
      refine w_gi d_U_advance_30 f_U_35 W5 (cur_i6 hp) ?_
      refine w_at d_U_advance_33 l_U_43 W5 (cur_a2 hp) (W5.rf _ _) (Nat.le_of_ble_eq_true rfl) (Nat.le_trans (Nat.le_of_ble_eq_true rfl) hF) (Nat.le_trans (Nat.le_of_ble_eq_true rfl) hL) ?_
      refine w_icmp_lt 41 d_U_advance_36 (by decide) ry7 (W5.ga _ _ _) (fun c9 => ?_) (fun c9 => ?_)
      · refine w_aload_n d_U_advance_41 rfl rfl ?_
        refine w_gr d_U_advance_42 f_U_27 W5 (cur_r0 hp) ?_
        refine w_iload_n d_U_advance_45 rfl rfl ?_
        refine w_cVI [iI y7] [] d_U_advance_46 me_C_boundAt l_U_63 W5 (c_C_boundAt W5 ry7) rfl rfl (Nat.le_of_ble_eq_true rfl) rfl (Nat.le_of_ble_eq_true rfl) (Nat.le_trans (Nat.le_of_ble_eq_true rfl) hF) (Nat.le_trans (Nat.le_of_ble_eq_true rfl) hL) ob1 ⟨_, _, rfl⟩ (fun a10 σ11 h12 W13 q14 => ?_)
        refine w_istore_n [(3, iI a10), (2, iI y7), (0, mr p), (1, iI x1)] d_U_advance_49 rfl (by decide) rfl ?_
        refine w_aload_n d_U_advance_50 rfl rfl ?_
        refine w_aload_n d_U_advance_51 rfl rfl ?_
        refine w_gr d_U_advance_52 f_U_27 W13 (cur_r0 hp) ?_
        refine w_iload_n d_U_advance_55 rfl rfl ?_
        refine w_cVI [iI y7] [mr p] d_U_advance_56 me_C_codeAt l_U_69 W13 (c_C_codeAt W13 ry7) rfl rfl (Nat.le_of_ble_eq_true rfl) rfl (Nat.le_of_ble_eq_true rfl) (Nat.le_trans (Nat.le_of_ble_eq_true rfl) hF) (Nat.le_trans (Nat.le_of_ble_eq_true rfl) hL) ob1 ⟨_, _, rfl⟩ (fun a15 σ16 h17 W18 q19 => ?_)
        refine w_H_sortOf d_U_advance_59 l_U_72 (Nat.le_of_ble_eq_true rfl) (Nat.le_trans (Nat.le_of_ble_eq_true rfl) hF) (Nat.le_trans (Nat.le_of_ble_eq_true rfl) hL) ?_
        refine w_pi d_U_advance_62 p_U_47 W18 (cur_i7 hp) (by decide) (rngm _) (fun h20 σ21 e22 W23 => ?_)
        refine w_aload_n d_U_advance_65 rfl rfl ?_
        refine w_aload_n d_U_advance_66 rfl rfl ?_
        refine w_gr d_U_advance_67 f_U_27 W23 (cur_r0 hp) ?_
        refine w_iload_n d_U_advance_70 rfl rfl ?_
        refine w_cVI [iI y7] [mr p] d_U_advance_71 me_C_codeAt l_U_69 W23 (c_C_codeAt W23 ry7) rfl rfl (Nat.le_of_ble_eq_true rfl) rfl (Nat.le_of_ble_eq_true rfl) (Nat.le_trans (Nat.le_of_ble_eq_true rfl) hF) (Nat.le_trans (Nat.le_of_ble_eq_true rfl) hL) ob1 ⟨_, _, rfl⟩ (fun a24 σ25 h26 W27 q28 => ?_)
        refine w_H_numberOf d_U_advance_74 l_U_75 q28 (Nat.le_of_ble_eq_true rfl) (Nat.le_trans (Nat.le_of_ble_eq_true rfl) hF) (Nat.le_trans (Nat.le_of_ble_eq_true rfl) hL) ?_
        refine w_pi d_U_advance_77 p_U_50 W27 (cur_i8 hp) (by decide) (rng4 q28) (fun h29 σ30 e31 W32 => ?_)
        refine w_aload_n d_U_advance_80 rfl rfl ?_
        refine w_aload_n d_U_advance_81 rfl rfl ?_
        refine w_gr d_U_advance_82 f_U_18 W32 (cur_r4 hp) ?_
        refine w_aload_n d_U_advance_85 rfl rfl ?_
        refine w_gi d_U_advance_86 f_U_35 W32 (cur_i6 hp) ?_
        refine w_at d_U_advance_89 l_U_43 W32 (cur_a3 hp) (W32.rf _ _) (Nat.le_of_ble_eq_true rfl) (Nat.le_trans (Nat.le_of_ble_eq_true rfl) hF) (Nat.le_trans (Nat.le_of_ble_eq_true rfl) hL) ?_
        refine w_iload_n d_U_advance_92 rfl rfl ?_
        refine w_iadd d_U_advance_93 (fun c33 => ?_)
        refine w_pi d_U_advance_94 p_U_53 W32 (cur_i9 hp) (by decide) c33 (fun h34 σ35 e36 W37 => ?_)
        refine w_aload_n d_U_advance_97 rfl rfl ?_
        refine w_aload_n d_U_advance_98 rfl rfl ?_
        refine w_gi d_U_advance_99 f_U_47 W37 (cur_i7 hp) ?_
        refine w_iconst d_U_advance_102 ?_
        refine w_sq (G1 := rng) (J := 121) (lvJ := fun x => [(0, mr p), (1, iI x1), (2, iI y7), (3, iI a10)]) (stJ := fun x => [iI x, mr p]) ?_ (fun z44 σ45 h46 W47 q48 => ?_)
        · refine w_icmp_ne 120 d_U_advance_103 (by decide) (W37.rf _ _) (show rng 2 by decide) (fun c38 => ?_) (fun c38 => ?_)
          · refine w_aload_n d_U_advance_106 rfl rfl ?_
            refine w_gr d_U_advance_107 f_U_31 W37 (cur_r1 hp) ?_
            refine w_aload_n d_U_advance_110 rfl rfl ?_
            refine w_gi d_U_advance_111 f_U_50 W37 (cur_i8 hp) ?_
            refine w_cVI [iI (σ35.1 p 8)] [mr p] d_U_advance_114 me_G_parametersOf l_U_78 W37 (c_G_parametersOf W37 (W37.rf _ _)) rfl rfl (Nat.le_of_ble_eq_true rfl) rfl (Nat.le_of_ble_eq_true rfl) (Nat.le_trans (Nat.le_of_ble_eq_true rfl) hF) (Nat.le_trans (Nat.le_of_ble_eq_true rfl) hL) ob7 ⟨_, _, rfl⟩ (fun a39 σ40 h41 W42 q43 => ?_)
            refine w_goto 121 d_U_advance_117 (by decide) ?_
            exact w_exit [(0, mr p), (1, iI x1), (2, iI y7), (3, iI a10)] (m_sc2 rfl (m_sc2 rfl (m_sc2 rfl (m_sc2 rfl (m_sn _))))) W42 (fun _ _ _ k => k) q43
          · refine w_iconst d_U_advance_120 ?_
            exact w_exit [(0, mr p), (1, iI x1), (2, iI y7), (3, iI a10)] (m_sc2 rfl (m_sc2 rfl (m_sc2 rfl (m_sc2 rfl (m_sn _))))) W37 (fun _ _ _ k => k) (show rng 0 by decide)
        · show Ew _ _ _ _ _ _ _ _ 121 [(0, mr p), (1, iI x1), (2, iI y7), (3, iI a10)] [iI z44, mr p] _ _ _
          refine w_pi d_U_advance_121 p_U_56 W47 (cur_i11 hp) (by decide) q48 (fun h49 σ50 e51 W52 => ?_)
          refine w_aload_n d_U_advance_124 rfl rfl ?_
          refine w_gr d_U_advance_125 f_U_9 W52 (cur_r2 hp) ?_
          refine w_aload_n d_U_advance_128 rfl rfl ?_
          refine w_gi d_U_advance_129 f_U_35 W52 (cur_i6 hp) ?_
          refine w_iload_n d_U_advance_132 rfl rfl ?_
          refine w_iconst d_U_advance_133 ?_
          refine w_iadd d_U_advance_134 (fun c53 => ?_)
          refine w_aload_n d_U_advance_135 rfl rfl ?_
          refine w_gi d_U_advance_136 f_U_56 W52 (cur_i11 hp) ?_
          refine w_iadd d_U_advance_139 (fun c54 => ?_)
          refine w_set d_U_advance_140 l_U_39 W52 (cur_a1 hp) (W52.rf _ _) c54 (Nat.le_of_ble_eq_true rfl) (Nat.le_trans (Nat.le_of_ble_eq_true rfl) hF) (Nat.le_trans (Nat.le_of_ble_eq_true rfl) hL) (fun h55 σ56 e57 W58 => ?_)
          refine w_aload_n d_U_advance_143 rfl rfl ?_
          refine w_gi d_U_advance_144 f_U_47 W58 (cur_i7 hp) ?_
          refine w_sq (G1 := gU) (J := 163) (lvJ := fun x => [(0, mr p), (1, iI x1), (2, iI y7), (3, iI a10)]) (stJ := fun x => []) ?_ (fun z69 σ70 h71 W72 q73 => ?_)
          · refine w_if_ne 163 d_U_advance_147 (by decide) (W58.rf _ _) (fun c59 => ?_) (fun c59 => ?_)
            · refine w_aload_n d_U_advance_150 rfl rfl ?_
              refine w_aload_n d_U_advance_151 rfl rfl ?_
              refine w_aload_n d_U_advance_152 rfl rfl ?_
              refine w_gi d_U_advance_153 f_U_50 W58 (cur_i8 hp) ?_
              refine w_iload_n d_U_advance_156 rfl rfl ?_
              refine w_cVI [iI (σ56.1 p 8), iI a10] [mr p] d_U_advance_157 me_U_outside l_U_83 W58 (c_U_outside W58 hp (W58.rf _ _) q14) rfl rfl (Nat.le_of_ble_eq_true rfl) rfl (Nat.le_of_ble_eq_true rfl) (Nat.le_trans (Nat.le_of_ble_eq_true rfl) hF) (Nat.le_trans (Nat.le_of_ble_eq_true rfl) hL) (cur_ob hp) ⟨_, _, rfl⟩ (fun a60 σ61 h62 W63 q64 => ?_)
              refine w_pi d_U_advance_160 p_U_50 W63 (cur_i8 hp) (by decide) q64 (fun h65 σ66 e67 W68 => ?_)
              exact w_exit [(0, mr p), (1, iI x1), (2, iI y7), (3, iI a10)] (m_sc2 rfl (m_sc2 rfl (m_sc2 rfl (m_sc2 rfl (m_sn _))))) W68 (fun _ _ _ k => k) True.intro
            · exact w_exit [(0, mr p), (1, iI x1), (2, iI y7), (3, iI a10)] (m_sc2 rfl (m_sc2 rfl (m_sc2 rfl (m_sc2 rfl (m_sn _))))) W58 (fun _ _ _ k => k) True.intro
          · show Ew _ _ _ _ _ _ _ _ 163 [(0, mr p), (1, iI x1), (2, iI y7), (3, iI a10)] [] _ _ _
            refine w_iconst d_U_advance_163 ?_
            refine w_istore [(4, iI 0), (0, mr p), (1, iI x1), (2, iI y7), (3, iI a10)] d_U_advance_164 (by decide) rfl ?_
            refine w_sq (G1 := gU) (J := 215) (lvJ := fun x => [(0, mr p), (1, iI x1)]) (stJ := fun x => []) (w_sub (m_sc2 rfl (m_sc2 rfl (m_sc2 rfl (m_sc2 rfl (m_sc2 rfl (m_sn _)))))) (w_U_advance_166 hF hL hp fu x1 y7 a10 0 _ _ W72 r1 ry7 q14 (show rng 0 by decide))) (fun z74 σ75 h76 W77 q78 => ?_)
            show Ew _ _ _ _ _ _ _ _ 215 [(0, mr p), (1, iI x1)] [] _ _ _
            refine w_aload_n d_U_advance_215 rfl rfl ?_
            refine w_gi d_U_advance_216 f_U_47 W77 (cur_i7 hp) ?_
            refine w_iconst d_U_advance_219 ?_
            refine w_icmp_ne 237 d_U_advance_220 (by decide) (W77.rf _ _) (show rng 2 by decide) (fun c79 => ?_) (fun c79 => ?_)
            · refine w_aload_n d_U_advance_223 rfl rfl ?_
              refine w_gr d_U_advance_224 f_U_31 W77 (cur_r1 hp) ?_
              refine w_aload_n d_U_advance_227 rfl rfl ?_
              refine w_gi d_U_advance_228 f_U_50 W77 (cur_i8 hp) ?_
              refine w_cVI [iI (σ75.1 p 8)] [] d_U_advance_231 me_G_isOpen l_U_87 W77 (c_G_isOpen W77 (W77.rf _ _)) rfl rfl (Nat.le_of_ble_eq_true rfl) rfl (Nat.le_of_ble_eq_true rfl) (Nat.le_trans (Nat.le_of_ble_eq_true rfl) hF) (Nat.le_trans (Nat.le_of_ble_eq_true rfl) hL) ob7 ⟨_, _, rfl⟩ (fun a80 σ81 h82 W83 q84 => ?_)
              refine w_if_eq 239 d_U_advance_234 (by decide) q84 (fun c85 => ?_) (fun c85 => ?_)
              · refine w_aload_n d_U_advance_239 rfl rfl ?_
                refine w_cVI [] [] d_U_advance_240 me_U_enterFilling l_U_91 W83 (c_U_enterFilling W83 hp) rfl rfl (Nat.le_of_ble_eq_true rfl) rfl (Nat.le_of_ble_eq_true rfl) (Nat.le_trans (Nat.le_of_ble_eq_true rfl) hF) (Nat.le_trans (Nat.le_of_ble_eq_true rfl) hL) (cur_ob hp) ⟨_, _, rfl⟩ (fun a86 σ87 h88 W89 q90 => ?_)
                refine w_if_ne 248 d_U_advance_243 (by decide) q90 (fun c91 => ?_) (fun c91 => ?_)
                · refine w_iconst d_U_advance_246 ?_
                  exact w_zret d_U_advance_247 rfl (by decide) W89 (fun _ _ _ k => k) (show rng 0 by decide)
                · refine w_iinc [(1, iI (x1 + 1)), (0, mr p)] d_U_advance_248 rfl (by decide) rfl (fun c92 => ?_)
                  refine w_goto 2 d_U_advance_251 (by decide) ?_
                  exact w_sub (m_sc2 rfl (m_sc2 rfl (m_sn _))) (ih (x1 + 1) _ _ W89 c92)
              · refine w_iconst d_U_advance_237 ?_
                exact w_zret d_U_advance_238 rfl (by decide) W83 (fun _ _ _ k => k) (show rng 1 by decide)
            · refine w_iconst d_U_advance_237 ?_
              exact w_zret d_U_advance_238 rfl (by decide) W77 (fun _ _ _ k => k) (show rng 1 by decide)
      · refine w_iconst d_U_advance_39 ?_
        exact w_zret d_U_advance_40 rfl (by decide) W5 (fun _ _ _ k => k) (show rng 0 by decide)
    · exact w_exit [] (m_sn _) hW (fun _ _ _ k => k) True.intro
theorem c_U_advance {g : MG} {fu : Nat} {h : List MC} {σ : SS} {p : Nat} (hW : Wd h σ) (hp : cur p) : Cw g M_U_advance 3 62 [mr p] rng cI1 h σ (f_U_advance fu p σ) := by
  refine w_of (fun d w Q hF hL => ?_)
  unfold f_U_advance
  show Ew g none M_U_advance d w Q rng (cI1 Q) 0 [(0, mr p)] [] h σ _
  refine w_iconst d_U_advance_0 ?_
  refine w_istore_n [(1, iI 0), (0, mr p)] d_U_advance_1 rfl (by decide) rfl ?_
  refine w_sr (G1 := gU) (J := 254) (lvJ := fun x => []) (stJ := fun x => []) (w_sub (m_sc2 rfl (m_sc2 rfl (m_sn _))) (w_U_advance_2 hF hL hp fu 0 _ _ hW (show rng 0 by decide))) (fun z1 σ2 h3 W4 q5 => ?_)
  show Ew _ _ _ _ _ _ _ _ 254 [] [] _ _ _
  refine w_iconst d_U_advance_254 ?_
  exact w_zret d_U_advance_255 rfl (by decide) W4 (fun _ _ _ k => k) (show rng 0 by decide)
def f_G_makeNew (x1 : Int) (σ : SS) : Option (Int × SS) := ck (rng ((σ.1 7 6) + (σ.1 7 7))) (if ((σ.1 7 6) + (σ.1 7 7)) < 300 then (ck (rng (24 + (σ.1 7 7))) (lb (24 + (σ.1 7 7)) fun y4 => lb (gS σ 8 324 y4 x1) fun σ7 => ck (rng ((σ7.1 7 7) + 1)) (lb (sF σ7 7 7 ((σ7.1 7 7) + 1)) fun σ12 => some (y4, σ12)))) else (some ((-1), σ)))
theorem c_G_makeNew {g : MG} {h : List MC} {σ : SS} {x1 : Int} (hW : Wd h σ) (r1 : rng x1) : Cw g M_G_makeNew 1 22 [mr 7, iI x1] rng cI1 h σ (f_G_makeNew x1 σ) := by
  refine w_of (fun d w Q hF hL => ?_)
  unfold f_G_makeNew
  show Ew g none M_G_makeNew d w Q rng (cI1 Q) 0 [(0, mr 7), (1, iI x1)] [] h σ _
  refine w_aload_n d_G_makeNew_0 rfl rfl ?_
  refine w_gi d_G_makeNew_1 f_G_31 hW oi7_6 ?_
  refine w_aload_n d_G_makeNew_4 rfl rfl ?_
  refine w_gi d_G_makeNew_5 f_G_39 hW oi7_7 ?_
  refine w_iadd d_G_makeNew_8 (fun c1 => ?_)
  refine w_sipush d_G_makeNew_9 (by decide) ?_
  refine w_icmp_lt 17 d_G_makeNew_12 (by decide) c1 (show rng 300 by decide) (fun c2 => ?_) (fun c2 => ?_)
  · refine w_bipush d_G_makeNew_17 (by decide) ?_
    refine w_aload_n d_G_makeNew_19 rfl rfl ?_
    refine w_gi d_G_makeNew_20 f_G_39 hW oi7_7 ?_
    refine w_iadd d_G_makeNew_23 (fun c3 => ?_)
    refine w_top (fun y4 e5 => ?_)
    have ry4 : rng y4 := e5 ▸ c3
    refine w_istore_n [(2, iI y4), (0, mr 7), (1, iI x1)] d_G_makeNew_24 rfl (by decide) rfl ?_
    refine w_aload_n d_G_makeNew_25 rfl rfl ?_
    refine w_gr d_G_makeNew_26 f_G_9 hW or7_1 ?_
    refine w_iload_n d_G_makeNew_29 rfl rfl ?_
    refine w_iload_n d_G_makeNew_30 rfl rfl ?_
    refine w_set d_G_makeNew_31 l_G_35 hW ia8 ry4 r1 (Nat.le_of_ble_eq_true rfl) (Nat.le_trans (Nat.le_of_ble_eq_true rfl) hF) (Nat.le_trans (Nat.le_of_ble_eq_true rfl) hL) (fun h6 σ7 e8 W9 => ?_)
    refine w_aload_n d_G_makeNew_34 rfl rfl ?_
    refine w_dup d_G_makeNew_35 rfl ?_
    refine w_gi d_G_makeNew_36 f_G_39 W9 oi7_7 ?_
    refine w_iconst d_G_makeNew_39 ?_
    refine w_iadd d_G_makeNew_40 (fun c10 => ?_)
    refine w_pi d_G_makeNew_41 p_G_39 W9 oi7_7 (by decide) c10 (fun h11 σ12 e13 W14 => ?_)
    refine w_iload_n d_G_makeNew_44 rfl rfl ?_
    exact w_iret d_G_makeNew_45 rfl W14 (fun _ _ _ k => k) ry4
  · refine w_iconst d_G_makeNew_15 ?_
    exact w_iret d_G_makeNew_16 rfl hW (fun _ _ _ k => k) (show rng (-1) by decide)
def f_G_fillFrom (x1 : Int) (x2 : Int) (σ : SS) : Option (Unit × SS) := lb (gS σ 9 324 x1 x2) fun σ2 => lb (gS σ2 10 324 x1 (σ2.1 1 2)) fun σ6 => lb (gS σ6 12 324 (σ6.1 7 8) x1) fun σ10 => ck (rng ((σ10.1 7 8) + 1)) (lb (sF σ10 7 8 ((σ10.1 7 8) + 1)) fun σ15 => some ((), σ15))
theorem c_G_fillFrom {g : MG} {h : List MC} {σ : SS} {x1 : Int} {x2 : Int} (hW : Wd h σ) (r1 : rng x1) (r2 : rng x2) : Cw g M_G_fillFrom 1 22 [mr 7, iI x1, iI x2] gU cU1 h σ (f_G_fillFrom x1 x2 σ) := by
  refine w_of (fun d w Q hF hL => ?_)
  unfold f_G_fillFrom
  show Ew g none M_G_fillFrom d w Q gU (cU1 Q) 0 [(0, mr 7), (1, iI x1), (2, iI x2)] [] h σ _
  refine w_aload_n d_G_fillFrom_0 rfl rfl ?_
  refine w_gr d_G_fillFrom_1 f_G_15 hW or7_2 ?_
  refine w_iload_n d_G_fillFrom_4 rfl rfl ?_
  refine w_iload_n d_G_fillFrom_5 rfl rfl ?_
  refine w_set d_G_fillFrom_6 l_G_35 hW ia9 r1 r2 (Nat.le_of_ble_eq_true rfl) (Nat.le_trans (Nat.le_of_ble_eq_true rfl) hF) (Nat.le_trans (Nat.le_of_ble_eq_true rfl) hL) (fun h1 σ2 e3 W4 => ?_)
  refine w_aload_n d_G_fillFrom_9 rfl rfl ?_
  refine w_gr d_G_fillFrom_10 f_G_18 W4 or7_3 ?_
  refine w_iload_n d_G_fillFrom_13 rfl rfl ?_
  refine w_aload_n d_G_fillFrom_14 rfl rfl ?_
  refine w_gr d_G_fillFrom_15 f_G_27 W4 or7_0 ?_
  refine w_gi d_G_fillFrom_18 f_G_46 W4 oi1_2 ?_
  refine w_set d_G_fillFrom_21 l_G_35 W4 ia10 r1 (W4.rf _ _) (Nat.le_of_ble_eq_true rfl) (Nat.le_trans (Nat.le_of_ble_eq_true rfl) hF) (Nat.le_trans (Nat.le_of_ble_eq_true rfl) hL) (fun h5 σ6 e7 W8 => ?_)
  refine w_aload_n d_G_fillFrom_24 rfl rfl ?_
  refine w_gr d_G_fillFrom_25 f_G_24 W8 or7_5 ?_
  refine w_aload_n d_G_fillFrom_28 rfl rfl ?_
  refine w_gi d_G_fillFrom_29 f_G_66 W8 oi7_8 ?_
  refine w_iload_n d_G_fillFrom_32 rfl rfl ?_
  refine w_set d_G_fillFrom_33 l_G_35 W8 ia12 (W8.rf _ _) r1 (Nat.le_of_ble_eq_true rfl) (Nat.le_trans (Nat.le_of_ble_eq_true rfl) hF) (Nat.le_trans (Nat.le_of_ble_eq_true rfl) hL) (fun h9 σ10 e11 W12 => ?_)
  refine w_aload_n d_G_fillFrom_36 rfl rfl ?_
  refine w_dup d_G_fillFrom_37 rfl ?_
  refine w_gi d_G_fillFrom_38 f_G_66 W12 oi7_8 ?_
  refine w_iconst d_G_fillFrom_41 ?_
  refine w_iadd d_G_fillFrom_42 (fun c13 => ?_)
  refine w_pi d_G_fillFrom_43 p_G_66 W12 oi7_8 (by decide) c13 (fun h14 σ15 e16 W17 => ?_)
  exact w_ret d_G_fillFrom_46 rfl W17 (fun _ _ _ k => k) True.intro
def l_G_fillWithHole_39 (fu : Nat) (q : Nat) : Nat → Int → Int → Int → Int → SS → Option ((Unit) × SS)
  | 0, _, _, _, _, _ => none
  | n + 1, x1, x4, x5, x6, σ => if x6 < x5 then (ck (rng (4 * (gA σ q 4 x6) + 0)) (sq (f_C_append (4 * (gA σ q 4 x6) + 0) 0 σ) fun (a3 : Unit) σ4 => ck (rng (x6 + 1)) (l_G_fillWithHole_39 fu q n x1 x4 x5 (x6 + 1) σ4))) else (some ((), σ))
def f_G_fillWithHole (fu : Nat) (x1 : Int) (x2 : Int) (q : Nat) (σ : SS) : Option (Int × SS) := if x2 = (-1) then (some (0, σ)) else (lb (σ.1 1 2) fun y2 => ck (rng (4 * x2 + 2)) (sq (f_C_append (4 * x2 + 2) 0 σ) fun (a5 : Unit) σ6 => sq (f_G_parametersOf x2 σ6) fun (a10 : Int) σ11 => sq (l_G_fillWithHole_39 fu q fu x1 y2 a10 0 σ11) fun (z15 : Unit) σ16 => sq (f_G_fillFrom x1 y2 σ16) fun (a20 : Unit) σ21 => some (1, σ21)))
theorem w_G_fillWithHole_39 {g : MG} {d w fu : Nat} {Q : MO → List MC → Prop} {q : Nat} (hF : 3 ≤ d) (hL : 70 ≤ w) (hq : ia q 4) : ∀ (n : Nat) (x1 : Int) (x4 : Int) (x5 : Int) (x6 : Int) (σ : SS) (h : List MC), Wd h σ → rng x1 → rng x4 → rng x5 → rng x6 → Ew g none M_G_fillWithHole d w Q gU (cJ g none M_G_fillWithHole d w Q 70 (fun x => [(0, mr 7), (1, iI x1), (4, iI x4)]) (fun x => [])) 39 [(0, mr 7), (1, iI x1), (3, mr q), (4, iI x4), (5, iI x5), (6, iI x6)] [] h σ (l_G_fillWithHole_39 fu q n x1 x4 x5 x6 σ) := by
  intro n
  induction n with
  | zero =>
    intro x1 x4 x5 x6 σ h hW r1 r4 r5 r6 a9 σ9 hm
    rw [l_G_fillWithHole_39] at hm
    cases hm
  | succ n ih =>
    intro x1 x4 x5 x6 σ h hW r1 r4 r5 r6
    rw [l_G_fillWithHole_39]
    refine w_iload d_G_fillWithHole_39 rfl ?_
    refine w_iload d_G_fillWithHole_41 rfl ?_
    refine w_icmp_ge 70 d_G_fillWithHole_43 (by decide) r6 r5 (fun c1 => ?_) (fun c1 => ?_)
    · refine w_aload_n d_G_fillWithHole_46 rfl rfl ?_
      refine w_gr d_G_fillWithHole_47 f_G_27 hW or7_0 ?_
      refine w_iconst d_G_fillWithHole_50 ?_
      refine w_aload_n d_G_fillWithHole_51 rfl rfl ?_
      refine w_iload d_G_fillWithHole_52 rfl ?_
      refine w_at d_G_fillWithHole_54 l_G_42 hW hq r6 (Nat.le_of_ble_eq_true rfl) (Nat.le_trans (Nat.le_of_ble_eq_true rfl) hF) (Nat.le_trans (Nat.le_of_ble_eq_true rfl) hL) ?_
      refine w_codeOf d_G_fillWithHole_57 l_G_51 (Nat.le_of_ble_eq_true rfl) (Nat.le_trans (Nat.le_of_ble_eq_true rfl) hF) (Nat.le_trans (Nat.le_of_ble_eq_true rfl) hL) (fun c2 => ?_)
      refine w_iconst d_G_fillWithHole_60 ?_
      refine w_cVU [iI (4 * (gA σ q 4 x6) + 0), iI 0] [] d_G_fillWithHole_61 me_C_append l_G_55 hW (c_C_append hW c2 (show rng 0 by decide)) rfl rfl (Nat.le_of_ble_eq_true rfl) rfl (Nat.le_of_ble_eq_true rfl) (Nat.le_trans (Nat.le_of_ble_eq_true rfl) hF) (Nat.le_trans (Nat.le_of_ble_eq_true rfl) hL) ob1 ⟨_, _, rfl⟩ (fun a3 σ4 h5 W6 q7 => ?_)
      refine w_iinc [(6, iI (x6 + 1)), (0, mr 7), (1, iI x1), (3, mr q), (4, iI x4), (5, iI x5)] d_G_fillWithHole_64 rfl (by decide) rfl (fun c8 => ?_)
      refine w_goto 39 d_G_fillWithHole_67 (by decide) ?_
      exact w_sub (m_sc2 rfl (m_sc2 rfl (m_sc2 rfl (m_sc2 rfl (m_sc2 rfl (m_sc2 rfl (m_sn _))))))) (ih x1 x4 x5 (x6 + 1) _ _ W6 r1 r4 r5 c8)
    · exact w_exit [(0, mr 7), (1, iI x1), (4, iI x4)] (m_sc2 rfl (m_sc2 rfl (m_sc2 rfl (m_sn _)))) hW (fun _ _ _ k => k) True.intro
theorem c_G_fillWithHole {g : MG} {fu : Nat} {h : List MC} {σ : SS} {x1 : Int} {x2 : Int} {q : Nat} (hW : Wd h σ) (r1 : rng x1) (r2 : rng x2) (hq : ia q 4) : Cw g M_G_fillWithHole 3 70 [mr 7, iI x1, iI x2, mr q] rng cI1 h σ (f_G_fillWithHole fu x1 x2 q σ) := by
  refine w_of (fun d w Q hF hL => ?_)
  unfold f_G_fillWithHole
  show Ew g none M_G_fillWithHole d w Q rng (cI1 Q) 0 [(0, mr 7), (1, iI x1), (2, iI x2), (3, mr q)] [] h σ _
  refine w_iload_n d_G_fillWithHole_0 rfl rfl ?_
  refine w_iconst d_G_fillWithHole_1 ?_
  refine w_icmp_ne 7 d_G_fillWithHole_2 (by decide) r2 (show rng (-1) by decide) (fun c1 => ?_) (fun c1 => ?_)
  · refine w_iconst d_G_fillWithHole_5 ?_
    exact w_zret d_G_fillWithHole_6 rfl (by decide) hW (fun _ _ _ k => k) (show rng 0 by decide)
  · refine w_aload_n d_G_fillWithHole_7 rfl rfl ?_
    refine w_gr d_G_fillWithHole_8 f_G_27 hW or7_0 ?_
    refine w_gi d_G_fillWithHole_11 f_G_46 hW oi1_2 ?_
    refine w_top (fun y2 e3 => ?_)
    have ry2 : rng y2 := e3 ▸ (hW.rf _ _)
    refine w_istore [(4, iI y2), (0, mr 7), (1, iI x1), (2, iI x2), (3, mr q)] d_G_fillWithHole_14 (by decide) rfl ?_
    refine w_aload_n d_G_fillWithHole_16 rfl rfl ?_
    refine w_gr d_G_fillWithHole_17 f_G_27 hW or7_0 ?_
    refine w_iconst d_G_fillWithHole_20 ?_
    refine w_iload_n d_G_fillWithHole_21 rfl rfl ?_
    refine w_codeOf d_G_fillWithHole_22 l_G_51 (Nat.le_of_ble_eq_true rfl) (Nat.le_trans (Nat.le_of_ble_eq_true rfl) hF) (Nat.le_trans (Nat.le_of_ble_eq_true rfl) hL) (fun c4 => ?_)
    refine w_iconst d_G_fillWithHole_25 ?_
    refine w_cVU [iI (4 * x2 + 2), iI 0] [] d_G_fillWithHole_26 me_C_append l_G_55 hW (c_C_append hW c4 (show rng 0 by decide)) rfl rfl (Nat.le_of_ble_eq_true rfl) rfl (Nat.le_of_ble_eq_true rfl) (Nat.le_trans (Nat.le_of_ble_eq_true rfl) hF) (Nat.le_trans (Nat.le_of_ble_eq_true rfl) hL) ob1 ⟨_, _, rfl⟩ (fun a5 σ6 h7 W8 q9 => ?_)
    refine w_aload_n d_G_fillWithHole_29 rfl rfl ?_
    refine w_iload_n d_G_fillWithHole_30 rfl rfl ?_
    refine w_cVI [iI x2] [] d_G_fillWithHole_31 me_G_parametersOf l_G_59 W8 (c_G_parametersOf W8 r2) rfl rfl (Nat.le_of_ble_eq_true rfl) rfl (Nat.le_of_ble_eq_true rfl) (Nat.le_trans (Nat.le_of_ble_eq_true rfl) hF) (Nat.le_trans (Nat.le_of_ble_eq_true rfl) hL) ob7 ⟨_, _, rfl⟩ (fun a10 σ11 h12 W13 q14 => ?_)
    refine w_istore [(5, iI a10), (4, iI y2), (0, mr 7), (1, iI x1), (2, iI x2), (3, mr q)] d_G_fillWithHole_34 (by decide) rfl ?_
    refine w_iconst d_G_fillWithHole_36 ?_
    refine w_istore [(6, iI 0), (5, iI a10), (4, iI y2), (0, mr 7), (1, iI x1), (2, iI x2), (3, mr q)] d_G_fillWithHole_37 (by decide) rfl ?_
    refine w_sq (G1 := gU) (J := 70) (lvJ := fun x => [(0, mr 7), (1, iI x1), (4, iI y2)]) (stJ := fun x => []) (w_sub (m_sc2 rfl (m_sc2 rfl (m_sc2 rfl (m_sc2 rfl (m_sc2 rfl (m_sc2 rfl (m_sn _))))))) (w_G_fillWithHole_39 hF hL hq fu x1 y2 a10 0 _ _ W13 r1 ry2 q14 (show rng 0 by decide))) (fun z15 σ16 h17 W18 q19 => ?_)
    show Ew _ _ _ _ _ _ _ _ 70 [(0, mr 7), (1, iI x1), (4, iI y2)] [] _ _ _
    refine w_aload_n d_G_fillWithHole_70 rfl rfl ?_
    refine w_iload_n d_G_fillWithHole_71 rfl rfl ?_
    refine w_iload d_G_fillWithHole_72 rfl ?_
    refine w_cVU [iI x1, iI y2] [] d_G_fillWithHole_74 me_G_fillFrom l_G_63 W18 (c_G_fillFrom W18 r1 ry2) rfl rfl (Nat.le_of_ble_eq_true rfl) rfl (Nat.le_of_ble_eq_true rfl) (Nat.le_trans (Nat.le_of_ble_eq_true rfl) hF) (Nat.le_trans (Nat.le_of_ble_eq_true rfl) hL) ob7 ⟨_, _, rfl⟩ (fun a20 σ21 h22 W23 q24 => ?_)
    refine w_iconst d_G_fillWithHole_77 ?_
    exact w_zret d_G_fillWithHole_78 rfl (by decide) W23 (fun _ _ _ k => k) (show rng 1 by decide)
def l_N_narrowToSame_4 (fu : Nat) : Nat → Int → Int → SS → Option ((Int) × SS)
  | 0, _, _, _ => none
  | n + 1, x1, x2, σ => if x2 < (σ.1 30 11) then (sq (if (gA σ (30 + 5) 4 x2) = (gA σ (36 + 5) 4 x2) then (lb (gS σ 43 4 x1 x2) fun σ4 => ck (rng (x1 + 1)) (some ((x1 + 1), σ4))) else (some (x1, σ))) fun (z8 : Int) σ9 => ck (rng (x2 + 1)) (l_N_narrowToSame_4 fu n z8 (x2 + 1) σ9)) else (some (x1, σ))
def f_N_narrowToSame (fu : Nat) (σ : SS) : Option (Int × SS) := sq (l_N_narrowToSame_4 fu fu 0 0 σ) fun (z1 : Int) σ2 => if z1 = (σ2.1 30 11) then (some (0, σ2)) else (sq (f_G_makeNew z1 σ2) fun (a7 : Int) σ8 => sq (f_G_fillWithHole fu (σ2.1 30 8) a7 43 σ8) fun (a12 : Int) σ13 => if a12 = 0 then (some (5, σ13)) else (some (0, σ13)))
theorem w_N_narrowToSame_4 {g : MG} {d w fu : Nat} {Q : MO → List MC → Prop} (hF : 4 ≤ d) (hL : 96 ≤ w) : ∀ (n : Nat) (x1 : Int) (x2 : Int) (σ : SS) (h : List MC), Wd h σ → rng x1 → rng x2 → Ew g none M_N_narrowToSame d w Q rng (cJ g none M_N_narrowToSame d w Q 58 (fun x => [(0, mr 42), (1, iI x)]) (fun x => [])) 4 [(0, mr 42), (1, iI x1), (2, iI x2)] [] h σ (l_N_narrowToSame_4 fu n x1 x2 σ) := by
  intro n
  induction n with
  | zero =>
    intro x1 x2 σ h hW r1 r2 a9 σ9 hm
    rw [l_N_narrowToSame_4] at hm
    cases hm
  | succ n ih =>
    intro x1 x2 σ h hW r1 r2
    rw [l_N_narrowToSame_4]
    refine w_iload_n d_N_narrowToSame_4 rfl rfl ?_
    refine w_aload_n d_N_narrowToSame_5 rfl rfl ?_
    refine w_gr d_N_narrowToSame_6 f_N_30 hW or42_3 ?_
    refine w_gi d_N_narrowToSame_9 f_N_72 hW (cur_i11 cur30) ?_
    refine w_icmp_ge 58 d_N_narrowToSame_12 (by decide) r2 (hW.rf _ _) (fun c1 => ?_) (fun c1 => ?_)
    · refine w_aload_n d_N_narrowToSame_15 rfl rfl ?_
      refine w_gr d_N_narrowToSame_16 f_N_30 hW or42_3 ?_
      refine w_gr d_N_narrowToSame_19 f_N_75 hW (cur_r10 cur30) ?_
      refine w_iload_n d_N_narrowToSame_22 rfl rfl ?_
      refine w_at d_N_narrowToSame_23 l_N_78 hW (cur_a5 cur30) r2 (Nat.le_of_ble_eq_true rfl) (Nat.le_trans (Nat.le_of_ble_eq_true rfl) hF) (Nat.le_trans (Nat.le_of_ble_eq_true rfl) hL) ?_
      refine w_aload_n d_N_narrowToSame_26 rfl rfl ?_
      refine w_gr d_N_narrowToSame_27 f_N_34 hW or42_4 ?_
      refine w_gr d_N_narrowToSame_30 f_N_75 hW (cur_r10 cur36) ?_
      refine w_iload_n d_N_narrowToSame_33 rfl rfl ?_
      refine w_at d_N_narrowToSame_34 l_N_78 hW (cur_a5 cur36) r2 (Nat.le_of_ble_eq_true rfl) (Nat.le_trans (Nat.le_of_ble_eq_true rfl) hF) (Nat.le_trans (Nat.le_of_ble_eq_true rfl) hL) ?_
      refine w_sq (G1 := rng) (J := 52) (lvJ := fun x => [(0, mr 42), (1, iI x), (2, iI x2)]) (stJ := fun x => []) ?_ (fun z8 σ9 h10 W11 q12 => ?_)
      · refine w_icmp_ne 52 d_N_narrowToSame_37 (by decide) (hW.ga _ _ _) (hW.ga _ _ _) (fun c2 => ?_) (fun c2 => ?_)
        · refine w_aload_n d_N_narrowToSame_40 rfl rfl ?_
          refine w_gr d_N_narrowToSame_41 f_N_9 hW or42_6 ?_
          refine w_iload_n d_N_narrowToSame_44 rfl rfl ?_
          refine w_iload_n d_N_narrowToSame_45 rfl rfl ?_
          refine w_set d_N_narrowToSame_46 l_N_82 hW ia43 r1 r2 (Nat.le_of_ble_eq_true rfl) (Nat.le_trans (Nat.le_of_ble_eq_true rfl) hF) (Nat.le_trans (Nat.le_of_ble_eq_true rfl) hL) (fun h3 σ4 e5 W6 => ?_)
          refine w_iinc [(1, iI (x1 + 1)), (0, mr 42), (2, iI x2)] d_N_narrowToSame_49 rfl (by decide) rfl (fun c7 => ?_)
          exact w_exit [(0, mr 42), (1, iI (x1 + 1)), (2, iI x2)] (m_sc2 rfl (m_sc2 rfl (m_sc2 rfl (m_sn _)))) W6 (fun _ _ _ k => k) c7
        · exact w_exit [(0, mr 42), (1, iI x1), (2, iI x2)] (m_sc2 rfl (m_sc2 rfl (m_sc2 rfl (m_sn _)))) hW (fun _ _ _ k => k) r1
      · show Ew _ _ _ _ _ _ _ _ 52 [(0, mr 42), (1, iI z8), (2, iI x2)] [] _ _ _
        refine w_iinc [(2, iI (x2 + 1)), (0, mr 42), (1, iI z8)] d_N_narrowToSame_52 rfl (by decide) rfl (fun c13 => ?_)
        refine w_goto 4 d_N_narrowToSame_55 (by decide) ?_
        exact w_sub (m_sc2 rfl (m_sc2 rfl (m_sc2 rfl (m_sn _)))) (ih z8 (x2 + 1) _ _ W11 q12 c13)
    · exact w_exit [(0, mr 42), (1, iI x1)] (m_sc2 rfl (m_sc2 rfl (m_sn _))) hW (fun _ _ _ k => k) r1
theorem c_N_narrowToSame {g : MG} {fu : Nat} {h : List MC} {σ : SS} (hW : Wd h σ) : Cw g M_N_narrowToSame 4 96 [mr 42] rng cI1 h σ (f_N_narrowToSame fu σ) := by
  refine w_of (fun d w Q hF hL => ?_)
  unfold f_N_narrowToSame
  show Ew g none M_N_narrowToSame d w Q rng (cI1 Q) 0 [(0, mr 42)] [] h σ _
  refine w_iconst d_N_narrowToSame_0 ?_
  refine w_istore_n [(1, iI 0), (0, mr 42)] d_N_narrowToSame_1 rfl (by decide) rfl ?_
  refine w_iconst d_N_narrowToSame_2 ?_
  refine w_istore_n [(2, iI 0), (1, iI 0), (0, mr 42)] d_N_narrowToSame_3 rfl (by decide) rfl ?_
  refine w_sq (G1 := rng) (J := 58) (lvJ := fun x => [(0, mr 42), (1, iI x)]) (stJ := fun x => []) (w_sub (m_sc2 rfl (m_sc2 rfl (m_sc2 rfl (m_sn _)))) (w_N_narrowToSame_4 hF hL fu 0 0 _ _ hW (show rng 0 by decide) (show rng 0 by decide))) (fun z1 σ2 h3 W4 q5 => ?_)
  show Ew _ _ _ _ _ _ _ _ 58 [(0, mr 42), (1, iI z1)] [] _ _ _
  refine w_iload_n d_N_narrowToSame_58 rfl rfl ?_
  refine w_aload_n d_N_narrowToSame_59 rfl rfl ?_
  refine w_gr d_N_narrowToSame_60 f_N_30 W4 or42_3 ?_
  refine w_gi d_N_narrowToSame_63 f_N_72 W4 (cur_i11 cur30) ?_
  refine w_icmp_ne 71 d_N_narrowToSame_66 (by decide) q5 (W4.rf _ _) (fun c6 => ?_) (fun c6 => ?_)
  · refine w_iconst d_N_narrowToSame_69 ?_
    exact w_iret d_N_narrowToSame_70 rfl W4 (fun _ _ _ k => k) (show rng 0 by decide)
  · refine w_aload_n d_N_narrowToSame_71 rfl rfl ?_
    refine w_gr d_N_narrowToSame_72 f_N_22 W4 or42_1 ?_
    refine w_aload_n d_N_narrowToSame_75 rfl rfl ?_
    refine w_gr d_N_narrowToSame_76 f_N_30 W4 or42_3 ?_
    refine w_gi d_N_narrowToSame_79 f_N_54 W4 (cur_i8 cur30) ?_
    refine w_aload_n d_N_narrowToSame_82 rfl rfl ?_
    refine w_gr d_N_narrowToSame_83 f_N_22 W4 or42_1 ?_
    refine w_iload_n d_N_narrowToSame_86 rfl rfl ?_
    refine w_cVI [iI z1] [iI (σ2.1 30 8), mr 7] d_N_narrowToSame_87 me_G_makeNew l_N_86 W4 (c_G_makeNew W4 q5) rfl rfl (Nat.le_of_ble_eq_true rfl) rfl (Nat.le_of_ble_eq_true rfl) (Nat.le_trans (Nat.le_of_ble_eq_true rfl) hF) (Nat.le_trans (Nat.le_of_ble_eq_true rfl) hL) ob7 ⟨_, _, rfl⟩ (fun a7 σ8 h9 W10 q11 => ?_)
    refine w_aload_n d_N_narrowToSame_90 rfl rfl ?_
    refine w_gr d_N_narrowToSame_91 f_N_9 W10 or42_6 ?_
    refine w_cVI [iI (σ2.1 30 8), iI a7, mr 43] [] d_N_narrowToSame_94 me_G_fillWithHole l_N_92 W10 (c_G_fillWithHole W10 (W4.rf _ _) q11 ia43) rfl rfl (Nat.le_of_ble_eq_true rfl) rfl (Nat.le_of_ble_eq_true rfl) (Nat.le_trans (Nat.le_of_ble_eq_true rfl) hF) (Nat.le_trans (Nat.le_of_ble_eq_true rfl) hL) ob7 ⟨_, _, rfl⟩ (fun a12 σ13 h14 W15 q16 => ?_)
    refine w_istore_n [(2, iI a12), (0, mr 42), (1, iI z1)] d_N_narrowToSame_97 rfl (by decide) rfl ?_
    refine w_iload_n d_N_narrowToSame_98 rfl rfl ?_
    refine w_if_eq 106 d_N_narrowToSame_99 (by decide) q16 (fun c17 => ?_) (fun c17 => ?_)
    · refine w_iconst d_N_narrowToSame_106 ?_
      exact w_iret d_N_narrowToSame_107 rfl W15 (fun _ _ _ k => k) (show rng 5 by decide)
    · refine w_iconst d_N_narrowToSame_102 ?_
      refine w_goto 107 d_N_narrowToSame_103 (by decide) ?_
      exact w_iret d_N_narrowToSame_107 rfl W15 (fun _ _ _ k => k) (show rng 0 by decide)
def l_U_parameterFor_2 (fu : Nat) (p : Nat) : Nat → Int → Int → SS → Option ((Int ⊕ (Unit)) × SS)
  | 0, _, _, _ => none
  | n + 1, x1, x2, σ => if x2 < (σ.1 p 11) then (if (gA σ (p + 5) 4 x2) = x1 then (some (.inl x2, σ)) else (ck (rng (x2 + 1)) (l_U_parameterFor_2 fu p n x1 (x2 + 1) σ))) else (some (.inr (), σ))
def f_U_parameterFor (fu : Nat) (p : Nat) (x1 : Int) (σ : SS) : Option (Int × SS) := sr (l_U_parameterFor_2 fu p fu x1 0 σ) fun (z1 : Unit) σ2 => some ((-1), σ2)
theorem w_U_parameterFor_2 {g : MG} {d w fu : Nat} {Q : MO → List MC → Prop} {p : Nat} (hF : 1 ≤ d) (hL : 21 ≤ w) (hp : cur p) : ∀ (n : Nat) (x1 : Int) (x2 : Int) (σ : SS) (h : List MC), Wd h σ → rng x1 → rng x2 → Ew g none M_U_parameterFor d w Q (gS2 rng gU) (cS2 (cI1 Q) (cJ g none M_U_parameterFor d w Q 30 (fun x => []) (fun x => []))) 2 [(0, mr p), (1, iI x1), (2, iI x2)] [] h σ (l_U_parameterFor_2 fu p n x1 x2 σ) := by
  intro n
  induction n with
  | zero =>
    intro x1 x2 σ h hW r1 r2 a9 σ9 hm
    rw [l_U_parameterFor_2] at hm
    cases hm
  | succ n ih =>
    intro x1 x2 σ h hW r1 r2
    rw [l_U_parameterFor_2]
    refine w_iload_n d_U_parameterFor_2 rfl rfl ?_
    refine w_aload_n d_U_parameterFor_3 rfl rfl ?_
    refine w_gi d_U_parameterFor_4 f_U_56 hW (cur_i11 hp) ?_
    refine w_icmp_ge 30 d_U_parameterFor_7 (by decide) r2 (hW.rf _ _) (fun c1 => ?_) (fun c1 => ?_)
    · refine w_aload_n d_U_parameterFor_10 rfl rfl ?_
      refine w_gr d_U_parameterFor_11 f_U_24 hW (cur_r10 hp) ?_
      refine w_iload_n d_U_parameterFor_14 rfl rfl ?_
      refine w_at d_U_parameterFor_15 l_U_43 hW (cur_a5 hp) r2 (Nat.le_of_ble_eq_true rfl) (Nat.le_trans (Nat.le_of_ble_eq_true rfl) hF) (Nat.le_trans (Nat.le_of_ble_eq_true rfl) hL) ?_
      refine w_iload_n d_U_parameterFor_18 rfl rfl ?_
      refine w_icmp_ne 24 d_U_parameterFor_19 (by decide) (hW.ga _ _ _) r1 (fun c2 => ?_) (fun c2 => ?_)
      · refine w_iload_n d_U_parameterFor_22 rfl rfl ?_
        exact w_iret d_U_parameterFor_23 rfl hW (fun _ _ _ k => k) r2
      · refine w_iinc [(2, iI (x2 + 1)), (0, mr p), (1, iI x1)] d_U_parameterFor_24 rfl (by decide) rfl (fun c3 => ?_)
        refine w_goto 2 d_U_parameterFor_27 (by decide) ?_
        exact w_sub (m_sc2 rfl (m_sc2 rfl (m_sc2 rfl (m_sn _)))) (ih x1 (x2 + 1) _ _ hW r1 c3)
    · exact w_exit [] (m_sn _) hW (fun _ _ _ k => k) True.intro
theorem c_U_parameterFor {g : MG} {fu : Nat} {h : List MC} {σ : SS} {p : Nat} {x1 : Int} (hW : Wd h σ) (hp : cur p) (r1 : rng x1) : Cw g M_U_parameterFor 1 21 [mr p, iI x1] rng cI1 h σ (f_U_parameterFor fu p x1 σ) := by
  refine w_of (fun d w Q hF hL => ?_)
  unfold f_U_parameterFor
  show Ew g none M_U_parameterFor d w Q rng (cI1 Q) 0 [(0, mr p), (1, iI x1)] [] h σ _
  refine w_iconst d_U_parameterFor_0 ?_
  refine w_istore_n [(2, iI 0), (0, mr p), (1, iI x1)] d_U_parameterFor_1 rfl (by decide) rfl ?_
  refine w_sr (G1 := gU) (J := 30) (lvJ := fun x => []) (stJ := fun x => []) (w_sub (m_sc2 rfl (m_sc2 rfl (m_sc2 rfl (m_sn _)))) (w_U_parameterFor_2 hF hL hp fu x1 0 _ _ hW r1 (show rng 0 by decide))) (fun z1 σ2 h3 W4 q5 => ?_)
  show Ew _ _ _ _ _ _ _ _ 30 [] [] _ _ _
  refine w_iconst d_U_parameterFor_30 ?_
  exact w_iret d_U_parameterFor_31 rfl W4 (fun _ _ _ k => k) (show rng (-1) by decide)
def l_N_joinHoles_4 (fu : Nat) : Nat → Int → Int → SS → Option ((Int) × SS)
  | 0, _, _, _ => none
  | n + 1, x1, x2, σ => if x2 < (σ.1 30 11) then (sq (f_U_parameterFor fu 36 (gA σ (30 + 5) 4 x2) σ) fun (a2 : Int) σ3 => sq (if a2 = (-1) then (some (x1, σ3)) else (lb (gS σ3 43 4 x1 x2) fun σ9 => lb (gS σ9 44 4 x1 a2) fun σ13 => ck (rng (x1 + 1)) (some ((x1 + 1), σ13)))) fun (z17 : Int) σ18 => ck (rng (x2 + 1)) (l_N_joinHoles_4 fu n z17 (x2 + 1) σ18)) else (some (x1, σ))
def f_N_joinHoles (fu : Nat) (σ : SS) : Option (Int × SS) := sq (l_N_joinHoles_4 fu fu 0 0 σ) fun (z1 : Int) σ2 => sq (f_G_makeNew z1 σ2) fun (a6 : Int) σ7 => sq (f_G_fillWithHole fu (σ7.1 30 8) a6 43 σ7) fun (a11 : Int) σ12 => sq (if a11 = 0 then (some (0, σ12)) else (sq (f_G_fillWithHole fu (σ12.1 36 8) a6 44 σ12) fun (a17 : Int) σ18 => if a17 = 0 then (some (0, σ18)) else (some (1, σ18)))) fun (z23 : Int) σ24 => if z23 = 0 then (some (5, σ24)) else (some (0, σ24))
theorem w_N_joinHoles_4 {g : MG} {d w fu : Nat} {Q : MO → List MC → Prop} (hF : 4 ≤ d) (hL : 96 ≤ w) : ∀ (n : Nat) (x1 : Int) (x2 : Int) (σ : SS) (h : List MC), Wd h σ → rng x1 → rng x2 → Ew g none M_N_joinHoles d w Q rng (cJ g none M_N_joinHoles d w Q 66 (fun x => [(0, mr 42), (1, iI x)]) (fun x => [])) 4 [(0, mr 42), (1, iI x1), (2, iI x2)] [] h σ (l_N_joinHoles_4 fu n x1 x2 σ) := by
  intro n
  induction n with
  | zero =>
    intro x1 x2 σ h hW r1 r2 a9 σ9 hm
    rw [l_N_joinHoles_4] at hm
    cases hm
  | succ n ih =>
    intro x1 x2 σ h hW r1 r2
    rw [l_N_joinHoles_4]
    refine w_iload_n d_N_joinHoles_4 rfl rfl ?_
    refine w_aload_n d_N_joinHoles_5 rfl rfl ?_
    refine w_gr d_N_joinHoles_6 f_N_30 hW or42_3 ?_
    refine w_gi d_N_joinHoles_9 f_N_72 hW (cur_i11 cur30) ?_
    refine w_icmp_ge 66 d_N_joinHoles_12 (by decide) r2 (hW.rf _ _) (fun c1 => ?_) (fun c1 => ?_)
    · refine w_aload_n d_N_joinHoles_15 rfl rfl ?_
      refine w_gr d_N_joinHoles_16 f_N_34 hW or42_4 ?_
      refine w_aload_n d_N_joinHoles_19 rfl rfl ?_
      refine w_gr d_N_joinHoles_20 f_N_30 hW or42_3 ?_
      refine w_gr d_N_joinHoles_23 f_N_75 hW (cur_r10 cur30) ?_
      refine w_iload_n d_N_joinHoles_26 rfl rfl ?_
      refine w_at d_N_joinHoles_27 l_N_78 hW (cur_a5 cur30) r2 (Nat.le_of_ble_eq_true rfl) (Nat.le_trans (Nat.le_of_ble_eq_true rfl) hF) (Nat.le_trans (Nat.le_of_ble_eq_true rfl) hL) ?_
      refine w_cVI [iI (gA σ (30 + 5) 4 x2)] [] d_N_joinHoles_30 me_U_parameterFor l_N_96 hW (c_U_parameterFor hW cur36 (hW.ga _ _ _)) rfl rfl (Nat.le_of_ble_eq_true rfl) rfl (Nat.le_of_ble_eq_true rfl) (Nat.le_trans (Nat.le_of_ble_eq_true rfl) hF) (Nat.le_trans (Nat.le_of_ble_eq_true rfl) hL) (cur_ob cur36) ⟨_, _, rfl⟩ (fun a2 σ3 h4 W5 q6 => ?_)
      refine w_istore_n [(3, iI a2), (0, mr 42), (1, iI x1), (2, iI x2)] d_N_joinHoles_33 rfl (by decide) rfl ?_
      refine w_iload_n d_N_joinHoles_34 rfl rfl ?_
      refine w_iconst d_N_joinHoles_35 ?_
      refine w_sq (G1 := rng) (J := 60) (lvJ := fun x => [(0, mr 42), (1, iI x), (2, iI x2)]) (stJ := fun x => []) ?_ (fun z17 σ18 h19 W20 q21 => ?_)
      · refine w_icmp_eq 60 d_N_joinHoles_36 (by decide) q6 (show rng (-1) by decide) (fun c7 => ?_) (fun c7 => ?_)
        · exact w_exit [(0, mr 42), (1, iI x1), (2, iI x2)] (m_sc2 rfl (m_sc2 rfl (m_sc2 rfl (m_sn _)))) W5 (fun _ _ _ k => k) r1
        · refine w_aload_n d_N_joinHoles_39 rfl rfl ?_
          refine w_gr d_N_joinHoles_40 f_N_9 W5 or42_6 ?_
          refine w_iload_n d_N_joinHoles_43 rfl rfl ?_
          refine w_iload_n d_N_joinHoles_44 rfl rfl ?_
          refine w_set d_N_joinHoles_45 l_N_82 W5 ia43 r1 r2 (Nat.le_of_ble_eq_true rfl) (Nat.le_trans (Nat.le_of_ble_eq_true rfl) hF) (Nat.le_trans (Nat.le_of_ble_eq_true rfl) hL) (fun h8 σ9 e10 W11 => ?_)
          refine w_aload_n d_N_joinHoles_48 rfl rfl ?_
          refine w_gr d_N_joinHoles_49 f_N_15 W11 or42_7 ?_
          refine w_iload_n d_N_joinHoles_52 rfl rfl ?_
          refine w_iload_n d_N_joinHoles_53 rfl rfl ?_
          refine w_set d_N_joinHoles_54 l_N_82 W11 ia44 r1 q6 (Nat.le_of_ble_eq_true rfl) (Nat.le_trans (Nat.le_of_ble_eq_true rfl) hF) (Nat.le_trans (Nat.le_of_ble_eq_true rfl) hL) (fun h12 σ13 e14 W15 => ?_)
          refine w_iinc [(1, iI (x1 + 1)), (3, iI a2), (0, mr 42), (2, iI x2)] d_N_joinHoles_57 rfl (by decide) rfl (fun c16 => ?_)
          exact w_exit [(0, mr 42), (1, iI (x1 + 1)), (2, iI x2)] (m_sc2 rfl (m_sc2 rfl (m_sc2 rfl (m_sn _)))) W15 (fun _ _ _ k => k) c16
      · show Ew _ _ _ _ _ _ _ _ 60 [(0, mr 42), (1, iI z17), (2, iI x2)] [] _ _ _
        refine w_iinc [(2, iI (x2 + 1)), (0, mr 42), (1, iI z17)] d_N_joinHoles_60 rfl (by decide) rfl (fun c22 => ?_)
        refine w_goto 4 d_N_joinHoles_63 (by decide) ?_
        exact w_sub (m_sc2 rfl (m_sc2 rfl (m_sc2 rfl (m_sn _)))) (ih z17 (x2 + 1) _ _ W20 q21 c22)
    · exact w_exit [(0, mr 42), (1, iI x1)] (m_sc2 rfl (m_sc2 rfl (m_sn _))) hW (fun _ _ _ k => k) r1
theorem c_N_joinHoles {g : MG} {fu : Nat} {h : List MC} {σ : SS} (hW : Wd h σ) : Cw g M_N_joinHoles 4 96 [mr 42] rng cI1 h σ (f_N_joinHoles fu σ) := by
  refine w_of (fun d w Q hF hL => ?_)
  unfold f_N_joinHoles
  show Ew g none M_N_joinHoles d w Q rng (cI1 Q) 0 [(0, mr 42)] [] h σ _
  refine w_iconst d_N_joinHoles_0 ?_
  refine w_istore_n [(1, iI 0), (0, mr 42)] d_N_joinHoles_1 rfl (by decide) rfl ?_
  refine w_iconst d_N_joinHoles_2 ?_
  refine w_istore_n [(2, iI 0), (1, iI 0), (0, mr 42)] d_N_joinHoles_3 rfl (by decide) rfl ?_
  refine w_sq (G1 := rng) (J := 66) (lvJ := fun x => [(0, mr 42), (1, iI x)]) (stJ := fun x => []) (w_sub (m_sc2 rfl (m_sc2 rfl (m_sc2 rfl (m_sn _)))) (w_N_joinHoles_4 hF hL fu 0 0 _ _ hW (show rng 0 by decide) (show rng 0 by decide))) (fun z1 σ2 h3 W4 q5 => ?_)
  show Ew _ _ _ _ _ _ _ _ 66 [(0, mr 42), (1, iI z1)] [] _ _ _
  refine w_aload_n d_N_joinHoles_66 rfl rfl ?_
  refine w_gr d_N_joinHoles_67 f_N_22 W4 or42_1 ?_
  refine w_iload_n d_N_joinHoles_70 rfl rfl ?_
  refine w_cVI [iI z1] [] d_N_joinHoles_71 me_G_makeNew l_N_86 W4 (c_G_makeNew W4 q5) rfl rfl (Nat.le_of_ble_eq_true rfl) rfl (Nat.le_of_ble_eq_true rfl) (Nat.le_trans (Nat.le_of_ble_eq_true rfl) hF) (Nat.le_trans (Nat.le_of_ble_eq_true rfl) hL) ob7 ⟨_, _, rfl⟩ (fun a6 σ7 h8 W9 q10 => ?_)
  refine w_istore_n [(2, iI a6), (0, mr 42), (1, iI z1)] d_N_joinHoles_74 rfl (by decide) rfl ?_
  refine w_aload_n d_N_joinHoles_75 rfl rfl ?_
  refine w_gr d_N_joinHoles_76 f_N_22 W9 or42_1 ?_
  refine w_aload_n d_N_joinHoles_79 rfl rfl ?_
  refine w_gr d_N_joinHoles_80 f_N_30 W9 or42_3 ?_
  refine w_gi d_N_joinHoles_83 f_N_54 W9 (cur_i8 cur30) ?_
  refine w_iload_n d_N_joinHoles_86 rfl rfl ?_
  refine w_aload_n d_N_joinHoles_87 rfl rfl ?_
  refine w_gr d_N_joinHoles_88 f_N_9 W9 or42_6 ?_
  refine w_cVI [iI (σ7.1 30 8), iI a6, mr 43] [] d_N_joinHoles_91 me_G_fillWithHole l_N_92 W9 (c_G_fillWithHole W9 (W9.rf _ _) q10 ia43) rfl rfl (Nat.le_of_ble_eq_true rfl) rfl (Nat.le_of_ble_eq_true rfl) (Nat.le_trans (Nat.le_of_ble_eq_true rfl) hF) (Nat.le_trans (Nat.le_of_ble_eq_true rfl) hL) ob7 ⟨_, _, rfl⟩ (fun a11 σ12 h13 W14 q15 => ?_)
  refine w_sq (G1 := rng) (J := 124) (lvJ := fun x => []) (stJ := fun x => [iI x]) ?_ (fun z23 σ24 h25 W26 q27 => ?_)
  · refine w_if_eq 123 d_N_joinHoles_94 (by decide) q15 (fun c16 => ?_) (fun c16 => ?_)
    · refine w_iconst d_N_joinHoles_123 ?_
      exact w_exit [] (m_sn _) W14 (fun _ _ _ k => k) (show rng 0 by decide)
    · refine w_aload_n d_N_joinHoles_97 rfl rfl ?_
      refine w_gr d_N_joinHoles_98 f_N_22 W14 or42_1 ?_
      refine w_aload_n d_N_joinHoles_101 rfl rfl ?_
      refine w_gr d_N_joinHoles_102 f_N_34 W14 or42_4 ?_
      refine w_gi d_N_joinHoles_105 f_N_54 W14 (cur_i8 cur36) ?_
      refine w_iload_n d_N_joinHoles_108 rfl rfl ?_
      refine w_aload_n d_N_joinHoles_109 rfl rfl ?_
      refine w_gr d_N_joinHoles_110 f_N_15 W14 or42_7 ?_
      refine w_cVI [iI (σ12.1 36 8), iI a6, mr 44] [] d_N_joinHoles_113 me_G_fillWithHole l_N_92 W14 (c_G_fillWithHole W14 (W14.rf _ _) q10 ia44) rfl rfl (Nat.le_of_ble_eq_true rfl) rfl (Nat.le_of_ble_eq_true rfl) (Nat.le_trans (Nat.le_of_ble_eq_true rfl) hF) (Nat.le_trans (Nat.le_of_ble_eq_true rfl) hL) ob7 ⟨_, _, rfl⟩ (fun a17 σ18 h19 W20 q21 => ?_)
      refine w_if_eq 123 d_N_joinHoles_116 (by decide) q21 (fun c22 => ?_) (fun c22 => ?_)
      · refine w_iconst d_N_joinHoles_123 ?_
        exact w_exit [] (m_sn _) W20 (fun _ _ _ k => k) (show rng 0 by decide)
      · refine w_iconst d_N_joinHoles_119 ?_
        refine w_goto 124 d_N_joinHoles_120 (by decide) ?_
        exact w_exit [] (m_sn _) W20 (fun _ _ _ k => k) (show rng 1 by decide)
  · show Ew _ _ _ _ _ _ _ _ 124 [] [iI z23] _ _ _
    refine w_istore_n [(3, iI z23)] d_N_joinHoles_124 rfl (by decide) rfl ?_
    refine w_iload_n d_N_joinHoles_125 rfl rfl ?_
    refine w_if_eq 133 d_N_joinHoles_126 (by decide) q27 (fun c28 => ?_) (fun c28 => ?_)
    · refine w_iconst d_N_joinHoles_133 ?_
      exact w_iret d_N_joinHoles_134 rfl W26 (fun _ _ _ k => k) (show rng 5 by decide)
    · refine w_iconst d_N_joinHoles_129 ?_
      refine w_goto 134 d_N_joinHoles_130 (by decide) ?_
      exact w_iret d_N_joinHoles_134 rfl W26 (fun _ _ _ k => k) (show rng 0 by decide)
def l_U_copyFrom_10 (fu : Nat) (p : Nat) (q : Nat) : Nat → Int → SS → Option ((Unit) × SS)
  | 0, _, _ => none
  | n + 1, x2, σ => if (σ.1 p 6) < x2 then (some ((), σ)) else (lb (gS σ (p + 1) 64 x2 (gA σ (q + 1) 64 x2)) fun σ3 => lb (gS σ3 (p + 2) 64 x2 (gA σ3 (q + 2) 64 x2)) fun σ7 => lb (gS σ7 (p + 3) 64 x2 (gA σ7 (q + 3) 64 x2)) fun σ11 => ck (rng (x2 + 1)) (l_U_copyFrom_10 fu p q n (x2 + 1) σ11))
def l_U_copyFrom_74 (fu : Nat) (p : Nat) (q : Nat) : Nat → Int → SS → Option ((Unit) × SS)
  | 0, _, _ => none
  | n + 1, x2, σ => ck (rng ((σ.1 p 6) + 1)) (ck (rng (((σ.1 p 6) + 1) * 4)) (if x2 < (((σ.1 p 6) + 1) * 4) then (lb (gS σ (p + 4) 256 x2 (gA σ (q + 4) 256 x2)) fun σ5 => ck (rng (x2 + 1)) (l_U_copyFrom_74 fu p q n (x2 + 1) σ5)) else (some ((), σ))))
def l_U_copyFrom_142 (fu : Nat) (p : Nat) (q : Nat) : Nat → Int → SS → Option ((Unit) × SS)
  | 0, _, _ => none
  | n + 1, x2, σ => if x2 < (σ.1 p 11) then (lb (gS σ (p + 5) 4 x2 (gA σ (q + 5) 4 x2)) fun σ3 => ck (rng (x2 + 1)) (l_U_copyFrom_142 fu p q n (x2 + 1) σ3)) else (some ((), σ))
def f_U_copyFrom (fu : Nat) (p : Nat) (q : Nat) (σ : SS) : Option (Unit × SS) := lb (sF σ p 6 (σ.1 q 6)) fun σ2 => sq (l_U_copyFrom_10 fu p q fu 0 σ2) fun (z5 : Unit) σ6 => sq (l_U_copyFrom_74 fu p q fu 0 σ6) fun (z10 : Unit) σ11 => lb (sF σ11 p 7 (σ11.1 q 7)) fun σ16 => lb (sF σ16 p 8 (σ16.1 q 8)) fun σ20 => lb (sF σ20 p 9 (σ20.1 q 9)) fun σ24 => lb (sF σ24 p 11 (σ24.1 q 11)) fun σ28 => sq (l_U_copyFrom_142 fu p q fu 0 σ28) fun (z31 : Unit) σ32 => some ((), σ32)
theorem w_U_copyFrom_10 {g : MG} {d w fu : Nat} {Q : MO → List MC → Prop} {p : Nat} {q : Nat} (hF : 1 ≤ d) (hL : 22 ≤ w) (hp : cur p) (hq : cur q) : ∀ (n : Nat) (x2 : Int) (σ : SS) (h : List MC), Wd h σ → rng x2 → Ew g none M_U_copyFrom d w Q gU (cJ g none M_U_copyFrom d w Q 72 (fun x => [(0, mr p), (1, mr q)]) (fun x => [])) 10 [(0, mr p), (1, mr q), (2, iI x2)] [] h σ (l_U_copyFrom_10 fu p q n x2 σ) := by
  intro n
  induction n with
  | zero =>
    intro x2 σ h hW r2 a9 σ9 hm
    rw [l_U_copyFrom_10] at hm
    cases hm
  | succ n ih =>
    intro x2 σ h hW r2
    rw [l_U_copyFrom_10]
    refine w_iload_n d_U_copyFrom_10 rfl rfl ?_
    refine w_aload_n d_U_copyFrom_11 rfl rfl ?_
    refine w_gi d_U_copyFrom_12 f_U_35 hW (cur_i6 hp) ?_
    refine w_icmp_gt 72 d_U_copyFrom_15 (by decide) r2 (hW.rf _ _) (fun c1 => ?_) (fun c1 => ?_)
    · exact w_exit [(0, mr p), (1, mr q)] (m_sc2 rfl (m_sc2 rfl (m_sn _))) hW (fun _ _ _ k => k) True.intro
    · refine w_aload_n d_U_copyFrom_18 rfl rfl ?_
      refine w_gr d_U_copyFrom_19 f_U_9 hW (cur_r2 hp) ?_
      refine w_iload_n d_U_copyFrom_22 rfl rfl ?_
      refine w_aload_n d_U_copyFrom_23 rfl rfl ?_
      refine w_gr d_U_copyFrom_24 f_U_9 hW (cur_r2 hq) ?_
      refine w_iload_n d_U_copyFrom_27 rfl rfl ?_
      refine w_at d_U_copyFrom_28 l_U_43 hW (cur_a1 hq) r2 (Nat.le_of_ble_eq_true rfl) (Nat.le_trans (Nat.le_of_ble_eq_true rfl) hF) (Nat.le_trans (Nat.le_of_ble_eq_true rfl) hL) ?_
      refine w_set d_U_copyFrom_31 l_U_39 hW (cur_a1 hp) r2 (hW.ga _ _ _) (Nat.le_of_ble_eq_true rfl) (Nat.le_trans (Nat.le_of_ble_eq_true rfl) hF) (Nat.le_trans (Nat.le_of_ble_eq_true rfl) hL) (fun h2 σ3 e4 W5 => ?_)
      refine w_aload_n d_U_copyFrom_34 rfl rfl ?_
      refine w_gr d_U_copyFrom_35 f_U_15 W5 (cur_r3 hp) ?_
      refine w_iload_n d_U_copyFrom_38 rfl rfl ?_
      refine w_aload_n d_U_copyFrom_39 rfl rfl ?_
      refine w_gr d_U_copyFrom_40 f_U_15 W5 (cur_r3 hq) ?_
      refine w_iload_n d_U_copyFrom_43 rfl rfl ?_
      refine w_at d_U_copyFrom_44 l_U_43 W5 (cur_a2 hq) r2 (Nat.le_of_ble_eq_true rfl) (Nat.le_trans (Nat.le_of_ble_eq_true rfl) hF) (Nat.le_trans (Nat.le_of_ble_eq_true rfl) hL) ?_
      refine w_set d_U_copyFrom_47 l_U_39 W5 (cur_a2 hp) r2 (W5.ga _ _ _) (Nat.le_of_ble_eq_true rfl) (Nat.le_trans (Nat.le_of_ble_eq_true rfl) hF) (Nat.le_trans (Nat.le_of_ble_eq_true rfl) hL) (fun h6 σ7 e8 W9 => ?_)
      refine w_aload_n d_U_copyFrom_50 rfl rfl ?_
      refine w_gr d_U_copyFrom_51 f_U_18 W9 (cur_r4 hp) ?_
      refine w_iload_n d_U_copyFrom_54 rfl rfl ?_
      refine w_aload_n d_U_copyFrom_55 rfl rfl ?_
      refine w_gr d_U_copyFrom_56 f_U_18 W9 (cur_r4 hq) ?_
      refine w_iload_n d_U_copyFrom_59 rfl rfl ?_
      refine w_at d_U_copyFrom_60 l_U_43 W9 (cur_a3 hq) r2 (Nat.le_of_ble_eq_true rfl) (Nat.le_trans (Nat.le_of_ble_eq_true rfl) hF) (Nat.le_trans (Nat.le_of_ble_eq_true rfl) hL) ?_
      refine w_set d_U_copyFrom_63 l_U_39 W9 (cur_a3 hp) r2 (W9.ga _ _ _) (Nat.le_of_ble_eq_true rfl) (Nat.le_trans (Nat.le_of_ble_eq_true rfl) hF) (Nat.le_trans (Nat.le_of_ble_eq_true rfl) hL) (fun h10 σ11 e12 W13 => ?_)
      refine w_iinc [(2, iI (x2 + 1)), (0, mr p), (1, mr q)] d_U_copyFrom_66 rfl (by decide) rfl (fun c14 => ?_)
      refine w_goto 10 d_U_copyFrom_69 (by decide) ?_
      exact w_sub (m_sc2 rfl (m_sc2 rfl (m_sc2 rfl (m_sn _)))) (ih (x2 + 1) _ _ W13 c14)
theorem w_U_copyFrom_74 {g : MG} {d w fu : Nat} {Q : MO → List MC → Prop} {p : Nat} {q : Nat} (hF : 1 ≤ d) (hL : 22 ≤ w) (hp : cur p) (hq : cur q) : ∀ (n : Nat) (x2 : Int) (σ : SS) (h : List MC), Wd h σ → rng x2 → Ew g none M_U_copyFrom d w Q gU (cJ g none M_U_copyFrom d w Q 108 (fun x => [(0, mr p), (1, mr q)]) (fun x => [])) 74 [(0, mr p), (1, mr q), (2, iI x2)] [] h σ (l_U_copyFrom_74 fu p q n x2 σ) := by
  intro n
  induction n with
  | zero =>
    intro x2 σ h hW r2 a9 σ9 hm
    rw [l_U_copyFrom_74] at hm
    cases hm
  | succ n ih =>
    intro x2 σ h hW r2
    rw [l_U_copyFrom_74]
    refine w_iload_n d_U_copyFrom_74 rfl rfl ?_
    refine w_aload_n d_U_copyFrom_75 rfl rfl ?_
    refine w_gi d_U_copyFrom_76 f_U_35 hW (cur_i6 hp) ?_
    refine w_iconst d_U_copyFrom_79 ?_
    refine w_iadd d_U_copyFrom_80 (fun c1 => ?_)
    refine w_iconst d_U_copyFrom_81 ?_
    refine w_imul d_U_copyFrom_82 (fun c2 => ?_)
    refine w_icmp_ge 108 d_U_copyFrom_83 (by decide) r2 c2 (fun c3 => ?_) (fun c3 => ?_)
    · refine w_aload_n d_U_copyFrom_86 rfl rfl ?_
      refine w_gr d_U_copyFrom_87 f_U_21 hW (cur_r5 hp) ?_
      refine w_iload_n d_U_copyFrom_90 rfl rfl ?_
      refine w_aload_n d_U_copyFrom_91 rfl rfl ?_
      refine w_gr d_U_copyFrom_92 f_U_21 hW (cur_r5 hq) ?_
      refine w_iload_n d_U_copyFrom_95 rfl rfl ?_
      refine w_at d_U_copyFrom_96 l_U_43 hW (cur_a4 hq) r2 (Nat.le_of_ble_eq_true rfl) (Nat.le_trans (Nat.le_of_ble_eq_true rfl) hF) (Nat.le_trans (Nat.le_of_ble_eq_true rfl) hL) ?_
      refine w_set d_U_copyFrom_99 l_U_39 hW (cur_a4 hp) r2 (hW.ga _ _ _) (Nat.le_of_ble_eq_true rfl) (Nat.le_trans (Nat.le_of_ble_eq_true rfl) hF) (Nat.le_trans (Nat.le_of_ble_eq_true rfl) hL) (fun h4 σ5 e6 W7 => ?_)
      refine w_iinc [(2, iI (x2 + 1)), (0, mr p), (1, mr q)] d_U_copyFrom_102 rfl (by decide) rfl (fun c8 => ?_)
      refine w_goto 74 d_U_copyFrom_105 (by decide) ?_
      exact w_sub (m_sc2 rfl (m_sc2 rfl (m_sc2 rfl (m_sn _)))) (ih (x2 + 1) _ _ W7 c8)
    · exact w_exit [(0, mr p), (1, mr q)] (m_sc2 rfl (m_sc2 rfl (m_sn _))) hW (fun _ _ _ k => k) True.intro
theorem w_U_copyFrom_142 {g : MG} {d w fu : Nat} {Q : MO → List MC → Prop} {p : Nat} {q : Nat} (hF : 1 ≤ d) (hL : 22 ≤ w) (hp : cur p) (hq : cur q) : ∀ (n : Nat) (x2 : Int) (σ : SS) (h : List MC), Wd h σ → rng x2 → Ew g none M_U_copyFrom d w Q gU (cJ g none M_U_copyFrom d w Q 172 (fun x => []) (fun x => [])) 142 [(0, mr p), (1, mr q), (2, iI x2)] [] h σ (l_U_copyFrom_142 fu p q n x2 σ) := by
  intro n
  induction n with
  | zero =>
    intro x2 σ h hW r2 a9 σ9 hm
    rw [l_U_copyFrom_142] at hm
    cases hm
  | succ n ih =>
    intro x2 σ h hW r2
    rw [l_U_copyFrom_142]
    refine w_iload_n d_U_copyFrom_142 rfl rfl ?_
    refine w_aload_n d_U_copyFrom_143 rfl rfl ?_
    refine w_gi d_U_copyFrom_144 f_U_56 hW (cur_i11 hp) ?_
    refine w_icmp_ge 172 d_U_copyFrom_147 (by decide) r2 (hW.rf _ _) (fun c1 => ?_) (fun c1 => ?_)
    · refine w_aload_n d_U_copyFrom_150 rfl rfl ?_
      refine w_gr d_U_copyFrom_151 f_U_24 hW (cur_r10 hp) ?_
      refine w_iload_n d_U_copyFrom_154 rfl rfl ?_
      refine w_aload_n d_U_copyFrom_155 rfl rfl ?_
      refine w_gr d_U_copyFrom_156 f_U_24 hW (cur_r10 hq) ?_
      refine w_iload_n d_U_copyFrom_159 rfl rfl ?_
      refine w_at d_U_copyFrom_160 l_U_43 hW (cur_a5 hq) r2 (Nat.le_of_ble_eq_true rfl) (Nat.le_trans (Nat.le_of_ble_eq_true rfl) hF) (Nat.le_trans (Nat.le_of_ble_eq_true rfl) hL) ?_
      refine w_set d_U_copyFrom_163 l_U_39 hW (cur_a5 hp) r2 (hW.ga _ _ _) (Nat.le_of_ble_eq_true rfl) (Nat.le_trans (Nat.le_of_ble_eq_true rfl) hF) (Nat.le_trans (Nat.le_of_ble_eq_true rfl) hL) (fun h2 σ3 e4 W5 => ?_)
      refine w_iinc [(2, iI (x2 + 1)), (0, mr p), (1, mr q)] d_U_copyFrom_166 rfl (by decide) rfl (fun c6 => ?_)
      refine w_goto 142 d_U_copyFrom_169 (by decide) ?_
      exact w_sub (m_sc2 rfl (m_sc2 rfl (m_sc2 rfl (m_sn _)))) (ih (x2 + 1) _ _ W5 c6)
    · exact w_exit [] (m_sn _) hW (fun _ _ _ k => k) True.intro
theorem c_U_copyFrom {g : MG} {fu : Nat} {h : List MC} {σ : SS} {p : Nat} {q : Nat} (hW : Wd h σ) (hp : cur p) (hq : cur q) : Cw g M_U_copyFrom 1 22 [mr p, mr q] gU cU1 h σ (f_U_copyFrom fu p q σ) := by
  refine w_of (fun d w Q hF hL => ?_)
  unfold f_U_copyFrom
  show Ew g none M_U_copyFrom d w Q gU (cU1 Q) 0 [(0, mr p), (1, mr q)] [] h σ _
  refine w_aload_n d_U_copyFrom_0 rfl rfl ?_
  refine w_aload_n d_U_copyFrom_1 rfl rfl ?_
  refine w_gi d_U_copyFrom_2 f_U_35 hW (cur_i6 hq) ?_
  refine w_pi d_U_copyFrom_5 p_U_35 hW (cur_i6 hp) (by decide) (hW.rf _ _) (fun h1 σ2 e3 W4 => ?_)
  refine w_iconst d_U_copyFrom_8 ?_
  refine w_istore_n [(2, iI 0), (0, mr p), (1, mr q)] d_U_copyFrom_9 rfl (by decide) rfl ?_
  refine w_sq (G1 := gU) (J := 72) (lvJ := fun x => [(0, mr p), (1, mr q)]) (stJ := fun x => []) (w_sub (m_sc2 rfl (m_sc2 rfl (m_sc2 rfl (m_sn _)))) (w_U_copyFrom_10 hF hL hp hq fu 0 _ _ W4 (show rng 0 by decide))) (fun z5 σ6 h7 W8 q9 => ?_)
  show Ew _ _ _ _ _ _ _ _ 72 [(0, mr p), (1, mr q)] [] _ _ _
  refine w_iconst d_U_copyFrom_72 ?_
  refine w_istore_n [(2, iI 0), (0, mr p), (1, mr q)] d_U_copyFrom_73 rfl (by decide) rfl ?_
  refine w_sq (G1 := gU) (J := 108) (lvJ := fun x => [(0, mr p), (1, mr q)]) (stJ := fun x => []) (w_sub (m_sc2 rfl (m_sc2 rfl (m_sc2 rfl (m_sn _)))) (w_U_copyFrom_74 hF hL hp hq fu 0 _ _ W8 (show rng 0 by decide))) (fun z10 σ11 h12 W13 q14 => ?_)
  show Ew _ _ _ _ _ _ _ _ 108 [(0, mr p), (1, mr q)] [] _ _ _
  refine w_aload_n d_U_copyFrom_108 rfl rfl ?_
  refine w_aload_n d_U_copyFrom_109 rfl rfl ?_
  refine w_gi d_U_copyFrom_110 f_U_47 W13 (cur_i7 hq) ?_
  refine w_pi d_U_copyFrom_113 p_U_47 W13 (cur_i7 hp) (by decide) (W13.rf _ _) (fun h15 σ16 e17 W18 => ?_)
  refine w_aload_n d_U_copyFrom_116 rfl rfl ?_
  refine w_aload_n d_U_copyFrom_117 rfl rfl ?_
  refine w_gi d_U_copyFrom_118 f_U_50 W18 (cur_i8 hq) ?_
  refine w_pi d_U_copyFrom_121 p_U_50 W18 (cur_i8 hp) (by decide) (W18.rf _ _) (fun h19 σ20 e21 W22 => ?_)
  refine w_aload_n d_U_copyFrom_124 rfl rfl ?_
  refine w_aload_n d_U_copyFrom_125 rfl rfl ?_
  refine w_gi d_U_copyFrom_126 f_U_53 W22 (cur_i9 hq) ?_
  refine w_pi d_U_copyFrom_129 p_U_53 W22 (cur_i9 hp) (by decide) (W22.rf _ _) (fun h23 σ24 e25 W26 => ?_)
  refine w_aload_n d_U_copyFrom_132 rfl rfl ?_
  refine w_aload_n d_U_copyFrom_133 rfl rfl ?_
  refine w_gi d_U_copyFrom_134 f_U_56 W26 (cur_i11 hq) ?_
  refine w_pi d_U_copyFrom_137 p_U_56 W26 (cur_i11 hp) (by decide) (W26.rf _ _) (fun h27 σ28 e29 W30 => ?_)
  refine w_iconst d_U_copyFrom_140 ?_
  refine w_istore_n [(2, iI 0), (0, mr p), (1, mr q)] d_U_copyFrom_141 rfl (by decide) rfl ?_
  refine w_sq (G1 := gU) (J := 172) (lvJ := fun x => []) (stJ := fun x => []) (w_sub (m_sc2 rfl (m_sc2 rfl (m_sc2 rfl (m_sn _)))) (w_U_copyFrom_142 hF hL hp hq fu 0 _ _ W30 (show rng 0 by decide))) (fun z31 σ32 h33 W34 q35 => ?_)
  show Ew _ _ _ _ _ _ _ _ 172 [] [] _ _ _
  exact w_ret d_U_copyFrom_172 rfl W34 (fun _ _ _ k => k) True.intro
