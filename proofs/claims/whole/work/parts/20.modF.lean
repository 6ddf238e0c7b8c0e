def f_H_size (fu : Nat) (x1 : Int) (σ : SS) : Option ((Int ⊕ String) × SS) := sx (f_H_refuseUntold x1 σ) fun (a1 : Unit) σ2 => sq (f_G_measureAll fu σ2) fun (a6 : Int) σ7 => some (.inl (gA σ7 11 324 x1), σ7)
theorem c_H_size {g : MG} {fu : Nat} {h : List MC} {σ : SS} {x1 : Int} (hl : g.1.stackTraces = false) (hW : Wd h σ) (r1 : rng x1) : Cw g M_H_size 7 111 [mr 0, iI x1] (gS2 rng gE) (fun Q => cS2 (cI1 Q) (cE1 Q)) h σ (f_H_size fu x1 σ) := by
  refine w_of (fun d w Q hF hL => ?_)
  unfold f_H_size
  show Ew g none M_H_size d w Q (gS2 rng gE) (cS2 (cI1 Q) (cE1 Q)) 0 [(0, mr 0), (1, iI x1)] [] h σ _
  refine w_aload_n d_H_size_0 rfl rfl ?_
  refine w_iload_n d_H_size_1 rfl rfl ?_
  refine w_xVU [iI x1] [] d_H_size_2 me_H_refuseUntold l_H_180 rfl hW (c_H_refuseUntold hl hW r1) rfl rfl (Nat.le_of_ble_eq_true rfl) rfl (Nat.le_of_ble_eq_true rfl) (Nat.le_trans (Nat.le_of_ble_eq_true rfl) hF) (Nat.le_trans (Nat.le_of_ble_eq_true rfl) hL) ob0 ⟨_, _, rfl⟩ (fun a1 σ2 h3 W4 q5 => ?_)
  refine w_aload_n d_H_size_5 rfl rfl ?_
  refine w_gr d_H_size_6 f_H_24 W4 or0_1 ?_
  refine w_cVI [] [] d_H_size_9 me_G_measureAll l_H_183 W4 (c_G_measureAll W4 ) rfl rfl (Nat.le_of_ble_eq_true rfl) rfl (Nat.le_of_ble_eq_true rfl) (Nat.le_trans (Nat.le_of_ble_eq_true rfl) hF) (Nat.le_trans (Nat.le_of_ble_eq_true rfl) hL) ob7 ⟨_, _, rfl⟩ (fun a6 σ7 h8 W9 q10 => ?_)
  refine w_pop d_H_size_12 rfl ?_
  refine w_aload_n d_H_size_13 rfl rfl ?_
  refine w_gr d_H_size_14 f_H_24 W9 or0_1 ?_
  refine w_gr d_H_size_17 f_H_186 W9 or7_4 ?_
  refine w_iload_n d_H_size_20 rfl rfl ?_
  refine w_at d_H_size_21 l_H_167 W9 ia11 r1 (Nat.le_of_ble_eq_true rfl) (Nat.le_trans (Nat.le_of_ble_eq_true rfl) hF) (Nat.le_trans (Nat.le_of_ble_eq_true rfl) hL) ?_
  exact w_iret d_H_size_24 rfl W9 (fun _ _ _ k => k) (W9.ga _ _ _)
def f_U_bitOf (p : Nat) (x1 : Int) (σ : SS) : Option (Int × SS) := if x1 < (σ.1 p 9) then (some (0, σ)) else (ck (rng (x1 - (σ.1 p 9))) (some ((bs 1 (x1 - (σ.1 p 9))), σ)))
theorem c_U_bitOf {g : MG} {h : List MC} {σ : SS} {p : Nat} {x1 : Int} (hW : Wd h σ) (hp : cur p) (r1 : rng x1) : Cw g M_U_bitOf 0 0 [mr p, iI x1] rng cI1 h σ (f_U_bitOf p x1 σ) := by
  refine w_of (fun d w Q hF hL => ?_)
  unfold f_U_bitOf
  show Ew g none M_U_bitOf d w Q rng (cI1 Q) 0 [(0, mr p), (1, iI x1)] [] h σ _
  refine w_iload_n d_U_bitOf_0 rfl rfl ?_
  refine w_aload_n d_U_bitOf_1 rfl rfl ?_
  refine w_gi d_U_bitOf_2 f_U_53 hW (cur_i9 hp) ?_
  refine w_icmp_ge 12 d_U_bitOf_5 (by decide) r1 (hW.rf _ _) (fun c1 => ?_) (fun c1 => ?_)
  · refine w_iconst d_U_bitOf_8 ?_
    refine w_goto 20 d_U_bitOf_9 (by decide) ?_
    exact w_iret d_U_bitOf_20 rfl hW (fun _ _ _ k => k) (show rng 0 by decide)
  · refine w_iconst d_U_bitOf_12 ?_
    refine w_iload_n d_U_bitOf_13 rfl rfl ?_
    refine w_aload_n d_U_bitOf_14 rfl rfl ?_
    refine w_gi d_U_bitOf_15 f_U_53 hW (cur_i9 hp) ?_
    refine w_isub d_U_bitOf_18 (fun c2 => ?_)
    refine w_ishl d_U_bitOf_19 ?_
    exact w_iret d_U_bitOf_20 rfl hW (fun _ _ _ k => k) (bs_rng _ _)
def l_U_freeBits_22 (fu : Nat) (p : Nat) : Nat → Int → Int → SS → Option ((Int) × SS)
  | 0, _, _, _ => none
  | n + 1, x1, x2, σ => if x2 < (σ.1 p 11) then (sq (f_U_bitOf p (gA σ (p + 5) 4 x2) σ) fun (a2 : Int) σ3 => lb (bo x1 a2) fun y7 => ck (rng (x2 + 1)) (l_U_freeBits_22 fu p n y7 (x2 + 1) σ3)) else (some (x1, σ))
def f_U_freeBits (fu : Nat) (p : Nat) (σ : SS) : Option (Int × SS) := sq (if (σ.1 p 7) = 0 then (sq (f_U_bitOf p (σ.1 p 8) σ) fun (a2 : Int) σ3 => some (a2, σ3)) else (some (0, σ))) fun (z7 : Int) σ8 => sq (l_U_freeBits_22 fu p fu z7 0 σ8) fun (z12 : Int) σ13 => some (z12, σ13)
theorem w_U_freeBits_22 {g : MG} {d w fu : Nat} {Q : MO → List MC → Prop} {p : Nat} (hF : 1 ≤ d) (hL : 21 ≤ w) (hp : cur p) : ∀ (n : Nat) (x1 : Int) (x2 : Int) (σ : SS) (h : List MC), Wd h σ → rng x1 → rng x2 → Ew g none M_U_freeBits d w Q rng (cJ g none M_U_freeBits d w Q 51 (fun x => [(1, iI x)]) (fun x => [])) 22 [(0, mr p), (1, iI x1), (2, iI x2)] [] h σ (l_U_freeBits_22 fu p n x1 x2 σ) := by
  intro n
  induction n with
  | zero =>
    intro x1 x2 σ h hW r1 r2 a9 σ9 hm
    rw [l_U_freeBits_22] at hm
    cases hm
  | succ n ih =>
    intro x1 x2 σ h hW r1 r2
    rw [l_U_freeBits_22]
    refine w_iload_n d_U_freeBits_22 rfl rfl ?_
    refine w_aload_n d_U_freeBits_23 rfl rfl ?_
    refine w_gi d_U_freeBits_24 f_U_56 hW (cur_i11 hp) ?_
    refine w_icmp_ge 51 d_U_freeBits_27 (by decide) r2 (hW.rf _ _) (fun c1 => ?_) (fun c1 => ?_)
    · refine w_iload_n d_U_freeBits_30 rfl rfl ?_
      refine w_aload_n d_U_freeBits_31 rfl rfl ?_
      refine w_aload_n d_U_freeBits_32 rfl rfl ?_
      refine w_gr d_U_freeBits_33 f_U_24 hW (cur_r10 hp) ?_
      refine w_iload_n d_U_freeBits_36 rfl rfl ?_
      refine w_at d_U_freeBits_37 l_U_43 hW (cur_a5 hp) r2 (Nat.le_of_ble_eq_true rfl) (Nat.le_trans (Nat.le_of_ble_eq_true rfl) hF) (Nat.le_trans (Nat.le_of_ble_eq_true rfl) hL) ?_
      refine w_cVI [iI (gA σ (p + 5) 4 x2)] [iI x1] d_U_freeBits_40 me_U_bitOf l_U_101 hW (c_U_bitOf hW hp (hW.ga _ _ _)) rfl rfl (Nat.le_of_ble_eq_true rfl) rfl (Nat.le_of_ble_eq_true rfl) (Nat.le_trans (Nat.le_of_ble_eq_true rfl) hF) (Nat.le_trans (Nat.le_of_ble_eq_true rfl) hL) (cur_ob hp) ⟨_, _, rfl⟩ (fun a2 σ3 h4 W5 q6 => ?_)
      refine w_ior d_U_freeBits_43 ?_
      refine w_top (fun y7 e8 => ?_)
      have ry7 : rng y7 := e8 ▸ (bo_rng _ _)
      refine w_istore_n [(1, iI y7), (0, mr p), (2, iI x2)] d_U_freeBits_44 rfl (by decide) rfl ?_
      refine w_iinc [(2, iI (x2 + 1)), (1, iI y7), (0, mr p)] d_U_freeBits_45 rfl (by decide) rfl (fun c9 => ?_)
      refine w_goto 22 d_U_freeBits_48 (by decide) ?_
      exact w_sub (m_sc2 rfl (m_sc2 rfl (m_sc2 rfl (m_sn _)))) (ih y7 (x2 + 1) _ _ W5 ry7 c9)
    · exact w_exit [(1, iI x1)] (m_sc2 rfl (m_sn _)) hW (fun _ _ _ k => k) r1
theorem c_U_freeBits {g : MG} {fu : Nat} {h : List MC} {σ : SS} {p : Nat} (hW : Wd h σ) (hp : cur p) : Cw g M_U_freeBits 1 21 [mr p] rng cI1 h σ (f_U_freeBits fu p σ) := by
  refine w_of (fun d w Q hF hL => ?_)
  unfold f_U_freeBits
  show Ew g none M_U_freeBits d w Q rng (cI1 Q) 0 [(0, mr p)] [] h σ _
  refine w_aload_n d_U_freeBits_0 rfl rfl ?_
  refine w_gi d_U_freeBits_1 f_U_47 hW (cur_i7 hp) ?_
  refine w_sq (G1 := rng) (J := 19) (lvJ := fun x => [(0, mr p)]) (stJ := fun x => [iI x]) ?_ (fun z7 σ8 h9 W10 q11 => ?_)
  · refine w_if_ne 18 d_U_freeBits_4 (by decide) (hW.rf _ _) (fun c1 => ?_) (fun c1 => ?_)
    · refine w_aload_n d_U_freeBits_7 rfl rfl ?_
      refine w_aload_n d_U_freeBits_8 rfl rfl ?_
      refine w_gi d_U_freeBits_9 f_U_50 hW (cur_i8 hp) ?_
      refine w_cVI [iI (σ.1 p 8)] [] d_U_freeBits_12 me_U_bitOf l_U_101 hW (c_U_bitOf hW hp (hW.rf _ _)) rfl rfl (Nat.le_of_ble_eq_true rfl) rfl (Nat.le_of_ble_eq_true rfl) (Nat.le_trans (Nat.le_of_ble_eq_true rfl) hF) (Nat.le_trans (Nat.le_of_ble_eq_true rfl) hL) (cur_ob hp) ⟨_, _, rfl⟩ (fun a2 σ3 h4 W5 q6 => ?_)
      refine w_goto 19 d_U_freeBits_15 (by decide) ?_
      exact w_exit [(0, mr p)] (m_sc2 rfl (m_sn _)) W5 (fun _ _ _ k => k) q6
    · refine w_iconst d_U_freeBits_18 ?_
      exact w_exit [(0, mr p)] (m_sc2 rfl (m_sn _)) hW (fun _ _ _ k => k) (show rng 0 by decide)
  · show Ew _ _ _ _ _ _ _ _ 19 [(0, mr p)] [iI z7] _ _ _
    refine w_istore_n [(1, iI z7), (0, mr p)] d_U_freeBits_19 rfl (by decide) rfl ?_
    refine w_iconst d_U_freeBits_20 ?_
    refine w_istore_n [(2, iI 0), (1, iI z7), (0, mr p)] d_U_freeBits_21 rfl (by decide) rfl ?_
    refine w_sq (G1 := rng) (J := 51) (lvJ := fun x => [(1, iI x)]) (stJ := fun x => []) (w_sub (m_sc2 rfl (m_sc2 rfl (m_sc2 rfl (m_sn _)))) (w_U_freeBits_22 hF hL hp fu z7 0 _ _ W10 q11 (show rng 0 by decide))) (fun z12 σ13 h14 W15 q16 => ?_)
    show Ew _ _ _ _ _ _ _ _ 51 [(1, iI z12)] [] _ _ _
    refine w_iload_n d_U_freeBits_51 rfl rfl ?_
    exact w_iret d_U_freeBits_52 rfl W15 (fun _ _ _ k => k) q16
def l_H_uses_62 (fu : Nat) : Nat → Int → Int → SS → Option ((Int) × SS)
  | 0, _, _, _ => none
  | n + 1, x2, x3, σ => if x3 < 1000000 then (sq (f_U_advance fu 30 σ) fun (a2 : Int) σ3 => if a2 = 0 then (some (x2, σ3)) else (sq (f_U_freeBits fu 30 σ3) fun (a8 : Int) σ9 => lb (bo x2 a8) fun y13 => ck (rng (x3 + 1)) (l_H_uses_62 fu n y13 (x3 + 1) σ9))) else (some (x2, σ))
def f_H_uses (fu : Nat) (x1 : Int) (σ : SS) : Option ((Int ⊕ String) × SS) := sx (f_H_refuseUntold x1 σ) fun (a1 : Unit) σ2 => sq (f_G_isOpen x1 σ2) fun (a6 : Int) σ7 => if a6 = 0 then (sq (f_U_startAt 30 (gA σ7 9 324 x1) (gA σ7 10 324 x1) σ7) fun (a12 : Unit) σ13 => sq (l_H_uses_62 fu fu 0 0 σ13) fun (z17 : Int) σ18 => some (.inl z17, σ18)) else (sq (f_G_parametersOf x1 σ7) fun (a22 : Int) σ23 => ck (rng ((bs 1 a22) - 1)) (some (.inl ((bs 1 a22) - 1), σ23)))
theorem w_H_uses_62 {g : MG} {d w fu : Nat} {Q : MO → List MC → Prop} (hl : g.1.stackTraces = false) (hF : 7 ≤ d) (hL : 111 ≤ w) : ∀ (n : Nat) (x2 : Int) (x3 : Int) (σ : SS) (h : List MC), Wd h σ → rng x2 → rng x3 → Ew g none M_H_uses d w Q rng (cJ g none M_H_uses d w Q 94 (fun x => [(2, iI x)]) (fun x => [])) 62 [(0, mr 0), (2, iI x2), (3, iI x3)] [] h σ (l_H_uses_62 fu n x2 x3 σ) := by
  intro n
  induction n with
  | zero =>
    intro x2 x3 σ h hW r2 r3 a9 σ9 hm
    rw [l_H_uses_62] at hm
    cases hm
  | succ n ih =>
    intro x2 x3 σ h hW r2 r3
    rw [l_H_uses_62]
    refine w_iload_n d_H_uses_62 rfl rfl ?_
    refine w_ldc 1000000 d_H_uses_63 k_H_171 (by decide) ?_
    refine w_icmp_ge 94 d_H_uses_65 (by decide) r3 (show rng 1000000 by decide) (fun c1 => ?_) (fun c1 => ?_)
    · refine w_aload_n d_H_uses_68 rfl rfl ?_
      refine w_gr d_H_uses_69 f_H_42 hW or0_3 ?_
      refine w_cVI [] [] d_H_uses_72 me_U_advance l_H_172 hW (c_U_advance hW cur30) rfl rfl (Nat.le_of_ble_eq_true rfl) rfl (Nat.le_of_ble_eq_true rfl) (Nat.le_trans (Nat.le_of_ble_eq_true rfl) hF) (Nat.le_trans (Nat.le_of_ble_eq_true rfl) hL) (cur_ob cur30) ⟨_, _, rfl⟩ (fun a2 σ3 h4 W5 q6 => ?_)
      refine w_if_eq 94 d_H_uses_75 (by decide) q6 (fun c7 => ?_) (fun c7 => ?_)
      · exact w_exit [(2, iI x2)] (m_sc2 rfl (m_sn _)) W5 (fun _ _ _ k => k) r2
      · refine w_iload_n d_H_uses_78 rfl rfl ?_
        refine w_aload_n d_H_uses_79 rfl rfl ?_
        refine w_gr d_H_uses_80 f_H_42 W5 or0_3 ?_
        refine w_cVI [] [iI x2] d_H_uses_83 me_U_freeBits l_H_201 W5 (c_U_freeBits W5 cur30) rfl rfl (Nat.le_of_ble_eq_true rfl) rfl (Nat.le_of_ble_eq_true rfl) (Nat.le_trans (Nat.le_of_ble_eq_true rfl) hF) (Nat.le_trans (Nat.le_of_ble_eq_true rfl) hL) (cur_ob cur30) ⟨_, _, rfl⟩ (fun a8 σ9 h10 W11 q12 => ?_)
        refine w_ior d_H_uses_86 ?_
        refine w_top (fun y13 e14 => ?_)
        have ry13 : rng y13 := e14 ▸ (bo_rng _ _)
        refine w_istore_n [(2, iI y13), (0, mr 0), (3, iI x3)] d_H_uses_87 rfl (by decide) rfl ?_
        refine w_iinc [(3, iI (x3 + 1)), (2, iI y13), (0, mr 0)] d_H_uses_88 rfl (by decide) rfl (fun c15 => ?_)
        refine w_goto 62 d_H_uses_91 (by decide) ?_
        exact w_sub (m_sc2 rfl (m_sc2 rfl (m_sc2 rfl (m_sn _)))) (ih y13 (x3 + 1) _ _ W11 ry13 c15)
    · exact w_exit [(2, iI x2)] (m_sc2 rfl (m_sn _)) hW (fun _ _ _ k => k) r2
theorem c_H_uses {g : MG} {fu : Nat} {h : List MC} {σ : SS} {x1 : Int} (hl : g.1.stackTraces = false) (hW : Wd h σ) (r1 : rng x1) : Cw g M_H_uses 7 111 [mr 0, iI x1] (gS2 rng gE) (fun Q => cS2 (cI1 Q) (cE1 Q)) h σ (f_H_uses fu x1 σ) := by
  refine w_of (fun d w Q hF hL => ?_)
  unfold f_H_uses
  show Ew g none M_H_uses d w Q (gS2 rng gE) (cS2 (cI1 Q) (cE1 Q)) 0 [(0, mr 0), (1, iI x1)] [] h σ _
  refine w_aload_n d_H_uses_0 rfl rfl ?_
  refine w_iload_n d_H_uses_1 rfl rfl ?_
  refine w_xVU [iI x1] [] d_H_uses_2 me_H_refuseUntold l_H_180 rfl hW (c_H_refuseUntold hl hW r1) rfl rfl (Nat.le_of_ble_eq_true rfl) rfl (Nat.le_of_ble_eq_true rfl) (Nat.le_trans (Nat.le_of_ble_eq_true rfl) hF) (Nat.le_trans (Nat.le_of_ble_eq_true rfl) hL) ob0 ⟨_, _, rfl⟩ (fun a1 σ2 h3 W4 q5 => ?_)
  refine w_aload_n d_H_uses_5 rfl rfl ?_
  refine w_gr d_H_uses_6 f_H_24 W4 or0_1 ?_
  refine w_iload_n d_H_uses_9 rfl rfl ?_
  refine w_cVI [iI x1] [] d_H_uses_10 me_G_isOpen l_H_189 W4 (c_G_isOpen W4 r1) rfl rfl (Nat.le_of_ble_eq_true rfl) rfl (Nat.le_of_ble_eq_true rfl) (Nat.le_trans (Nat.le_of_ble_eq_true rfl) hF) (Nat.le_trans (Nat.le_of_ble_eq_true rfl) hL) ob7 ⟨_, _, rfl⟩ (fun a6 σ7 h8 W9 q10 => ?_)
  refine w_if_eq 29 d_H_uses_13 (by decide) q10 (fun c11 => ?_) (fun c11 => ?_)
  · refine w_aload_n d_H_uses_29 rfl rfl ?_
    refine w_gr d_H_uses_30 f_H_42 W9 or0_3 ?_
    refine w_aload_n d_H_uses_33 rfl rfl ?_
    refine w_gr d_H_uses_34 f_H_24 W9 or0_1 ?_
    refine w_gr d_H_uses_37 f_H_192 W9 or7_2 ?_
    refine w_iload_n d_H_uses_40 rfl rfl ?_
    refine w_at d_H_uses_41 l_H_167 W9 ia9 r1 (Nat.le_of_ble_eq_true rfl) (Nat.le_trans (Nat.le_of_ble_eq_true rfl) hF) (Nat.le_trans (Nat.le_of_ble_eq_true rfl) hL) ?_
    refine w_aload_n d_H_uses_44 rfl rfl ?_
    refine w_gr d_H_uses_45 f_H_24 W9 or0_1 ?_
    refine w_gr d_H_uses_48 f_H_195 W9 or7_3 ?_
    refine w_iload_n d_H_uses_51 rfl rfl ?_
    refine w_at d_H_uses_52 l_H_167 W9 ia10 r1 (Nat.le_of_ble_eq_true rfl) (Nat.le_trans (Nat.le_of_ble_eq_true rfl) hF) (Nat.le_trans (Nat.le_of_ble_eq_true rfl) hL) ?_
    refine w_cVU [iI (gA σ7 9 324 x1), iI (gA σ7 10 324 x1)] [] d_H_uses_55 me_U_startAt l_H_198 W9 (c_U_startAt W9 cur30 (W9.ga _ _ _) (W9.ga _ _ _)) rfl rfl (Nat.le_of_ble_eq_true rfl) rfl (Nat.le_of_ble_eq_true rfl) (Nat.le_trans (Nat.le_of_ble_eq_true rfl) hF) (Nat.le_trans (Nat.le_of_ble_eq_true rfl) hL) (cur_ob cur30) ⟨_, _, rfl⟩ (fun a12 σ13 h14 W15 q16 => ?_)
    refine w_iconst d_H_uses_58 ?_
    refine w_istore_n [(2, iI 0), (0, mr 0), (1, iI x1)] d_H_uses_59 rfl (by decide) rfl ?_
    refine w_iconst d_H_uses_60 ?_
    refine w_istore_n [(3, iI 0), (2, iI 0), (0, mr 0), (1, iI x1)] d_H_uses_61 rfl (by decide) rfl ?_
    refine w_sq (G1 := rng) (J := 94) (lvJ := fun x => [(2, iI x)]) (stJ := fun x => []) (w_sub (m_sc2 rfl (m_sc2 rfl (m_sc2 rfl (m_sn _)))) (w_H_uses_62 hl hF hL fu 0 0 _ _ W15 (show rng 0 by decide) (show rng 0 by decide))) (fun z17 σ18 h19 W20 q21 => ?_)
    show Ew _ _ _ _ _ _ _ _ 94 [(2, iI z17)] [] _ _ _
    refine w_iload_n d_H_uses_94 rfl rfl ?_
    exact w_iret d_H_uses_95 rfl W20 (fun _ _ _ k => k) q21
  · refine w_iconst d_H_uses_16 ?_
    refine w_aload_n d_H_uses_17 rfl rfl ?_
    refine w_gr d_H_uses_18 f_H_24 W9 or0_1 ?_
    refine w_iload_n d_H_uses_21 rfl rfl ?_
    refine w_cVI [iI x1] [iI 1] d_H_uses_22 me_G_parametersOf l_H_122 W9 (c_G_parametersOf W9 r1) rfl rfl (Nat.le_of_ble_eq_true rfl) rfl (Nat.le_of_ble_eq_true rfl) (Nat.le_trans (Nat.le_of_ble_eq_true rfl) hF) (Nat.le_trans (Nat.le_of_ble_eq_true rfl) hL) ob7 ⟨_, _, rfl⟩ (fun a22 σ23 h24 W25 q26 => ?_)
    refine w_ishl d_H_uses_25 ?_
    refine w_iconst d_H_uses_26 ?_
    refine w_isub d_H_uses_27 (fun c27 => ?_)
    exact w_iret d_H_uses_28 rfl W25 (fun _ _ _ k => k) c27
