def f_O_boundBy (x1 : Int) (x2 : Int) (σ : SS) : Option (Int × SS) := ck (rng (x1 * 3)) (ck (rng ((x1 * 3) + x2)) (some ((gA σ 6 48 ((x1 * 3) + x2)), σ)))
theorem c_O_boundBy {g : MG} {h : List MC} {σ : SS} {x1 : Int} {x2 : Int} (hW : Wd h σ) (r1 : rng x1) (r2 : rng x2) : Cw g M_O_boundBy 1 21 [mr 4, iI x1, iI x2] rng cI1 h σ (f_O_boundBy x1 x2 σ) := by
  refine w_of (fun d w Q hF hL => ?_)
  unfold f_O_boundBy
  show Ew g none M_O_boundBy d w Q rng (cI1 Q) 0 [(0, mr 4), (1, iI x1), (2, iI x2)] [] h σ _
  refine w_aload_n d_O_boundBy_0 rfl rfl ?_
  refine w_gr d_O_boundBy_1 f_O_15 hW or4_1 ?_
  refine w_iload_n d_O_boundBy_4 rfl rfl ?_
  refine w_iconst d_O_boundBy_5 ?_
  refine w_imul d_O_boundBy_6 (fun c1 => ?_)
  refine w_iload_n d_O_boundBy_7 rfl rfl ?_
  refine w_iadd d_O_boundBy_8 (fun c2 => ?_)
  refine w_at d_O_boundBy_9 l_O_34 hW ia6 c2 (Nat.le_of_ble_eq_true rfl) (Nat.le_trans (Nat.le_of_ble_eq_true rfl) hF) (Nat.le_trans (Nat.le_of_ble_eq_true rfl) hL) ?_
  exact w_iret d_O_boundBy_12 rfl hW (fun _ _ _ k => k) (hW.ga _ _ _)
def l_O_mostBound_4 (fu : Nat) : Nat → Int → Int → Int → SS → Option ((Int) × SS)
  | 0, _, _, _, _ => none
  | n + 1, x1, x2, x3, σ => sq (f_O_arityOf x1 σ) fun (a1 : Int) σ2 => if x3 < a1 then (sq (f_O_boundBy x1 x3 σ2) fun (a7 : Int) σ8 => lb (mx x2 a7) fun y12 => ck (rng (x3 + 1)) (l_O_mostBound_4 fu n x1 y12 (x3 + 1) σ8)) else (some (x2, σ2))
def f_O_mostBound (fu : Nat) (x1 : Int) (σ : SS) : Option (Int × SS) := sq (l_O_mostBound_4 fu fu x1 0 0 σ) fun (z1 : Int) σ2 => some (z1, σ2)
theorem w_O_mostBound_4 {g : MG} {d w fu : Nat} {Q : MO → List MC → Prop} (hF : 2 ≤ d) (hL : 43 ≤ w) : ∀ (n : Nat) (x1 : Int) (x2 : Int) (x3 : Int) (σ : SS) (h : List MC), Wd h σ → rng x1 → rng x2 → rng x3 → Ew g none M_O_mostBound d w Q rng (cJ g none M_O_mostBound d w Q 30 (fun x => [(2, iI x)]) (fun x => [])) 4 [(0, mr 4), (1, iI x1), (2, iI x2), (3, iI x3)] [] h σ (l_O_mostBound_4 fu n x1 x2 x3 σ) := by
  intro n
  induction n with
  | zero =>
    intro x1 x2 x3 σ h hW r1 r2 r3 a9 σ9 hm
    rw [l_O_mostBound_4] at hm
    cases hm
  | succ n ih =>
    intro x1 x2 x3 σ h hW r1 r2 r3
    rw [l_O_mostBound_4]
    refine w_iload_n d_O_mostBound_4 rfl rfl ?_
    refine w_aload_n d_O_mostBound_5 rfl rfl ?_
    refine w_iload_n d_O_mostBound_6 rfl rfl ?_
    refine w_cVI [iI x1] [iI x3] d_O_mostBound_7 me_O_arityOf l_O_26 hW (c_O_arityOf hW r1) rfl rfl (Nat.le_of_ble_eq_true rfl) rfl (Nat.le_of_ble_eq_true rfl) (Nat.le_trans (Nat.le_of_ble_eq_true rfl) hF) (Nat.le_trans (Nat.le_of_ble_eq_true rfl) hL) ob4 ⟨_, _, rfl⟩ (fun a1 σ2 h3 W4 q5 => ?_)
    refine w_icmp_ge 30 d_O_mostBound_10 (by decide) r3 q5 (fun c6 => ?_) (fun c6 => ?_)
    · refine w_iload_n d_O_mostBound_13 rfl rfl ?_
      refine w_aload_n d_O_mostBound_14 rfl rfl ?_
      refine w_iload_n d_O_mostBound_15 rfl rfl ?_
      refine w_iload_n d_O_mostBound_16 rfl rfl ?_
      refine w_cVI [iI x1, iI x3] [iI x2] d_O_mostBound_17 me_O_boundBy l_O_38 W4 (c_O_boundBy W4 r1 r3) rfl rfl (Nat.le_of_ble_eq_true rfl) rfl (Nat.le_of_ble_eq_true rfl) (Nat.le_trans (Nat.le_of_ble_eq_true rfl) hF) (Nat.le_trans (Nat.le_of_ble_eq_true rfl) hL) ob4 ⟨_, _, rfl⟩ (fun a7 σ8 h9 W10 q11 => ?_)
      refine w_max d_O_mostBound_20 lm_O_42 r2 q11 (Nat.le_of_ble_eq_true rfl) (Nat.le_trans (Nat.le_of_ble_eq_true rfl) hF) (Nat.le_trans (Nat.le_of_ble_eq_true rfl) hL) ?_
      refine w_top (fun y12 e13 => ?_)
      have ry12 : rng y12 := e13 ▸ (mx_rng r2 q11)
      refine w_istore_n [(2, iI y12), (0, mr 4), (1, iI x1), (3, iI x3)] d_O_mostBound_23 rfl (by decide) rfl ?_
      refine w_iinc [(3, iI (x3 + 1)), (2, iI y12), (0, mr 4), (1, iI x1)] d_O_mostBound_24 rfl (by decide) rfl (fun c14 => ?_)
      refine w_goto 4 d_O_mostBound_27 (by decide) ?_
      exact w_sub (m_sc2 rfl (m_sc2 rfl (m_sc2 rfl (m_sc2 rfl (m_sn _))))) (ih x1 y12 (x3 + 1) _ _ W10 r1 ry12 c14)
    · exact w_exit [(2, iI x2)] (m_sc2 rfl (m_sn _)) W4 (fun _ _ _ k => k) r2
theorem c_O_mostBound {g : MG} {fu : Nat} {h : List MC} {σ : SS} {x1 : Int} (hW : Wd h σ) (r1 : rng x1) : Cw g M_O_mostBound 2 43 [mr 4, iI x1] rng cI1 h σ (f_O_mostBound fu x1 σ) := by
  refine w_of (fun d w Q hF hL => ?_)
  unfold f_O_mostBound
  show Ew g none M_O_mostBound d w Q rng (cI1 Q) 0 [(0, mr 4), (1, iI x1)] [] h σ _
  refine w_iconst d_O_mostBound_0 ?_
  refine w_istore_n [(2, iI 0), (0, mr 4), (1, iI x1)] d_O_mostBound_1 rfl (by decide) rfl ?_
  refine w_iconst d_O_mostBound_2 ?_
  refine w_istore_n [(3, iI 0), (2, iI 0), (0, mr 4), (1, iI x1)] d_O_mostBound_3 rfl (by decide) rfl ?_
  refine w_sq (G1 := rng) (J := 30) (lvJ := fun x => [(2, iI x)]) (stJ := fun x => []) (w_sub (m_sc2 rfl (m_sc2 rfl (m_sc2 rfl (m_sc2 rfl (m_sn _))))) (w_O_mostBound_4 hF hL fu x1 0 0 _ _ hW r1 (show rng 0 by decide) (show rng 0 by decide))) (fun z1 σ2 h3 W4 q5 => ?_)
  show Ew _ _ _ _ _ _ _ _ 30 [(2, iI z1)] [] _ _ _
  refine w_iload_n d_O_mostBound_30 rfl rfl ?_
  exact w_iret d_O_mostBound_31 rfl W4 (fun _ _ _ k => k) q5
def f_H_hasRoom (fu : Nat) (q : Nat) (x2 : Int) (x3 : Int) (σ : SS) : Option (Int × SS) := sq (f_S_isBehindHole q σ) fun (a1 : Int) σ2 => if a1 = 0 then (if (σ2.1 q 6) < 30 then (if x2 = 1 then (sq (f_S_variablesHere q σ2) fun (a9 : Int) σ10 => sq (f_O_mostBound fu x3 σ10) fun (a14 : Int) σ15 => ck (rng (a9 + a14)) (if 12 < (a9 + a14) then (some (0, σ15)) else (some (1, σ15)))) else (some (1, σ2))) else (some (0, σ2))) else (some (1, σ2))
theorem c_H_hasRoom {g : MG} {fu : Nat} {h : List MC} {σ : SS} {q : Nat} {x2 : Int} {x3 : Int} (hW : Wd h σ) (hq : slt q) (r2 : rng x2) (r3 : rng x3) : Cw g M_H_hasRoom 3 66 [mr 0, mr q, iI x2, iI x3] rng cI1 h σ (f_H_hasRoom fu q x2 x3 σ) := by
  refine w_of (fun d w Q hF hL => ?_)
  unfold f_H_hasRoom
  show Ew g none M_H_hasRoom d w Q rng (cI1 Q) 0 [(0, mr 0), (1, mr q), (2, iI x2), (3, iI x3)] [] h σ _
  refine w_aload_n d_H_hasRoom_0 rfl rfl ?_
  refine w_cVI [] [] d_H_hasRoom_1 me_S_isBehindHole l_H_216 hW (c_S_isBehindHole hW hq) rfl rfl (Nat.le_of_ble_eq_true rfl) rfl (Nat.le_of_ble_eq_true rfl) (Nat.le_trans (Nat.le_of_ble_eq_true rfl) hF) (Nat.le_trans (Nat.le_of_ble_eq_true rfl) hL) (slt_ob hq) ⟨_, _, rfl⟩ (fun a1 σ2 h3 W4 q5 => ?_)
  refine w_if_eq 9 d_H_hasRoom_4 (by decide) q5 (fun c6 => ?_) (fun c6 => ?_)
  · refine w_aload_n d_H_hasRoom_9 rfl rfl ?_
    refine w_gi d_H_hasRoom_10 f_H_219 W4 (slt_i6 hq) ?_
    refine w_bipush d_H_hasRoom_13 (by decide) ?_
    refine w_icmp_lt 20 d_H_hasRoom_15 (by decide) (W4.rf _ _) (show rng 30 by decide) (fun c7 => ?_) (fun c7 => ?_)
    · refine w_iload_n d_H_hasRoom_20 rfl rfl ?_
      refine w_iconst d_H_hasRoom_21 ?_
      refine w_icmp_ne 43 d_H_hasRoom_22 (by decide) r2 (show rng 1 by decide) (fun c8 => ?_) (fun c8 => ?_)
      · refine w_aload_n d_H_hasRoom_25 rfl rfl ?_
        refine w_cVI [] [] d_H_hasRoom_26 me_S_variablesHere l_H_222 W4 (c_S_variablesHere W4 hq) rfl rfl (Nat.le_of_ble_eq_true rfl) rfl (Nat.le_of_ble_eq_true rfl) (Nat.le_trans (Nat.le_of_ble_eq_true rfl) hF) (Nat.le_trans (Nat.le_of_ble_eq_true rfl) hL) (slt_ob hq) ⟨_, _, rfl⟩ (fun a9 σ10 h11 W12 q13 => ?_)
        refine w_aload_n d_H_hasRoom_29 rfl rfl ?_
        refine w_gr d_H_hasRoom_30 f_H_15 W12 or0_0 ?_
        refine w_iload_n d_H_hasRoom_33 rfl rfl ?_
        refine w_cVI [iI x3] [iI a9] d_H_hasRoom_34 me_O_mostBound l_H_225 W12 (c_O_mostBound W12 r3) rfl rfl (Nat.le_of_ble_eq_true rfl) rfl (Nat.le_of_ble_eq_true rfl) (Nat.le_trans (Nat.le_of_ble_eq_true rfl) hF) (Nat.le_trans (Nat.le_of_ble_eq_true rfl) hL) ob4 ⟨_, _, rfl⟩ (fun a14 σ15 h16 W17 q18 => ?_)
        refine w_iadd d_H_hasRoom_37 (fun c19 => ?_)
        refine w_bipush d_H_hasRoom_38 (by decide) ?_
        refine w_icmp_gt 47 d_H_hasRoom_40 (by decide) c19 (show rng 12 by decide) (fun c20 => ?_) (fun c20 => ?_)
        · refine w_iconst d_H_hasRoom_47 ?_
          exact w_zret d_H_hasRoom_48 rfl (by decide) W17 (fun _ _ _ k => k) (show rng 0 by decide)
        · refine w_iconst d_H_hasRoom_43 ?_
          refine w_goto 48 d_H_hasRoom_44 (by decide) ?_
          exact w_zret d_H_hasRoom_48 rfl (by decide) W17 (fun _ _ _ k => k) (show rng 1 by decide)
      · refine w_iconst d_H_hasRoom_43 ?_
        refine w_goto 48 d_H_hasRoom_44 (by decide) ?_
        exact w_zret d_H_hasRoom_48 rfl (by decide) W4 (fun _ _ _ k => k) (show rng 1 by decide)
    · refine w_iconst d_H_hasRoom_18 ?_
      exact w_zret d_H_hasRoom_19 rfl (by decide) W4 (fun _ _ _ k => k) (show rng 0 by decide)
  · refine w_iconst d_H_hasRoom_7 ?_
    exact w_zret d_H_hasRoom_8 rfl (by decide) W4 (fun _ _ _ k => k) (show rng 1 by decide)
def f_S_write (p : Nat) (x1 : Int) (x2 : Int) (σ : SS) : Option (Unit × SS) := ck (rng ((σ.1 p 1) + (σ.1 p 5))) (sq (f_C_write ((σ.1 p 1) + (σ.1 p 5)) x1 x2 σ) fun (a2 : Unit) σ3 => ck (rng ((σ3.1 p 5) + 1)) (lb (sF σ3 p 5 ((σ3.1 p 5) + 1)) fun σ9 => some ((), σ9)))
theorem c_S_write {g : MG} {h : List MC} {σ : SS} {p : Nat} {x1 : Int} {x2 : Int} (hW : Wd h σ) (hp : slt p) (r1 : rng x1) (r2 : rng x2) : Cw g M_S_write 2 45 [mr p, iI x1, iI x2] gU cU1 h σ (f_S_write p x1 x2 σ) := by
  refine w_of (fun d w Q hF hL => ?_)
  unfold f_S_write
  show Ew g none M_S_write d w Q gU (cU1 Q) 0 [(0, mr p), (1, iI x1), (2, iI x2)] [] h σ _
  refine w_aload_n d_S_write_0 rfl rfl ?_
  refine w_gr d_S_write_1 f_S_15 hW (slt_r0 hp) ?_
  refine w_aload_n d_S_write_4 rfl rfl ?_
  refine w_gi d_S_write_5 f_S_19 hW (slt_i1 hp) ?_
  refine w_aload_n d_S_write_8 rfl rfl ?_
  refine w_gi d_S_write_9 f_S_26 hW (slt_i5 hp) ?_
  refine w_iadd d_S_write_12 (fun c1 => ?_)
  refine w_iload_n d_S_write_13 rfl rfl ?_
  refine w_iload_n d_S_write_14 rfl rfl ?_
  refine w_cVU [iI ((σ.1 p 1) + (σ.1 p 5)), iI x1, iI x2] [] d_S_write_15 me_C_write l_S_91 hW (c_C_write hW c1 r1 r2) rfl rfl (Nat.le_of_ble_eq_true rfl) rfl (Nat.le_of_ble_eq_true rfl) (Nat.le_trans (Nat.le_of_ble_eq_true rfl) hF) (Nat.le_trans (Nat.le_of_ble_eq_true rfl) hL) ob1 ⟨_, _, rfl⟩ (fun a2 σ3 h4 W5 q6 => ?_)
  refine w_aload_n d_S_write_18 rfl rfl ?_
  refine w_dup d_S_write_19 rfl ?_
  refine w_gi d_S_write_20 f_S_26 W5 (slt_i5 hp) ?_
  refine w_iconst d_S_write_23 ?_
  refine w_iadd d_S_write_24 (fun c7 => ?_)
  refine w_pi d_S_write_25 p_S_26 W5 (slt_i5 hp) (by decide) c7 (fun h8 σ9 e10 W11 => ?_)
  exact w_ret d_S_write_28 rfl W11 (fun _ _ _ k => k) True.intro
def f_S_takeVariable (p : Nat) (x1 : Int) (σ : SS) : Option (Unit × SS) := sq (f_S_boundHere p σ) fun (a1 : Int) σ2 => sq (f_S_isBehindHole p σ2) fun (a6 : Int) σ7 => sq (if a6 = 0 then (ck (rng ((σ7.1 p 3) - 1)) (lb (sF σ7 p 3 ((σ7.1 p 3) - 1)) fun σ14 => ck (rng ((σ14.1 p 6) + 1)) (lb (sF σ14 p 6 ((σ14.1 p 6) + 1)) fun σ19 => some ((), σ19)))) else (ck (rng ((σ7.1 p 7) - 1)) (lb (sF σ7 p 7 ((σ7.1 p 7) - 1)) fun σ24 => some ((), σ24)))) fun (z27 : Unit) σ28 => ck (rng (4 * x1 + 0)) (sq (f_S_write p (4 * x1 + 0) a1 σ28) fun (a33 : Unit) σ34 => some ((), σ34))
theorem c_S_takeVariable {g : MG} {h : List MC} {σ : SS} {p : Nat} {x1 : Int} (hW : Wd h σ) (hp : slt p) (r1 : rng x1) : Cw g M_S_takeVariable 3 67 [mr p, iI x1] gU cU1 h σ (f_S_takeVariable p x1 σ) := by
  refine w_of (fun d w Q hF hL => ?_)
  unfold f_S_takeVariable
  show Ew g none M_S_takeVariable d w Q gU (cU1 Q) 0 [(0, mr p), (1, iI x1)] [] h σ _
  refine w_aload_n d_S_takeVariable_0 rfl rfl ?_
  refine w_cVI [] [] d_S_takeVariable_1 me_S_boundHere l_S_46 hW (c_S_boundHere hW hp) rfl rfl (Nat.le_of_ble_eq_true rfl) rfl (Nat.le_of_ble_eq_true rfl) (Nat.le_trans (Nat.le_of_ble_eq_true rfl) hF) (Nat.le_trans (Nat.le_of_ble_eq_true rfl) hL) (slt_ob hp) ⟨_, _, rfl⟩ (fun a1 σ2 h3 W4 q5 => ?_)
  refine w_istore_n [(2, iI a1), (0, mr p), (1, iI x1)] d_S_takeVariable_4 rfl (by decide) rfl ?_
  refine w_aload_n d_S_takeVariable_5 rfl rfl ?_
  refine w_cVI [] [] d_S_takeVariable_6 me_S_isBehindHole l_S_49 W4 (c_S_isBehindHole W4 hp) rfl rfl (Nat.le_of_ble_eq_true rfl) rfl (Nat.le_of_ble_eq_true rfl) (Nat.le_trans (Nat.le_of_ble_eq_true rfl) hF) (Nat.le_trans (Nat.le_of_ble_eq_true rfl) hL) (slt_ob hp) ⟨_, _, rfl⟩ (fun a6 σ7 h8 W9 q10 => ?_)
  refine w_sq (G1 := gU) (J := 45) (lvJ := fun x => [(0, mr p), (1, iI x1), (2, iI a1)]) (stJ := fun x => []) ?_ (fun z27 σ28 h29 W30 q31 => ?_)
  · refine w_if_eq 25 d_S_takeVariable_9 (by decide) q10 (fun c11 => ?_) (fun c11 => ?_)
    · refine w_aload_n d_S_takeVariable_25 rfl rfl ?_
      refine w_dup d_S_takeVariable_26 rfl ?_
      refine w_gi d_S_takeVariable_27 f_S_39 W9 (slt_i3 hp) ?_
      refine w_iconst d_S_takeVariable_30 ?_
      refine w_isub d_S_takeVariable_31 (fun c12 => ?_)
      refine w_pi d_S_takeVariable_32 p_S_39 W9 (slt_i3 hp) (by decide) c12 (fun h13 σ14 e15 W16 => ?_)
      refine w_aload_n d_S_takeVariable_35 rfl rfl ?_
      refine w_dup d_S_takeVariable_36 rfl ?_
      refine w_gi d_S_takeVariable_37 f_S_29 W16 (slt_i6 hp) ?_
      refine w_iconst d_S_takeVariable_40 ?_
      refine w_iadd d_S_takeVariable_41 (fun c17 => ?_)
      refine w_pi d_S_takeVariable_42 p_S_29 W16 (slt_i6 hp) (by decide) c17 (fun h18 σ19 e20 W21 => ?_)
      exact w_exit [(0, mr p), (1, iI x1), (2, iI a1)] (m_sc2 rfl (m_sc2 rfl (m_sc2 rfl (m_sn _)))) W21 (fun _ _ _ k => k) True.intro
    · refine w_aload_n d_S_takeVariable_12 rfl rfl ?_
      refine w_dup d_S_takeVariable_13 rfl ?_
      refine w_gi d_S_takeVariable_14 f_S_32 W9 (slt_i7 hp) ?_
      refine w_iconst d_S_takeVariable_17 ?_
      refine w_isub d_S_takeVariable_18 (fun c22 => ?_)
      refine w_pi d_S_takeVariable_19 p_S_32 W9 (slt_i7 hp) (by decide) c22 (fun h23 σ24 e25 W26 => ?_)
      refine w_goto 45 d_S_takeVariable_22 (by decide) ?_
      exact w_exit [(0, mr p), (1, iI x1), (2, iI a1)] (m_sc2 rfl (m_sc2 rfl (m_sc2 rfl (m_sn _)))) W26 (fun _ _ _ k => k) True.intro
  · show Ew _ _ _ _ _ _ _ _ 45 [(0, mr p), (1, iI x1), (2, iI a1)] [] _ _ _
    refine w_aload_n d_S_takeVariable_45 rfl rfl ?_
    refine w_iconst d_S_takeVariable_46 ?_
    refine w_iload_n d_S_takeVariable_47 rfl rfl ?_
    refine w_codeOf d_S_takeVariable_48 l_S_75 (Nat.le_of_ble_eq_true rfl) (Nat.le_trans (Nat.le_of_ble_eq_true rfl) hF) (Nat.le_trans (Nat.le_of_ble_eq_true rfl) hL) (fun c32 => ?_)
    refine w_iload_n d_S_takeVariable_51 rfl rfl ?_
    refine w_cVU [iI (4 * x1 + 0), iI a1] [] d_S_takeVariable_52 me_S_write l_S_79 W30 (c_S_write W30 hp c32 q5) rfl rfl (Nat.le_of_ble_eq_true rfl) rfl (Nat.le_of_ble_eq_true rfl) (Nat.le_trans (Nat.le_of_ble_eq_true rfl) hF) (Nat.le_trans (Nat.le_of_ble_eq_true rfl) hL) (slt_ob hp) ⟨_, _, rfl⟩ (fun a33 σ34 h35 W36 q37 => ?_)
    exact w_ret d_S_takeVariable_55 rfl W36 (fun _ _ _ k => k) True.intro
def l_S_takeOperation_44 (fu : Nat) (p : Nat) : Nat → Int → Int → Int → SS → Option ((Unit) × SS)
  | 0, _, _, _, _ => none
  | n + 1, x1, x3, x4, σ => if x4 < 0 then (some ((), σ)) else (sq (f_O_boundBy x1 x4 σ) fun (a2 : Int) σ3 => ck (rng (x3 + a2)) (lb (gS σ3 (p + 1) 91 (σ.1 p 3) (x3 + a2)) fun σ9 => ck (rng ((σ9.1 p 3) + 1)) (lb (sF σ9 p 3 ((σ9.1 p 3) + 1)) fun σ14 => ck (rng (x4 + (-1))) (l_S_takeOperation_44 fu p n x1 x3 (x4 + (-1)) σ14))))
def f_S_takeOperation (fu : Nat) (p : Nat) (x1 : Int) (σ : SS) : Option (Unit × SS) := sq (f_S_boundHere p σ) fun (a1 : Int) σ2 => ck (rng ((σ2.1 p 3) - 1)) (lb (sF σ2 p 3 ((σ2.1 p 3) - 1)) fun σ8 => ck (rng ((σ8.1 p 6) + 1)) (lb (sF σ8 p 6 ((σ8.1 p 6) + 1)) fun σ13 => ck (rng (4 * x1 + 1)) (sq (f_S_write p (4 * x1 + 1) a1 σ13) fun (a17 : Unit) σ18 => sq (f_O_arityOf x1 σ18) fun (a22 : Int) σ23 => ck (rng (a22 - 1)) (lb (a22 - 1) fun y28 => sq (l_S_takeOperation_44 fu p fu x1 a1 y28 σ23) fun (z30 : Unit) σ31 => some ((), σ31)))))
theorem w_S_takeOperation_44 {g : MG} {d w fu : Nat} {Q : MO → List MC → Prop} {p : Nat} (hF : 3 ≤ d) (hL : 67 ≤ w) (hp : slt p) : ∀ (n : Nat) (x1 : Int) (x3 : Int) (x4 : Int) (σ : SS) (h : List MC), Wd h σ → rng x1 → rng x3 → rng x4 → Ew g none M_S_takeOperation d w Q gU (cJ g none M_S_takeOperation d w Q 85 (fun x => []) (fun x => [])) 44 [(0, mr p), (1, iI x1), (2, mr 4), (3, iI x3), (4, iI x4)] [] h σ (l_S_takeOperation_44 fu p n x1 x3 x4 σ) := by
  intro n
  induction n with
  | zero =>
    intro x1 x3 x4 σ h hW r1 r3 r4 a9 σ9 hm
    rw [l_S_takeOperation_44] at hm
    cases hm
  | succ n ih =>
    intro x1 x3 x4 σ h hW r1 r3 r4
    rw [l_S_takeOperation_44]
    refine w_iload d_S_takeOperation_44 rfl ?_
    refine w_if_lt 85 d_S_takeOperation_46 (by decide) r4 (fun c1 => ?_) (fun c1 => ?_)
    · exact w_exit [] (m_sn _) hW (fun _ _ _ k => k) True.intro
    · refine w_aload_n d_S_takeOperation_49 rfl rfl ?_
      refine w_gr d_S_takeOperation_50 f_S_9 hW (slt_r2 hp) ?_
      refine w_aload_n d_S_takeOperation_53 rfl rfl ?_
      refine w_gi d_S_takeOperation_54 f_S_39 hW (slt_i3 hp) ?_
      refine w_iload_n d_S_takeOperation_57 rfl rfl ?_
      refine w_aload_n d_S_takeOperation_58 rfl rfl ?_
      refine w_iload_n d_S_takeOperation_59 rfl rfl ?_
      refine w_iload d_S_takeOperation_60 rfl ?_
      refine w_cVI [iI x1, iI x4] [iI x3, iI (σ.1 p 3), mr (p + 1)] d_S_takeOperation_62 me_O_boundBy l_S_88 hW (c_O_boundBy hW r1 r4) rfl rfl (Nat.le_of_ble_eq_true rfl) rfl (Nat.le_of_ble_eq_true rfl) (Nat.le_trans (Nat.le_of_ble_eq_true rfl) hF) (Nat.le_trans (Nat.le_of_ble_eq_true rfl) hL) ob4 ⟨_, _, rfl⟩ (fun a2 σ3 h4 W5 q6 => ?_)
      refine w_iadd d_S_takeOperation_65 (fun c7 => ?_)
      refine w_set d_S_takeOperation_66 l_S_35 W5 (slt_a1 hp) (hW.rf _ _) c7 (Nat.le_of_ble_eq_true rfl) (Nat.le_trans (Nat.le_of_ble_eq_true rfl) hF) (Nat.le_trans (Nat.le_of_ble_eq_true rfl) hL) (fun h8 σ9 e10 W11 => ?_)
      refine w_aload_n d_S_takeOperation_69 rfl rfl ?_
      refine w_dup d_S_takeOperation_70 rfl ?_
      refine w_gi d_S_takeOperation_71 f_S_39 W11 (slt_i3 hp) ?_
      refine w_iconst d_S_takeOperation_74 ?_
      refine w_iadd d_S_takeOperation_75 (fun c12 => ?_)
      refine w_pi d_S_takeOperation_76 p_S_39 W11 (slt_i3 hp) (by decide) c12 (fun h13 σ14 e15 W16 => ?_)
      refine w_iinc [(4, iI (x4 + (-1))), (0, mr p), (1, iI x1), (2, mr 4), (3, iI x3)] d_S_takeOperation_79 rfl (by decide) rfl (fun c17 => ?_)
      refine w_goto 44 d_S_takeOperation_82 (by decide) ?_
      exact w_sub (m_sc2 rfl (m_sc2 rfl (m_sc2 rfl (m_sc2 rfl (m_sc2 rfl (m_sn _)))))) (ih x1 x3 (x4 + (-1)) _ _ W16 r1 r3 c17)
theorem c_S_takeOperation {g : MG} {fu : Nat} {h : List MC} {σ : SS} {p : Nat} {x1 : Int} (hW : Wd h σ) (hp : slt p) (r1 : rng x1) : Cw g M_S_takeOperation 3 67 [mr p, iI x1, mr 4] gU cU1 h σ (f_S_takeOperation fu p x1 σ) := by
  refine w_of (fun d w Q hF hL => ?_)
  unfold f_S_takeOperation
  show Ew g none M_S_takeOperation d w Q gU (cU1 Q) 0 [(0, mr p), (1, iI x1), (2, mr 4)] [] h σ _
  refine w_aload_n d_S_takeOperation_0 rfl rfl ?_
  refine w_cVI [] [] d_S_takeOperation_1 me_S_boundHere l_S_46 hW (c_S_boundHere hW hp) rfl rfl (Nat.le_of_ble_eq_true rfl) rfl (Nat.le_of_ble_eq_true rfl) (Nat.le_trans (Nat.le_of_ble_eq_true rfl) hF) (Nat.le_trans (Nat.le_of_ble_eq_true rfl) hL) (slt_ob hp) ⟨_, _, rfl⟩ (fun a1 σ2 h3 W4 q5 => ?_)
  refine w_istore_n [(3, iI a1), (0, mr p), (1, iI x1), (2, mr 4)] d_S_takeOperation_4 rfl (by decide) rfl ?_
  refine w_aload_n d_S_takeOperation_5 rfl rfl ?_
  refine w_dup d_S_takeOperation_6 rfl ?_
  refine w_gi d_S_takeOperation_7 f_S_39 W4 (slt_i3 hp) ?_
  refine w_iconst d_S_takeOperation_10 ?_
  refine w_isub d_S_takeOperation_11 (fun c6 => ?_)
  refine w_pi d_S_takeOperation_12 p_S_39 W4 (slt_i3 hp) (by decide) c6 (fun h7 σ8 e9 W10 => ?_)
  refine w_aload_n d_S_takeOperation_15 rfl rfl ?_
  refine w_dup d_S_takeOperation_16 rfl ?_
  refine w_gi d_S_takeOperation_17 f_S_29 W10 (slt_i6 hp) ?_
  refine w_iconst d_S_takeOperation_20 ?_
  refine w_iadd d_S_takeOperation_21 (fun c11 => ?_)
  refine w_pi d_S_takeOperation_22 p_S_29 W10 (slt_i6 hp) (by decide) c11 (fun h12 σ13 e14 W15 => ?_)
  refine w_aload_n d_S_takeOperation_25 rfl rfl ?_
  refine w_iconst d_S_takeOperation_26 ?_
  refine w_iload_n d_S_takeOperation_27 rfl rfl ?_
  refine w_codeOf d_S_takeOperation_28 l_S_75 (Nat.le_of_ble_eq_true rfl) (Nat.le_trans (Nat.le_of_ble_eq_true rfl) hF) (Nat.le_trans (Nat.le_of_ble_eq_true rfl) hL) (fun c16 => ?_)
  refine w_iload_n d_S_takeOperation_31 rfl rfl ?_
  refine w_cVU [iI (4 * x1 + 1), iI a1] [] d_S_takeOperation_32 me_S_write l_S_79 W15 (c_S_write W15 hp c16 q5) rfl rfl (Nat.le_of_ble_eq_true rfl) rfl (Nat.le_of_ble_eq_true rfl) (Nat.le_trans (Nat.le_of_ble_eq_true rfl) hF) (Nat.le_trans (Nat.le_of_ble_eq_true rfl) hL) (slt_ob hp) ⟨_, _, rfl⟩ (fun a17 σ18 h19 W20 q21 => ?_)
  refine w_aload_n d_S_takeOperation_35 rfl rfl ?_
  refine w_iload_n d_S_takeOperation_36 rfl rfl ?_
  refine w_cVI [iI x1] [] d_S_takeOperation_37 me_O_arityOf l_S_83 W20 (c_O_arityOf W20 r1) rfl rfl (Nat.le_of_ble_eq_true rfl) rfl (Nat.le_of_ble_eq_true rfl) (Nat.le_trans (Nat.le_of_ble_eq_true rfl) hF) (Nat.le_trans (Nat.le_of_ble_eq_true rfl) hL) ob4 ⟨_, _, rfl⟩ (fun a22 σ23 h24 W25 q26 => ?_)
  refine w_iconst d_S_takeOperation_40 ?_
  refine w_isub d_S_takeOperation_41 (fun c27 => ?_)
  refine w_top (fun y28 e29 => ?_)
  have ry28 : rng y28 := e29 ▸ c27
  refine w_istore [(4, iI y28), (3, iI a1), (0, mr p), (1, iI x1), (2, mr 4)] d_S_takeOperation_42 (by decide) rfl ?_
  refine w_sq (G1 := gU) (J := 85) (lvJ := fun x => []) (stJ := fun x => []) (w_sub (m_sc2 rfl (m_sc2 rfl (m_sc2 rfl (m_sc2 rfl (m_sc2 rfl (m_sn _)))))) (w_S_takeOperation_44 hF hL hp fu x1 a1 y28 _ _ W25 r1 q5 ry28)) (fun z30 σ31 h32 W33 q34 => ?_)
  show Ew _ _ _ _ _ _ _ _ 85 [] [] _ _ _
  exact w_ret d_S_takeOperation_85 rfl W33 (fun _ _ _ k => k) True.intro
def f_G_parametersOf (x1 : Int) (σ : SS) : Option (Int × SS) := some ((gA σ 8 324 x1), σ)
theorem c_G_parametersOf {g : MG} {h : List MC} {σ : SS} {x1 : Int} (hW : Wd h σ) (r1 : rng x1) : Cw g M_G_parametersOf 1 21 [mr 7, iI x1] rng cI1 h σ (f_G_parametersOf x1 σ) := by
  refine w_of (fun d w Q hF hL => ?_)
  unfold f_G_parametersOf
  show Ew g none M_G_parametersOf d w Q rng (cI1 Q) 0 [(0, mr 7), (1, iI x1)] [] h σ _
  refine w_aload_n d_G_parametersOf_0 rfl rfl ?_
  refine w_gr d_G_parametersOf_1 f_G_9 hW or7_1 ?_
  refine w_iload_n d_G_parametersOf_4 rfl rfl ?_
  refine w_at d_G_parametersOf_5 l_G_42 hW ia8 r1 (Nat.le_of_ble_eq_true rfl) (Nat.le_trans (Nat.le_of_ble_eq_true rfl) hF) (Nat.le_trans (Nat.le_of_ble_eq_true rfl) hL) ?_
  exact w_iret d_G_parametersOf_8 rfl hW (fun _ _ _ k => k) (hW.ga _ _ _)
def f_S_takeHole (p : Nat) (x1 : Int) (x2 : Int) (σ : SS) : Option (Unit × SS) := sq (f_S_boundHere p σ) fun (a1 : Int) σ2 => ck (rng ((σ2.1 p 3) - 1)) (lb (sF σ2 p 3 ((σ2.1 p 3) - 1)) fun σ8 => ck (rng ((σ8.1 p 6) + 1)) (lb (sF σ8 p 6 ((σ8.1 p 6) + 1)) fun σ13 => ck (rng (4 * x1 + 2)) (sq (f_S_write p (4 * x1 + 2) a1 σ13) fun (a17 : Unit) σ18 => lb (sF σ18 p 7 x2) fun σ23 => lb (sF σ23 p 8 (σ23.1 p 5)) fun σ27 => lb (sF σ27 p 9 a1) fun σ31 => some ((), σ31))))
theorem c_S_takeHole {g : MG} {h : List MC} {σ : SS} {p : Nat} {x1 : Int} {x2 : Int} (hW : Wd h σ) (hp : slt p) (r1 : rng x1) (r2 : rng x2) : Cw g M_S_takeHole 3 67 [mr p, iI x1, iI x2] gU cU1 h σ (f_S_takeHole p x1 x2 σ) := by
  refine w_of (fun d w Q hF hL => ?_)
  unfold f_S_takeHole
  show Ew g none M_S_takeHole d w Q gU (cU1 Q) 0 [(0, mr p), (1, iI x1), (2, iI x2)] [] h σ _
  refine w_aload_n d_S_takeHole_0 rfl rfl ?_
  refine w_cVI [] [] d_S_takeHole_1 me_S_boundHere l_S_46 hW (c_S_boundHere hW hp) rfl rfl (Nat.le_of_ble_eq_true rfl) rfl (Nat.le_of_ble_eq_true rfl) (Nat.le_trans (Nat.le_of_ble_eq_true rfl) hF) (Nat.le_trans (Nat.le_of_ble_eq_true rfl) hL) (slt_ob hp) ⟨_, _, rfl⟩ (fun a1 σ2 h3 W4 q5 => ?_)
  refine w_istore_n [(3, iI a1), (0, mr p), (1, iI x1), (2, iI x2)] d_S_takeHole_4 rfl (by decide) rfl ?_
  refine w_aload_n d_S_takeHole_5 rfl rfl ?_
  refine w_dup d_S_takeHole_6 rfl ?_
  refine w_gi d_S_takeHole_7 f_S_39 W4 (slt_i3 hp) ?_
  refine w_iconst d_S_takeHole_10 ?_
  refine w_isub d_S_takeHole_11 (fun c6 => ?_)
  refine w_pi d_S_takeHole_12 p_S_39 W4 (slt_i3 hp) (by decide) c6 (fun h7 σ8 e9 W10 => ?_)
  refine w_aload_n d_S_takeHole_15 rfl rfl ?_
  refine w_dup d_S_takeHole_16 rfl ?_
  refine w_gi d_S_takeHole_17 f_S_29 W10 (slt_i6 hp) ?_
  refine w_iconst d_S_takeHole_20 ?_
  refine w_iadd d_S_takeHole_21 (fun c11 => ?_)
  refine w_pi d_S_takeHole_22 p_S_29 W10 (slt_i6 hp) (by decide) c11 (fun h12 σ13 e14 W15 => ?_)
  refine w_aload_n d_S_takeHole_25 rfl rfl ?_
  refine w_iconst d_S_takeHole_26 ?_
  refine w_iload_n d_S_takeHole_27 rfl rfl ?_
  refine w_codeOf d_S_takeHole_28 l_S_75 (Nat.le_of_ble_eq_true rfl) (Nat.le_trans (Nat.le_of_ble_eq_true rfl) hF) (Nat.le_trans (Nat.le_of_ble_eq_true rfl) hL) (fun c16 => ?_)
  refine w_iload_n d_S_takeHole_31 rfl rfl ?_
  refine w_cVU [iI (4 * x1 + 2), iI a1] [] d_S_takeHole_32 me_S_write l_S_79 W15 (c_S_write W15 hp c16 q5) rfl rfl (Nat.le_of_ble_eq_true rfl) rfl (Nat.le_of_ble_eq_true rfl) (Nat.le_trans (Nat.le_of_ble_eq_true rfl) hF) (Nat.le_trans (Nat.le_of_ble_eq_true rfl) hL) (slt_ob hp) ⟨_, _, rfl⟩ (fun a17 σ18 h19 W20 q21 => ?_)
  refine w_aload_n d_S_takeHole_35 rfl rfl ?_
  refine w_iload_n d_S_takeHole_36 rfl rfl ?_
  refine w_pi d_S_takeHole_37 p_S_32 W20 (slt_i7 hp) (by decide) r2 (fun h22 σ23 e24 W25 => ?_)
  refine w_aload_n d_S_takeHole_40 rfl rfl ?_
  refine w_aload_n d_S_takeHole_41 rfl rfl ?_
  refine w_gi d_S_takeHole_42 f_S_26 W25 (slt_i5 hp) ?_
  refine w_pi d_S_takeHole_45 p_S_63 W25 (slt_i8 hp) (by decide) (W25.rf _ _) (fun h26 σ27 e28 W29 => ?_)
  refine w_aload_n d_S_takeHole_48 rfl rfl ?_
  refine w_iload_n d_S_takeHole_49 rfl rfl ?_
  refine w_pi d_S_takeHole_50 p_S_53 W29 (slt_i9 hp) (by decide) q5 (fun h30 σ31 e32 W33 => ?_)
  exact w_ret d_S_takeHole_53 rfl W33 (fun _ _ _ k => k) True.intro
def f_H_put (fu : Nat) (x1 : Int) (x2 : Int) (x3 : Int) (σ : SS) : Option ((Int ⊕ String) × SS) := sx (f_H_slotAt x1 σ) fun (a1 : Nat) σ2 => sq (f_S_itemsDue a1 σ2) fun (a6 : Int) σ7 => if a6 = 0 then (ck (rng (σ7.1 0 99 + 1)) (some (.inr "java/lang/IllegalStateException", thr σ7))) else (sq (f_H_mayStand fu a1 x2 x3 σ7) fun (a12 : Int) σ13 => if a12 = 0 then (ck (rng (σ13.1 0 99 + 1)) (some (.inr "java/lang/IllegalArgumentException", thr σ13))) else (sq (f_H_hasRoom fu a1 x2 x3 σ13) fun (a18 : Int) σ19 => if a18 = 0 then (some (.inl (-1), σ19)) else (sq (if x2 = 0 then (sq (f_S_takeVariable a1 x3 σ19) fun (a25 : Unit) σ26 => some ((), σ26)) else (if x2 = 1 then (sq (f_S_takeOperation fu a1 x3 σ19) fun (a31 : Unit) σ32 => some ((), σ32)) else (sq (f_G_parametersOf x3 σ19) fun (a36 : Int) σ37 => sq (f_S_takeHole a1 x3 a36 σ37) fun (a41 : Unit) σ42 => some ((), σ42)))) fun (z46 : Unit) σ47 => sq (f_S_itemsDue a1 σ47) fun (a51 : Int) σ52 => some (.inl a51, σ52))))
theorem c_H_put {g : MG} {fu : Nat} {h : List MC} {σ : SS} {x1 : Int} {x2 : Int} {x3 : Int} (hl : g.1.stackTraces = false) (hW : Wd h σ) (r1 : rng x1) (r2 : rng x2) (r3 : rng x3) : Cw g M_H_put 7 112 [mr 0, iI x1, iI x2, iI x3] (gS2 rng gE) (fun Q => cS2 (cI1 Q) (cE1 Q)) h σ (f_H_put fu x1 x2 x3 σ) := by
  refine w_of (fun d w Q hF hL => ?_)
  unfold f_H_put
  show Ew g none M_H_put d w Q (gS2 rng gE) (cS2 (cI1 Q) (cE1 Q)) 0 [(0, mr 0), (1, iI x1), (2, iI x2), (3, iI x3)] [] h σ _
  refine w_aload_n d_H_put_0 rfl rfl ?_
  refine w_iload_n d_H_put_1 rfl rfl ?_
  refine w_xVP [iI x1] [] d_H_put_2 me_H_slotAt l_H_87 rfl hW (c_H_slotAt hl hW r1) rfl rfl (Nat.le_of_ble_eq_true rfl) rfl (Nat.le_of_ble_eq_true rfl) (Nat.le_trans (Nat.le_of_ble_eq_true rfl) hF) (Nat.le_trans (Nat.le_of_ble_eq_true rfl) hL) ob0 ⟨_, _, rfl⟩ (fun a1 σ2 h3 W4 q5 => ?_)
  have ha1 : slt a1 := q5
  refine w_astore [(4, mr a1), (0, mr 0), (1, iI x1), (2, iI x2), (3, iI x3)] d_H_put_5 (by decide) rfl ?_
  refine w_aload d_H_put_7 rfl ?_
  refine w_cVI [] [] d_H_put_9 me_S_itemsDue l_H_97 W4 (c_S_itemsDue W4 ha1) rfl rfl (Nat.le_of_ble_eq_true rfl) rfl (Nat.le_of_ble_eq_true rfl) (Nat.le_trans (Nat.le_of_ble_eq_true rfl) hF) (Nat.le_trans (Nat.le_of_ble_eq_true rfl) hL) (slt_ob ha1) ⟨_, _, rfl⟩ (fun a6 σ7 h8 W9 q10 => ?_)
  refine w_if_ne 25 d_H_put_12 (by decide) q10 (fun c11 => ?_) (fun c11 => ?_)
  · exact w_throw hl d_H_put_15 d_H_put_18 d_H_put_19 d_H_put_21 d_H_put_24 tw_H_103 rfl (Nat.le_of_ble_eq_true rfl) (Nat.le_trans (Nat.le_of_ble_eq_true rfl) hF) (Nat.le_trans (Nat.le_of_ble_eq_true rfl) hL) W9 (fun _ _ _ k => k) True.intro
  · refine w_aload_n d_H_put_25 rfl rfl ?_
    refine w_aload d_H_put_26 rfl ?_
    refine w_iload_n d_H_put_28 rfl rfl ?_
    refine w_iload_n d_H_put_29 rfl rfl ?_
    refine w_cVI [mr a1, iI x2, iI x3] [] d_H_put_30 me_H_mayStand l_H_106 W9 (c_H_mayStand W9 ha1 r2 r3) rfl rfl (Nat.le_of_ble_eq_true rfl) rfl (Nat.le_of_ble_eq_true rfl) (Nat.le_trans (Nat.le_of_ble_eq_true rfl) hF) (Nat.le_trans (Nat.le_of_ble_eq_true rfl) hL) ob0 ⟨_, _, rfl⟩ (fun a12 σ13 h14 W15 q16 => ?_)
    refine w_if_ne 46 d_H_put_33 (by decide) q16 (fun c17 => ?_) (fun c17 => ?_)
    · exact w_throw hl d_H_put_36 d_H_put_39 d_H_put_40 d_H_put_42 d_H_put_45 tw_H_110 rfl (Nat.le_of_ble_eq_true rfl) (Nat.le_trans (Nat.le_of_ble_eq_true rfl) hF) (Nat.le_trans (Nat.le_of_ble_eq_true rfl) hL) W15 (fun _ _ _ k => k) True.intro
    · refine w_aload_n d_H_put_46 rfl rfl ?_
      refine w_aload d_H_put_47 rfl ?_
      refine w_iload_n d_H_put_49 rfl rfl ?_
      refine w_iload_n d_H_put_50 rfl rfl ?_
      refine w_cVI [mr a1, iI x2, iI x3] [] d_H_put_51 me_H_hasRoom l_H_112 W15 (c_H_hasRoom W15 ha1 r2 r3) rfl rfl (Nat.le_of_ble_eq_true rfl) rfl (Nat.le_of_ble_eq_true rfl) (Nat.le_trans (Nat.le_of_ble_eq_true rfl) hF) (Nat.le_trans (Nat.le_of_ble_eq_true rfl) hL) ob0 ⟨_, _, rfl⟩ (fun a18 σ19 h20 W21 q22 => ?_)
      refine w_if_ne 59 d_H_put_54 (by decide) q22 (fun c23 => ?_) (fun c23 => ?_)
      · refine w_iconst d_H_put_57 ?_
        exact w_iret d_H_put_58 rfl W21 (fun _ _ _ k => k) (show rng (-1) by decide)
      · refine w_iload_n d_H_put_59 rfl rfl ?_
        refine w_sq (G1 := gU) (J := 104) (lvJ := fun x => [(4, mr a1)]) (stJ := fun x => []) ?_ (fun z46 σ47 h48 W49 q50 => ?_)
        · refine w_if_ne 72 d_H_put_60 (by decide) r2 (fun c24 => ?_) (fun c24 => ?_)
          · refine w_aload d_H_put_63 rfl ?_
            refine w_iload_n d_H_put_65 rfl rfl ?_
            refine w_cVU [iI x3] [] d_H_put_66 me_S_takeVariable l_H_115 W21 (c_S_takeVariable W21 ha1 r3) rfl rfl (Nat.le_of_ble_eq_true rfl) rfl (Nat.le_of_ble_eq_true rfl) (Nat.le_trans (Nat.le_of_ble_eq_true rfl) hF) (Nat.le_trans (Nat.le_of_ble_eq_true rfl) hL) (slt_ob ha1) ⟨_, _, rfl⟩ (fun a25 σ26 h27 W28 q29 => ?_)
            refine w_goto 104 d_H_put_69 (by decide) ?_
            exact w_exit [(4, mr a1)] (m_sc2 rfl (m_sn _)) W28 (fun _ _ _ k => k) True.intro
          · refine w_iload_n d_H_put_72 rfl rfl ?_
            refine w_iconst d_H_put_73 ?_
            refine w_icmp_ne 90 d_H_put_74 (by decide) r2 (show rng 1 by decide) (fun c30 => ?_) (fun c30 => ?_)
            · refine w_aload d_H_put_77 rfl ?_
              refine w_iload_n d_H_put_79 rfl rfl ?_
              refine w_aload_n d_H_put_80 rfl rfl ?_
              refine w_gr d_H_put_81 f_H_15 W21 or0_0 ?_
              refine w_cVU [iI x3, mr 4] [] d_H_put_84 me_S_takeOperation l_H_118 W21 (c_S_takeOperation W21 ha1 r3) rfl rfl (Nat.le_of_ble_eq_true rfl) rfl (Nat.le_of_ble_eq_true rfl) (Nat.le_trans (Nat.le_of_ble_eq_true rfl) hF) (Nat.le_trans (Nat.le_of_ble_eq_true rfl) hL) (slt_ob ha1) ⟨_, _, rfl⟩ (fun a31 σ32 h33 W34 q35 => ?_)
              refine w_goto 104 d_H_put_87 (by decide) ?_
              exact w_exit [(4, mr a1)] (m_sc2 rfl (m_sn _)) W34 (fun _ _ _ k => k) True.intro
            · refine w_aload d_H_put_90 rfl ?_
              refine w_iload_n d_H_put_92 rfl rfl ?_
              refine w_aload_n d_H_put_93 rfl rfl ?_
              refine w_gr d_H_put_94 f_H_24 W21 or0_1 ?_
              refine w_iload_n d_H_put_97 rfl rfl ?_
              refine w_cVI [iI x3] [iI x3, mr a1] d_H_put_98 me_G_parametersOf l_H_122 W21 (c_G_parametersOf W21 r3) rfl rfl (Nat.le_of_ble_eq_true rfl) rfl (Nat.le_of_ble_eq_true rfl) (Nat.le_trans (Nat.le_of_ble_eq_true rfl) hF) (Nat.le_trans (Nat.le_of_ble_eq_true rfl) hL) ob7 ⟨_, _, rfl⟩ (fun a36 σ37 h38 W39 q40 => ?_)
              refine w_cVU [iI x3, iI a36] [] d_H_put_101 me_S_takeHole l_H_125 W39 (c_S_takeHole W39 ha1 r3 q40) rfl rfl (Nat.le_of_ble_eq_true rfl) rfl (Nat.le_of_ble_eq_true rfl) (Nat.le_trans (Nat.le_of_ble_eq_true rfl) hF) (Nat.le_trans (Nat.le_of_ble_eq_true rfl) hL) (slt_ob ha1) ⟨_, _, rfl⟩ (fun a41 σ42 h43 W44 q45 => ?_)
              exact w_exit [(4, mr a1)] (m_sc2 rfl (m_sn _)) W44 (fun _ _ _ k => k) True.intro
        · show Ew _ _ _ _ _ _ _ _ 104 [(4, mr a1)] [] _ _ _
          refine w_aload d_H_put_104 rfl ?_
          refine w_cVI [] [] d_H_put_106 me_S_itemsDue l_H_97 W49 (c_S_itemsDue W49 ha1) rfl rfl (Nat.le_of_ble_eq_true rfl) rfl (Nat.le_of_ble_eq_true rfl) (Nat.le_trans (Nat.le_of_ble_eq_true rfl) hF) (Nat.le_trans (Nat.le_of_ble_eq_true rfl) hL) (slt_ob ha1) ⟨_, _, rfl⟩ (fun a51 σ52 h53 W54 q55 => ?_)
          exact w_iret d_H_put_109 rfl W54 (fun _ _ _ k => k) q55
def f_S_isWhole (p : Nat) (σ : SS) : Option (Int × SS) := if 0 < (σ.1 p 5) then (sq (f_S_itemsDue p σ) fun (a2 : Int) σ3 => if a2 = 0 then (some (1, σ3)) else (some (0, σ3))) else (some (0, σ))
theorem c_S_isWhole {g : MG} {h : List MC} {σ : SS} {p : Nat} (hW : Wd h σ) (hp : slt p) : Cw g M_S_isWhole 1 20 [mr p] rng cI1 h σ (f_S_isWhole p σ) := by
  refine w_of (fun d w Q hF hL => ?_)
  unfold f_S_isWhole
  show Ew g none M_S_isWhole d w Q rng (cI1 Q) 0 [(0, mr p)] [] h σ _
  refine w_aload_n d_S_isWhole_0 rfl rfl ?_
  refine w_gi d_S_isWhole_1 f_S_26 hW (slt_i5 hp) ?_
  refine w_if_le 18 d_S_isWhole_4 (by decide) (hW.rf _ _) (fun c1 => ?_) (fun c1 => ?_)
  · refine w_aload_n d_S_isWhole_7 rfl rfl ?_
    refine w_cVI [] [] d_S_isWhole_8 me_S_itemsDue l_S_42 hW (c_S_itemsDue hW hp) rfl rfl (Nat.le_of_ble_eq_true rfl) rfl (Nat.le_of_ble_eq_true rfl) (Nat.le_trans (Nat.le_of_ble_eq_true rfl) hF) (Nat.le_trans (Nat.le_of_ble_eq_true rfl) hL) (slt_ob hp) ⟨_, _, rfl⟩ (fun a2 σ3 h4 W5 q6 => ?_)
    refine w_if_ne 18 d_S_isWhole_11 (by decide) q6 (fun c7 => ?_) (fun c7 => ?_)
    · refine w_iconst d_S_isWhole_14 ?_
      refine w_goto 19 d_S_isWhole_15 (by decide) ?_
      exact w_zret d_S_isWhole_19 rfl (by decide) W5 (fun _ _ _ k => k) (show rng 1 by decide)
    · refine w_iconst d_S_isWhole_18 ?_
      exact w_zret d_S_isWhole_19 rfl (by decide) W5 (fun _ _ _ k => k) (show rng 0 by decide)
  · refine w_iconst d_S_isWhole_18 ?_
    exact w_zret d_S_isWhole_19 rfl (by decide) hW (fun _ _ _ k => k) (show rng 0 by decide)
def f_U_startAt (p : Nat) (x1 : Int) (x2 : Int) (σ : SS) : Option (Unit × SS) := lb (sF σ p 6 0) fun σ2 => lb (gS σ2 (p + 1) 64 0 x1) fun σ6 => lb (gS σ6 (p + 2) 64 0 x2) fun σ10 => lb (gS σ10 (p + 3) 64 0 0) fun σ14 => some ((), σ14)
theorem c_U_startAt {g : MG} {h : List MC} {σ : SS} {p : Nat} {x1 : Int} {x2 : Int} (hW : Wd h σ) (hp : cur p) (r1 : rng x1) (r2 : rng x2) : Cw g M_U_startAt 1 22 [mr p, iI x1, iI x2] gU cU1 h σ (f_U_startAt p x1 x2 σ) := by
  refine w_of (fun d w Q hF hL => ?_)
  unfold f_U_startAt
  show Ew g none M_U_startAt d w Q gU (cU1 Q) 0 [(0, mr p), (1, iI x1), (2, iI x2)] [] h σ _
  refine w_aload_n d_U_startAt_0 rfl rfl ?_
  refine w_iconst d_U_startAt_1 ?_
  refine w_pi d_U_startAt_2 p_U_35 hW (cur_i6 hp) (by decide) (show rng 0 by decide) (fun h1 σ2 e3 W4 => ?_)
  refine w_aload_n d_U_startAt_5 rfl rfl ?_
  refine w_gr d_U_startAt_6 f_U_9 W4 (cur_r2 hp) ?_
  refine w_iconst d_U_startAt_9 ?_
  refine w_iload_n d_U_startAt_10 rfl rfl ?_
  refine w_set d_U_startAt_11 l_U_39 W4 (cur_a1 hp) (show rng 0 by decide) r1 (Nat.le_of_ble_eq_true rfl) (Nat.le_trans (Nat.le_of_ble_eq_true rfl) hF) (Nat.le_trans (Nat.le_of_ble_eq_true rfl) hL) (fun h5 σ6 e7 W8 => ?_)
  refine w_aload_n d_U_startAt_14 rfl rfl ?_
  refine w_gr d_U_startAt_15 f_U_15 W8 (cur_r3 hp) ?_
  refine w_iconst d_U_startAt_18 ?_
  refine w_iload_n d_U_startAt_19 rfl rfl ?_
  refine w_set d_U_startAt_20 l_U_39 W8 (cur_a2 hp) (show rng 0 by decide) r2 (Nat.le_of_ble_eq_true rfl) (Nat.le_trans (Nat.le_of_ble_eq_true rfl) hF) (Nat.le_trans (Nat.le_of_ble_eq_true rfl) hL) (fun h9 σ10 e11 W12 => ?_)
  refine w_aload_n d_U_startAt_23 rfl rfl ?_
  refine w_gr d_U_startAt_24 f_U_18 W12 (cur_r4 hp) ?_
  refine w_iconst d_U_startAt_27 ?_
  refine w_iconst d_U_startAt_28 ?_
  refine w_set d_U_startAt_29 l_U_39 W12 (cur_a3 hp) (show rng 0 by decide) (show rng 0 by decide) (Nat.le_of_ble_eq_true rfl) (Nat.le_trans (Nat.le_of_ble_eq_true rfl) hF) (Nat.le_trans (Nat.le_of_ble_eq_true rfl) hL) (fun h13 σ14 e15 W16 => ?_)
  exact w_ret d_U_startAt_32 rfl W16 (fun _ _ _ k => k) True.intro
def f_H_startBoth (x1 : Int) (x2 : Int) (σ : SS) : Option ((Unit ⊕ String) × SS) := sx (f_H_slotAt x1 σ) fun (a1 : Nat) σ2 => sx (f_H_slotAt x2 σ2) fun (a6 : Nat) σ7 => sq (f_S_isWhole a1 σ7) fun (a11 : Int) σ12 => if a11 = 0 then (ck (rng (σ12.1 0 99 + 1)) (some (.inr "java/lang/IllegalStateException", thr σ12))) else (sq (f_S_isWhole a6 σ12) fun (a17 : Int) σ18 => if a17 = 0 then (ck (rng (σ18.1 0 99 + 1)) (some (.inr "java/lang/IllegalStateException", thr σ18))) else (if (σ18.1 a1 4) = (σ18.1 a6 4) then (ck (rng ((σ18.1 a1 1) + (σ18.1 a1 5))) (sq (f_U_startAt 30 (σ18.1 a1 1) ((σ18.1 a1 1) + (σ18.1 a1 5)) σ18) fun (a25 : Unit) σ26 => ck (rng ((σ26.1 a6 1) + (σ26.1 a6 5))) (sq (f_U_startAt 36 (σ26.1 a6 1) ((σ26.1 a6 1) + (σ26.1 a6 5)) σ26) fun (a31 : Unit) σ32 => some (.inl (), σ32)))) else (ck (rng (σ18.1 0 99 + 1)) (some (.inr "java/lang/IllegalStateException", thr σ18)))))
theorem c_H_startBoth {g : MG} {h : List MC} {σ : SS} {x1 : Int} {x2 : Int} (hl : g.1.stackTraces = false) (hW : Wd h σ) (r1 : rng x1) (r2 : rng x2) : Cw g M_H_startBoth 7 112 [mr 0, iI x1, iI x2] (gS2 gU gE) (fun Q => cS2 (cU1 Q) (cE1 Q)) h σ (f_H_startBoth x1 x2 σ) := by
  refine w_of (fun d w Q hF hL => ?_)
  unfold f_H_startBoth
  show Ew g none M_H_startBoth d w Q (gS2 gU gE) (cS2 (cU1 Q) (cE1 Q)) 0 [(0, mr 0), (1, iI x1), (2, iI x2)] [] h σ _
  refine w_aload_n d_H_startBoth_0 rfl rfl ?_
  refine w_iload_n d_H_startBoth_1 rfl rfl ?_
  refine w_xVP [iI x1] [] d_H_startBoth_2 me_H_slotAt l_H_87 rfl hW (c_H_slotAt hl hW r1) rfl rfl (Nat.le_of_ble_eq_true rfl) rfl (Nat.le_of_ble_eq_true rfl) (Nat.le_trans (Nat.le_of_ble_eq_true rfl) hF) (Nat.le_trans (Nat.le_of_ble_eq_true rfl) hL) ob0 ⟨_, _, rfl⟩ (fun a1 σ2 h3 W4 q5 => ?_)
  have ha1 : slt a1 := q5
  refine w_astore_n [(3, mr a1), (0, mr 0), (1, iI x1), (2, iI x2)] d_H_startBoth_5 rfl (by decide) rfl ?_
  refine w_aload_n d_H_startBoth_6 rfl rfl ?_
  refine w_iload_n d_H_startBoth_7 rfl rfl ?_
  refine w_xVP [iI x2] [] d_H_startBoth_8 me_H_slotAt l_H_87 rfl W4 (c_H_slotAt hl W4 r2) rfl rfl (Nat.le_of_ble_eq_true rfl) rfl (Nat.le_of_ble_eq_true rfl) (Nat.le_trans (Nat.le_of_ble_eq_true rfl) hF) (Nat.le_trans (Nat.le_of_ble_eq_true rfl) hL) ob0 ⟨_, _, rfl⟩ (fun a6 σ7 h8 W9 q10 => ?_)
  have ha6 : slt a6 := q10
  refine w_astore [(4, mr a6), (3, mr a1), (0, mr 0), (1, iI x1), (2, iI x2)] d_H_startBoth_11 (by decide) rfl ?_
  refine w_aload_n d_H_startBoth_13 rfl rfl ?_
  refine w_cVI [] [] d_H_startBoth_14 me_S_isWhole l_H_228 W9 (c_S_isWhole W9 ha1) rfl rfl (Nat.le_of_ble_eq_true rfl) rfl (Nat.le_of_ble_eq_true rfl) (Nat.le_trans (Nat.le_of_ble_eq_true rfl) hF) (Nat.le_trans (Nat.le_of_ble_eq_true rfl) hL) (slt_ob ha1) ⟨_, _, rfl⟩ (fun a11 σ12 h13 W14 q15 => ?_)
  refine w_if_eq 28 d_H_startBoth_17 (by decide) q15 (fun c16 => ?_) (fun c16 => ?_)
  · exact w_throw hl d_H_startBoth_28 d_H_startBoth_31 d_H_startBoth_32 d_H_startBoth_34 d_H_startBoth_37 tw_H_231 rfl (Nat.le_of_ble_eq_true rfl) (Nat.le_trans (Nat.le_of_ble_eq_true rfl) hF) (Nat.le_trans (Nat.le_of_ble_eq_true rfl) hL) W14 (fun _ _ _ k => k) True.intro
  · refine w_aload d_H_startBoth_20 rfl ?_
    refine w_cVI [] [] d_H_startBoth_22 me_S_isWhole l_H_228 W14 (c_S_isWhole W14 ha6) rfl rfl (Nat.le_of_ble_eq_true rfl) rfl (Nat.le_of_ble_eq_true rfl) (Nat.le_trans (Nat.le_of_ble_eq_true rfl) hF) (Nat.le_trans (Nat.le_of_ble_eq_true rfl) hL) (slt_ob ha6) ⟨_, _, rfl⟩ (fun a17 σ18 h19 W20 q21 => ?_)
    refine w_if_ne 38 d_H_startBoth_25 (by decide) q21 (fun c22 => ?_) (fun c22 => ?_)
    · exact w_throw hl d_H_startBoth_28 d_H_startBoth_31 d_H_startBoth_32 d_H_startBoth_34 d_H_startBoth_37 tw_H_231 rfl (Nat.le_of_ble_eq_true rfl) (Nat.le_trans (Nat.le_of_ble_eq_true rfl) hF) (Nat.le_trans (Nat.le_of_ble_eq_true rfl) hL) W20 (fun _ _ _ k => k) True.intro
    · refine w_aload_n d_H_startBoth_38 rfl rfl ?_
      refine w_gi d_H_startBoth_39 f_H_233 W20 (slt_i4 ha1) ?_
      refine w_aload d_H_startBoth_42 rfl ?_
      refine w_gi d_H_startBoth_44 f_H_233 W20 (slt_i4 ha6) ?_
      refine w_icmp_eq 60 d_H_startBoth_47 (by decide) (W20.rf _ _) (W20.rf _ _) (fun c23 => ?_) (fun c23 => ?_)
      · refine w_aload_n d_H_startBoth_60 rfl rfl ?_
        refine w_gr d_H_startBoth_61 f_H_42 W20 or0_3 ?_
        refine w_aload_n d_H_startBoth_64 rfl rfl ?_
        refine w_gi d_H_startBoth_65 f_H_238 W20 (slt_i1 ha1) ?_
        refine w_aload_n d_H_startBoth_68 rfl rfl ?_
        refine w_gi d_H_startBoth_69 f_H_238 W20 (slt_i1 ha1) ?_
        refine w_aload_n d_H_startBoth_72 rfl rfl ?_
        refine w_gi d_H_startBoth_73 f_H_240 W20 (slt_i5 ha1) ?_
        refine w_iadd d_H_startBoth_76 (fun c24 => ?_)
        refine w_cVU [iI (σ18.1 a1 1), iI ((σ18.1 a1 1) + (σ18.1 a1 5))] [] d_H_startBoth_77 me_U_startAt l_H_198 W20 (c_U_startAt W20 cur30 (W20.rf _ _) c24) rfl rfl (Nat.le_of_ble_eq_true rfl) rfl (Nat.le_of_ble_eq_true rfl) (Nat.le_trans (Nat.le_of_ble_eq_true rfl) hF) (Nat.le_trans (Nat.le_of_ble_eq_true rfl) hL) (cur_ob cur30) ⟨_, _, rfl⟩ (fun a25 σ26 h27 W28 q29 => ?_)
        refine w_aload_n d_H_startBoth_80 rfl rfl ?_
        refine w_gr d_H_startBoth_81 f_H_46 W28 or0_4 ?_
        refine w_aload d_H_startBoth_84 rfl ?_
        refine w_gi d_H_startBoth_86 f_H_238 W28 (slt_i1 ha6) ?_
        refine w_aload d_H_startBoth_89 rfl ?_
        refine w_gi d_H_startBoth_91 f_H_238 W28 (slt_i1 ha6) ?_
        refine w_aload d_H_startBoth_94 rfl ?_
        refine w_gi d_H_startBoth_96 f_H_240 W28 (slt_i5 ha6) ?_
        refine w_iadd d_H_startBoth_99 (fun c30 => ?_)
        refine w_cVU [iI (σ26.1 a6 1), iI ((σ26.1 a6 1) + (σ26.1 a6 5))] [] d_H_startBoth_100 me_U_startAt l_H_198 W28 (c_U_startAt W28 cur36 (W28.rf _ _) c30) rfl rfl (Nat.le_of_ble_eq_true rfl) rfl (Nat.le_of_ble_eq_true rfl) (Nat.le_trans (Nat.le_of_ble_eq_true rfl) hF) (Nat.le_trans (Nat.le_of_ble_eq_true rfl) hL) (cur_ob cur36) ⟨_, _, rfl⟩ (fun a31 σ32 h33 W34 q35 => ?_)
        exact w_ret d_H_startBoth_103 rfl W34 (fun _ _ _ k => k) True.intro
      · exact w_throw hl d_H_startBoth_50 d_H_startBoth_53 d_H_startBoth_54 d_H_startBoth_56 d_H_startBoth_59 tw_H_236 rfl (Nat.le_of_ble_eq_true rfl) (Nat.le_trans (Nat.le_of_ble_eq_true rfl) hF) (Nat.le_trans (Nat.le_of_ble_eq_true rfl) hL) W20 (fun _ _ _ k => k) True.intro
def l_U_leaveEnded_0 (fu : Nat) (p : Nat) : Nat → SS → Option ((Unit) × SS)
  | 0, _ => none
  | n + 1, σ => if 0 < (σ.1 p 6) then (if (gA σ (p + 1) 64 (σ.1 p 6)) < (gA σ (p + 2) 64 (σ.1 p 6)) then (some ((), σ)) else (ck (rng ((σ.1 p 6) - 1)) (lb (sF σ p 6 ((σ.1 p 6) - 1)) fun σ5 => l_U_leaveEnded_0 fu p n σ5))) else (some ((), σ))
def f_U_leaveEnded (fu : Nat) (p : Nat) (σ : SS) : Option (Unit × SS) := sq (l_U_leaveEnded_0 fu p fu σ) fun (z1 : Unit) σ2 => some ((), σ2)
theorem w_U_leaveEnded_0 {g : MG} {d w fu : Nat} {Q : MO → List MC → Prop} {p : Nat} (hF : 1 ≤ d) (hL : 21 ≤ w) (hp : cur p) : ∀ (n : Nat) (σ : SS) (h : List MC), Wd h σ → Ew g none M_U_leaveEnded d w Q gU (cJ g none M_U_leaveEnded d w Q 45 (fun x => []) (fun x => [])) 0 [(0, mr p)] [] h σ (l_U_leaveEnded_0 fu p n σ) := by
  intro n
  induction n with
  | zero =>
    intro σ h hW  a9 σ9 hm
    rw [l_U_leaveEnded_0] at hm
    cases hm
  | succ n ih =>
    intro σ h hW 
    rw [l_U_leaveEnded_0]
    refine w_aload_n d_U_leaveEnded_0 rfl rfl ?_
    refine w_gi d_U_leaveEnded_1 f_U_35 hW (cur_i6 hp) ?_
    refine w_if_le 45 d_U_leaveEnded_4 (by decide) (hW.rf _ _) (fun c1 => ?_) (fun c1 => ?_)
    · refine w_aload_n d_U_leaveEnded_7 rfl rfl ?_
      refine w_gr d_U_leaveEnded_8 f_U_9 hW (cur_r2 hp) ?_
      refine w_aload_n d_U_leaveEnded_11 rfl rfl ?_
      refine w_gi d_U_leaveEnded_12 f_U_35 hW (cur_i6 hp) ?_
      refine w_at d_U_leaveEnded_15 l_U_43 hW (cur_a1 hp) (hW.rf _ _) (Nat.le_of_ble_eq_true rfl) (Nat.le_trans (Nat.le_of_ble_eq_true rfl) hF) (Nat.le_trans (Nat.le_of_ble_eq_true rfl) hL) ?_
      refine w_aload_n d_U_leaveEnded_18 rfl rfl ?_
      refine w_gr d_U_leaveEnded_19 f_U_15 hW (cur_r3 hp) ?_
      refine w_aload_n d_U_leaveEnded_22 rfl rfl ?_
      refine w_gi d_U_leaveEnded_23 f_U_35 hW (cur_i6 hp) ?_
      refine w_at d_U_leaveEnded_26 l_U_43 hW (cur_a2 hp) (hW.rf _ _) (Nat.le_of_ble_eq_true rfl) (Nat.le_trans (Nat.le_of_ble_eq_true rfl) hF) (Nat.le_trans (Nat.le_of_ble_eq_true rfl) hL) ?_
      refine w_icmp_lt 45 d_U_leaveEnded_29 (by decide) (hW.ga _ _ _) (hW.ga _ _ _) (fun c2 => ?_) (fun c2 => ?_)
      · exact w_exit [] (m_sn _) hW (fun _ _ _ k => k) True.intro
      · refine w_aload_n d_U_leaveEnded_32 rfl rfl ?_
        refine w_dup d_U_leaveEnded_33 rfl ?_
        refine w_gi d_U_leaveEnded_34 f_U_35 hW (cur_i6 hp) ?_
        refine w_iconst d_U_leaveEnded_37 ?_
        refine w_isub d_U_leaveEnded_38 (fun c3 => ?_)
        refine w_pi d_U_leaveEnded_39 p_U_35 hW (cur_i6 hp) (by decide) c3 (fun h4 σ5 e6 W7 => ?_)
        refine w_goto 0 d_U_leaveEnded_42 (by decide) ?_
        exact w_sub (m_sc2 rfl (m_sn _)) (ih _ _ W7 )
    · exact w_exit [] (m_sn _) hW (fun _ _ _ k => k) True.intro
theorem c_U_leaveEnded {g : MG} {fu : Nat} {h : List MC} {σ : SS} {p : Nat} (hW : Wd h σ) (hp : cur p) : Cw g M_U_leaveEnded 1 21 [mr p] gU cU1 h σ (f_U_leaveEnded fu p σ) := by
  refine w_of (fun d w Q hF hL => ?_)
  unfold f_U_leaveEnded
  show Ew g none M_U_leaveEnded d w Q gU (cU1 Q) 0 [(0, mr p)] [] h σ _
  refine w_sq (G1 := gU) (J := 45) (lvJ := fun x => []) (stJ := fun x => []) (w_sub (m_sc2 rfl (m_sn _)) (w_U_leaveEnded_0 hF hL hp fu _ _ hW )) (fun z1 σ2 h3 W4 q5 => ?_)
  show Ew _ _ _ _ _ _ _ _ 45 [] [] _ _ _
  exact w_ret d_U_leaveEnded_45 rfl W4 (fun _ _ _ k => k) True.intro
def f_U_outside (p : Nat) (x1 : Int) (x2 : Int) (σ : SS) : Option (Int × SS) := if (σ.1 p 6) = 0 then (some (x1, σ)) else (if x1 < x2 then (some (x1, σ)) else (ck (rng (x1 - x2)) (lb (x1 - x2) fun y4 => ck (rng ((σ.1 p 6) * 4)) (ck (rng (((σ.1 p 6) * 4) + y4)) (ck (rng ((gA σ (p + 4) 256 (((σ.1 p 6) * 4) + y4)) + x2)) (some (((gA σ (p + 4) 256 (((σ.1 p 6) * 4) + y4)) + x2), σ)))))))
theorem c_U_outside {g : MG} {h : List MC} {σ : SS} {p : Nat} {x1 : Int} {x2 : Int} (hW : Wd h σ) (hp : cur p) (r1 : rng x1) (r2 : rng x2) : Cw g M_U_outside 1 21 [mr p, iI x1, iI x2] rng cI1 h σ (f_U_outside p x1 x2 σ) := by
  refine w_of (fun d w Q hF hL => ?_)
  unfold f_U_outside
  show Ew g none M_U_outside d w Q rng (cI1 Q) 0 [(0, mr p), (1, iI x1), (2, iI x2)] [] h σ _
  refine w_aload_n d_U_outside_0 rfl rfl ?_
  refine w_gi d_U_outside_1 f_U_35 hW (cur_i6 hp) ?_
  refine w_if_eq 12 d_U_outside_4 (by decide) (hW.rf _ _) (fun c1 => ?_) (fun c1 => ?_)
  · refine w_iload_n d_U_outside_12 rfl rfl ?_
    exact w_iret d_U_outside_13 rfl hW (fun _ _ _ k => k) r1
  · refine w_iload_n d_U_outside_7 rfl rfl ?_
    refine w_iload_n d_U_outside_8 rfl rfl ?_
    refine w_icmp_ge 14 d_U_outside_9 (by decide) r1 r2 (fun c2 => ?_) (fun c2 => ?_)
    · refine w_iload_n d_U_outside_12 rfl rfl ?_
      exact w_iret d_U_outside_13 rfl hW (fun _ _ _ k => k) r1
    · refine w_iload_n d_U_outside_14 rfl rfl ?_
      refine w_iload_n d_U_outside_15 rfl rfl ?_
      refine w_isub d_U_outside_16 (fun c3 => ?_)
      refine w_top (fun y4 e5 => ?_)
      have ry4 : rng y4 := e5 ▸ c3
      refine w_istore_n [(3, iI y4), (0, mr p), (1, iI x1), (2, iI x2)] d_U_outside_17 rfl (by decide) rfl ?_
      refine w_aload_n d_U_outside_18 rfl rfl ?_
      refine w_gr d_U_outside_19 f_U_21 hW (cur_r5 hp) ?_
      refine w_aload_n d_U_outside_22 rfl rfl ?_
      refine w_gi d_U_outside_23 f_U_35 hW (cur_i6 hp) ?_
      refine w_iconst d_U_outside_26 ?_
      refine w_imul d_U_outside_27 (fun c6 => ?_)
      refine w_iload_n d_U_outside_28 rfl rfl ?_
      refine w_iadd d_U_outside_29 (fun c7 => ?_)
      refine w_at d_U_outside_30 l_U_43 hW (cur_a4 hp) c7 (Nat.le_of_ble_eq_true rfl) (Nat.le_trans (Nat.le_of_ble_eq_true rfl) hF) (Nat.le_trans (Nat.le_of_ble_eq_true rfl) hL) ?_
      refine w_iload_n d_U_outside_33 rfl rfl ?_
      refine w_iadd d_U_outside_34 (fun c8 => ?_)
      exact w_iret d_U_outside_35 rfl hW (fun _ _ _ k => k) c8
def l_U_enterFilling_94 (fu : Nat) (p : Nat) : Nat → Int → SS → Option ((Unit) × SS)
  | 0, _, _ => none
  | n + 1, x1, σ => if x1 < (σ.1 p 11) then (ck (rng ((σ.1 p 6) * 4)) (ck (rng (((σ.1 p 6) * 4) + x1)) (lb (gS σ (p + 4) 256 (((σ.1 p 6) * 4) + x1) (gA σ (p + 5) 4 x1)) fun σ5 => ck (rng (x1 + 1)) (l_U_enterFilling_94 fu p n (x1 + 1) σ5)))) else (some ((), σ))
def f_U_enterFilling (fu : Nat) (p : Nat) (σ : SS) : Option (Int × SS) := sq (f_U_leaveEnded fu p σ) fun (a1 : Unit) σ2 => ck (rng ((σ2.1 p 6) + 1)) (if ((σ2.1 p 6) + 1) < 64 then (ck (rng ((σ2.1 p 6) + 1)) (lb (sF σ2 p 6 ((σ2.1 p 6) + 1)) fun σ10 => lb (gS σ10 (p + 1) 64 (σ10.1 p 6) (gA σ10 9 324 (σ10.1 p 8))) fun σ14 => lb (gS σ14 (p + 2) 64 (σ14.1 p 6) (gA σ14 10 324 (σ14.1 p 8))) fun σ18 => lb (gS σ18 (p + 3) 64 (σ18.1 p 6) (σ18.1 p 9)) fun σ22 => sq (l_U_enterFilling_94 fu p fu 0 σ22) fun (z25 : Unit) σ26 => some (1, σ26))) else (some (0, σ2)))
theorem w_U_enterFilling_94 {g : MG} {d w fu : Nat} {Q : MO → List MC → Prop} {p : Nat} (hF : 2 ≤ d) (hL : 41 ≤ w) (hp : cur p) : ∀ (n : Nat) (x1 : Int) (σ : SS) (h : List MC), Wd h σ → rng x1 → Ew g none M_U_enterFilling d w Q gU (cJ g none M_U_enterFilling d w Q 131 (fun x => []) (fun x => [])) 94 [(0, mr p), (1, iI x1)] [] h σ (l_U_enterFilling_94 fu p n x1 σ) := by
  intro n
  induction n with
  | zero =>
    intro x1 σ h hW r1 a9 σ9 hm
    rw [l_U_enterFilling_94] at hm
    cases hm
  | succ n ih =>
    intro x1 σ h hW r1
    rw [l_U_enterFilling_94]
    refine w_iload_n d_U_enterFilling_94 rfl rfl ?_
    refine w_aload_n d_U_enterFilling_95 rfl rfl ?_
    refine w_gi d_U_enterFilling_96 f_U_56 hW (cur_i11 hp) ?_
    refine w_icmp_ge 131 d_U_enterFilling_99 (by decide) r1 (hW.rf _ _) (fun c1 => ?_) (fun c1 => ?_)
    · refine w_aload_n d_U_enterFilling_102 rfl rfl ?_
      refine w_gr d_U_enterFilling_103 f_U_21 hW (cur_r5 hp) ?_
      refine w_aload_n d_U_enterFilling_106 rfl rfl ?_
      refine w_gi d_U_enterFilling_107 f_U_35 hW (cur_i6 hp) ?_
      refine w_iconst d_U_enterFilling_110 ?_
      refine w_imul d_U_enterFilling_111 (fun c2 => ?_)
      refine w_iload_n d_U_enterFilling_112 rfl rfl ?_
      refine w_iadd d_U_enterFilling_113 (fun c3 => ?_)
      refine w_aload_n d_U_enterFilling_114 rfl rfl ?_
      refine w_gr d_U_enterFilling_115 f_U_24 hW (cur_r10 hp) ?_
      refine w_iload_n d_U_enterFilling_118 rfl rfl ?_
      refine w_at d_U_enterFilling_119 l_U_43 hW (cur_a5 hp) r1 (Nat.le_of_ble_eq_true rfl) (Nat.le_trans (Nat.le_of_ble_eq_true rfl) hF) (Nat.le_trans (Nat.le_of_ble_eq_true rfl) hL) ?_
      refine w_set d_U_enterFilling_122 l_U_39 hW (cur_a4 hp) c3 (hW.ga _ _ _) (Nat.le_of_ble_eq_true rfl) (Nat.le_trans (Nat.le_of_ble_eq_true rfl) hF) (Nat.le_trans (Nat.le_of_ble_eq_true rfl) hL) (fun h4 σ5 e6 W7 => ?_)
      refine w_iinc [(1, iI (x1 + 1)), (0, mr p)] d_U_enterFilling_125 rfl (by decide) rfl (fun c8 => ?_)
      refine w_goto 94 d_U_enterFilling_128 (by decide) ?_
      exact w_sub (m_sc2 rfl (m_sc2 rfl (m_sn _))) (ih (x1 + 1) _ _ W7 c8)
    · exact w_exit [] (m_sn _) hW (fun _ _ _ k => k) True.intro
theorem c_U_enterFilling {g : MG} {fu : Nat} {h : List MC} {σ : SS} {p : Nat} (hW : Wd h σ) (hp : cur p) : Cw g M_U_enterFilling 2 41 [mr p] rng cI1 h σ (f_U_enterFilling fu p σ) := by
  refine w_of (fun d w Q hF hL => ?_)
  unfold f_U_enterFilling
  show Ew g none M_U_enterFilling d w Q rng (cI1 Q) 0 [(0, mr p)] [] h σ _
  refine w_aload_n d_U_enterFilling_0 rfl rfl ?_
  refine w_cVU [] [] d_U_enterFilling_1 me_U_leaveEnded l_U_60 hW (c_U_leaveEnded hW hp) rfl rfl (Nat.le_of_ble_eq_true rfl) rfl (Nat.le_of_ble_eq_true rfl) (Nat.le_trans (Nat.le_of_ble_eq_true rfl) hF) (Nat.le_trans (Nat.le_of_ble_eq_true rfl) hL) (cur_ob hp) ⟨_, _, rfl⟩ (fun a1 σ2 h3 W4 q5 => ?_)
  refine w_aload_n d_U_enterFilling_4 rfl rfl ?_
  refine w_gi d_U_enterFilling_5 f_U_35 W4 (cur_i6 hp) ?_
  refine w_iconst d_U_enterFilling_8 ?_
  refine w_iadd d_U_enterFilling_9 (fun c6 => ?_)
  refine w_bipush d_U_enterFilling_10 (by decide) ?_
  refine w_icmp_lt 17 d_U_enterFilling_12 (by decide) c6 (show rng 64 by decide) (fun c7 => ?_) (fun c7 => ?_)
  · refine w_aload_n d_U_enterFilling_17 rfl rfl ?_
    refine w_dup d_U_enterFilling_18 rfl ?_
    refine w_gi d_U_enterFilling_19 f_U_35 W4 (cur_i6 hp) ?_
    refine w_iconst d_U_enterFilling_22 ?_
    refine w_iadd d_U_enterFilling_23 (fun c8 => ?_)
    refine w_pi d_U_enterFilling_24 p_U_35 W4 (cur_i6 hp) (by decide) c8 (fun h9 σ10 e11 W12 => ?_)
    refine w_aload_n d_U_enterFilling_27 rfl rfl ?_
    refine w_gr d_U_enterFilling_28 f_U_9 W12 (cur_r2 hp) ?_
    refine w_aload_n d_U_enterFilling_31 rfl rfl ?_
    refine w_gi d_U_enterFilling_32 f_U_35 W12 (cur_i6 hp) ?_
    refine w_aload_n d_U_enterFilling_35 rfl rfl ?_
    refine w_gr d_U_enterFilling_36 f_U_31 W12 (cur_r1 hp) ?_
    refine w_gr d_U_enterFilling_39 f_U_95 W12 or7_2 ?_
    refine w_aload_n d_U_enterFilling_42 rfl rfl ?_
    refine w_gi d_U_enterFilling_43 f_U_50 W12 (cur_i8 hp) ?_
    refine w_at d_U_enterFilling_46 l_U_43 W12 ia9 (W12.rf _ _) (Nat.le_of_ble_eq_true rfl) (Nat.le_trans (Nat.le_of_ble_eq_true rfl) hF) (Nat.le_trans (Nat.le_of_ble_eq_true rfl) hL) ?_
    refine w_set d_U_enterFilling_49 l_U_39 W12 (cur_a1 hp) (W12.rf _ _) (W12.ga _ _ _) (Nat.le_of_ble_eq_true rfl) (Nat.le_trans (Nat.le_of_ble_eq_true rfl) hF) (Nat.le_trans (Nat.le_of_ble_eq_true rfl) hL) (fun h13 σ14 e15 W16 => ?_)
    refine w_aload_n d_U_enterFilling_52 rfl rfl ?_
    refine w_gr d_U_enterFilling_53 f_U_15 W16 (cur_r3 hp) ?_
    refine w_aload_n d_U_enterFilling_56 rfl rfl ?_
    refine w_gi d_U_enterFilling_57 f_U_35 W16 (cur_i6 hp) ?_
    refine w_aload_n d_U_enterFilling_60 rfl rfl ?_
    refine w_gr d_U_enterFilling_61 f_U_31 W16 (cur_r1 hp) ?_
    refine w_gr d_U_enterFilling_64 f_U_98 W16 or7_3 ?_
    refine w_aload_n d_U_enterFilling_67 rfl rfl ?_
    refine w_gi d_U_enterFilling_68 f_U_50 W16 (cur_i8 hp) ?_
    refine w_at d_U_enterFilling_71 l_U_43 W16 ia10 (W16.rf _ _) (Nat.le_of_ble_eq_true rfl) (Nat.le_trans (Nat.le_of_ble_eq_true rfl) hF) (Nat.le_trans (Nat.le_of_ble_eq_true rfl) hL) ?_
    refine w_set d_U_enterFilling_74 l_U_39 W16 (cur_a2 hp) (W16.rf _ _) (W16.ga _ _ _) (Nat.le_of_ble_eq_true rfl) (Nat.le_trans (Nat.le_of_ble_eq_true rfl) hF) (Nat.le_trans (Nat.le_of_ble_eq_true rfl) hL) (fun h17 σ18 e19 W20 => ?_)
    refine w_aload_n d_U_enterFilling_77 rfl rfl ?_
    refine w_gr d_U_enterFilling_78 f_U_18 W20 (cur_r4 hp) ?_
    refine w_aload_n d_U_enterFilling_81 rfl rfl ?_
    refine w_gi d_U_enterFilling_82 f_U_35 W20 (cur_i6 hp) ?_
    refine w_aload_n d_U_enterFilling_85 rfl rfl ?_
    refine w_gi d_U_enterFilling_86 f_U_53 W20 (cur_i9 hp) ?_
    refine w_set d_U_enterFilling_89 l_U_39 W20 (cur_a3 hp) (W20.rf _ _) (W20.rf _ _) (Nat.le_of_ble_eq_true rfl) (Nat.le_trans (Nat.le_of_ble_eq_true rfl) hF) (Nat.le_trans (Nat.le_of_ble_eq_true rfl) hL) (fun h21 σ22 e23 W24 => ?_)
    refine w_iconst d_U_enterFilling_92 ?_
    refine w_istore_n [(1, iI 0), (0, mr p)] d_U_enterFilling_93 rfl (by decide) rfl ?_
    refine w_sq (G1 := gU) (J := 131) (lvJ := fun x => []) (stJ := fun x => []) (w_sub (m_sc2 rfl (m_sc2 rfl (m_sn _))) (w_U_enterFilling_94 hF hL hp fu 0 _ _ W24 (show rng 0 by decide))) (fun z25 σ26 h27 W28 q29 => ?_)
    show Ew _ _ _ _ _ _ _ _ 131 [] [] _ _ _
    refine w_iconst d_U_enterFilling_131 ?_
    exact w_zret d_U_enterFilling_132 rfl (by decide) W28 (fun _ _ _ k => k) (show rng 1 by decide)
  · refine w_iconst d_U_enterFilling_15 ?_
    exact w_zret d_U_enterFilling_16 rfl (by decide) W4 (fun _ _ _ k => k) (show rng 0 by decide)
