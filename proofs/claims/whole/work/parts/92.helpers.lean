/-! THE LAW'S HELPERS: longs, catches, a call of the class with what it throws. Written by wip/whole/gen_92.py. -/
theorem e_lcmp {g : MG} {sc : MS} {M : MM} {d w pc : Nat} {lv : ML} {st : List MV} {h : List MC} {mc ms : Nat} {Q : MO → List MC → Prop} {x y : Int64} (hd : decode M.2.1 pc = .ok (.lcmp, 1)) (k : Ev g sc M d w (pc + 1) lv (mi (lg_cmp x y) :: st) h mc ms Q) : Ev g sc M d w pc lv (ml y :: ml x :: st) h mc ms Q := by
  intro p e R s m args below meth c A al0 H locs cells slots CT ST ls ws LV VS hF hSt hsc hR h1 h2 h3 h4 hA hK hP hD hS hW hal hls hlv hst
  obtain ⟨hx, hb, hr, hlk, hml, hown, hts, hnm, htb⟩ := id hF
  obtain ⟨V0, VS0, rfl, hV0, hst1⟩ := hst.inv
  obtain ⟨V1, VS1, rfl, hV1, hst2⟩ := hst1.inv
  cases hV0
  cases hV1
  exact W.lcmp hx hb hd (k p e R s m args below meth c A al0 H locs cells slots CT ST _ ws _ _ hF hSt hsc hR h1 h2 h3 h4 hA hK hP hD hS hW hal hls hlv (m_vs.cons rfl hst2))
theorem cell1 {c9 : ClassId} {f k : Nat → Int64} (h : f 0 = k 0) : vp_cell c9 (1, .inr (.inl f)) = vp_cell c9 (1, .inr (.inl k)) := by
  rw [vp_cell_l, vp_cell_l]
  simp [arrV, h]
theorem e_last1 {g : MG} {sc : MS} {M : MM} {d w pc : Nat} {lv : ML} {st : List MV} {h : List MC} {mc ms : Nat} {Q : MO → List MC → Prop} {r : Nat} {f : Nat → Int64} {x : Int64} (hd : decode M.2.1 pc = .ok (.lastore, 1)) (ho : h[r]? = some (cL 1 f)) (kk : Ev g sc M d w (pc + 1) lv st (h.set r (cL 1 (fun _ => x))) mc ms Q) : Ev g sc M d w pc lv (ml x :: iI 0 :: mr r :: st) h mc ms Q := by
  intro p e R s m args below meth c A al0 H locs cells slots CT ST ls ws LV VS hF hSt hsc hR h1 h2 h3 h4 hA hK hP hD hS hW hal hls hlv hst
  obtain ⟨hx, hb, hr, hlk, hml, hown, hts, hnm, htb⟩ := id hF
  obtain ⟨V0, VS0, rfl, hV0, hst1⟩ := hst.inv
  obtain ⟨V1, VS1, rfl, hV1, hst2⟩ := hst1.inv
  obtain ⟨V2, VS2, rfl, hV2, hst3⟩ := hst2.inv
  have hsr := hst3
  cases hV0
  cases hV1
  obtain ⟨a, e9, rfl, hwr, hc9⟩ := m_ref hW ho hV2
  obtain rfl := m_c_l hc9
  refine va_last hx hb hK hP hD hS r 2 hwr rfl (iv_in (by decide) (by decide) (by decide)) hd (fun H9 locs9 hP9 hD9 hS9 => ?_)
  have hl := (List.getElem?_eq_some_iff.mp hwr).1
  have hP8 : va_P g.2.1 m_cl (ws.set r (a, .inl (g.2.2 2, 1, .inr (.inl (fun _ => x))))) H9 := by
    intro k q hk
    by_cases hkr : k = r
    · subst hkr
      rw [List.getElem?_set_self hl] at hk
      cases hk
      have h9 : H9[a]? = some (vp_cell _ _) := hP9 k _ (List.getElem?_set_self hl)
      show H9[a]? = some (vp_cell _ _)
      rw [h9]
      exact congrArg some (cell1 rfl)
    · rw [List.getElem?_set_ne (Ne.symm hkr)] at hk
      exact hP9 k q (by rw [List.getElem?_set_ne (Ne.symm hkr)]; exact hk)
  exact kk p e R s m args below meth c A al0 H9 locs9 cells slots CT ST _ _ _ _ hF hSt hsc hR h1 h2 h3 h4 hA hK hP8 (hD.set hwr) hS9 (hW.set hwr rfl) (by rw [m_al_set hwr]; exact hal) hls (by rw [m_al_set hwr]; exact hlv) (by rw [m_al_set hwr]; exact hsr)
theorem tb85 : tb 85 = some (.inr (.inr (.inr ()))) := rfl
theorem Wd.at85 {h : List MC} {σ : SS} (hW : Wd h σ) : h[85]? = some (cL 1 (fun _ => σ.2.2 85)) := by
  obtain ⟨-, a, b, c, hg, hR⟩ := hW
  exact hR.at 85 _ (lyf_tb hg tb85)
theorem Wd.setL {h : List MC} {σ : SS} {v : Int64} (hW : Wd h σ) : Wd (h.set 85 (cL 1 (fun _ => v))) (sL σ 85 v) := by
  obtain ⟨hn, a, b, c, hg, hR⟩ := hW
  exact ⟨hn, a, b, c, hg, hR.setL (lyf_tb hg tb85)⟩
theorem x_catchA {g : MG} {sc : MS} {M : MM} {d w pc : Nat} {lv : ML} {h : List MC} {mc ms : Nat} {Q : MO → List MC → Prop} {E nm : String} {i : Nat} (pre : List ExceptionTableEntry) (x : ExceptionTableEntry) (suf : List ExceptionTableEntry) (hsplit : tableOf M.2.2.2.2 = pre ++ x :: suf)
    (hpass : ∀ z ∈ pre, covers z pc = true ∧ z.catchType ≠ 0 ∧ ∃ nm : String, Cond.classLink M.1.cls z.catchType nm ∈ m_Ts ∧ (E, nm) ∈ m_ncs) (hx9 : covers x pc = true) (h0 : x.catchType ≠ 0) (hlink : Cond.classLink M.1.cls x.catchType nm ∈ m_Ts) (hcast : (E, nm) ∈ m_cas)
    (hd : decode M.2.1 x.handlerPc = .ok (.astore i, 2)) (hn : i < M.2.2.1) {lv2 : ML} (hlv2 : lv.filter (fun q => !(q.1 == i) && !(q.1 + 1 == i && m_cat q.2 == 2)) = lv2) (kk : Ev g sc M d w (x.handlerPc + 2) lv2 [] h mc ms Q) : Ex g sc M d w pc lv h mc ms Q E := by
  intro p e R s m args below meth c A al0 H locs cells slots CT ST ls ws LV VS q9 ce hF hSt hsc hR h1 h2 h3 h4 hA hK hP hD hS hW hal hls hlv hce hcv hcl
  obtain ⟨hx, hb, hr, hlk, hml, hown, hts, hnm, htb⟩ := id hF
  subst hlv2
  intro T hT X
  have hpl : e.platform.magicAccessors = ({} : Platform).magicAccessors := by rw [X.admits.platform]
  have hobj : ce.vm.isStatics = false := by rw [hcv]; rfl
  obtain ⟨k0, hk0, -⟩ := Vm.findClass_spec hcl
  -- the search, from any tables that are warmer
  have hgo : ∀ (ps : List ExceptionTableEntry), (∀ z ∈ ps, z ∈ pre) → ∀ (S : State), s.WarmedH S.vm → S.heap[q9]? = some ce → ∃ vm', s.WarmedH vm' ∧ ∀ (Q9 : Handler → Pre) (E9 : CtlPost) (d9 : Bool) (acts : List Action), wp (findHandler.go (F0 m pc ls VS) q9 (ps ++ x :: suf)) Q9 E9 e d9 acts S ↔ Q9 (.found x.handlerPc) d9 acts (S.setVm vm') := by
    intro ps
    induction ps with
    | nil =>
      intro _ S hW9 hce9
      obtain ⟨c3, c4, hc3, hc4, hasg⟩ := hSt.2.2.2.2.2.2.2.1 _ hcast
      have hc3' : s.vm.findClass E = some c3 := hc3
      have hc4' : s.vm.findClass nm = some c4 := hc4
      cases Option.some.inj (hc3'.symm.trans hcl)
      obtain ⟨c5, hc5, hcl5⟩ := Cond.classLink_spec hown (hts _ hlink) e.platform hpl
      cases Option.some.inj (hc4'.symm.trans hc5)
      obtain ⟨dk, _, _, kt, hd9, _, _, _, _, hkt, _, hopen⟩ := hcl5.here
      obtain ⟨k1, hk1, -⟩ := hW9.alike.2.2 _ _ hk0
      obtain ⟨k2, hk2, -⟩ := hW9.alike.2.2 _ _ hkt
      refine ⟨_, hW9.noted hd9 hopen (State.rightAt_cls hcl5), fun Q9 E9 d9 acts => ?_⟩
      rw [List.nil_append, m_row (f := F0 m pc ls VS) hx9 h0 (hW9.classLinks hcl5) hce9 hobj ⟨k1, hk1⟩ ⟨k2, hk2⟩, if_pos (by rw [hW9.alike.assignable]; exact hasg)]
    | cons y ys ih =>
      intro hmem S hW9 hce9
      obtain ⟨hcov, hy0, nm2, hl2, hn2⟩ := hpass y (hmem y List.mem_cons_self)
      obtain ⟨c6, t6, hc6, ht6, hno⟩ := hSt.2.2.2.2.2.2.1 _ hn2
      have hc6' : s.vm.findClass E = some c6 := hc6
      cases Option.some.inj (hc6'.symm.trans hcl)
      obtain ⟨c5, hc5, hcl5⟩ := Cond.classLink_spec hown (hts _ hl2) e.platform hpl
      have ht6' : s.vm.findClass nm2 = some t6 := ht6
      cases Option.some.inj (ht6'.symm.trans hc5)
      obtain ⟨dk, _, _, kt, hd9, _, _, _, _, hkt, _, hopen⟩ := hcl5.here
      obtain ⟨k1, hk1, -⟩ := hW9.alike.2.2 _ _ hk0
      obtain ⟨k2, hk2, -⟩ := hW9.alike.2.2 _ _ hkt
      obtain ⟨vm', hW', hq⟩ := ih (fun z hz => hmem z (List.mem_cons_of_mem _ hz)) (S.setVm (S.vm.noted m.cls y.catchType (.cls t6))) (hW9.noted hd9 hopen (State.rightAt_cls hcl5)) hce9
      refine ⟨vm', hW', fun Q9 E9 d9 acts => ?_⟩
      rw [List.cons_append, m_row (f := F0 m pc ls VS) hcov hy0 (hW9.classLinks hcl5) hce9 hobj ⟨k1, hk1⟩ ⟨k2, hk2⟩, if_neg (by rw [hW9.alike.assignable, hno]; exact Bool.false_ne_true)]
      exact hq Q9 E9 d9 acts
  obtain ⟨vm', hW', hq⟩ := hgo pre (fun _ h9 => h9) ((T.setTop (F0 m pc ls VS)).pushFrame (.throwing q9)) X.warmed (by show T.heap[q9]? = _; rw [hT]; exact hce)
  have XV : Stand p g.1 e R s m args below meth c (T.setVm vm') locs cells slots := X.noted hW'
  have K : W p g.1 e R s m args below meth c H locs cells slots (m_Z g Q al0 A CT ST below s) (F0 m x.handlerPc ls [.ref q9]) := by
    refine lv_astore hx hb hd hls hn rfl (fun ls9 hls9 => ?_)
    exact kk p e R s m args below meth c A al0 H locs cells slots CT ST _ _ _ _ hF hSt hsc hR h1 h2 h3 h4 hA hK hP hD hS hW hal ⟨hls9.1, hls9.2.1, fun z hz => hls9.2.2 z (List.mem_cons_of_mem _ hz)⟩ hlv.filt m_vs.nil
  obtain ⟨t, a1, b1⟩ := K (T.setVm vm') hT XV
  refine ⟨t, m_caught (g := F0 m pc ls VS) X.here (vm' := vm') (pc := x.handlerPc) (fun Q9 E9 d9 acts => ?_) a1, b1⟩
  rw [Jvm.W.findHandler_eq (s := (T.setTop (F0 m pc ls VS)).pushFrame (.throwing q9)) (f := F0 m pc ls VS) (meth := meth) (code := c) X.method' X.code, htb, hsplit]
  exact hq Q9 E9 d9 acts
/-- what a call of the class comes to -/
def outZ : Int ⊕ String → MO
  | .inl v => .inl (some (iI v))
  | .inr E => .inr E
theorem cs_out {τ : SS} {z : Int ⊕ String} {h : List MC} (hW : Wd h τ) : cS2 (cI1 (fun o h9 => Wd h9 τ ∧ o = outZ z)) (cE1 (fun o h9 => Wd h9 τ ∧ o = outZ z)) z h 0 0 := by
  cases z with
  | inl v => exact ⟨hW, rfl⟩
  | inr E => exact ⟨hW, rfl⟩
/-- what a helper of the law comes to: its answer and the store -/
def Res (cod : String → Int → Prop) (lg : Int → Int64) (z : Int ⊕ String) (τ : SS) (k : Int) (υ : SS) : Prop := (∃ v, z = .inl v ∧ k = 0 ∧ υ = sL τ 85 (lg v)) ∨ ∃ E, z = .inr E ∧ cod E k ∧ υ = τ
def lgI (v : Int) : Int64 := (iv v).toInt64
def lgB (v : Int) : Int64 := if v = 0 then 0 else 1
/-- a helper of the law, by the model of the class's method -/
def Hw (g : MG) (N : MM) (F L : Nat) (av : List MV) (cod : String → Int → Prop) (lg : Int → Int64) (h : List MC) (σ : SS) (z : Int ⊕ String) (τ : SS) : Prop :=
  K σ ≤ K τ ∧ (∃ h', Wd h' τ) ∧ gS2 rng gE z ∧ ∀ (d w : Nat) (Q : MO → List MC → Prop), F ≤ d → L ≤ w → (∀ h' k υ, Res cod lg z τ k υ → Wd h' υ → Q (.inl (some (iI k))) h') → Ev g none N d w 0 (m_args 0 av) [] h (K τ - K σ) (K τ - K σ) Q
theorem hole0 {h : List MC} {σ : SS} (hW : Wd h σ) : ∃ fs, h[0]? = some (cO 0 fs) := by
  obtain ⟨-, a, b, c, hg, hR⟩ := hW
  obtain ⟨l, hl⟩ := ob0 a b c (σ.1 1 99).toNat (σ.1 51 99).toNat hg
  exact ⟨_, hR.at 0 _ hl⟩
theorem h_operation {g : MG} {h : List MC} {σ τ : SS} {z : Int ⊕ String} {x1 x2 x3 : Int} (hl : g.1.stackTraces = false) (hW : Wd h σ) (r1 : rng x1) (r2 : rng x2) (r3 : rng x3) (e : f_H_operation x1 x2 x3 σ = some (z, τ)) (hc : ∀ E, z = .inr E → ∃ k, c1 E k) : Hw g M_L_operation 7 113 [mr 0, iI x1, iI x2, iI x3, mr 85] c1 lgI h σ z τ := by
  obtain ⟨hex, hK, hG, hev⟩ := c_H_operation hl hW r1 r2 r3 z τ e
  obtain ⟨fs, ho⟩ := hole0 hW
  refine ⟨hK, hex, hG, fun d w Q hd hw hQ => ?_⟩
  show Ev g none M_L_operation d w 0 [(0, mr 0), (1, iI x1), (2, iI x2), (3, iI x3), (4, mr 85)] [] h (K τ - K σ) (K τ - K σ) Q
  refine e_aload (lv := [(0, mr 0), (1, iI x1), (2, iI x2), (3, iI x3), (4, mr 85)]) d_L_operation_0 rfl ?_
  refine e_iconst (v := iv 0) d_L_operation_2 rfl ?_
  refine e_aload_n (lv := [(0, mr 0), (1, iI x1), (2, iI x2), (3, iI x3), (4, mr 85)]) d_L_operation_3 rfl rfl ?_
  refine e_iload_n (lv := [(0, mr 0), (1, iI x1), (2, iI x2), (3, iI x3), (4, mr 85)]) d_L_operation_4 rfl rfl ?_
  refine e_iload_n (lv := [(0, mr 0), (1, iI x1), (2, iI x2), (3, iI x3), (4, mr 85)]) d_L_operation_5 rfl rfl ?_
  refine e_iload_n (lv := [(0, mr 0), (1, iI x1), (2, iI x2), (3, iI x3), (4, mr 85)]) d_L_operation_6 rfl rfl ?_
  refine e_invV (mc1 := K τ - K σ) (ms1 := K τ - K σ) (mc2 := 0) (ms2 := 0) (st' := [iI 0, mr 85]) (av := [iI x1, iI x2, iI x3]) d_L_operation_7 me_H_operation l_L_7 rfl rfl (Nat.le_of_ble_eq_true rfl) rfl (Nat.le_of_ble_eq_true rfl) hd hw ho rfl (hev 6 90 (fun o h9 => Wd h9 τ ∧ o = outZ z) (Nat.le_refl _) (Nat.le_refl _) (fun h' hW' => cs_out hW')) (fun r h9 hP => ?_) (fun E h9 hP => ?_)
  · obtain ⟨hW9, ho9⟩ := hP
    cases z with
    | inr E => cases ho9
    | inl v =>
      cases ho9
      show Ev g none M_L_operation d w 10 [(0, mr 0), (1, iI x1), (2, iI x2), (3, iI x3), (4, mr 85)] (iI v :: [iI 0, mr 85]) h9 0 0 Q
      refine e_i2l d_L_operation_10 ?_
      refine e_last1 d_L_operation_11 hW9.at85 ?_
      refine e_goto (tgt := 19) d_L_operation_12 (by decide) ?_
      refine e_iconst (v := iv 0) d_L_operation_19 rfl ?_
      exact z_iret d_L_operation_20 rfl (hQ _ 0 _ (Or.inl ⟨v, rfl, rfl, rfl⟩) hW9.setL)
  · obtain ⟨hW9, ho9⟩ := hP
    cases z with
    | inl v => cases ho9
    | inr E2 =>
      cases ho9
      obtain ⟨k, hk⟩ := hc _ rfl
      obtain ⟨rfl, rfl⟩ := hk
      refine x_catchA [] ⟨0, 12, 15, 13⟩ [] rfl (fun q hq => absurd hq List.not_mem_nil) (by decide) (by decide) cc_L_13 (by decide) d_L_operation_15 (by decide) rfl ?_
      refine e_iconst (v := iv 1) d_L_operation_17 rfl ?_
      exact z_iret d_L_operation_18 rfl (hQ _ 1 _ (Or.inr ⟨_, rfl, ⟨rfl, rfl⟩, rfl⟩) hW9)
theorem h_hole {g : MG} {h : List MC} {σ τ : SS} {z : Int ⊕ String} {x1 : Int} (hl : g.1.stackTraces = false) (hW : Wd h σ) (r1 : rng x1) (e : f_H_hole x1 σ = some (z, τ)) (hc : ∀ E, z = .inr E → ∃ k, c1 E k) : Hw g M_L_hole 7 111 [mr 0, iI x1, mr 85] c1 lgI h σ z τ := by
  obtain ⟨hex, hK, hG, hev⟩ := c_H_hole hl hW r1 z τ e
  obtain ⟨fs, ho⟩ := hole0 hW
  refine ⟨hK, hex, hG, fun d w Q hd hw hQ => ?_⟩
  show Ev g none M_L_hole d w 0 [(0, mr 0), (1, iI x1), (2, mr 85)] [] h (K τ - K σ) (K τ - K σ) Q
  refine e_aload_n (lv := [(0, mr 0), (1, iI x1), (2, mr 85)]) d_L_hole_0 rfl rfl ?_
  refine e_iconst (v := iv 0) d_L_hole_1 rfl ?_
  refine e_aload_n (lv := [(0, mr 0), (1, iI x1), (2, mr 85)]) d_L_hole_2 rfl rfl ?_
  refine e_iload_n (lv := [(0, mr 0), (1, iI x1), (2, mr 85)]) d_L_hole_3 rfl rfl ?_
  refine e_invV (mc1 := K τ - K σ) (ms1 := K τ - K σ) (mc2 := 0) (ms2 := 0) (st' := [iI 0, mr 85]) (av := [iI x1]) d_L_hole_4 me_H_hole l_L_15 rfl rfl (Nat.le_of_ble_eq_true rfl) rfl (Nat.le_of_ble_eq_true rfl) hd hw ho rfl (hev 6 90 (fun o h9 => Wd h9 τ ∧ o = outZ z) (Nat.le_refl _) (Nat.le_refl _) (fun h' hW' => cs_out hW')) (fun r h9 hP => ?_) (fun E h9 hP => ?_)
  · obtain ⟨hW9, ho9⟩ := hP
    cases z with
    | inr E => cases ho9
    | inl v =>
      cases ho9
      show Ev g none M_L_hole d w 7 [(0, mr 0), (1, iI x1), (2, mr 85)] (iI v :: [iI 0, mr 85]) h9 0 0 Q
      refine e_i2l d_L_hole_7 ?_
      refine e_last1 d_L_hole_8 hW9.at85 ?_
      refine e_goto (tgt := 15) d_L_hole_9 (by decide) ?_
      refine e_iconst (v := iv 0) d_L_hole_15 rfl ?_
      exact z_iret d_L_hole_16 rfl (hQ _ 0 _ (Or.inl ⟨v, rfl, rfl, rfl⟩) hW9.setL)
  · obtain ⟨hW9, ho9⟩ := hP
    cases z with
    | inl v => cases ho9
    | inr E2 =>
      cases ho9
      obtain ⟨k, hk⟩ := hc _ rfl
      obtain ⟨rfl, rfl⟩ := hk
      refine x_catch [] ⟨0, 9, 12, 13⟩ [] rfl (fun q hq => absurd hq List.not_mem_nil) (by decide) (by decide) cc_L_13 (by decide) d_L_hole_12 rfl (by decide) rfl ?_
      refine e_iconst (v := iv 1) d_L_hole_13 rfl ?_
      exact z_iret d_L_hole_14 rfl (hQ _ 1 _ (Or.inr ⟨_, rfl, ⟨rfl, rfl⟩, rfl⟩) hW9)
theorem h_begin {g : MG} {h : List MC} {σ τ : SS} {z : Int ⊕ String} {x1 x2 : Int} (hl : g.1.stackTraces = false) (hW : Wd h σ) (r1 : rng x1) (r2 : rng x2) (e : f_H_begin x1 x2 σ = some (z, τ)) (hc : ∀ E, z = .inr E → ∃ k, c1 E k) : Hw g M_L_begin 8 135 [mr 0, iI x1, iI x2, mr 85] c1 lgI h σ z τ := by
  obtain ⟨hex, hK, hG, hev⟩ := c_H_begin hl hW r1 r2 z τ e
  obtain ⟨fs, ho⟩ := hole0 hW
  refine ⟨hK, hex, hG, fun d w Q hd hw hQ => ?_⟩
  show Ev g none M_L_begin d w 0 [(0, mr 0), (1, iI x1), (2, iI x2), (3, mr 85)] [] h (K τ - K σ) (K τ - K σ) Q
  refine e_aload_n (lv := [(0, mr 0), (1, iI x1), (2, iI x2), (3, mr 85)]) d_L_begin_0 rfl rfl ?_
  refine e_iconst (v := iv 0) d_L_begin_1 rfl ?_
  refine e_aload_n (lv := [(0, mr 0), (1, iI x1), (2, iI x2), (3, mr 85)]) d_L_begin_2 rfl rfl ?_
  refine e_iload_n (lv := [(0, mr 0), (1, iI x1), (2, iI x2), (3, mr 85)]) d_L_begin_3 rfl rfl ?_
  refine e_iload_n (lv := [(0, mr 0), (1, iI x1), (2, iI x2), (3, mr 85)]) d_L_begin_4 rfl rfl ?_
  refine e_invV (mc1 := K τ - K σ) (ms1 := K τ - K σ) (mc2 := 0) (ms2 := 0) (st' := [iI 0, mr 85]) (av := [iI x1, iI x2]) d_L_begin_5 me_H_begin l_L_19 rfl rfl (Nat.le_of_ble_eq_true rfl) rfl (Nat.le_of_ble_eq_true rfl) hd hw ho rfl (hev 7 112 (fun o h9 => Wd h9 τ ∧ o = outZ z) (Nat.le_refl _) (Nat.le_refl _) (fun h' hW' => cs_out hW')) (fun r h9 hP => ?_) (fun E h9 hP => ?_)
  · obtain ⟨hW9, ho9⟩ := hP
    cases z with
    | inr E => cases ho9
    | inl v =>
      cases ho9
      show Ev g none M_L_begin d w 8 [(0, mr 0), (1, iI x1), (2, iI x2), (3, mr 85)] (iI v :: [iI 0, mr 85]) h9 0 0 Q
      refine e_i2l d_L_begin_8 ?_
      refine e_last1 d_L_begin_9 hW9.at85 ?_
      refine e_goto (tgt := 17) d_L_begin_10 (by decide) ?_
      refine e_iconst (v := iv 0) d_L_begin_17 rfl ?_
      exact z_iret d_L_begin_18 rfl (hQ _ 0 _ (Or.inl ⟨v, rfl, rfl, rfl⟩) hW9.setL)
  · obtain ⟨hW9, ho9⟩ := hP
    cases z with
    | inl v => cases ho9
    | inr E2 =>
      cases ho9
      obtain ⟨k, hk⟩ := hc _ rfl
      obtain ⟨rfl, rfl⟩ := hk
      refine x_catchA [] ⟨0, 10, 13, 13⟩ [] rfl (fun q hq => absurd hq List.not_mem_nil) (by decide) (by decide) cc_L_13 (by decide) d_L_begin_13 (by decide) rfl ?_
      refine e_iconst (v := iv 1) d_L_begin_15 rfl ?_
      exact z_iret d_L_begin_16 rfl (hQ _ 1 _ (Or.inr ⟨_, rfl, ⟨rfl, rfl⟩, rfl⟩) hW9)
theorem h_put {g : MG} {fu : Nat} {h : List MC} {σ τ : SS} {z : Int ⊕ String} {x1 x2 x3 : Int} (hl : g.1.stackTraces = false) (hW : Wd h σ) (r1 : rng x1) (r2 : rng x2) (r3 : rng x3) (e : f_H_put fu x1 x2 x3 σ = some (z, τ)) (hc : ∀ E, z = .inr E → ∃ k, c21 E k) : Hw g M_L_put 8 136 [mr 0, iI x1, iI x2, iI x3, mr 85] c21 lgI h σ z τ := by
  obtain ⟨hex, hK, hG, hev⟩ := c_H_put (fu := fu) hl hW r1 r2 r3 z τ e
  obtain ⟨fs, ho⟩ := hole0 hW
  refine ⟨hK, hex, hG, fun d w Q hd hw hQ => ?_⟩
  show Ev g none M_L_put d w 0 [(0, mr 0), (1, iI x1), (2, iI x2), (3, iI x3), (4, mr 85)] [] h (K τ - K σ) (K τ - K σ) Q
  refine e_aload (lv := [(0, mr 0), (1, iI x1), (2, iI x2), (3, iI x3), (4, mr 85)]) d_L_put_0 rfl ?_
  refine e_iconst (v := iv 0) d_L_put_2 rfl ?_
  refine e_aload_n (lv := [(0, mr 0), (1, iI x1), (2, iI x2), (3, iI x3), (4, mr 85)]) d_L_put_3 rfl rfl ?_
  refine e_iload_n (lv := [(0, mr 0), (1, iI x1), (2, iI x2), (3, iI x3), (4, mr 85)]) d_L_put_4 rfl rfl ?_
  refine e_iload_n (lv := [(0, mr 0), (1, iI x1), (2, iI x2), (3, iI x3), (4, mr 85)]) d_L_put_5 rfl rfl ?_
  refine e_iload_n (lv := [(0, mr 0), (1, iI x1), (2, iI x2), (3, iI x3), (4, mr 85)]) d_L_put_6 rfl rfl ?_
  refine e_invV (mc1 := K τ - K σ) (ms1 := K τ - K σ) (mc2 := 0) (ms2 := 0) (st' := [iI 0, mr 85]) (av := [iI x1, iI x2, iI x3]) d_L_put_7 me_H_put l_L_23 rfl rfl (Nat.le_of_ble_eq_true rfl) rfl (Nat.le_of_ble_eq_true rfl) hd hw ho rfl (hev 7 112 (fun o h9 => Wd h9 τ ∧ o = outZ z) (Nat.le_refl _) (Nat.le_refl _) (fun h' hW' => cs_out hW')) (fun r h9 hP => ?_) (fun E h9 hP => ?_)
  · obtain ⟨hW9, ho9⟩ := hP
    cases z with
    | inr E => cases ho9
    | inl v =>
      cases ho9
      show Ev g none M_L_put d w 10 [(0, mr 0), (1, iI x1), (2, iI x2), (3, iI x3), (4, mr 85)] (iI v :: [iI 0, mr 85]) h9 0 0 Q
      refine e_i2l d_L_put_10 ?_
      refine e_last1 d_L_put_11 hW9.at85 ?_
      refine e_goto (tgt := 23) d_L_put_12 (by decide) ?_
      refine e_iconst (v := iv 0) d_L_put_23 rfl ?_
      exact z_iret d_L_put_24 rfl (hQ _ 0 _ (Or.inl ⟨v, rfl, rfl, rfl⟩) hW9.setL)
  · obtain ⟨hW9, ho9⟩ := hP
    cases z with
    | inl v => cases ho9
    | inr E2 =>
      cases ho9
      obtain ⟨k, hk⟩ := hc _ rfl
      rcases hk with ⟨rfl, rfl⟩ | ⟨rfl, rfl⟩
      · refine x_catchA [] ⟨0, 12, 15, 26⟩ [⟨0, 12, 19, 13⟩] rfl (fun q hq => absurd hq List.not_mem_nil) (by decide) (by decide) cc_L_26 (by decide) d_L_put_15 (by decide) rfl ?_
        refine e_iconst (v := iv 1) d_L_put_17 rfl ?_
        exact z_iret d_L_put_18 rfl (hQ _ 1 _ (Or.inr ⟨_, rfl, Or.inl ⟨rfl, rfl⟩, rfl⟩) hW9)
      · refine x_catchA [⟨0, 12, 15, 26⟩] ⟨0, 12, 19, 13⟩ [] rfl (fun q hq => by cases List.mem_singleton.mp hq; exact ⟨by decide, by decide, _, cc_L_26, by decide⟩) (by decide) (by decide) cc_L_13 (by decide) d_L_put_19 (by decide) rfl ?_
        refine e_iconst (v := iv 2) d_L_put_21 rfl ?_
        exact z_iret d_L_put_22 rfl (hQ _ 2 _ (Or.inr ⟨_, rfl, Or.inr ⟨rfl, rfl⟩, rfl⟩) hW9)
theorem h_unify {g : MG} {fu : Nat} {h : List MC} {σ τ : SS} {z : Int ⊕ String} {x1 x2 : Int} (hl : g.1.stackTraces = false) (hW : Wd h σ) (r1 : rng x1) (r2 : rng x2) (e : f_H_unify fu x1 x2 σ = some (z, τ)) (hc : ∀ E, z = .inr E → ∃ k, c12 E k) : Hw g M_L_unify 9 214 [mr 0, iI x1, iI x2, mr 85] c12 lgI h σ z τ := by
  obtain ⟨hex, hK, hG, hev⟩ := c_H_unify (fu := fu) hl hW r1 r2 z τ e
  obtain ⟨fs, ho⟩ := hole0 hW
  refine ⟨hK, hex, hG, fun d w Q hd hw hQ => ?_⟩
  show Ev g none M_L_unify d w 0 [(0, mr 0), (1, iI x1), (2, iI x2), (3, mr 85)] [] h (K τ - K σ) (K τ - K σ) Q
  refine e_aload_n (lv := [(0, mr 0), (1, iI x1), (2, iI x2), (3, mr 85)]) d_L_unify_0 rfl rfl ?_
  refine e_iconst (v := iv 0) d_L_unify_1 rfl ?_
  refine e_aload_n (lv := [(0, mr 0), (1, iI x1), (2, iI x2), (3, mr 85)]) d_L_unify_2 rfl rfl ?_
  refine e_iload_n (lv := [(0, mr 0), (1, iI x1), (2, iI x2), (3, mr 85)]) d_L_unify_3 rfl rfl ?_
  refine e_iload_n (lv := [(0, mr 0), (1, iI x1), (2, iI x2), (3, mr 85)]) d_L_unify_4 rfl rfl ?_
  refine e_invV (mc1 := K τ - K σ) (ms1 := K τ - K σ) (mc2 := 0) (ms2 := 0) (st' := [iI 0, mr 85]) (av := [iI x1, iI x2]) d_L_unify_5 me_H_unify l_L_28 rfl rfl (Nat.le_of_ble_eq_true rfl) rfl (Nat.le_of_ble_eq_true rfl) hd hw ho rfl (hev 8 189 (fun o h9 => Wd h9 τ ∧ o = outZ z) (Nat.le_refl _) (Nat.le_refl _) (fun h' hW' => cs_out hW')) (fun r h9 hP => ?_) (fun E h9 hP => ?_)
  · obtain ⟨hW9, ho9⟩ := hP
    cases z with
    | inr E => cases ho9
    | inl v =>
      cases ho9
      show Ev g none M_L_unify d w 8 [(0, mr 0), (1, iI x1), (2, iI x2), (3, mr 85)] (iI v :: [iI 0, mr 85]) h9 0 0 Q
      refine e_i2l d_L_unify_8 ?_
      refine e_last1 d_L_unify_9 hW9.at85 ?_
      refine e_goto (tgt := 21) d_L_unify_10 (by decide) ?_
      refine e_iconst (v := iv 0) d_L_unify_21 rfl ?_
      exact z_iret d_L_unify_22 rfl (hQ _ 0 _ (Or.inl ⟨v, rfl, rfl, rfl⟩) hW9.setL)
  · obtain ⟨hW9, ho9⟩ := hP
    cases z with
    | inl v => cases ho9
    | inr E2 =>
      cases ho9
      obtain ⟨k, hk⟩ := hc _ rfl
      rcases hk with ⟨rfl, rfl⟩ | ⟨rfl, rfl⟩
      · refine x_catchA [] ⟨0, 10, 13, 13⟩ [⟨0, 10, 17, 26⟩] rfl (fun q hq => absurd hq List.not_mem_nil) (by decide) (by decide) cc_L_13 (by decide) d_L_unify_13 (by decide) rfl ?_
        refine e_iconst (v := iv 1) d_L_unify_15 rfl ?_
        exact z_iret d_L_unify_16 rfl (hQ _ 1 _ (Or.inr ⟨_, rfl, Or.inl ⟨rfl, rfl⟩, rfl⟩) hW9)
      · refine x_catchA [⟨0, 10, 13, 13⟩] ⟨0, 10, 17, 26⟩ [] rfl (fun q hq => by cases List.mem_singleton.mp hq; exact ⟨by decide, by decide, _, cc_L_13, by decide⟩) (by decide) (by decide) cc_L_26 (by decide) d_L_unify_17 (by decide) rfl ?_
        refine e_iconst (v := iv 2) d_L_unify_19 rfl ?_
        exact z_iret d_L_unify_20 rfl (hQ _ 2 _ (Or.inr ⟨_, rfl, Or.inr ⟨rfl, rfl⟩, rfl⟩) hW9)
theorem h_read {g : MG} {fu : Nat} {h : List MC} {σ τ : SS} {z : Int ⊕ String} {x1 : Int} (hl : g.1.stackTraces = false) (hW : Wd h σ) (r1 : rng x1) (e : f_H_read fu x1 σ = some (z, τ)) (hc : ∀ E, z = .inr E → ∃ k, c12 E k) : Hw g M_L_read 9 157 [mr 0, iI x1, mr 85] c12 lgI h σ z τ := by
  obtain ⟨hex, hK, hG, hev⟩ := c_H_read (fu := fu) hl hW r1 z τ e
  obtain ⟨fs, ho⟩ := hole0 hW
  refine ⟨hK, hex, hG, fun d w Q hd hw hQ => ?_⟩
  show Ev g none M_L_read d w 0 [(0, mr 0), (1, iI x1), (2, mr 85)] [] h (K τ - K σ) (K τ - K σ) Q
  refine e_aload_n (lv := [(0, mr 0), (1, iI x1), (2, mr 85)]) d_L_read_0 rfl rfl ?_
  refine e_iconst (v := iv 0) d_L_read_1 rfl ?_
  refine e_aload_n (lv := [(0, mr 0), (1, iI x1), (2, mr 85)]) d_L_read_2 rfl rfl ?_
  refine e_iload_n (lv := [(0, mr 0), (1, iI x1), (2, mr 85)]) d_L_read_3 rfl rfl ?_
  refine e_invV (mc1 := K τ - K σ) (ms1 := K τ - K σ) (mc2 := 0) (ms2 := 0) (st' := [iI 0, mr 85]) (av := [iI x1]) d_L_read_4 me_H_read l_L_31 rfl rfl (Nat.le_of_ble_eq_true rfl) rfl (Nat.le_of_ble_eq_true rfl) hd hw ho rfl (hev 8 136 (fun o h9 => Wd h9 τ ∧ o = outZ z) (Nat.le_refl _) (Nat.le_refl _) (fun h' hW' => cs_out hW')) (fun r h9 hP => ?_) (fun E h9 hP => ?_)
  · obtain ⟨hW9, ho9⟩ := hP
    cases z with
    | inr E => cases ho9
    | inl v =>
      cases ho9
      show Ev g none M_L_read d w 7 [(0, mr 0), (1, iI x1), (2, mr 85)] (iI v :: [iI 0, mr 85]) h9 0 0 Q
      refine e_i2l d_L_read_7 ?_
      refine e_last1 d_L_read_8 hW9.at85 ?_
      refine e_goto (tgt := 18) d_L_read_9 (by decide) ?_
      refine e_iconst (v := iv 0) d_L_read_18 rfl ?_
      exact z_iret d_L_read_19 rfl (hQ _ 0 _ (Or.inl ⟨v, rfl, rfl, rfl⟩) hW9.setL)
  · obtain ⟨hW9, ho9⟩ := hP
    cases z with
    | inl v => cases ho9
    | inr E2 =>
      cases ho9
      obtain ⟨k, hk⟩ := hc _ rfl
      rcases hk with ⟨rfl, rfl⟩ | ⟨rfl, rfl⟩
      · refine x_catch [] ⟨0, 9, 12, 13⟩ [⟨0, 9, 15, 26⟩] rfl (fun q hq => absurd hq List.not_mem_nil) (by decide) (by decide) cc_L_13 (by decide) d_L_read_12 rfl (by decide) rfl ?_
        refine e_iconst (v := iv 1) d_L_read_13 rfl ?_
        exact z_iret d_L_read_14 rfl (hQ _ 1 _ (Or.inr ⟨_, rfl, Or.inl ⟨rfl, rfl⟩, rfl⟩) hW9)
      · refine x_catch [⟨0, 9, 12, 13⟩] ⟨0, 9, 15, 26⟩ [] rfl (fun q hq => by cases List.mem_singleton.mp hq; exact ⟨by decide, by decide, _, cc_L_13, by decide⟩) (by decide) (by decide) cc_L_26 (by decide) d_L_read_15 rfl (by decide) rfl ?_
        refine e_iconst (v := iv 2) d_L_read_16 rfl ?_
        exact z_iret d_L_read_17 rfl (hQ _ 2 _ (Or.inr ⟨_, rfl, Or.inr ⟨rfl, rfl⟩, rfl⟩) hW9)
theorem h_item {g : MG} {h : List MC} {σ τ : SS} {z : Int ⊕ String} {x1 : Int} (hl : g.1.stackTraces = false) (hW : Wd h σ) (r1 : rng x1) (e : f_H_item x1 σ = some (z, τ)) (hc : ∀ E, z = .inr E → ∃ k, c3 E k) : Hw g M_L_item 7 111 [mr 0, iI x1, mr 85] c3 lgI h σ z τ := by
  obtain ⟨hex, hK, hG, hev⟩ := c_H_item hl hW r1 z τ e
  obtain ⟨fs, ho⟩ := hole0 hW
  refine ⟨hK, hex, hG, fun d w Q hd hw hQ => ?_⟩
  show Ev g none M_L_item d w 0 [(0, mr 0), (1, iI x1), (2, mr 85)] [] h (K τ - K σ) (K τ - K σ) Q
  refine e_aload_n (lv := [(0, mr 0), (1, iI x1), (2, mr 85)]) d_L_item_0 rfl rfl ?_
  refine e_iconst (v := iv 0) d_L_item_1 rfl ?_
  refine e_aload_n (lv := [(0, mr 0), (1, iI x1), (2, mr 85)]) d_L_item_2 rfl rfl ?_
  refine e_iload_n (lv := [(0, mr 0), (1, iI x1), (2, mr 85)]) d_L_item_3 rfl rfl ?_
  refine e_invV (mc1 := K τ - K σ) (ms1 := K τ - K σ) (mc2 := 0) (ms2 := 0) (st' := [iI 0, mr 85]) (av := [iI x1]) d_L_item_4 me_H_item l_L_34 rfl rfl (Nat.le_of_ble_eq_true rfl) rfl (Nat.le_of_ble_eq_true rfl) hd hw ho rfl (hev 6 90 (fun o h9 => Wd h9 τ ∧ o = outZ z) (Nat.le_refl _) (Nat.le_refl _) (fun h' hW' => cs_out hW')) (fun r h9 hP => ?_) (fun E h9 hP => ?_)
  · obtain ⟨hW9, ho9⟩ := hP
    cases z with
    | inr E => cases ho9
    | inl v =>
      cases ho9
      show Ev g none M_L_item d w 7 [(0, mr 0), (1, iI x1), (2, mr 85)] (iI v :: [iI 0, mr 85]) h9 0 0 Q
      refine e_i2l d_L_item_7 ?_
      refine e_last1 d_L_item_8 hW9.at85 ?_
      refine e_goto (tgt := 15) d_L_item_9 (by decide) ?_
      refine e_iconst (v := iv 0) d_L_item_15 rfl ?_
      exact z_iret d_L_item_16 rfl (hQ _ 0 _ (Or.inl ⟨v, rfl, rfl, rfl⟩) hW9.setL)
  · obtain ⟨hW9, ho9⟩ := hP
    cases z with
    | inl v => cases ho9
    | inr E2 =>
      cases ho9
      obtain ⟨k, hk⟩ := hc _ rfl
      obtain ⟨rfl, rfl⟩ := hk
      refine x_catch [] ⟨0, 9, 12, 37⟩ [] rfl (fun q hq => absurd hq List.not_mem_nil) (by decide) (by decide) cc_L_37 (by decide) d_L_item_12 rfl (by decide) rfl ?_
      refine e_iconst (v := iv 1) d_L_item_13 rfl ?_
      exact z_iret d_L_item_14 rfl (hQ _ 1 _ (Or.inr ⟨_, rfl, ⟨rfl, rfl⟩, rfl⟩) hW9)
theorem h_isSame {g : MG} {fu : Nat} {h : List MC} {σ τ : SS} {z : Int ⊕ String} {x1 x2 : Int} (hl : g.1.stackTraces = false) (hW : Wd h σ) (r1 : rng x1) (r2 : rng x2) (e : f_H_isSame fu x1 x2 σ = some (z, τ)) (hc : ∀ E, z = .inr E → ∃ k, c12 E k) : Hw g M_L_isSame 9 160 [mr 0, iI x1, iI x2, mr 85] c12 lgB h σ z τ := by
  obtain ⟨hex, hK, hG, hev⟩ := c_H_isSame (fu := fu) hl hW r1 r2 z τ e
  obtain ⟨fs, ho⟩ := hole0 hW
  refine ⟨hK, hex, hG, fun d w Q hd hw hQ => ?_⟩
  show Ev g none M_L_isSame d w 0 [(0, mr 0), (1, iI x1), (2, iI x2), (3, mr 85)] [] h (K τ - K σ) (K τ - K σ) Q
  refine e_aload_n (lv := [(0, mr 0), (1, iI x1), (2, iI x2), (3, mr 85)]) d_L_isSame_0 rfl rfl ?_
  refine e_iconst (v := iv 0) d_L_isSame_1 rfl ?_
  refine e_aload_n (lv := [(0, mr 0), (1, iI x1), (2, iI x2), (3, mr 85)]) d_L_isSame_2 rfl rfl ?_
  refine e_iload_n (lv := [(0, mr 0), (1, iI x1), (2, iI x2), (3, mr 85)]) d_L_isSame_3 rfl rfl ?_
  refine e_iload_n (lv := [(0, mr 0), (1, iI x1), (2, iI x2), (3, mr 85)]) d_L_isSame_4 rfl rfl ?_
  refine e_invV (mc1 := K τ - K σ) (ms1 := K τ - K σ) (mc2 := 0) (ms2 := 0) (st' := [iI 0, mr 85]) (av := [iI x1, iI x2]) d_L_isSame_5 me_H_isSame l_L_39 rfl rfl (Nat.le_of_ble_eq_true rfl) rfl (Nat.le_of_ble_eq_true rfl) hd hw ho rfl (hev 8 136 (fun o h9 => Wd h9 τ ∧ o = outZ z) (Nat.le_refl _) (Nat.le_refl _) (fun h' hW' => cs_out hW')) (fun r h9 hP => ?_) (fun E h9 hP => ?_)
  · obtain ⟨hW9, ho9⟩ := hP
    cases z with
    | inr E => cases ho9
    | inl v =>
      cases ho9
      show Ev g none M_L_isSame d w 8 [(0, mr 0), (1, iI x1), (2, iI x2), (3, mr 85)] (iI v :: [iI 0, mr 85]) h9 0 0 Q
      have fin : ∀ y : Int64, y = lgB v → Ev g none M_L_isSame d w 16 [(0, mr 0), (1, iI x1), (2, iI x2), (3, mr 85)] (ml y :: [iI 0, mr 85]) h9 0 0 Q := by
        intro y hy
        refine e_last1 d_L_isSame_16 hW9.at85 ?_
        refine e_goto (tgt := 28) d_L_isSame_17 (by decide) ?_
        refine e_iconst (v := iv 0) d_L_isSame_28 rfl ?_
        exact z_iret d_L_isSame_29 rfl (hQ _ 0 _ (Or.inl ⟨v, rfl, rfl, by rw [hy]⟩) hW9.setL)
      refine z_if_eq (tgt := 15) d_L_isSame_8 (by decide) hG (fun c0 => ?_) (fun c0 => ?_)
      · refine e_lconst (v := 0) d_L_isSame_15 rfl ?_
        exact fin 0 (by unfold lgB; rw [if_pos c0])
      · refine e_lconst (v := 1) d_L_isSame_11 rfl ?_
        refine e_goto (tgt := 16) d_L_isSame_12 (by decide) ?_
        exact fin 1 (by unfold lgB; rw [if_neg c0])
  · obtain ⟨hW9, ho9⟩ := hP
    cases z with
    | inl v => cases ho9
    | inr E2 =>
      cases ho9
      obtain ⟨k, hk⟩ := hc _ rfl
      rcases hk with ⟨rfl, rfl⟩ | ⟨rfl, rfl⟩
      · refine x_catchA [] ⟨0, 17, 20, 13⟩ [⟨0, 17, 24, 26⟩] rfl (fun q hq => absurd hq List.not_mem_nil) (by decide) (by decide) cc_L_13 (by decide) d_L_isSame_20 (by decide) rfl ?_
        refine e_iconst (v := iv 1) d_L_isSame_22 rfl ?_
        exact z_iret d_L_isSame_23 rfl (hQ _ 1 _ (Or.inr ⟨_, rfl, Or.inl ⟨rfl, rfl⟩, rfl⟩) hW9)
      · refine x_catchA [⟨0, 17, 20, 13⟩] ⟨0, 17, 24, 26⟩ [] rfl (fun q hq => by cases List.mem_singleton.mp hq; exact ⟨by decide, by decide, _, cc_L_13, by decide⟩) (by decide) (by decide) cc_L_26 (by decide) d_L_isSame_24 (by decide) rfl ?_
        refine e_iconst (v := iv 2) d_L_isSame_26 rfl ?_
        exact z_iret d_L_isSame_27 rfl (hQ _ 2 _ (Or.inr ⟨_, rfl, Or.inr ⟨rfl, rfl⟩, rfl⟩) hW9)
theorem h_size {g : MG} {fu : Nat} {h : List MC} {σ τ : SS} {z : Int ⊕ String} {x1 : Int} (hl : g.1.stackTraces = false) (hW : Wd h σ) (r1 : rng x1) (e : f_H_size fu x1 σ = some (z, τ)) (hc : ∀ E, z = .inr E → ∃ k, c1 E k) : Hw g M_L_size 8 132 [mr 0, iI x1, mr 85] c1 lgI h σ z τ := by
  obtain ⟨hex, hK, hG, hev⟩ := c_H_size (fu := fu) hl hW r1 z τ e
  obtain ⟨fs, ho⟩ := hole0 hW
  refine ⟨hK, hex, hG, fun d w Q hd hw hQ => ?_⟩
  show Ev g none M_L_size d w 0 [(0, mr 0), (1, iI x1), (2, mr 85)] [] h (K τ - K σ) (K τ - K σ) Q
  refine e_aload_n (lv := [(0, mr 0), (1, iI x1), (2, mr 85)]) d_L_size_0 rfl rfl ?_
  refine e_iconst (v := iv 0) d_L_size_1 rfl ?_
  refine e_aload_n (lv := [(0, mr 0), (1, iI x1), (2, mr 85)]) d_L_size_2 rfl rfl ?_
  refine e_iload_n (lv := [(0, mr 0), (1, iI x1), (2, mr 85)]) d_L_size_3 rfl rfl ?_
  refine e_invV (mc1 := K τ - K σ) (ms1 := K τ - K σ) (mc2 := 0) (ms2 := 0) (st' := [iI 0, mr 85]) (av := [iI x1]) d_L_size_4 me_H_size l_L_43 rfl rfl (Nat.le_of_ble_eq_true rfl) rfl (Nat.le_of_ble_eq_true rfl) hd hw ho rfl (hev 7 111 (fun o h9 => Wd h9 τ ∧ o = outZ z) (Nat.le_refl _) (Nat.le_refl _) (fun h' hW' => cs_out hW')) (fun r h9 hP => ?_) (fun E h9 hP => ?_)
  · obtain ⟨hW9, ho9⟩ := hP
    cases z with
    | inr E => cases ho9
    | inl v =>
      cases ho9
      show Ev g none M_L_size d w 7 [(0, mr 0), (1, iI x1), (2, mr 85)] (iI v :: [iI 0, mr 85]) h9 0 0 Q
      refine e_i2l d_L_size_7 ?_
      refine e_last1 d_L_size_8 hW9.at85 ?_
      refine e_goto (tgt := 15) d_L_size_9 (by decide) ?_
      refine e_iconst (v := iv 0) d_L_size_15 rfl ?_
      exact z_iret d_L_size_16 rfl (hQ _ 0 _ (Or.inl ⟨v, rfl, rfl, rfl⟩) hW9.setL)
  · obtain ⟨hW9, ho9⟩ := hP
    cases z with
    | inl v => cases ho9
    | inr E2 =>
      cases ho9
      obtain ⟨k, hk⟩ := hc _ rfl
      obtain ⟨rfl, rfl⟩ := hk
      refine x_catch [] ⟨0, 9, 12, 13⟩ [] rfl (fun q hq => absurd hq List.not_mem_nil) (by decide) (by decide) cc_L_13 (by decide) d_L_size_12 rfl (by decide) rfl ?_
      refine e_iconst (v := iv 1) d_L_size_13 rfl ?_
      exact z_iret d_L_size_14 rfl (hQ _ 1 _ (Or.inr ⟨_, rfl, ⟨rfl, rfl⟩, rfl⟩) hW9)
theorem h_uses {g : MG} {fu : Nat} {h : List MC} {σ τ : SS} {z : Int ⊕ String} {x1 : Int} (hl : g.1.stackTraces = false) (hW : Wd h σ) (r1 : rng x1) (e : f_H_uses fu x1 σ = some (z, τ)) (hc : ∀ E, z = .inr E → ∃ k, c1 E k) : Hw g M_L_uses 8 134 [mr 0, iI x1, mr 85] c1 lgI h σ z τ := by
  obtain ⟨hex, hK, hG, hev⟩ := c_H_uses (fu := fu) hl hW r1 z τ e
  obtain ⟨fs, ho⟩ := hole0 hW
  refine ⟨hK, hex, hG, fun d w Q hd hw hQ => ?_⟩
  show Ev g none M_L_uses d w 0 [(0, mr 0), (1, iI x1), (2, mr 85)] [] h (K τ - K σ) (K τ - K σ) Q
  refine e_aload_n (lv := [(0, mr 0), (1, iI x1), (2, mr 85)]) d_L_uses_0 rfl rfl ?_
  refine e_iconst (v := iv 0) d_L_uses_1 rfl ?_
  refine e_aload_n (lv := [(0, mr 0), (1, iI x1), (2, mr 85)]) d_L_uses_2 rfl rfl ?_
  refine e_iload_n (lv := [(0, mr 0), (1, iI x1), (2, mr 85)]) d_L_uses_3 rfl rfl ?_
  refine e_invV (mc1 := K τ - K σ) (ms1 := K τ - K σ) (mc2 := 0) (ms2 := 0) (st' := [iI 0, mr 85]) (av := [iI x1]) d_L_uses_4 me_H_uses l_L_46 rfl rfl (Nat.le_of_ble_eq_true rfl) rfl (Nat.le_of_ble_eq_true rfl) hd hw ho rfl (hev 7 111 (fun o h9 => Wd h9 τ ∧ o = outZ z) (Nat.le_refl _) (Nat.le_refl _) (fun h' hW' => cs_out hW')) (fun r h9 hP => ?_) (fun E h9 hP => ?_)
  · obtain ⟨hW9, ho9⟩ := hP
    cases z with
    | inr E => cases ho9
    | inl v =>
      cases ho9
      show Ev g none M_L_uses d w 7 [(0, mr 0), (1, iI x1), (2, mr 85)] (iI v :: [iI 0, mr 85]) h9 0 0 Q
      refine e_i2l d_L_uses_7 ?_
      refine e_last1 d_L_uses_8 hW9.at85 ?_
      refine e_goto (tgt := 15) d_L_uses_9 (by decide) ?_
      refine e_iconst (v := iv 0) d_L_uses_15 rfl ?_
      exact z_iret d_L_uses_16 rfl (hQ _ 0 _ (Or.inl ⟨v, rfl, rfl, rfl⟩) hW9.setL)
  · obtain ⟨hW9, ho9⟩ := hP
    cases z with
    | inl v => cases ho9
    | inr E2 =>
      cases ho9
      obtain ⟨k, hk⟩ := hc _ rfl
      obtain ⟨rfl, rfl⟩ := hk
      refine x_catch [] ⟨0, 9, 12, 13⟩ [] rfl (fun q hq => absurd hq List.not_mem_nil) (by decide) (by decide) cc_L_13 (by decide) d_L_uses_12 rfl (by decide) rfl ?_
      refine e_iconst (v := iv 1) d_L_uses_13 rfl ?_
      exact z_iret d_L_uses_14 rfl (hQ _ 1 _ (Or.inr ⟨_, rfl, ⟨rfl, rfl⟩, rfl⟩) hW9)
