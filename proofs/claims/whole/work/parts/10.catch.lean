/-- a row of the table whose class may still have to be linked: it takes the thing, or the search goes on; the tables note the link -/
theorem m_row {Q : Handler → Pre} {E : CtlPost} {e : Env} {d : Bool} {acts : List Action} {s : State} {f : JFrame} {a : Addr} {x : ExceptionTableEntry} {t : List ExceptionTableEntry} {c : ClassId} {cell : Cell} (hx : covers x f.pc = true) (h0 : x.catchType ≠ 0)
    (hl : s.vm.ClassLinks e.platform f.method.cls x.catchType c) (hcell : s.heap[a]? = some cell) (hobj : cell.vm.isStatics = false) (hk : ∃ k, s.vm.classes[cell.cls]? = some k) (hc : ∃ k, s.vm.classes[c]? = some k) :
    wp (findHandler.go f a (x :: t)) Q E e d acts s ↔ if s.vm.assignable cell.cls c = true then Q (.found x.handlerPc) d acts (s.setVm (s.vm.noted f.method.cls x.catchType (.cls c))) else wp (findHandler.go f a t) Q E e d acts (s.setVm (s.vm.noted f.method.cls x.catchType (.cls c))) := by
  have hns : ∀ k, cell.vm ≠ .statics k := VmData.ne_statics_of hobj
  have hal : s.vm.Alike (s.vm.noted f.method.cls x.catchType (.cls c)) := (Vm.Alike.refl s.vm).noted _ _ _
  obtain ⟨k1, hk1⟩ := hk
  obtain ⟨k2, hk2⟩ := hc
  obtain ⟨k3, hk3, -⟩ := hal.2.2 _ _ hk1
  obtain ⟨k4, hk4, -⟩ := hal.2.2 _ _ hk2
  obtain ⟨o1, o2⟩ := (resolveClass_links e.toSetting hl).op (op := VmOp.resolveClass f.method.cls x.catchType) rfl
  simp only [covers] at hx
  cases hfit : s.vm.assignable cell.cls c
  · have h9 : (s.vm.noted f.method.cls x.catchType (.cls c)).assignable cell.cls c = false := by rw [hal.assignable]; exact hfit
    simp [findHandler.go, hx, h0, o1, o2, hcell, hns, hk3, hk4, h9, VmOp.dirties, VmOp.acts]
  · have h9 : (s.vm.noted f.method.cls x.catchType (.cls c)).assignable cell.cls c = true := by rw [hal.assignable]; exact hfit
    simp [findHandler.go, hx, h0, o1, o2, hcell, hns, hk3, hk4, h9, VmOp.dirties, VmOp.acts]
/-- the frame at the handler, once the search has found it -/
theorem m_caught {tb : Tables} {e : Env} {s target : State} {g : JFrame} {c : Code} {below : List Frame} {a : Addr} {pc : Nat} {vm' : Vm} (h : At s g.method c below)
    (hfind : ∀ (Q : Handler → Pre) (E : CtlPost) (d : Bool) (acts : List Action), wp (findHandler g a) Q E e d acts ((s.setTop g).pushFrame (.throwing a)) ↔ Q (.found pc) d acts (((s.setTop g).pushFrame (.throwing a)).setVm vm'))
    (hrest : Steps tb e below ((s.setVm vm').setTop { g with pc := pc, stack := [.ref a] }) target) : Steps tb e below ((s.setTop g).pushFrame (.throwing a)) target := by
  have hstep : ∀ r : List Frame, (stepThrowing e ((s.setTop g).pushFrame (.throwing a)) a (.java g :: r)).Is ((((s.setTop g).pushFrame (.throwing a)).setVm vm').setFrames (.java { g with pc := pc, stack := [.ref a] } :: r)) [] := by
    intro r
    simp only [stepThrowing, searchFrame, vmDo]
    generalize hr : Sem.go _ e false [] ((s.setTop g).pushFrame (.throwing a)) = res
    obtain ⟨as, rfl, ha⟩ := Sem.eq_ok_of hr (a := Handler.found pc) (s' := ((s.setTop g).pushFrame (.throwing a)).setVm vm') (acts' := []) (by simp [hfind _ _ _ _])
    exact ⟨rfl, ha⟩
  obtain ⟨hgo, hw⟩ := h.throwing a
  refine Steps.head hgo hw ?_
  rw [stepThread_throwing (frames_entered h.top _), (hstep _).1]
  obtain ⟨g₀, hg⟩ := Option.isSome_iff_exists.mp h.top
  obtain ⟨r, hr⟩ := State.topJava?_eq_some.mp hg
  have hr' : (s.setVm vm').frames = .java g₀ :: r := hr
  rw [State.setTop_of_frames _ hr'] at hrest
  have e1 : ∀ (u : State) (F G : List Frame), ((u.setFrames F).setVm vm').setFrames G = (u.setVm vm').setFrames G := by
    intro u F G
    have q : (u.setFrames F).setVm vm' = (u.setVm vm').setFrames F := rfl
    rw [q, State.setFrames_setFrames]
  rw [hr, List.tail_cons, State.pushFrame, e1, State.setTop_of_frames _ hr, e1]
  exact hrest
/-- caught: by the first row of the table, or by the second where the first one's class is no kin; the handler keeps the thing in a local that nobody reads -/
theorem x_catch {g : MG} {sc : MS} {M : MM} {d w pc : Nat} {lv : ML} {h : List MC} {mc ms : Nat} {Q : MO → List MC → Prop} {E nm : String} {k9 : Fin 4} {i : Nat} (pre : List ExceptionTableEntry) (x : ExceptionTableEntry) (suf : List ExceptionTableEntry) (hsplit : tableOf M.2.2.2.2 = pre ++ x :: suf)
    (hpass : ∀ z ∈ pre, covers z pc = true ∧ z.catchType ≠ 0 ∧ ∃ nm : String, Cond.classLink M.1.cls z.catchType nm ∈ m_Ts ∧ (E, nm) ∈ m_ncs) (hx9 : covers x pc = true) (h0 : x.catchType ≠ 0) (hlink : Cond.classLink M.1.cls x.catchType nm ∈ m_Ts) (hcast : (E, nm) ∈ m_cas)
    (hd : decode M.2.1 x.handlerPc = .ok (.astore_n k9, 1)) (hi : (k9 : Nat) = i) (hn : i < M.2.2.1) {lv2 : ML} (hlv2 : lv.filter (fun q => !(q.1 == i) && !(q.1 + 1 == i && m_cat q.2 == 2)) = lv2) (kk : Ev g sc M d w (x.handlerPc + 1) lv2 [] h mc ms Q) : Ex g sc M d w pc lv h mc ms Q E := by
  intro p e R s m args below meth c A al0 H locs cells slots CT ST ls ws LV VS q9 ce hF hSt hsc hR h1 h2 h3 h4 hA hK hP hD hS hW hal hls hlv hce hcv hcl
  obtain ⟨hx, hb, hr, hlk, hml, hown, hts, hnm, htb⟩ := id hF
  subst hlv2
  intro T hT X
  have hpl : e.platform.magicAccessors = ({} : Platform).magicAccessors := by rw [X.admits.platform]
  have hobj : ce.vm.isStatics = false := by rw [hcv]; rfl
  obtain ⟨k0, hk0, -⟩ := Vm.findClass_spec hcl
  -- the search, from any tables that are warmer
  have hgo : ∀ (ps : List ExceptionTableEntry), (∀ z ∈ ps, z ∈ pre) → ∀ (S : State), s.WarmedH S.vm → S.heap[q9]? = some ce → ∃ vm', s.WarmedH vm' ∧ ∀ (Q9 : Handler → Pre) (E9 : CtlPost) (d9 : Bool) (acts : List Action), wp (findHandler.go (F0 m pc ls VS) q9 (ps ++ x :: suf)) Q9 E9 e d9 acts S ↔ Q9 (.found x.handlerPc) d9 acts (S.setVm vm') := by
    intro ps
    induction ps with
    | nil =>
      intro _ S hW9 hce9
      obtain ⟨c3, c4, hc3, hc4, hasg⟩ := hSt.2.2.2.2.2.2.2.1 _ hcast
      have hc3' : s.vm.findClass E = some c3 := hc3
      have hc4' : s.vm.findClass nm = some c4 := hc4
      cases Option.some.inj (hc3'.symm.trans hcl)
      obtain ⟨c5, hc5, hcl5⟩ := Cond.classLink_spec hown (hts _ hlink) e.platform hpl
      cases Option.some.inj (hc4'.symm.trans hc5)
      obtain ⟨dk, _, _, kt, hd9, _, _, _, _, hkt, _, hopen⟩ := hcl5.here
      obtain ⟨k1, hk1, -⟩ := hW9.alike.2.2 _ _ hk0
      obtain ⟨k2, hk2, -⟩ := hW9.alike.2.2 _ _ hkt
      refine ⟨_, hW9.noted hd9 hopen (State.rightAt_cls hcl5), fun Q9 E9 d9 acts => ?_⟩
      rw [List.nil_append, m_row (f := F0 m pc ls VS) hx9 h0 (hW9.classLinks hcl5) hce9 hobj ⟨k1, hk1⟩ ⟨k2, hk2⟩, if_pos (by rw [hW9.alike.assignable]; exact hasg)]
    | cons y ys ih =>
      intro hmem S hW9 hce9
      obtain ⟨hcov, hy0, nm2, hl2, hn2⟩ := hpass y (hmem y List.mem_cons_self)
      obtain ⟨c6, t6, hc6, ht6, hno⟩ := hSt.2.2.2.2.2.2.1 _ hn2
      have hc6' : s.vm.findClass E = some c6 := hc6
      cases Option.some.inj (hc6'.symm.trans hcl)
      obtain ⟨c5, hc5, hcl5⟩ := Cond.classLink_spec hown (hts _ hl2) e.platform hpl
      have ht6' : s.vm.findClass nm2 = some t6 := ht6
      cases Option.some.inj (ht6'.symm.trans hc5)
      obtain ⟨dk, _, _, kt, hd9, _, _, _, _, hkt, _, hopen⟩ := hcl5.here
      obtain ⟨k1, hk1, -⟩ := hW9.alike.2.2 _ _ hk0
      obtain ⟨k2, hk2, -⟩ := hW9.alike.2.2 _ _ hkt
      obtain ⟨vm', hW', hq⟩ := ih (fun z hz => hmem z (List.mem_cons_of_mem _ hz)) (S.setVm (S.vm.noted m.cls y.catchType (.cls t6))) (hW9.noted hd9 hopen (State.rightAt_cls hcl5)) hce9
      refine ⟨vm', hW', fun Q9 E9 d9 acts => ?_⟩
      rw [List.cons_append, m_row (f := F0 m pc ls VS) hcov hy0 (hW9.classLinks hcl5) hce9 hobj ⟨k1, hk1⟩ ⟨k2, hk2⟩, if_neg (by rw [hW9.alike.assignable, hno]; exact Bool.false_ne_true)]
      exact hq Q9 E9 d9 acts
  obtain ⟨vm', hW', hq⟩ := hgo pre (fun _ h9 => h9) ((T.setTop (F0 m pc ls VS)).pushFrame (.throwing q9)) X.warmed (by show T.heap[q9]? = _; rw [hT]; exact hce)
  have XV : Stand p g.1 e R s m args below meth c (T.setVm vm') locs cells slots := X.noted hW'
  have K : W p g.1 e R s m args below meth c H locs cells slots (m_Z g Q al0 A CT ST below s) (F0 m x.handlerPc ls [.ref q9]) := by
    refine lv_astore_n hx hb hd hi hls hn rfl (fun ls9 hls9 => ?_)
    exact kk p e R s m args below meth c A al0 H locs cells slots CT ST _ _ _ _ hF hSt hsc hR h1 h2 h3 h4 hA hK hP hD hS hW hal ⟨hls9.1, hls9.2.1, fun z hz => hls9.2.2 z (List.mem_cons_of_mem _ hz)⟩ hlv.filt m_vs.nil
  obtain ⟨t, a1, b1⟩ := K (T.setVm vm') hT XV
  refine ⟨t, m_caught (g := F0 m pc ls VS) X.here (vm' := vm') (pc := x.handlerPc) (fun Q9 E9 d9 acts => ?_) a1, b1⟩
  rw [Jvm.W.findHandler_eq (s := (T.setTop (F0 m pc ls VS)).pushFrame (.throwing q9)) (f := F0 m pc ls VS) (meth := meth) (code := c) X.method' X.code, htb, hsplit]
  exact hq Q9 E9 d9 acts
