/-! CALLS: an instruction that invokes y with AV comes to y's entry (m_Iv); y's contract is a free theorem whose end is m_E: by return or by throw; behind it the caller's frame goes on, or the thrown thing lies over it. -/
def m_Iv (p : Program) (l : Launch) (e : Env) (R : Room) (s : State) (m : MethodId) (args : Array Value) (below : List Frame) (meth : Method) (c : Code) (H : Heap) (locs : List Loc) (cells slots : Nat) (fr : JFrame) (rest : List Value) (y : MethodName) (AV : List Value) : Prop :=
  ∀ T : State, T.heap = H → Stand p l e R s m args below meth c T locs cells slots → ∃ (vm₁ : Vm) (mk : MethodId), Stand p l e R s m args below meth c (T.setVm vm₁) locs cells slots ∧ s.methodNamed? y = some mk ∧
    ∀ target, (∀ acts, Steps p.tables e below (doInvoke e ((T.setVm vm₁).setTop { fr with stack := rest }) acts mk AV.toArray).1 target) → Steps p.tables e below (T.setTop fr) target
section IV
variable {p : Program} {l : Launch} {e : Env} {R : Room} {s : State} {m : MethodId} {args : Array Value} {below : List Frame} {meth : Method} {c : Code} {H : Heap} {locs : List Loc} {cells slots : Nat} {fr : JFrame} {rest As : List Value} {y : MethodName} {own host : String} {i n : Nat} {b : Addr}
theorem m_ivV (hx : p.tables.exec = Jvm.exec) (hown : s.vm.findClass own = some m.cls) (hl : (Cond.methodLink own i y).before args s = true ∨ (Cond.methodLinkNest own i y host).before args s = true) (hin : (Cond.instanceMethod y).before args s = true) (hse : (Cond.selects y.cls y y).before args s = true)
    (hy : y.cls ≠ "java/lang/invoke/MethodHandle" ∧ y.cls ≠ "java/lang/invoke/VarHandle") (hsig : ∀ mk meth9, s.methodNamed? y = some mk → s.vm.method? mk = some meth9 → As.length = meth9.sig.parameters.length)
    (hrc : ∃ cell : Cell, H[b]? = some cell ∧ cell.vm.isStatics = false ∧ s.vm.findClass y.cls = some cell.cls) (hg : fr.method = m) (hst : fr.stack = As.reverse ++ .ref b :: rest) (hd : decode c.code fr.pc = .ok (.invokevirtual i, 3)) :
    m_Iv p l e R s m args below meth c H locs cells slots fr rest y (.ref b :: As) := by
  intro T hT X
  obtain ⟨mk, methM, hnamed, hmethM, hstM, habM⟩ := Cond.instanceMethod_spec hin
  obtain ⟨cell, hcB, hoB, hclB⟩ := hrc
  obtain ⟨c2, r2, m2, q1, q2, q3, q4, kP, hkP, hkPi⟩ := Cond.selects_spec hse
  cases hclB.symm.trans q1
  cases (State.methodFound?_of_named hnamed hy).symm.trans q2
  cases hnamed.symm.trans q3
  have hsel : selectMethod e.platform s.vm cell.cls mk = .method mk := by rw [Launch.admits_selectMethod X.admits]; exact q4
  have hcell : T.heap[b]? = some cell := by rw [hT]; exact hcB
  have hobj : ∀ z, cell.vm ≠ .statics z := fun z h => by rw [h] at hoB; cases hoB
  rcases hl with hl | hl
  · obtain ⟨vm₁, X₁, st⟩ := X.invokevirtual hx hown hl hnamed hmethM hstM hkP hkPi hy hcell hobj hsel hmethM habM hkP hkPi hg (hsig mk methM hnamed hmethM) hst hd
    exact ⟨vm₁, mk, X₁, hnamed, st⟩
  · obtain ⟨vm₁, X₁, st⟩ := X.invokevirtualNest hx hown hl hnamed hmethM hstM hkP hkPi hy hcell hobj hsel hmethM habM hkP hkPi hg (hsig mk methM hnamed hmethM) hst hd
    exact ⟨vm₁, mk, X₁, hnamed, st⟩
theorem m_ivS (hx : p.tables.exec = Jvm.exec) (hown : s.vm.findClass own = some m.cls) (hl : (Cond.methodLink own i y).before args s = true ∨ (Cond.methodLinkNest own i y host).before args s = true) (hstt : (Cond.static y).before args s = true) (hini : (Cond.initialized y.cls).before args s = true)
    (hy : y.cls ≠ "java/lang/invoke/MethodHandle" ∧ y.cls ≠ "java/lang/invoke/VarHandle") {mk : MethodId} {methM : Method} (hnamed : s.methodNamed? y = some mk) (hmethM : s.vm.method? mk = some methM) (hsig : As.length = methM.sig.parameters.length)
    (hg : fr.method = m) (hst : fr.stack = As.reverse ++ rest) (hd : decode c.code fr.pc = .ok (.invokestatic i, 3)) :
    m_Iv p l e R s m args below meth c H locs cells slots fr rest y As := by
  intro T hT X
  have hstatic : methM.isStatic = true := Cond.static_spec hnamed hmethM hstt
  obtain ⟨kP, hkP, -⟩ := className_of_methodNamed hnamed
  have hinitP : kP.init = .initialized := Cond.initialized_spec (findClass_of_methodNamed hnamed) hkP hini
  rcases hl with hl | hl
  · obtain ⟨vm₁, X₁, st⟩ := X.invokestatic hx hown hl hnamed hmethM hstatic hkP hinitP hy hg hsig hst hd
    exact ⟨vm₁, mk, X₁, hnamed, st⟩
  · obtain ⟨vm₁, X₁, st⟩ := X.invokestaticNest hx hown hl hnamed hmethM hstatic hkP hinitP hy hg hsig hst hd
    exact ⟨vm₁, mk, X₁, hnamed, st⟩
theorem m_ivI {bytes : ByteArray} {maxL : Nat} (hx : p.tables.exec = Jvm.exec) (hown : s.vm.findClass own = some m.cls) (hl : (Cond.methodLink own i y).before args s = true ∨ (Cond.methodLinkNest own i y host).before args s = true) (hin : (Cond.instanceMethod y).before args s = true) (hnm : y.name = "<init>") (hcode : (Cond.code y bytes maxL none).before args s = true)
    (hy : y.cls ≠ "java/lang/invoke/MethodHandle" ∧ y.cls ≠ "java/lang/invoke/VarHandle") (hlen : ∀ sig, parseMethodDescriptor y.desc = some sig → As.length = sig.parameters.length)
    (hg : fr.method = m) (hst : fr.stack = As.reverse ++ .ref b :: rest) (hd : decode c.code fr.pc = .ok (.invokespecial i, 3)) :
    m_Iv p l e R s m args below meth c H locs cells slots fr rest y (.ref b :: As) := by
  intro T hT X
  have hpl : e.platform.magicAccessors = ({} : Platform).magicAccessors := by rw [X.admits.platform]
  subst hg
  rcases hl with hl | hl
  · obtain ⟨mk, methM, cM, kP, vm₁, hnamed, -, -, -, -, -, -, -, hW₁, st⟩ := Steps.initColdArgs (e := e) X.here hx X.warmed hpl hown hnm hy hl hin hcode (f := fr) rfl hlen hst hd
    exact ⟨vm₁, mk, X.noted hW₁, hnamed, st⟩
  · obtain ⟨mk, methM, cM, kP, vm₁, hnamed, -, -, -, -, -, -, -, hW₁, st⟩ := Steps.initColdArgsNest (e := e) X.here hx X.warmed hpl hown hnm hy hl hin hcode (f := fr) rfl hlen hst hd
    exact ⟨vm₁, mk, X.noted hW₁, hnamed, st⟩
end IV
/-- an object of some class lies thrown over the frame fr -/
def m_X (p : Program) (l : Launch) (e : Env) (R : Room) (s : State) (m : MethodId) (args : Array Value) (below : List Frame) (meth : Method) (c : Code) (H : Heap) (locs : List Loc) (cells slots : Nat) (Z : State → Prop) (fr : JFrame) (q : Addr) : Prop :=
  ∀ T : State, T.heap = H → Stand p l e R s m args below meth c T locs cells slots → ∃ t, Steps p.tables e below ((T.setTop fr).pushFrame (.throwing q)) t ∧ Z t
/-- a method's contract: whatever stands below, from what 'm_Pc' says it ends by m_E -/
def m_Ct (g : MG) (y : MethodName) (wl : List Cond) (rm : Room) (Q : MO → List MC → Prop) (ws : va_W) (AV : List Value) (sz : Nat) (Pc : State → Prop) : Prop :=
  Jvm.Free.MetFree g.1 y (headSpec wl rm) (fun a U => a = AV.toArray ∧ Pc U) (fun _ _ _ _ _ => True) (fun _ st o t => m_E g Q (m_al ws) (va_A ws sz) rm.cells rm.slots st o t)
theorem m_Ct.go {g : MG} {y : MethodName} {wl : List Cond} {rm : Room} {Q9 : MO → List MC → Prop} {ws : va_W} {AV : List Value} {Pc : State → Prop} {p : Program} {e : Env} {R : Room} {s : State} {m : MethodId} {args : Array Value} {below : List Frame} {meth : Method} {c : Code} {A : Nat → Prop} {H : Heap} {locs : List Loc} {cells slots pc : Nat} {ls : Array Slot} {st0 rest : List Value} {ig : Instr} {Z : State → Prop} {maxL : Nat}
    (hM : m_Ct g y wl rm Q9 ws AV H.size Pc) (hI : m_Iv p g.1 e R s m args below meth c H locs cells slots (F0 m pc ls st0) rest y AV)
    (hwl : ∀ w ∈ wl, ∀ (a' : Array Value) (U : State), s.WarmedH U.vm → w.before a' U = true) (hini : (Cond.initialized y.cls).before args s = true)
    (hcd : ∀ (mk : MethodId) (U : State), s.WarmedH U.vm → U.methodNamed? y = some mk → ∃ (methY : Method) (cY : Code), U.vm.method? mk = some methY ∧ methY.code = some cY ∧ cY.maxLocals = maxL)
    (hfr : rm.frames + 1 ≤ R.frames) (hlo : 8 + (maxL + 11) + rm.locals ≤ R.locals) (hce : cells + rm.cells ≤ R.cells) (hsl : slots + rm.slots ≤ R.slots) (h8 : (rest.map fun v => v.category).sum ≤ 8) (hsz : ls.size = c.maxLocals) (hd : decode c.code pc = .ok (ig, 3))
    (hPc : ∀ U : State, U.heap = H → s.WarmedH U.vm → Pc U)
    (hA : ∀ q, s.heap.size ≤ q → A q) (hD : va_D A ws) (hS : va_S A s.heap H locs)
    (kr : ∀ (r : Option MV) (V : Option Value) (h1 : List MC) (ws1 : va_W) (H1 : Heap) (locs1 : List Loc), Q9 (.inl r) h1 → m_vs (m_al ws1) none r.toList V.toList → m_W g.2.2 h1 ws1 → va_P g.2.1 m_cl ws1 H1 → va_D A ws1 → m_le (m_al ws) (m_al ws1) → va_S A s.heap H1 locs1 → W p g.1 e R s m args below meth c H1 locs1 (cells + rm.cells) (slots + rm.slots) Z (F0 m (pc + 3) ls (V.toList ++ rest)))
    (kx : ∀ (E : String) (q : Addr) (ce : Cell) (h1 : List MC) (ws1 : va_W) (H1 : Heap) (locs1 : List Loc), Q9 (.inr E) h1 → H1[q]? = some ce → ce.vm = .none → s.vm.findClass E = some ce.cls → m_W g.2.2 h1 ws1 → va_P g.2.1 m_cl ws1 H1 → va_D A ws1 → m_le (m_al ws) (m_al ws1) → va_S A s.heap H1 locs1 → m_X p g.1 e R s m args below meth c H1 locs1 (cells + rm.cells) (slots + rm.slots) Z (F0 m pc ls rest) q) :
    W p g.1 e R s m args below meth c H locs cells slots Z (F0 m pc ls st0) := by
  have hFr : ∀ q, va_A ws H.size q → A q := by
    intro q hq
    rcases hq with ⟨k, e9, hk⟩ | hq
    · exact hD.2 k _ hk
    · exact hA q (Nat.le_trans hS.1 hq)
  intro T hT X0
  obtain ⟨vm₁, mk, X, hnm, hgo⟩ := hI T hT X0
  obtain ⟨U, hUe⟩ : ∃ U, U = T.setVm vm₁ := ⟨_, rfl⟩
  rw [← hUe] at X hgo
  have hUH : U.heap = H := by rw [hUe]; exact hT
  have hn : U.methodNamed? y = some mk := X.named hnm
  have hpre : (headSpec wl rm).pre.before AV.toArray U = true := atoms_intro fun w hw => hwl w hw _ _ X.warmed
  obtain ⟨methY, cY, hmY, hcY, hlY⟩ := hcd mk U X.warmed hn
  obtain ⟨kY, hkY, -⟩ := className_of_methodNamed hn
  have hini9 : (Cond.initialized y.cls).before AV.toArray U = true := word_at X.warmed (Or.inl (by first | rfl | simp [Cond.onTables, Cond.keeps, Cond.steady])) hini
  have hinitY : kY.init = .initialized := Cond.initialized_spec (findClass_of_methodNamed hn) hkY hini9
  obtain ⟨fr, hfre⟩ : ∃ fr : JFrame, fr = F0 m pc ls rest := ⟨_, rfl⟩
  have hat : At U fr.method c below := by rw [hfre]; exact X.here
  have hdf : decode c.code fr.pc = .ok (ig, 3) := by rw [hfre]; exact hd
  have hsf : fr.locals.size = c.maxLocals := by rw [hfre]; exact hsz
  have h89 : 2 * fr.monitorRoom + (fr.stack.map fun v => v.category).sum ≤ 8 := by rw [hfre]; exact lv_room (rest := rest) h8
  have happ : (headSpec wl rm).appliesLoose y e.platform (U.calling fr mk AV.toArray) = true :=
    Spec.appliesLoose_calling (g := fr) hat hdf hn hkY hinitY (X.room_calling (g := fr) (R' := (headSpec wl rm).room) hsf hmY hcY hfr (by rw [hlY]; show _ ≤ _; have q9 : (headSpec wl rm).room.locals = rm.locals := rfl; omega) hce hsl) hpre
  obtain ⟨mid, hmid⟩ := hat.above
  have hfrm : (U.setTop fr).frames = (.java fr :: mid) ++ below := by rw [State.frames_setTop' fr hat.top, hmid]; rfl
  have hP9 : AV.toArray = AV.toArray ∧ Pc (U.calling fr mk AV.toArray) := ⟨rfl, hPc _ hUH X.warmed⟩
  obtain ⟨o, s₂, hsteps, -, hend, hq⟩ := Jvm.Free.Steps.callFree hM p X.admits X.cas X.clock (acts := []) hfrm happ hP9 trivial
  have hq' : m_E g Q9 (m_al ws) (va_A ws H.size) rm.cells rm.slots (U.calling fr mk AV.toArray) o s₂ := hq
  rw [State.frames_setTop' fr hat.top] at hend
  obtain ⟨hcase, hFF, hW₂, L, hsm, hL⟩ := hq'
  have hW' : U.WarmedH s₂.vm := hW₂
  obtain ⟨g₀, hg0⟩ := Option.isSome_iff_exists.mp hat.top
  obtain ⟨r0, hr0⟩ := State.topJava?_eq_some.mp hg0
  obtain ⟨e2, q2, q3, q4, q5, q6⟩ := hsm
  have e3 : s₂ = ({ (U.calling fr mk AV.toArray).setFrames s₂.frames with heap := s₂.heap, slotsUsed := s₂.slotsUsed } : State).setVm s₂.vm := by
    have : s₂ = ({ s₂ with vm := (U.calling fr mk AV.toArray).vm } : State).setVm s₂.vm := rfl
    rw [e2] at this
    exact this
  have hr' : (({ U with heap := s₂.heap, slotsUsed := s₂.slotsUsed } : State).setVm s₂.vm).frames = .java g₀ :: r0 := hr0
  have hsame : U.sameButNew ({ U with heap := s₂.heap, slotsUsed := s₂.slotsUsed } : State) L rm.cells rm.slots := by
    refine ⟨?_, q2, q3, q4, q5, q6⟩
    obtain ⟨t, ht, -⟩ := State.frames_cons hr0
    show ({ U with heap := s₂.heap, slotsUsed := s₂.slotsUsed } : State) = { U.setFrames U.frames with heap := s₂.heap, slotsUsed := s₂.slotsUsed }
    rw [State.setFrames_self ht]
  have XB : Stand p g.1 e R s m args below meth c (({ U with heap := s₂.heap, slotsUsed := s₂.slotsUsed } : State).setVm s₂.vm) (locs ++ L) (cells + rm.cells) (slots + rm.slots) :=
    ⟨X.admits, X.cas, X.clock, X.frames, X.room, X.hears, X.method, X.code, (X.here.setHeapUsed s₂.heap s₂.slotsUsed).setVm hW'.alike, X.tail, State.WarmedH.trans X.warmed hW', X.limits, X.bytes, X.same.trans (hsame.setVm s.vm)⟩
  have hS1 : va_S A s.heap s₂.heap (locs ++ L) := by
    obtain ⟨hz, hk⟩ := hFF
    have hcz : (U.calling fr mk AV.toArray).heap = H := hUH
    rw [hcz] at hz hk
    refine ⟨Nat.le_trans hS.1 hz, fun q g1 g2 => ?_, fun z hz9 => ?_⟩
    · rw [hk q (Nat.lt_of_lt_of_le g1 hS.1) (fun z => g2 (hFr q z))]
      exact hS.2.1 q g1 g2
    · rcases List.mem_append.mp hz9 with h9 | h9
      · exact hS.2.2 z h9
      · exact hFr _ (hL z h9)
  rcases hcase with ⟨r, V, h1, ws1, rfl, hrv, hQ, hW1, hP1, hK1, hD1, hle⟩ | ⟨E, q, ce, h1, ws1, rfl, hce9, hcv, hcl, hQ, hW1, hP1, hK1, hD1, hle⟩
  · obtain ⟨t2, a1, b1⟩ := kr r V h1 ws1 s₂.heap (locs ++ L) hQ hrv hW1 hP1 (hD1.weaken (fun _ _ _ h9 => hFr _ h9)) hle hS1 (({ U with heap := s₂.heap, slotsUsed := s₂.slotsUsed } : State).setVm s₂.vm) rfl XB
    refine ⟨t2, hgo _ fun acts => ?_, b1⟩
    rw [doInvoke_state]
    obtain ⟨c₂, i₂, len₂, hc₂, hd₂, hf₂⟩ := hend
    have hcc : c₂ = c := by
      have g1 : s₂.code? fr.method = U.code? fr.method := by
        rw [State.code?_eq, State.code?_eq, hW'.alike.method?]
      exact Option.some.inj (hc₂.symm.trans (g1.trans hat.code))
    subst hcc
    have hlen : len₂ = 3 := by rw [hdf] at hd₂; cases hd₂; rfl
    subst hlen
    have hs₂ : s₂ = (({ U with heap := s₂.heap, slotsUsed := s₂.slotsUsed } : State).setVm s₂.vm).setTop { fr with pc := fr.pc + 3, stack := V.toList ++ fr.stack } := by
      refine e3.trans ?_
      rw [hf₂, State.calling_eq hat.top, State.setFrames_setFrames, State.setTop_of_frames _ hr', hr0]
      rfl
    subst hfre
    refine Steps.trans ?_ a1
    have hsx := hsteps
    rw [hs₂] at hsx
    exact hsx
  · have hclE : s.vm.findClass E = some ce.cls := by
      have g1 : U.vm.findClass E = some ce.cls := hcl
      rw [X.warmed.alike.findClass] at g1
      exact g1
    obtain ⟨t2, a1, b1⟩ := kx E q ce h1 ws1 s₂.heap (locs ++ L) hQ hce9 hcv hclE hW1 hP1 (hD1.weaken (fun _ _ _ h9 => hFr _ h9)) hle hS1 (({ U with heap := s₂.heap, slotsUsed := s₂.slotsUsed } : State).setVm s₂.vm) rfl XB
    refine ⟨t2, hgo _ fun acts => ?_, b1⟩
    rw [doInvoke_state]
    have hf₂ : s₂.frames = .throwing q :: .java fr :: U.frames.tail := hend
    have hs₂ : s₂ = ((({ U with heap := s₂.heap, slotsUsed := s₂.slotsUsed } : State).setVm s₂.vm).setTop fr).pushFrame (.throwing q) := by
      refine e3.trans ?_
      rw [hf₂, State.calling_eq hat.top, State.setFrames_setFrames, State.pushFrame, State.frames_setTop _ hr', State.setTop_of_frames _ hr', State.setFrames_setFrames]
      rw [hr0]
      rfl
    subst hfre
    refine Steps.trans ?_ a1
    have hsx := hsteps
    rw [hs₂] at hsx
    exact hsx
