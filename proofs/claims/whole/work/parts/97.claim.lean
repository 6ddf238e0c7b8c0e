/-! THE CLAIM OUT OF ONE WALK OF THE LAW'S BODY. Your part is whole_start (and what it stands on); all else here is the same for every law, but numbers. -/
def R_law : String := "HoleFillerLaw"
def lw_P (b : Addr) (xs : List Int32) (args : Array Value) (s : State) : Prop := args = #[.ref b] ∧ s.IntsAt b xs ∧ xs.length ≤ 2048 ∧ (Jvm.Cond.and given_1 narrow_1).before args s = true
def lw_Q (_ : Array Value) (s : State) (o : Outcome) (t : State) : Prop := o = .returned (some (.int 1)) ∧ Framed s o t [] 601024 7293034
def lw_Z (below : List Frame) (a : Array Value) (s : State) : State → Prop := fun t => ∃ o, t.status = .running ∧ Ended t below o ∧ lw_Q a s o t
/-- the law's own end, with 1 on the stack, nothing written that was there before, its room as the claim has it -/
theorem lw_ret {p : Program} {l : Launch} {e : Env} {s : State} {m : MethodId} {below : List Frame} {meth : Method} {c : Code} {b : Nat} (hx : p.tables.exec = Jvm.exec) (hb : c.code = code) (hr : meth.sig.returnType = ret) (hlocks : meth.locks = false) {pc : Nat} {H : Heap} {ls : Array Slot} (hdg : decode code pc = .ok (.ireturn, 1)) : W p l e room_1 s m #[Value.ref b] below meth c H [] 601024 7293034 (lw_Z below #[Value.ref b] s) (F0 m pc ls [.int 1]) := by
  intro T hT X
  obtain ⟨fs, hret, hrun, hended, hW, hframe⟩ := X.leave (v := some (.int 1)) (hlocks := hlocks) (fun h => by rw [hr] at h; cases h)
  have hmeth' : T.vm.method? m = some meth := X.method'
  refine ⟨T.setFrames fs, ?_, .returned (some (.int 1)), hrun, hended, rfl, ⟨_, rfl⟩, hW, hframe⟩
  jvm_step X.here [X.here.top, hx, hb, hdg, hmeth', hr, ret, narrow_b1]
  (try refine ⟨rfl, ?_⟩); (try refine ⟨rfl, ?_⟩)
  first | (intro acts; rw [hret _ acts rfl rfl rfl]) | rw [hret _ _ rfl rfl rfl]
  exact Steps.refl _
/-- what holds at the law's entry: the machine, the code, the tables' words (any of lw_tbl by 'hts w (by decide +kernel)'), the script of L ints xs at the cell b, what the Statement gives of the start (any of its parts by flat_of_before) -/
def lw_At (p : Program) (s : State) (m : MethodId) (meth : Method) (c : Code) (b L : Nat) (xs : Nat → Int32) : Prop :=
  p.tables.exec = Jvm.exec ∧ c.code = code ∧ meth.sig.returnType = ret ∧ c.maxLocals = 7 ∧ s.vm.findClass R_law = some m.cls ∧ (∀ w ∈ lw_tbl, w.before #[Value.ref b] s = true) ∧ va_X b L xs s s.heap ∧ b < s.heap.size ∧ meth.locks = false ∧ meth.name = "law" ∧ c.exceptionTable.toList = [] ∧ (Jvm.Cond.and given_1 narrow_1).before #[Value.ref b] s = true
theorem arr_of {args : Array Value} {s : State} {ty : FieldType} (h : (Cond.arrayClass ty).before args s = true) : ∃ cA : ClassId, ArrOfT s cA ty ∧ s.vm.findClass ("[" ++ ty.toString) = some cA := by
  obtain ⟨cA, kA, comp, h1, h2, h3⟩ := Cond.arrayClass_spec h
  exact ⟨cA, fun n z => ⟨fun k h => (by cases h), kA, h2, comp, h3⟩, h1⟩
theorem str_of {args : Array Value} {s : State} {own tx : String} {k : Nat} (h : (Cond.stringRef own k tx).before args s = true) : ∃ sa, vk_R own k tx sa s := by
  have h0 : (Cond.stringRef own k tx).before #[] s = true := h
  cases hcur : s.vm.findClass own with
  | none => simp [Cond.before, Cond.holds, Cond.value, hcur] at h0
  | some cur =>
    obtain ⟨k1, cf, i, a, -, -, -, -, -, he⟩ := Cond.stringRef_spec hcur h0
    exact ⟨a, h0, he⟩
theorem lays_of {args : Array Value} {s : State} {C n d : String} {A : Nat → Prop} (h : (Cond.laysStatic C n d).before args s = true) (hA : ∀ a : Nat, a < s.heap.size → ¬ A a) : m_L C n d A s s.heap := by
  obtain ⟨c, k, i, f, a, cell, hc, hi, hst, ha, hcell, hs, hcls, hlt, hty⟩ := Cond.laysStatic_spec h
  exact ⟨c, k, i, f, a, cell, hc, hi, hst, ha, hcell, hs, hcls, hlt, hty, hA a (Array.getElem?_eq_some_iff.mp hcell).1⟩
theorem in_all {α : Type} {l : List α} {f : α → Cond} (h : l.all (fun q => decide (f q ∈ lw_tbl)) = true) : ∀ q ∈ l, f q ∈ lw_tbl := fun q hq => of_decide_eq_true (List.all_eq_true.mp h q hq)
theorem new_only {s t : State} {L : List Loc} {k n : Nat} (h : s.sameButNew t L k n) (hL : ∀ z ∈ L, s.heap.size ≤ z.base) : s.sameButNew t [] k n := by
  obtain ⟨h1, h2, h3, h4, h5, h6⟩ := h
  refine ⟨h1, h2, h3, h4, h5, fun a c hc => ?_⟩
  obtain ⟨c9, g1, g2, g3, g4⟩ := h6 a c hc
  have hlt := (Array.getElem?_eq_some_iff.mp hc).1
  exact ⟨c9, g1, g2, g3, fun i _ => g4 i (fun z => absurd (hL _ z) (Nat.not_le.mpr hlt))⟩
set_option maxHeartbeats 4000000 in
set_option maxRecDepth 100000 in
/-- from the entry, for every script of at most 2048 ints, the law comes to its end with true -/
theorem whole_start {p : Program} {e : Env} {s : State} {m : MethodId} {below : List Frame} {meth : Method} {c : Code} (l : Launch) (hl0 : l.stackTraces = false) {b L : Nat} {xs : Nat → Int32} (hL : L ≤ 2048) (C0 : lw_At p s m meth c b L xs) : W p l e room_1 s m #[Value.ref b] below meth c s.heap [] 0 0 (lw_Z below #[Value.ref b] s) (entryFrame m ([Value.ref b] : List Value).toArray 7) := by
  obtain ⟨hx, hb, hr, hml, hown, hts, hX, hbl, hlocks, hnm, htb, hgv⟩ := id C0
  have hs := flat_of_before _ hgv
  have hA : ∀ q : Nat, s.heap.size ≤ q → (fun q : Nat => s.heap.size ≤ q) q := fun _ h => h
  have hbA : ∀ a : Nat, a < s.heap.size → ¬ (fun q : Nat => s.heap.size ≤ q) a := fun a h => Nat.not_le.mpr h
  have hTs : ∀ w ∈ m_Ts, w.before #[Value.ref b] s = true := fun w hw => hts w (List.mem_filter.mp hw).1
  obtain ⟨cH, iH, hKnH⟩ := u_known (C := "HoleFiller") (T := tfH) (N := 9) (n := 9) hTs u_H (hts (.instantiable "HoleFiller" 9) (by decide +kernel))
  obtain ⟨cC, iC, hKnC⟩ := u_known (C := "HoleFiller$Cells") (T := tfC) (N := 3) (n := 3) hTs u_C (hts (.instantiable "HoleFiller$Cells" 3) (by decide +kernel))
  obtain ⟨cU, iU, hKnU⟩ := u_known (C := "HoleFiller$Cursor") (T := tfU) (N := 12) (n := 12) hTs u_U (hts (.instantiable "HoleFiller$Cursor" 12) (by decide +kernel))
  obtain ⟨cG, iG, hKnG⟩ := u_known (C := "HoleFiller$Holes") (T := tfG) (N := 9) (n := 9) hTs u_G (hts (.instantiable "HoleFiller$Holes" 9) (by decide +kernel))
  obtain ⟨cO, iO, hKnO⟩ := u_known (C := "HoleFiller$Operations") (T := tfO) (N := 3) (n := 3) hTs u_O (hts (.instantiable "HoleFiller$Operations" 3) (by decide +kernel))
  obtain ⟨cR, iR, hKnR⟩ := u_known (C := "HoleFiller$Reader") (T := tfR) (N := 5) (n := 5) hTs u_R (hts (.instantiable "HoleFiller$Reader" 5) (by decide +kernel))
  obtain ⟨cS, iS, hKnS⟩ := u_known (C := "HoleFiller$Slot") (T := tfS) (N := 10) (n := 10) hTs u_S (hts (.instantiable "HoleFiller$Slot" 10) (by decide +kernel))
  obtain ⟨cN, iN, hKnN⟩ := u_known (C := "HoleFiller$Unifier") (T := tfN) (N := 9) (n := 9) hTs u_N (hts (.instantiable "HoleFiller$Unifier" 9) (by decide +kernel))
  obtain ⟨cD, iD, hKnD⟩ := u_known (C := "HoleFillerModel") (T := tfD) (N := 40) (n := 40) hTs u_D (hts (.instantiable "HoleFillerModel" 40) (by decide +kernel))
  obtain ⟨aI, hI1, hI2⟩ := arr_of (hTs _ m_Ts_int)
  obtain ⟨aZ, hZ1, hZ2⟩ := arr_of (hTs _ m_Ts_bool)
  obtain ⟨aL, hL1, hL2⟩ := arr_of (hTs _ m_Ts_long)
  have hao : (Cond.arrayOver (.object "HoleFiller$Slot")).before #[Value.ref b] s = true := hts _ (by decide +kernel)
  obtain ⟨comp, aS, kS, hS1, -, hS3, hS4, hS5⟩ := Cond.arrayOver_spec hao
  obtain ⟨g, hg1, hK⟩ : ∃ g : MG, g.1 = l ∧ va_K g.2.1 m_cl (m_tys g.2.2) s := by
    refine ⟨(l, (fun k => if k = 0 then cH else if k = 1 then cC else if k = 2 then cU else if k = 3 then cG else if k = 4 then cO else if k = 5 then cR else if k = 6 then cS else if k = 7 then cN else cD, fun k => if k = 0 then iH else if k = 1 then iC else if k = 2 then iU else if k = 3 then iG else if k = 4 then iO else if k = 5 then iR else if k = 6 then iS else if k = 7 then iN else iD), fun k => if k = 0 then aI else if k = 1 then aZ else if k = 2 then aL else aS), rfl, ?_, ?_⟩
    · intro k q hq
      match k, hq with
      | 0, hq => cases hq; exact hKnH
      | 1, hq => cases hq; exact hKnC
      | 2, hq => cases hq; exact hKnU
      | 3, hq => cases hq; exact hKnG
      | 4, hq => cases hq; exact hKnO
      | 5, hq => cases hq; exact hKnR
      | 6, hq => cases hq; exact hKnS
      | 7, hq => cases hq; exact hKnN
      | 8, hq => cases hq; exact hKnD
      | k + 9, hq => simp [m_cl] at hq
    · intro k q hq
      match k, hq with
      | 0, hq => cases hq; exact ⟨hI1, hI2⟩
      | 1, hq => cases hq; exact ⟨hZ1, hZ2⟩
      | 2, hq => cases hq; exact ⟨hL1, hL2⟩
      | 3, hq => cases hq; exact ⟨fun n z => ⟨fun k h => (by cases h), kS, hS3, comp, hS4⟩, kS, comp, hS3, hS4, hS1, hS5⟩
      | k + 4, hq => simp [m_tys] at hq
  have hini : (Cond.initialized Bundle.tN).before #[Value.ref b] s = true := hts _ (by decide +kernel)
  have hl1 : (Cond.laysStatic Bundle.tN "UNASSIGNED_STACK" Bundle.steD).before #[Value.ref b] s = true := hts _ (by decide +kernel)
  have hl2 : (Cond.laysStatic Bundle.tN "SUPPRESSED_SENTINEL" Bundle.listD).before #[Value.ref b] s = true := hts _ (by decide +kernel)
  have hr1 : (Cond.isRef (.static Bundle.tN "UNASSIGNED_STACK" Bundle.steD)).before #[Value.ref b] s = true := hs _ (by decide +kernel)
  have hr2 : (Cond.isRef (.static Bundle.tN "SUPPRESSED_SENTINEL" Bundle.listD)).before #[Value.ref b] s = true := hs _ (by decide +kernel)
  have hn1 : (Cond.not (.castable "java/lang/IllegalArgumentException" "java/lang/IllegalStateException")).before #[Value.ref b] s = true := hs _ (by decide +kernel)
  have hn2 : (Cond.not (.castable "java/lang/IllegalStateException" "java/lang/IllegalArgumentException")).before #[Value.ref b] s = true := hs _ (by decide +kernel)
  have hSt : m_St (fun q : Nat => s.heap.size ≤ q) s := by
    refine ⟨⟨lays_of hl1 hbA, lays_of hl2 hbA, va_Zqof hl1 hini hr1 hbA, va_Zqof hl2 hini hr2 hbA⟩, fun q cell hq hc => absurd (Array.getElem?_eq_some_iff.mp hc).1 (Nat.not_lt.mpr hq), fun q hq => str_of (hts _ (in_all (f := fun q => Cond.stringRef q.1 q.2.1 q.2.2) (by decide +kernel) q hq)), fun q hq => va_Nw.of rfl (hts _ (in_all (f := fun q => Cond.fieldLinkNest q.1 q.2.1 q.2.2.1 q.2.2.2.1 q.2.2.2.2.1 q.2.2.2.2.2) (by decide +kernel) q hq)), fun q hq => va_Nw.of rfl (hts _ (in_all (f := fun q => Cond.methodLinkNest q.1 q.2.1 q.2.2.1 q.2.2.2) (by decide +kernel) q hq)), fun C hC => va_AO.of (hts _ (in_all (f := fun C => Cond.arrayOver (.object C)) (by decide +kernel) C hC)), fun q hq => ?_, fun q hq => Cond.castable_spec (hts _ (in_all (f := fun q => Cond.castable q.1 q.2) (by decide +kernel) q hq)), fun y hy => va_Nw.of rfl (hts _ (in_all (f := fun y => Cond.declares y) (by decide +kernel) y hy))⟩
    rcases List.mem_cons.mp hq with rfl | hq
    · exact va_Nc.of hn1
    · cases List.mem_singleton.mp hq
      exact va_Nc.of hn2
  have hl := lv_entry ([.ref b]) (n := 7) (Nat.le_of_ble_eq_true rfl)
  rw [lg_entry_eq]
  generalize (lg_sl ([.ref b]) ++ List.replicate (7 - (lg_sl ([.ref b])).length) Slot.unset).toArray = ls at hl ⊢
  have hl : lv_has ls 7 [(0, .ref b)] := hl
  have hE := law_start (g := g) (b0 := b) (L := L) (xs := xs) (Q := fun o _ => o = .inl (some (iI 1))) (by rw [hg1]; exact hl0) hL (fun _ => rfl)
  have hW := hE p e room_1 s m #[Value.ref b] below meth c (fun q : Nat => s.heap.size ≤ q) [] s.heap [] 0 0 601024 7293034 ls [] [(0, .ref b)] [] ⟨hx, hb, hr, hlocks, hml, hown, hTs, hnm, htb⟩ hSt (fun q hq => by cases hq; exact ⟨hX, hbl, hbA b hbl⟩) ⟨Nat.le_refl _, Nat.le_refl _⟩ (Nat.le_of_ble_eq_true rfl) (Nat.le_of_ble_eq_true rfl) (Nat.le_refl _) (Nat.le_refl _) hA hK (fun k q h => by simp at h) ⟨fun i j p q h => by simp at h, fun k q h => by simp at h⟩ va_S.rf ⟨rfl, fun p c h => by simp at h⟩ m_le.rf hl (m_args_ls 0 (vs := [msc]) (VS := [.ref b]) rfl) m_vs.nil
  rw [hg1] at hW
  intro T hT X
  obtain ⟨t, a1, o, b1, b2, b3, -, b4, L9, b5, b6⟩ := hW T hT X
  refine ⟨t, a1, o, b1, b2, ?_⟩
  rcases b3 with ⟨r, V, h9, ws9, rfl, hv, hq, -⟩ | ⟨E, q, ce, h9, ws9, -, -, -, -, hq, -⟩
  · have hq2 : r = some (iI 1) := Sum.inl.inj hq
    subst hq2
    have hV : V = some (.int 1) := by
      cases V with
      | none => cases hv
      | some v =>
        have h7 : [some (Value.int (iv 1))] = [some v] := hv
        have h8 : Value.int (iv 1) = v := Option.some.inj (List.cons.inj h7).1
        rw [← h8]
        rfl
    subst hV
    exact ⟨rfl, ⟨_, rfl⟩, b4, new_only b5 b6⟩
  · cases hq
set_option maxHeartbeats 4000000 in
theorem lw_walk (l : Launch) (hl0 : l.stackTraces = false) (b : Addr) (xs : List Int32) : MetFree l x (headSpec (Jvm.Cond.code x code maxLocals ret :: tables_1) room_1) (lw_P b xs) (fun _ _ _ _ _ => True) lw_Q := by
  refine MetFree.of_bodyS (code := code) (maxLocals := maxLocals) (ret := ret) (by decide) ?_ ?_
  · intro args s m h hn
    obtain ⟨meth, c, h1, h2, h3, h4, h5, h6, -, -⟩ := Cond.code_spec hn (atoms_spec (ws := Jvm.Cond.code x code maxLocals ret :: tables_1) h _ List.mem_cons_self)
    exact ⟨meth, c, h1, h2, h3, h4, h5, h6⟩
  · intro p e s m args below meth c s₁ B hml0 hP _
    obtain ⟨rfl, hx, hbd, hgv⟩ := hP
    obtain ⟨scr, harrAt, hlist, hof, hsmall⟩ := hx
    obtain ⟨hcb, hkn, -, -⟩ := State.arrayAt?_spec harrAt
    have hown : s.vm.findClass R_law = some m.cls := findClass_of_methodNamed B.named
    have hts0 : ∀ c ∈ (Jvm.Cond.code x code maxLocals ret :: tables_1), c.before #[Value.ref b] s = true := atoms_spec (ws := Jvm.Cond.code x code maxLocals ret :: tables_1) B.pre
    have hts : ∀ w ∈ lw_tbl, w.before #[Value.ref b] s = true := k2_hts_sels lw_privs (fun w hw => hts0 w (List.mem_cons_of_mem _ hw)) lw_privs_ok
    have hml : c.maxLocals = 7 := B.maxLocals_eq (hts0 _ List.mem_cons_self)
    have htb9 : c.exceptionTable.toList = [] := by
      obtain ⟨meth9, c9, g1, g2, -, -, -, -, g7, -⟩ := Cond.code_spec B.named (hts0 _ List.mem_cons_self)
      cases Option.some.inj (g1.symm.trans B.method)
      cases Option.some.inj (g2.symm.trans (Stand.of_body B).code)
      rw [Array.isEmpty_iff.mp g7]
    have X₀ : Stand p l e room_1 s m #[Value.ref b] below meth c s₁ [] 0 0 := Stand.of_body B
    have hh0 : s₁.heap = s.heap := by rw [B.state]; rfl
    have hsz : scr.slots.size = xs.length := by rw [← Array.length_toList, hlist, List.length_map]
    have hval : ∀ j : Nat, j < xs.length → scr.slots[j]? = some (.int (xs.getD j 0)) := fun j hj => by
      rw [← Array.getElem?_toList, hlist]
      simp [hj]
    have hbl : b < s.heap.size := (Array.getElem?_eq_some_iff.mp hcb).1
    have hX : va_X b xs.length (fun j => xs.getD j 0) s s.heap := ⟨scr, hcb, hof, hkn, hsz, hval⟩
    have K : W p l e room_1 s m #[Value.ref b] below meth c s₁.heap [] 0 0 (lw_Z below #[Value.ref b] s) (entryFrame m ([Value.ref b] : List Value).toArray 7) := by
      rw [hh0]
      exact whole_start l hl0 hbd ⟨B.exec, B.bytes, B.returns, hml, hown, hts, hX, hbl, B.notSynchronized, (name_of_methodNamed B.named B.method).1, htb9, hgv⟩
    obtain ⟨t, a1, o, b1, b2, b3⟩ := K s₁ rfl X₀
    exact ⟨t, o, a1, b1, b2, b3⟩
theorem lw_pre_spec {args : Array Value} {s : State} (h : (Jvm.Cond.and given_1 narrow_1).before args s = true) (hr : rest_1_c.before args s = true) : ∃ (b : Addr) (xs : List Int32), lw_P b xs args s := by
  have hs := flat_of_before _ h
  have hq := flat_of_before _ hr
  have hc : (Cond.count 1).before args s = true := hs _ (by decide +kernel)
  have harr : (Cond.arrayOf (.arg 0) .int).before args s = true := hs _ (by decide +kernel)
  have hle : (Cond.le (.length (.arg 0)) (.int 2048)).before args s = true := hs _ (by decide +kernel)
  have hlen : (Cond.isInt (.length (.arg 0))).before args s = true := hq _ (by decide +kernel)
  have hall : (Cond.all (.arg 0) (.isInt (.elem (.arg 0) (.index 0)))).before args s = true := hq _ (by decide +kernel)
  obtain ⟨b, xs, hb, hx⟩ := State.ints_of_pre rfl harr hlen hall
  have hsm : xs.length < 2 ^ 31 := hx.choose_spec.2.2.2
  have hev : (Term.length (.arg 0)).eval args s none [] s = some (.int xs.length.toInt32) := hx.length_eval hb
  have hv := Cond.le_ints hev (show (Term.int 2048).eval args s none [] s = some (.int 2048) from rfl)
  have hd : xs.length.toInt32 ≤ 2048 := by
    simpa [Cond.before, Cond.holds, hv] using hle
  have hN : xs.length ≤ 2048 := (Int32.ofNat_le_ofNat hsm (by decide)).mp (show Int32.ofNat xs.length ≤ Int32.ofNat 2048 from hd)
  exact ⟨b, xs, Cond.one_arg hc (show args[0]? = some (.ref b) from hb), hx, hN, h⟩
theorem lw_comes (l : Launch) (hl0 : l.stackTraces = false) : Comes l x (Jvm.Cond.code x code maxLocals ret :: tables_1) room_1 (fun tb e args s => Calls_1 tb e args s ∧ rest_1 tb e args s ∧ Pre_1 tb e args s)
    (fun _ _ args s o t => lw_Q args s o t) := by
  intro p e ha hc hk s m args below hf hfit hheap happ hpre
  obtain ⟨b, xs, hP⟩ := lw_pre_spec hpre.2.2 hpre.2.1
  obtain ⟨k, o, h1, h2, h3, hQ⟩ := lw_walk l hl0 b xs p e ha hc hk s m args below hf ((Spec.applies_iff_loose hf).mp happ).1 hP trivial
  exact ⟨k, o, h1, h2, h3, hQ⟩
theorem lw_frame {s t : State} {o : Outcome} {args : Array Value} (h : Framed s o t [] 601024 7293034) :
    Framed s o t (fieldLocs frame_1_writes args s ++ arrayLocs frame_1_arrays args s ++ staticLocs frame_1_statics s) 601024 7293034 := h
theorem lw_limb (L : Cond) (hL : ∀ (args : Array Value) (s t : State), L.after args s (.returned (some (.int 1))) t = true) :
    ArmFor flags0 classFile x code maxLocals ret World_1 tables_1 room_1 Calls_1 rest_1 Pre_1
      (fun tb e a s o t => postC L tb e a s o t ∧ Framed s o t (fieldLocs frame_1_writes a s ++ arrayLocs frame_1_arrays a s ++ staticLocs frame_1_statics s) 601024 7293034) := by
  intro l LF1 LF2 LF3 p e ha hc hk s m args below hf hfit hheap happ hpre
  have hl0 : l.stackTraces = false := by
    unfold Launch.stackTraces
    rw [LF1]
    decide +kernel
  obtain ⟨k, o, h1, h2, h3, rfl, hF⟩ := lw_comes l hl0 p e ha hc hk s m args below hf hfit hheap happ hpre
  exact ⟨k, _, h1, h2, h3, hL args s _, lw_frame hF⟩
theorem i_vc : Claimed_1_1 ∧ Claimed_1_2 := ⟨lw_limb limb_1_1 (fun args s t => by simp [limb_1_1, Cond.after, Cond.holds, Cond.value]), lw_limb limb_1_2 (fun args s t => Cond.after_iff.mpr (by
  first | (rw [show limb_1_2 = Cond.eq .result (.int 1) from rfl, Cond.eq_ints (x := 1) (y := 1) rfl rfl]; simp; done) | (simp [limb_1_2, Cond.value, Term.eval]; done)))⟩
