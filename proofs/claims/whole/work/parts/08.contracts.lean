/-! CONTRACTS OUT OF Ev, AND CALLS BY THEM -/
def m_rm (d w mc ms : Nat) : Room := { frames := d, cells := mc, slots := ms, locals := w }
def m_args : Nat → List MV → ML
  | _, [] => []
  | i, v :: vs => (i, v) :: m_args (if m_cat v = 2 then i + 2 else i + 1) vs
theorem m_args_ls {al : List Nat} {sc : MS} : ∀ {vs : List MV} {VS : List Value} (i : Nat), m_vs al sc vs VS → m_ls al sc (m_args i vs) (lv_args i VS) := by
  intro vs
  induction vs with
  | nil => intro VS i h; rw [h.inv0]; exact m_ls.nil
  | cons v vs ih =>
    intro VS i h
    obtain ⟨V, VS', rfl, h1, h2⟩ := h.inv
    unfold m_args lv_args
    rw [m_v_cat h1]
    exact m_ls.cons h1 (ih _ h2)
theorem m_sl_len {al : List Nat} {sc : MS} : ∀ {vs : List MV} {VS : List Value}, m_vs al sc vs VS → (lg_sl VS).length = (vs.map m_cat).sum := by
  intro vs
  induction vs with
  | nil => intro VS h; rw [h.inv0]; rfl
  | cons v vs ih =>
    intro VS h
    obtain ⟨V, VS', rfl, h1, h2⟩ := h.inv
    have h3 := ih h2
    have h4 := m_v_cat h1
    unfold lg_sl at h3 ⊢
    rw [List.flatMap_cons, List.length_append, h3, List.map_cons, List.sum_cons, ← h4]
    rcases lv_cat V with q | q <;> simp [q]
theorem m_vs_none {al : List Nat} {sc : MS} : ∀ {vs : List MV} {VS : List Value}, vs.all m_nsc = true → m_vs al sc vs VS → m_vs al none vs VS := by
  intro vs
  induction vs with
  | nil => intro VS _ h; exact h
  | cons v vs ih =>
    intro VS hn h
    obtain ⟨V, VS', rfl, h1, h2⟩ := h.inv
    simp only [List.all_cons, Bool.and_eq_true] at hn
    exact m_vs.cons (m_v_none hn.1 h1) (ih hn.2 h2)
theorem m_L.moved {C n d : String} {A : Nat → Prop} {u U : State} {H : Heap} (hvm : u.vm.Alike U.vm) (h : m_L C n d A u H) : m_L C n d A U H := by
  obtain ⟨c, k, i, f, a, cell, h1, h2, h3, h4, h5, h6, h7, h8, h9, h10⟩ := h
  obtain ⟨k', hi', he⟩ := State.fieldFound?_setVm hvm h2
  exact ⟨c, k', i, f, a, cell, by rw [hvm.findClass]; exact h1, hi', h3, by rw [he]; exact h4, h5, h6, h7, h8, by rw [he]; exact h9, h10⟩
theorem m_L.kept {C n d : String} {A : Nat → Prop} {U : State} {H H1 : Heap} (h : m_L C n d A U H) (hq : ∀ a : Nat, a < H.size → ¬ A a → H1[a]? = H[a]?) : m_L C n d A U H1 := by
  obtain ⟨c, k, i, f, a, cell, h1, h2, h3, h4, h5, h6, h7, h8, h9, h10⟩ := h
  exact ⟨c, k, i, f, a, cell, h1, h2, h3, h4, by rw [hq a (Array.getElem?_eq_some_iff.mp h5).1 h10]; exact h5, h6, h7, h8, h9, h10⟩
theorem m_L.narrow {C n d : String} {A B : Nat → Prop} {U : State} {H : Heap} (h : m_L C n d A U H) (hAB : ∀ q, B q → A q) : m_L C n d B U H := by
  obtain ⟨c, k, i, f, a, cell, h1, h2, h3, h4, h5, h6, h7, h8, h9, h10⟩ := h
  exact ⟨c, k, i, f, a, cell, h1, h2, h3, h4, h5, h6, h7, h8, h9, fun z => h10 (hAB a z)⟩
theorem m_L.word {C n d : String} {A : Nat → Prop} {s : State} {args : Array Value} (h : m_L C n d A s s.heap) : (Cond.laysStatic C n d).before args s = true := by
  obtain ⟨c, k, i, f, a, cell, h1, h2, h3, h4, h5, h6, h7, h8, h9, -⟩ := h
  simp [Cond.before, Cond.holds, Cond.value, h1, h2, h3, h4, h5, h6, h7, h8, h9]
theorem m_Z.isRef {C n d : String} {v : Value} {A : Nat → Prop} {s : State} {args : Array Value} (h : va_Z C n d v A s s.heap) (hv : v = .null ∨ ∃ t, v = .ref t) : (Cond.isRef (.static C n d)).before args s = true := by
  obtain ⟨cf, kf, fi, f, a, cell, h1, h2, h3, h4, h5, h6, h7, -⟩ := h
  have he : (Term.static C n d).eval args s none [] s = some v := by
    simp [Term.eval, State.fieldNamed?, h1, h2, h4, h5, h6, h7]
  rcases hv with rfl | ⟨t, rfl⟩ <;> simp [Cond.before, Cond.holds, Cond.value, he, Value.isRef]
theorem m_Zq.isRef {C n d : String} {A : Nat → Prop} {s : State} {args : Array Value} (h : va_Zq C n d A s s.heap) : (Cond.isRef (.static C n d)).before args s = true := by
  rcases h with h | ⟨t, h⟩
  · exact m_Z.isRef h (Or.inl rfl)
  · exact m_Z.isRef h (Or.inr ⟨t, rfl⟩)
theorem m_nst {D : va_G} {ws : va_W} {H : Heap} (hP : va_P D m_cl ws H) : ∀ (q : Nat) (cell : Cell), va_A ws H.size q → H[q]? = some cell → cell.vm.isStatics = false := by
  intro q cell hq hc
  rcases hq with ⟨k, e, hk⟩ | hq
  · have h := hP k _ hk
    rcases e with x | o
    · have h2 : H[q]? = some (vp_cell x.1 x.2) := h
      cases Option.some.inj (hc.symm.trans h2)
      obtain ⟨c, n, f | f | f | f | f⟩ := x <;> rfl
    · obtain ⟨r, -, cell2, g1, -, g3, -⟩ := h
      cases Option.some.inj (hc.symm.trans g1)
      rw [g3]; rfl
  · rw [Array.getElem?_eq_none hq] at hc
    cases hc
/-- what a callee finds -/
def m_Pc (g : MG) (ws : va_W) (sz : Nat) (U : State) : Prop := U.heap.size = sz ∧ va_P g.2.1 m_cl ws U.heap ∧ va_K g.2.1 m_cl (m_tys g.2.2) U ∧ va_D (fun _ => True) ws ∧ m_St (va_A ws sz) U
theorem m_St_to {D : va_G} {A : Nat → Prop} {ws : va_W} {s U : State} (hW : s.WarmedH U.vm) (h : m_St A s) (hP : va_P D m_cl ws U.heap) (hk : ∀ a : Nat, a < s.heap.size → ¬ A a → U.heap[a]? = s.heap[a]?) (hAB : ∀ q, va_A ws U.heap.size q → A q) : m_St (va_A ws U.heap.size) U := by
  obtain ⟨⟨a1, a2, a3, a4⟩, -, h3, h4, h5, h6, h7, h8, h9⟩ := h
  refine ⟨⟨((a1.kept hk).moved hW.alike).narrow hAB, ((a2.kept hk).moved hW.alike).narrow hAB, va_Zq.narrow (va_Zq.moved hW.alike (va_Zq.kept a3 hk)) hAB, va_Zq.narrow (va_Zq.moved hW.alike (va_Zq.kept a4 hk)) hAB⟩, m_nst hP, fun q hq => ?_, fun q hq => va_Nw.warmF hW (h4 q hq), fun q hq => va_Nw.warmM hW (h5 q hq), fun C hC => va_AO.moved hW.alike (h6 C hC), fun q hq => va_Nc.moved hW.alike (h7 q hq), fun q hq => (h8 q hq).moved hW.alike, fun y hy => va_Nw.warmD hW (h9 y hy)⟩
  obtain ⟨sa, hsa⟩ := h3 q hq
  exact ⟨sa, vk_R.warm hW hsa⟩
theorem m_pcU {g : MG} {ws : va_W} {s : State} {H : Heap} {A : Nat → Prop} {locs : List Loc} (hSt : m_St A s) (hA : ∀ q, s.heap.size ≤ q → A q) (hK : va_K g.2.1 m_cl (m_tys g.2.2) s) (hP : va_P g.2.1 m_cl ws H) (hD : va_D A ws) (hS : va_S A s.heap H locs) : ∀ U : State, U.heap = H → s.WarmedH U.vm → m_Pc g ws H.size U := by
  intro U hU hW9
  subst hU
  refine ⟨rfl, hP, va_K.moved hW9.alike hK, hD.weaken (fun _ _ _ _ => trivial), m_St_to hW9 hSt hP (fun a h1 h2 => hS.2.1 a h1 h2) (fun q hq => ?_)⟩
  rcases hq with ⟨k, e9, hk⟩ | hq
  · exact hD.2 k _ hk
  · exact hA q (Nat.le_trans hS.1 hq)
/-- a method's words: its head is its own code -/
def m_hd (N : MM) : Cond := match N.2.2.2.2 with
  | [] => .code N.1 N.2.1 N.2.2.1 N.2.2.2.1
  | _ => .codeWith N.1 N.2.1 N.2.2.1 N.2.2.2.1 N.2.2.2.2
def m_wl (N : MM) : List Cond := m_hd N :: m_Ts
def m_me (N : MM) (n : Nat) : Prop := m_hd N ∈ m_Ts ∧ plainName N.1.cls = true ∧ (N.1.cls ≠ "java/lang/invoke/MethodHandle" ∧ N.1.cls ≠ "java/lang/invoke/VarHandle") ∧ (parseMethodDescriptor N.1.desc).map (fun d => d.parameters.length) = some n ∧ Cond.initialized N.1.cls ∈ m_Ts
/-- what the head says -/
theorem m_hd_spec {N : MM} {args : Array Value} {s : State} {m : MethodId} (h : (m_hd N).before args s = true) (hn : s.methodNamed? N.1 = some m) : ∃ (meth : Method) (c : Code), s.vm.method? m = some meth ∧ meth.code = some c ∧ c.code = N.2.1 ∧ c.maxLocals = N.2.2.1 ∧ meth.sig.returnType = N.2.2.2.1 ∧ meth.locks = false ∧ c.exceptionTable.toList = tableOf N.2.2.2.2 ∧ parseMethodDescriptor N.1.desc = some meth.sig := by
  obtain ⟨y, bytes, maxL, ret, hh⟩ := N
  cases hh with
  | nil =>
    obtain ⟨meth, c, g1, g2, g3, g4, g5, g6, g7, g8⟩ := Cond.code_spec hn h
    exact ⟨meth, c, g1, g2, g3, g4, g5, g6, by rw [Array.isEmpty_iff.mp g7]; rfl, g8⟩
  | cons a l =>
    obtain ⟨m9, meth, c, hn9, g1, g2, g3, g4, g7, g5, g6, g8⟩ := Cond.codeWith_spec h
    cases hn.symm.trans hn9
    exact ⟨meth, c, g1, g2, g3, g4, g5, g6, by rw [← g7, table_eq], g8⟩
theorem m_named {N : MM} {args : Array Value} {s : State} (h : (m_hd N).before args s = true) : ∃ mk, s.methodNamed? N.1 = some mk := by
  obtain ⟨y, bytes, maxL, ret, hh⟩ := N
  cases hh with
  | nil => exact Cond.code_named h
  | cons a l =>
    obtain ⟨m9, meth, c, hn9, -⟩ := Cond.codeWith_spec h
    exact ⟨m9, hn9⟩
theorem m_good (N : MM) (hc : m_hd N ∈ m_Ts) : ∀ w ∈ m_wl N, w ∈ m_Ts := by
  intro w hw
  rcases List.mem_cons.mp hw with rfl | hw
  · exact hc
  · exact hw
theorem m_met {g : MG} {N : MM} {d w n : Nat} {av : List MV} {h : List MC} {mc ms : Nat} {Q : MO → List MC → Prop} (hN : m_me N n) (hE : Ev g none N d w 0 (m_args 0 av) [] h mc ms Q) (hsl : (av.map m_cat).sum ≤ N.2.2.1) {ws : va_W} {AV : List Value} (hW : m_W g.2.2 h ws) (hvs : m_vs (m_al ws) none av AV) (sz : Nat) :
    m_Ct g N.1 (m_wl N) (m_rm d w mc ms) Q ws AV sz (m_Pc g ws sz) := by
  obtain ⟨hc, hpl, -⟩ := hN
  refine Jvm.Free.MetFree.of_bodyS (code := N.2.1) (maxLocals := N.2.2.1) (ret := N.2.2.2.1) hpl ?_ ?_
  · intro args s m h9 hn
    obtain ⟨meth, c, g1, g2, g3, g4, g5, g6, -, -⟩ := m_hd_spec (atoms_spec (ws := m_wl N) h9 _ List.mem_cons_self) hn
    exact ⟨meth, c, g1, g2, g3, g4, g5, g6⟩
  · intro p e s m args below meth c s₁ B hml hv _
    obtain ⟨rfl, hsz, hP, hK, hD0, hSt⟩ := hv
    subst hsz
    have hh0 : s₁.heap = s.heap := by rw [B.state]; rfl
    have hD := hD0.self (sz := s.heap.size)
    have hl := lv_entry AV (n := N.2.2.1) (by rw [m_sl_len hvs]; exact hsl)
    have ht : c.exceptionTable.toList = tableOf N.2.2.2.2 := by
      obtain ⟨meth9, c9, g1, g2, -, -, -, -, g7, -⟩ := m_hd_spec (atoms_spec (ws := m_wl N) B.pre _ List.mem_cons_self) B.named
      cases Option.some.inj (g1.symm.trans B.method)
      cases Option.some.inj (g2.symm.trans (Stand.of_body B).code)
      exact g7
    have K := hE p e (headSpec (m_wl N) (m_rm d w mc ms)).room s m AV.toArray below meth c (va_A ws s.heap.size) (m_al ws) s.heap [] 0 0 mc ms _ ws _ _ ⟨B.exec, B.bytes, B.returns, B.notSynchronized, hml, findClass_of_methodNamed B.named, fun w hw => atoms_spec (ws := m_wl N) B.pre w (List.mem_cons_of_mem _ hw), (name_of_methodNamed B.named B.method).1, ht⟩ hSt (fun q h9 => by cases h9) ⟨Nat.le_refl _, Nat.le_refl _⟩ (by omega) (by omega) (Nat.le_refl _) (Nat.le_refl _) (fun q h9 => Or.inr h9) hK hP hD va_S.rf hW m_le.rf hl (m_args_ls 0 hvs) m_vs.nil
    rw [← lg_entry_eq] at K
    obtain ⟨t, a1, o, b1, b2, b3⟩ := K s₁ hh0 (Stand.of_body B)
    exact ⟨t, o, a1, b1, b2, b3⟩
/-- an object of class E was thrown over the frame at pc -/
def Ex (g : MG) (sc : MS) (M : MM) (d w pc : Nat) (lv : ML) (h : List MC) (mc ms : Nat) (Q : MO → List MC → Prop) (E : String) : Prop :=
  ∀ (p : Program) (e : Env) (R : Room) (s : State) (m : MethodId) (args : Array Value) (below : List Frame) (meth : Method) (c : Code) (A : Nat → Prop) (al0 : List Nat) (H : Heap) (locs : List Loc) (cells slots CT ST : Nat) (ls : Array Slot) (ws : va_W) (LV : List (Nat × Value)) (VS : List Value) (q9 : Addr) (ce : Cell),
    m_Fr M p s m args meth c → m_St A s → m_sc A s sc → m_Rm d w R → cells + mc ≤ CT → slots + ms ≤ ST → CT ≤ R.cells → ST ≤ R.slots → (∀ q, s.heap.size ≤ q → A q) → va_K g.2.1 m_cl (m_tys g.2.2) s →
    va_P g.2.1 m_cl ws H → va_D A ws → va_S A s.heap H locs → m_W g.2.2 h ws → m_le al0 (m_al ws) → lv_has ls M.2.2.1 LV → m_ls (m_al ws) sc lv LV → H[q9]? = some ce → ce.vm = .none → s.vm.findClass E = some ce.cls →
    m_X p g.1 e R s m args below meth c H locs cells slots (m_Z g Q al0 A CT ST below s) (F0 m pc ls VS) q9
theorem x_out {g : MG} {sc : MS} {M : MM} {d w pc : Nat} {lv : ML} {h : List MC} {mc ms : Nat} {Q : MO → List MC → Prop} {E : String} (hh : M.2.2.2.2 = []) (k : Q (.inr E) h) : Ex g sc M d w pc lv h mc ms Q E := by
  intro p e R s m args below meth c A al0 H locs cells slots CT ST ls ws LV VS q9 ce hF hSt hsc hR h1 h2 h3 h4 hA hK hP hD hS hW hal hls hlv hce hcv hcl
  obtain ⟨hx, hb, hr, hlk, hml, hown, hts, hnm, htb⟩ := id hF
  intro T hT X
  obtain ⟨st, hrun, hend, hW9, hsm⟩ := X.leaveThrown q9 (g := F0 m pc ls VS) rfl rfl rfl (fun x hx9 => by rw [htb, hh] at hx9; cases hx9) hlk
  refine ⟨_, st, .threw q9, hrun, hend, Or.inr ⟨E, q9, ce, h, ws, rfl, ?_, hcv, hcl, k, hW, ?_, va_K.moved hW9.alike hK, hD, hal⟩, ?_, hW9, locs, hsm.mono (by omega) (by omega), hS.2.2⟩
  · show T.heap[q9]? = some ce
    rw [hT]; exact hce
  · show va_P _ _ _ T.heap
    rw [hT]; exact hP
  · exact hS.F hT
/-- the links of a call: virtual, static, <init>; between nest mates too -/
def m_lk (own : String) (i : Nat) (N : MM) : Prop := Cond.methodLink own i N.1 ∈ m_Ts ∨ ∃ host, (own, i, N.1, host) ∈ m_nestM
theorem m_lk.use {own : String} {i : Nat} {N : MM} {args : Array Value} {A : Nat → Prop} {s : State} (h : m_lk own i N) (hts : ∀ w ∈ m_Ts, w.before args s = true) (hSt : m_St A s) : ∃ host, (Cond.methodLink own i N.1).before args s = true ∨ (Cond.methodLinkNest own i N.1 host).before args s = true := by
  rcases h with h | ⟨host, h⟩
  · exact ⟨"", Or.inl (hts _ h)⟩
  · exact ⟨host, Or.inr (va_Nw.use rfl (hSt.2.2.2.2.1 _ h))⟩
def m_lV (own : String) (i : Nat) (N : MM) : Prop := Cond.instanceMethod N.1 ∈ m_Ts ∧ Cond.selects N.1.cls N.1 N.1 ∈ m_Ts ∧ m_lk own i N
def m_lS (own : String) (i : Nat) (N : MM) : Prop := Cond.static N.1 ∈ m_Ts ∧ m_lk own i N
def m_lI (own : String) (i : Nat) (N : MM) : Prop := Cond.instanceMethod N.1 ∈ m_Ts ∧ N.1.name = "<init>" ∧ N.2.2.2.1 = none ∧ N.2.2.2.2 = [] ∧ m_lk own i N
theorem e_invV {g : MG} {sc : MS} {M N : MM} {d d2 w w2 pc : Nat} {lv : ML} {st st' : List MV} {h : List MC} {mc1 ms1 mc2 ms2 : Nat} {Q Q9 : MO → List MC → Prop} {i n r ci : Nat} {av : List MV} {fs : List MV} {T : u_T} {NN : Nat} (hd : decode M.2.1 pc = .ok (.invokevirtual i, 3)) (hN : m_me N n) (hl : m_lV M.1.cls i N) (hst0 : st = av.reverse ++ mr r :: st') (hn : av.length = n) (hsl : ((mr r :: av).map m_cat).sum ≤ N.2.2.1) (hns : av.all m_nsc = true) (h8 : (st'.map m_cat).sum ≤ 8) (hd2 : d2 + 1 ≤ d) (hw2 : 19 + N.2.2.1 + w2 ≤ w) (ho : h[r]? = some (cO ci fs)) (hci : m_cl[ci]? = some (N.1.cls, T, NN)) (hE : Ev g none N d2 w2 0 (m_args 0 (mr r :: av)) [] h mc1 ms1 Q9) (kr : ∀ (r : Option MV) (h9 : List MC), Q9 (.inl r) h9 → Ev g sc M d w (pc + 3) lv (r.toList ++ st') h9 mc2 ms2 Q) (kx : ∀ (E : String) (h9 : List MC), Q9 (.inr E) h9 → Ex g sc M d w pc lv h9 mc2 ms2 Q E) : Ev g sc M d w pc lv st h (mc1 + mc2) (ms1 + ms2) Q := by
  intro p e R s m args below meth c A al0 H locs cells slots CT ST ls ws LV VS hF hSt hsc hR h1 h2 h3 h4 hA hK hP hD hS hW hal hls hlv hst
  obtain ⟨hx, hb, hr, hlk, hml, hown, hts, hnm, htb⟩ := id hF
  subst hst0
  obtain ⟨AVr, REST0, rfl, hav, hrest0⟩ := hst.split
  obtain ⟨V9, REST, rfl, hV9, hrest⟩ := hrest0.inv
  obtain ⟨a, e9, rfl, hwr, hc9⟩ := m_ref hW ho hV9
  obtain ⟨FS, rfl, hfs⟩ := m_c_o hc9
  have hav2 : m_vs (m_al ws) none av AVr.reverse := by
    have q := (m_vs_none (by rw [List.all_reverse]; exact hns) hav).rev
    rw [List.reverse_reverse] at q
    exact q
  have hlen : ∀ sig, parseMethodDescriptor N.1.desc = some sig → AVr.reverse.length = sig.parameters.length := by
    intro sig h9
    have q := hN.2.2.2.1
    rw [h9] at q
    rw [hav2.len, hn]
    exact (Option.some.inj q).symm
  have hav3 : m_vs (m_al ws) none (mr r :: av) (Value.ref a :: AVr.reverse) := m_vs.cons (m_v_none rfl hV9) hav2
  obtain ⟨l1, l2, l3⟩ := hl
  obtain ⟨host, l3⟩ := l3.use hts hSt
  have hI : m_Iv p g.1 e R s m args below meth c H locs cells slots (F0 m pc ls (AVr ++ Value.ref a :: REST)) REST N.1 (Value.ref a :: AVr.reverse) := by
    refine m_ivV hx hown l3 (hts _ l1) (hts _ l2) hN.2.2.1 (fun mk meth9 g1 g2 => ?_) (va_recv hK hP hci hwr) rfl (by rw [List.reverse_reverse]) (by rw [hb]; exact hd)
    obtain ⟨meth8, c8, g3, -, -, -, -, -, -, g4⟩ := m_hd_spec (hts _ hN.1) g1
    cases Option.some.inj (g3.symm.trans g2)
    exact hlen _ g4
  refine m_Ct.go (rm := m_rm d2 w2 mc1 ms1) (maxL := N.2.2.1) (m_met hN hE hsl hW hav3 H.size) hI (fun w9 hw9 a' U hU => word_at hU (good_of_word (m_Ts_good w9 (m_good N hN.1 w9 hw9))) (hts w9 (m_good N hN.1 w9 hw9))) (hts _ hN.2.2.2.2) (fun mk9 U hU hn9 => ?_) (Nat.le_trans hd2 hR.1) (by show 8 + (N.2.2.1 + 11) + w2 ≤ _; have q := hR.2; omega) (by show cells + mc1 ≤ _; omega) (by show slots + ms1 ≤ _; omega) (by rw [hrest.cats]; exact h8) (by rw [hml]; exact hls.1) (by rw [hb]; exact hd) (m_pcU hSt hA hK hP hD hS) hA hD hS (fun r V h9 ws1 H1 locs1 hq hrv hW1 hP1 hD1 hle hS1 => ?_) (fun E q9 ce h9 ws1 H1 locs1 hq hce hcv hcl hW1 hP1 hD1 hle hS1 => ?_)
  · have hw9 : (m_hd N).before #[] U = true := word_at hU (good_of_word (m_Ts_good _ hN.1)) (hts _ hN.1)
    obtain ⟨methY, cY, g1, g2, -, g4, -⟩ := m_hd_spec hw9 hn9
    exact ⟨methY, cY, g1, g2, g4⟩
  · exact kr r h9 hq p e R s m args below meth c A al0 H1 locs1 _ _ CT ST _ _ _ _ hF hSt hsc hR (by show cells + mc1 + mc2 ≤ _; omega) (by show slots + ms1 + ms2 ≤ _; omega) h3 h4 hA hK hP1 hD1 hS1 hW1 (hal.tr hle) hls (hlv.le hle) (hrv.sc.app (hrest.le hle))
  · exact kx E h9 hq p e R s m args below meth c A al0 H1 locs1 _ _ CT ST _ _ _ _ q9 ce hF hSt hsc hR (by show cells + mc1 + mc2 ≤ _; omega) (by show slots + ms1 + ms2 ≤ _; omega) h3 h4 hA hK hP1 hD1 hS1 hW1 (hal.tr hle) hls (hlv.le hle) hce hcv hcl
theorem e_invS {g : MG} {sc : MS} {M N : MM} {d d2 w w2 pc : Nat} {lv : ML} {st st' : List MV} {h : List MC} {mc1 ms1 mc2 ms2 : Nat} {Q Q9 : MO → List MC → Prop} {i n : Nat} {av : List MV} (hd : decode M.2.1 pc = .ok (.invokestatic i, 3)) (hN : m_me N n) (hl : m_lS M.1.cls i N) (hst0 : st = av.reverse ++ st') (hn : av.length = n) (hsl : (av.map m_cat).sum ≤ N.2.2.1) (hns : av.all m_nsc = true) (h8 : (st'.map m_cat).sum ≤ 8) (hd2 : d2 + 1 ≤ d) (hw2 : 19 + N.2.2.1 + w2 ≤ w) (hE : Ev g none N d2 w2 0 (m_args 0 av) [] h mc1 ms1 Q9) (kr : ∀ (r : Option MV) (h9 : List MC), Q9 (.inl r) h9 → Ev g sc M d w (pc + 3) lv (r.toList ++ st') h9 mc2 ms2 Q) (kx : ∀ (E : String) (h9 : List MC), Q9 (.inr E) h9 → Ex g sc M d w pc lv h9 mc2 ms2 Q E) : Ev g sc M d w pc lv st h (mc1 + mc2) (ms1 + ms2) Q := by
  intro p e R s m args below meth c A al0 H locs cells slots CT ST ls ws LV VS hF hSt hsc hR h1 h2 h3 h4 hA hK hP hD hS hW hal hls hlv hst
  obtain ⟨hx, hb, hr, hlk, hml, hown, hts, hnm, htb⟩ := id hF
  subst hst0
  obtain ⟨AVr, REST, rfl, hav, hrest⟩ := hst.split
  have hav2 : m_vs (m_al ws) none av AVr.reverse := by
    have q := (m_vs_none (by rw [List.all_reverse]; exact hns) hav).rev
    rw [List.reverse_reverse] at q
    exact q
  have hlen : ∀ sig, parseMethodDescriptor N.1.desc = some sig → AVr.reverse.length = sig.parameters.length := by
    intro sig h9
    have q := hN.2.2.2.1
    rw [h9] at q
    rw [hav2.len, hn]
    exact (Option.some.inj q).symm
  obtain ⟨l1, l3⟩ := hl
  obtain ⟨host, l3⟩ := l3.use hts hSt
  have hI : m_Iv p g.1 e R s m args below meth c H locs cells slots (F0 m pc ls (AVr ++ REST)) REST N.1 AVr.reverse := by
    obtain ⟨mk, hnamed⟩ : ∃ mk, s.methodNamed? N.1 = some mk := m_named (hts _ hN.1)
    obtain ⟨meth8, c8, g3, -, -, -, -, -, -, g4⟩ := m_hd_spec (hts _ hN.1) hnamed
    exact m_ivS hx hown l3 (hts _ l1) (hts _ hN.2.2.2.2) hN.2.2.1 hnamed g3 (hlen _ g4) rfl (by rw [List.reverse_reverse]) (by rw [hb]; exact hd)
  refine m_Ct.go (rm := m_rm d2 w2 mc1 ms1) (maxL := N.2.2.1) (m_met hN hE hsl hW hav2 H.size) hI (fun w9 hw9 a' U hU => word_at hU (good_of_word (m_Ts_good w9 (m_good N hN.1 w9 hw9))) (hts w9 (m_good N hN.1 w9 hw9))) (hts _ hN.2.2.2.2) (fun mk9 U hU hn9 => ?_) (Nat.le_trans hd2 hR.1) (by show 8 + (N.2.2.1 + 11) + w2 ≤ _; have q := hR.2; omega) (by show cells + mc1 ≤ _; omega) (by show slots + ms1 ≤ _; omega) (by rw [hrest.cats]; exact h8) (by rw [hml]; exact hls.1) (by rw [hb]; exact hd) (m_pcU hSt hA hK hP hD hS) hA hD hS (fun r V h9 ws1 H1 locs1 hq hrv hW1 hP1 hD1 hle hS1 => ?_) (fun E q9 ce h9 ws1 H1 locs1 hq hce hcv hcl hW1 hP1 hD1 hle hS1 => ?_)
  · have hw9 : (m_hd N).before #[] U = true := word_at hU (good_of_word (m_Ts_good _ hN.1)) (hts _ hN.1)
    obtain ⟨methY, cY, g1, g2, -, g4, -⟩ := m_hd_spec hw9 hn9
    exact ⟨methY, cY, g1, g2, g4⟩
  · exact kr r h9 hq p e R s m args below meth c A al0 H1 locs1 _ _ CT ST _ _ _ _ hF hSt hsc hR (by show cells + mc1 + mc2 ≤ _; omega) (by show slots + ms1 + ms2 ≤ _; omega) h3 h4 hA hK hP1 hD1 hS1 hW1 (hal.tr hle) hls (hlv.le hle) (hrv.sc.app (hrest.le hle))
  · exact kx E h9 hq p e R s m args below meth c A al0 H1 locs1 _ _ CT ST _ _ _ _ q9 ce hF hSt hsc hR (by show cells + mc1 + mc2 ≤ _; omega) (by show slots + ms1 + ms2 ≤ _; omega) h3 h4 hA hK hP1 hD1 hS1 hW1 (hal.tr hle) hls (hlv.le hle) hce hcv hcl
theorem e_invI {g : MG} {sc : MS} {M N : MM} {d d2 w w2 pc : Nat} {lv : ML} {st st' : List MV} {h : List MC} {mc1 ms1 mc2 ms2 : Nat} {Q Q9 : MO → List MC → Prop} {i n r : Nat} {av : List MV} {cc9 : MC} (hd : decode M.2.1 pc = .ok (.invokespecial i, 3)) (hN : m_me N n) (hl : m_lI M.1.cls i N) (hst0 : st = av.reverse ++ mr r :: st') (hn : av.length = n) (hsl : ((mr r :: av).map m_cat).sum ≤ N.2.2.1) (hns : av.all m_nsc = true) (h8 : (st'.map m_cat).sum ≤ 8) (hd2 : d2 + 1 ≤ d) (hw2 : 19 + N.2.2.1 + w2 ≤ w) (ho : h[r]? = some cc9) (hE : Ev g none N d2 w2 0 (m_args 0 (mr r :: av)) [] h mc1 ms1 Q9) (kr : ∀ (r : Option MV) (h9 : List MC), Q9 (.inl r) h9 → Ev g sc M d w (pc + 3) lv (r.toList ++ st') h9 mc2 ms2 Q) (kx : ∀ (E : String) (h9 : List MC), Q9 (.inr E) h9 → Ex g sc M d w pc lv h9 mc2 ms2 Q E) : Ev g sc M d w pc lv st h (mc1 + mc2) (ms1 + ms2) Q := by
  intro p e R s m args below meth c A al0 H locs cells slots CT ST ls ws LV VS hF hSt hsc hR h1 h2 h3 h4 hA hK hP hD hS hW hal hls hlv hst
  obtain ⟨hx, hb, hr, hlk, hml, hown, hts, hnm, htb⟩ := id hF
  subst hst0
  obtain ⟨AVr, REST0, rfl, hav, hrest0⟩ := hst.split
  obtain ⟨V9, REST, rfl, hV9, hrest⟩ := hrest0.inv
  obtain ⟨a, e9, rfl, hwr, hc9⟩ := m_ref hW ho hV9
  have hav2 : m_vs (m_al ws) none av AVr.reverse := by
    have q := (m_vs_none (by rw [List.all_reverse]; exact hns) hav).rev
    rw [List.reverse_reverse] at q
    exact q
  have hlen : ∀ sig, parseMethodDescriptor N.1.desc = some sig → AVr.reverse.length = sig.parameters.length := by
    intro sig h9
    have q := hN.2.2.2.1
    rw [h9] at q
    rw [hav2.len, hn]
    exact (Option.some.inj q).symm
  have hav3 : m_vs (m_al ws) none (mr r :: av) (Value.ref a :: AVr.reverse) := m_vs.cons (m_v_none rfl hV9) hav2
  obtain ⟨l1, l2, l4, l5, l3⟩ := hl
  obtain ⟨host, l3⟩ := l3.use hts hSt
  have hcode : (Cond.code N.1 N.2.1 N.2.2.1 none).before args s = true := by
    have q := hts _ hN.1
    unfold m_hd at q
    rw [l5, l4] at q
    exact q
  have hI : m_Iv p g.1 e R s m args below meth c H locs cells slots (F0 m pc ls (AVr ++ Value.ref a :: REST)) REST N.1 (Value.ref a :: AVr.reverse) :=
    m_ivI hx hown l3 (hts _ l1) l2 hcode hN.2.2.1 hlen rfl (by rw [List.reverse_reverse]) (by rw [hb]; exact hd)
  refine m_Ct.go (rm := m_rm d2 w2 mc1 ms1) (maxL := N.2.2.1) (m_met hN hE hsl hW hav3 H.size) hI (fun w9 hw9 a' U hU => word_at hU (good_of_word (m_Ts_good w9 (m_good N hN.1 w9 hw9))) (hts w9 (m_good N hN.1 w9 hw9))) (hts _ hN.2.2.2.2) (fun mk9 U hU hn9 => ?_) (Nat.le_trans hd2 hR.1) (by show 8 + (N.2.2.1 + 11) + w2 ≤ _; have q := hR.2; omega) (by show cells + mc1 ≤ _; omega) (by show slots + ms1 ≤ _; omega) (by rw [hrest.cats]; exact h8) (by rw [hml]; exact hls.1) (by rw [hb]; exact hd) (m_pcU hSt hA hK hP hD hS) hA hD hS (fun r V h9 ws1 H1 locs1 hq hrv hW1 hP1 hD1 hle hS1 => ?_) (fun E q9 ce h9 ws1 H1 locs1 hq hce hcv hcl hW1 hP1 hD1 hle hS1 => ?_)
  · have hw9 : (m_hd N).before #[] U = true := word_at hU (good_of_word (m_Ts_good _ hN.1)) (hts _ hN.1)
    obtain ⟨methY, cY, g1, g2, -, g4, -⟩ := m_hd_spec hw9 hn9
    exact ⟨methY, cY, g1, g2, g4⟩
  · exact kr r h9 hq p e R s m args below meth c A al0 H1 locs1 _ _ CT ST _ _ _ _ hF hSt hsc hR (by show cells + mc1 + mc2 ≤ _; omega) (by show slots + ms1 + ms2 ≤ _; omega) h3 h4 hA hK hP1 hD1 hS1 hW1 (hal.tr hle) hls (hlv.le hle) (hrv.sc.app (hrest.le hle))
  · exact kx E h9 hq p e R s m args below meth c A al0 H1 locs1 _ _ CT ST _ _ _ _ q9 ce hF hSt hsc hR (by show cells + mc1 + mc2 ≤ _; omega) (by show slots + ms1 + ms2 ≤ _; omega) h3 h4 hA hK hP1 hD1 hS1 hW1 (hal.tr hle) hls (hlv.le hle) hce hcv hcl
theorem e_objInit {g : MG} {sc : MS} {M : MM} {d w pc : Nat} {lv : ML} {st : List MV} {h : List MC} {mc ms : Nat} {Q : MO → List MC → Prop} {i r : Nat} (hd : decode M.2.1 pc = .ok (.invokespecial i, 3)) (hl : Cond.methodLink M.1.cls i Lib.objectInit ∈ m_Ts) (hi : Cond.instanceMethod Lib.objectInit ∈ m_Ts) (hc : Cond.code Lib.objectInit ⟨#[0xb1]⟩ 1 none ∈ m_Ts) (h8 : (st.map m_cat).sum ≤ 8) (hd1 : 1 ≤ d) (hw1 : 20 ≤ w) (kk : Ev g sc M d w (pc + 3) lv st h mc ms Q) : Ev g sc M d w pc lv (mr r :: st) h mc ms Q := by
  intro p e R s m args below meth c A al0 H locs cells slots CT ST ls ws LV VS hF hSt hsc hR h1 h2 h3 h4 hA hK hP hD hS hW hal hls hlv hst
  obtain ⟨hx, hb, hr, hlk, hml, hown, hts, hnm, htb⟩ := id hF
  obtain ⟨V, VS', rfl, hV, hsr⟩ := hst.inv
  obtain ⟨q, -, rfl⟩ := m_v_mr hV
  have h89 : 2 * (F0 m pc ls (Value.ref q :: VS')).monitorRoom + (VS'.map fun v => v.category).sum ≤ 8 := lv_room (by rw [hsr.cats]; exact h8)
  have q1 := hR.1
  have q2 := hR.2
  exact W.objInit hx hb hown (hts _ hl) (hts _ hi) (hts _ hc) rfl (by rw [hml]; exact hls.1) rfl hd (by omega) (by omega) (kk p e R s m args below meth c A al0 H locs cells slots CT ST _ _ _ _ hF hSt hsc hR h1 h2 h3 h4 hA hK hP hD hS hW hal hls hlv hsr)
