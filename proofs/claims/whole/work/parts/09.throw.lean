/-! THROWING AND CATCHING -/
/-- where the walk stands now may be its beginning: nothing is written yet, the room is what is left -/
theorem m_again {p : Program} {l : Launch} {e : Env} {R R' : Room} {s : State} {m : MethodId} {args : Array Value} {below : List Frame} {meth : Method} {c : Code} {T : State} {locs : List Loc} {cells slots : Nat} (X : Stand p l e R s m args below meth c T locs cells slots) (hf : R'.frames ≤ R.frames) (hl : R'.locals ≤ R.locals) (hc : cells + R'.cells ≤ R.cells) (hs : slots + R'.slots ≤ R.slots) :
    Stand p l e R' ((T.setVm s.vm).setFrames (.invoking m args :: below)) m args below meth c T [] 0 0 := by
  have htop : (T.setVm s.vm).topJava?.isSome := X.here.top
  have hcur : (T.setVm s.vm).cur < (T.setVm s.vm).threads.size := State.cur_lt_of_top htop
  have hF : ((T.setVm s.vm).setFrames (.invoking m args :: below)).frames = .invoking m args :: below := State.frames_setFrames _ hcur
  have hlim : e.platform.stackLimits (T.setVm s.vm).me = e.platform.stackLimits s.me := X.limits
  have hbyt : (T.setVm s.vm).me.stackBytes = s.me.stackBytes := X.bytes
  have hloc : ((T.setVm s.vm).setFrames (.invoking m args :: below)).localsInUse = s.localsInUse := by
    rw [State.localsInUse_invoking hF (meth := meth) (c := c) X.method X.code, State.localsInUse_invoking X.frames X.method X.code]
  have hroom : ((T.setVm s.vm).setFrames (.invoking m args :: below)).hasRoom e.platform R' = true := by
    have h := X.room
    simp only [State.hasRoom, Bool.and_eq_true, decide_eq_true_eq] at h ⊢
    obtain ⟨⟨⟨⟨g1, g2, g3, g4, g5, g6⟩, g7⟩, g8⟩, -⟩ := h
    rw [X.frames, List.length_cons] at g2 g3
    have q1 := X.heapSize
    have q2 := X.used
    simp only [hF, hloc, List.length_cons, State.stackLimits_setFrames, State.stackBytes_setFrames, hlim, hbyt]
    have k1 : ((T.setVm s.vm).setFrames (.invoking m args :: below)).heap.size + R'.cells ≤ e.platform.maxCells := by
      show T.heap.size + R'.cells ≤ _
      omega
    have k2 : ((T.setVm s.vm).setFrames (.invoking m args :: below)).slotsUsed + R'.slots ≤ e.platform.maxSlots := by
      show T.slotsUsed + R'.slots ≤ _
      omega
    exact ⟨⟨⟨⟨by omega, by omega, by omega, by omega, by omega, g6⟩, k1⟩, k2⟩, X.book⟩
  obtain ⟨g₀, hg0⟩ := Option.isSome_iff_exists.mp htop
  obtain ⟨r, hr⟩ := State.topJava?_eq_some.mp hg0
  have hsame : ((T.setVm s.vm).setFrames (.invoking m args :: below)).sameButNew (T.setVm s.vm) [] 0 0 := by
    have hdrop : T.heap.toList.drop T.heap.size = [] := List.drop_eq_nil_of_le (Nat.le_of_eq Array.length_toList)
    refine ⟨?_, Nat.le_refl _, Nat.le_refl _, ?_, ?_, fun a c9 h9 => ⟨c9, h9, rfl, rfl, fun _ _ => rfl⟩⟩
    · obtain ⟨t, ht, -⟩ := State.frames_cons hr
      show T.setVm s.vm = { ((T.setVm s.vm).setFrames (.invoking m args :: below)).setFrames (T.setVm s.vm).frames with heap := T.heap, slotsUsed := T.slotsUsed }
      rw [State.setFrames_setFrames, State.setFrames_self ht]
      rfl
    · show T.slotsUsed = T.slotsUsed + ((T.heap.toList.drop T.heap.size).map (·.slots.size)).sum
      rw [hdrop]
      rfl
    · show ((T.heap.toList.drop T.heap.size).map (·.slots.size)).sum ≤ 0
      rw [hdrop]
      exact Nat.le_refl _
  exact ⟨X.admits, X.cas, X.clock, hF, hroom, X.hears, X.method, X.code, X.here, X.tail, X.warmed, by rw [State.stackLimits_setFrames]; rfl, by rw [State.stackBytes_setFrames]; rfl, hsame⟩
/-- what didn't change: all that was there, where nothing was written -/
theorem m_sameH {s U : State} {k n : Nat} (h : s.sameButNew ({ U with vm := s.vm } : State) [] k n) : s.heap.size ≤ U.heap.size ∧ ∀ q : Nat, q < s.heap.size → U.heap[q]? = s.heap[q]? := by
  obtain ⟨-, h2, -, -, -, h6⟩ := h
  refine ⟨h2, fun q hq => ?_⟩
  have hc : s.heap[q]? = some s.heap[q] := Array.getElem?_eq_getElem hq
  obtain ⟨c', g1, g2, g3, g4⟩ := h6 q _ hc
  have hsl : c'.slots = (s.heap[q]).slots := Array.ext_getElem? fun i => g4 i (fun hm => by cases hm)
  have hcc : c' = s.heap[q] := by
    rw [hsl] at g2
    exact g2
  show U.heap[q]? = _
  have g5 : U.heap[q]? = some c' := g1
  rw [g5, hcc, hc]
/-- the words of a throw with a text that ride along; the four others speak of the heap -/
def m_nh (w : Cond) : Bool := match w with
  | .isRef _ => false
  | .laysStatic _ _ _ => false
  | _ => true
/-- a throw of a new object with a text -/
def m_tw (own : String) (ik is ic : Nat) (cls text : String) (names : List String) : Prop := (Bundle.fit cls = true ∧ ∀ n ∈ names, Bundle.fit n = true) ∧ Cond.classLink own ik cls ∈ m_Ts ∧ Cond.initialized cls ∈ m_Ts ∧ (own, is, text) ∈ m_strs ∧ (∀ w ∈ Bundle.ownAtoms own ic cls names, (w ∈ m_Ts ∨ (∃ q ∈ m_cas, w = .castable q.1 q.2) ∨ ∃ y ∈ m_decl, w = .declares y) ∨ w = .isRef (.static Bundle.tN "UNASSIGNED_STACK" Bundle.steD) ∨ w = .isRef (.static Bundle.tN "SUPPRESSED_SENTINEL" Bundle.listD) ∨ w = .laysStatic Bundle.tN "UNASSIGNED_STACK" Bundle.steD ∨ w = .laysStatic Bundle.tN "SUPPRESSED_SENTINEL" Bundle.listD)
set_option maxHeartbeats 1000000 in
theorem e_throw {g : MG} {sc : MS} {M : MM} {d w pc : Nat} {lv : ML} {st : List MV} {h : List MC} {mc ms : Nat} {Q : MO → List MC → Prop} {ik is ic : Nat} {cls text : String} {names : List String} (hl : g.1.stackTraces = false) (d0 : decode M.2.1 pc = .ok (.new ik, 3)) (d3 : decode M.2.1 (pc + 3) = .ok (.dup, 1)) (d4 : decode M.2.1 (pc + 4) = .ok (.ldc is, 2)) (d6 : decode M.2.1 (pc + 6) = .ok (.invokespecial ic, 3)) (d9 : decode M.2.1 (pc + 9) = .ok (.athrow, 1)) (hw : m_tw M.1.cls ik is ic cls text names) (hh : M.2.2.2.2 = []) (h8 : (st.map m_cat).sum ≤ 8) (hd6 : names.length + 4 ≤ d) (hw6 : 51 + 13 * (names.length + 1) ≤ w) (hc1 : 1 ≤ mc) (hs6 : 6 ≤ ms) (k : Q (.inr cls) h) : Ev g sc M d w pc lv st h mc ms Q := by
  intro p e R s m args below meth c A al0 H locs cells slots CT ST ls ws LV VS hF hSt hsc hR h1 h2 h3 h4 hA hK hP hD hS hW hal hls hlv hst
  obtain ⟨hx, hb, hr, hlk, hml, hown, hts, hnm, htb⟩ := id hF
  obtain ⟨⟨hcls, hnames⟩, hk, hini, hstr, hat⟩ := hw
  obtain ⟨sa, hsa⟩ := hSt.2.2.1 _ hstr
  have q1 := hR.1
  have q2 := hR.2
  have q3 := hst.cats
  intro T hT X
  have htr : e.platform.stackTraces = false := (show e.platform.stackTraces = g.1.stackTraces by rw [X.admits.platform]).trans hl
  have Y := m_again X (R' := { frames := R.frames, locals := R.locals, cells := 1, slots := 6 }) (Nat.le_refl _) (Nat.le_refl _) (by show cells + 1 ≤ _; omega) (by show slots + 6 ≤ _; omega)
  obtain ⟨s', hs'⟩ : ∃ z, z = (T.setVm s.vm).setFrames (.invoking m args :: below) := ⟨_, rfl⟩
  rw [← hs'] at Y
  have hvm : s'.vm = s.vm := by rw [hs']; rfl
  have hhp : s'.heap = H := by rw [hs']; exact hT
  have hW0 : s.WarmedH s'.vm := by rw [hvm]; exact State.WarmedH.refl s
  have hT9 : ∀ w9 ∈ m_Ts, w9.before args s' = true := fun w9 hw9 => word_at hW0 (good_of_word (m_Ts_good w9 hw9)) (hts w9 hw9)
  obtain ⟨⟨a1, a2, a3, a4⟩, hns, -, -, -, -, -, hcas, hdec⟩ := hSt
  have b1 : m_L Bundle.tN "UNASSIGNED_STACK" Bundle.steD A s' s'.heap := by rw [hhp]; exact (a1.kept hS.2.1).moved hW0.alike
  have b2 : m_L Bundle.tN "SUPPRESSED_SENTINEL" Bundle.listD A s' s'.heap := by rw [hhp]; exact (a2.kept hS.2.1).moved hW0.alike
  have b3 : va_Zq Bundle.tN "UNASSIGNED_STACK" Bundle.steD A s' s'.heap := by rw [hhp]; exact va_Zq.moved hW0.alike (va_Zq.kept a3 hS.2.1)
  have b4 : va_Zq Bundle.tN "SUPPRESSED_SENTINEL" Bundle.listD A s' s'.heap := by rw [hhp]; exact va_Zq.moved hW0.alike (va_Zq.kept a4 hS.2.1)
  have hall : ∀ w9 ∈ Bundle.ownAtoms M.1.cls ic cls names, w9.before args s' = true := by
    intro w9 hw9
    rcases hat w9 hw9 with (h9 | ⟨q, hq, rfl⟩ | ⟨y, hy, rfl⟩) | rfl | rfl | rfl | rfl
    · exact hT9 w9 h9
    · obtain ⟨c9, t9, g1, g2, g3⟩ := (hcas q hq).moved hW0.alike
      simp [Cond.before, Cond.holds, Cond.value, g1, g2, g3]
    · exact va_Nw.use rfl (va_Nw.warmD hW0 (hdec y hy))
    · exact m_Zq.isRef b3
    · exact m_Zq.isRef b4
    · exact b1.word
    · exact b2.word
  have hown' : s'.vm.findClass M.1.cls = some m.cls := by rw [hvm]; exact hown
  obtain ⟨vm₁, cX, kX, hfX, hkX, -, -, X₁, st1⟩ := Y.newCold hx (own := M.1.cls) (C := cls) (index := ik) (n := 6) hown' (hT9 _ hk) (hall _ (by simp [Bundle.ownAtoms])) (hT9 _ hini) (g := F0 m pc ls VS) rfl (by rw [hb]; exact d0) (Nat.le_refl _) (Nat.le_refl _)
  generalize hT1 : (T.setVm vm₁).pushCell { cls := cX, slots := kX.instanceTypes.map defaultValue, vm := .none } = T1 at X₁ st1
  have hcellA : T1.heap[T.heap.size]? = some (freshCell cX kX) := by rw [← hT1]; exact State.heap_pushCell_size _ _
  have d3' : decode c.code (pc + 3) = .ok (.dup, 1) := by rw [hb]; exact d3
  have d4' : decode c.code (pc + 4) = .ok (.ldc is, 2) := by rw [hb]; exact d4
  have hsa' : vk_R M.1.cls is text sa s' := vk_R.warm hW0 hsa
  have hcat : (Value.ref T.heap.size).category = 1 := rfl
  obtain ⟨U, hsteps, hrun, hend, hW9, hsame, ce, hce, hO⟩ := X₁.ctorThrowS hx htr (own := M.1.cls) (cls := cls) (names := names) (ic := ic) hown' hcls hnames hall (fun x hx9 => nomatch hx9) hfX hkX hcellA (by rw [hhp, hT]; exact Nat.le_refl _) (msg := .ref sa) rfl
    (g := { method := m, pc := pc + 6, locals := ls, stack := .ref sa :: .ref T.heap.size :: .ref T.heap.size :: VS, locked := none }) rfl (by rw [hml]; exact hls.1) rfl rfl (rest := VS) rfl (by rw [hb]; exact d6) (by rw [hb]; exact d9) (fun x hx9 => by rw [htb, hh] at hx9; cases hx9) (by show names.length + 3 < R.frames; omega) (by
      show 2 * 0 + _ + _ ≤ R.locals
      simp only [List.map_cons, List.sum_cons, hcat, q3]
      omega) hlk
  obtain ⟨f1, f2⟩ := m_sameH hsame
  rw [hhp] at f1 f2
  have hWs : s.WarmedH U.vm := State.WarmedH.trans hW0 hW9
  have hcl : s.vm.findClass cls = some ce.cls := by
    have h9 := hO.cls
    rw [hvm] at h9
    exact h9
  have hbig : s.sameButNew ({ U with vm := s.vm } : State) locs CT ST := by
    subst hs'
    obtain ⟨e1, e2⟩ := hsame
    rw [State.setFrames_setFrames] at e1
    have g2 : (T.setVm s.vm).sameButNew ({ U with vm := s.vm } : State) [] (0 + 1) (0 + 6) := ⟨e1, e2⟩
    have g3 := X.same.trans g2
    rw [List.append_nil] at g3
    exact g3.mono (by omega) (by omega)
  refine ⟨U, ?_, .threw T.heap.size, hrun, hend, Or.inr ⟨cls, T.heap.size, ce, h, ws, rfl, hce, hO.vm, hcl, k, hW, hP.kept (fun i q hi => f2 _ (hP i q hi).lt), va_K.moved hWs.alike hK, hD, hal⟩, ⟨Nat.le_trans hS.1 f1, fun q g1 g2 => (f2 q (Nat.lt_of_lt_of_le g1 hS.1)).trans (hS.2.1 q g1 g2)⟩, hWs, locs, hbig, hS.2.2⟩
  refine st1 _ ?_
  show Steps p.tables e below (T1.setTop { method := m, pc := pc + 3, locals := ls, stack := .ref T.heap.size :: VS, locked := none }) _
  jvm_step X₁.here [X₁.here.top, hx, d3', Value.category]
  exact X₁.ldcString hx (own := M.1.cls) (text := text) (index := is) (a := sa) hown' hsa'.1 hsa'.2
    (g := { method := m, pc := pc + 4, locals := ls, stack := .ref T.heap.size :: .ref T.heap.size :: VS, locked := none }) rfl d4' _ hsteps
