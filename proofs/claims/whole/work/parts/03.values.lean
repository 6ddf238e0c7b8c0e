/-! THE CLEAN LOGIC. Values, cells and heaps without addresses: a reference is the number of its place in the heap, a heap a list of cells. 'Ev' says of a method's place, locals, stack and heap that the machine comes to its end with Q, whatever the addresses are. One row an instruction; calls by Ev of the callee's entry. -/
/-- an int, a long, a reference by its place (none: null), the law's script -/
abbrev MV : Type := Int32 ⊕ Int64 ⊕ Option Nat ⊕ Unit
/-- ints (0) and booleans (1), longs, references (number of the elements' class), an object (number of its class, its fields) -/
abbrev MC : Type := (Nat × Nat × (Nat → Int32)) ⊕ (Nat × (Nat → Int64)) ⊕ (Nat × Nat × (Nat → Option Nat)) ⊕ (Nat × List MV)
abbrev ML : Type := List (Nat × MV)
/-- returned, or thrown an object of the class -/
abbrev MO : Type := Option MV ⊕ String
abbrev mi (x : Int32) : MV := .inl x
abbrev ml (x : Int64) : MV := .inr (.inl x)
abbrev mr (p : Nat) : MV := .inr (.inr (.inl (some p)))
abbrev mn : MV := .inr (.inr (.inl none))
abbrev msc : MV := .inr (.inr (.inr ()))
abbrev cI (n : Nat) (f : Nat → Int32) : MC := .inl (0, n, f)
abbrev cZ (n : Nat) (f : Nat → Int32) : MC := .inl (1, n, f)
abbrev cL (n : Nat) (f : Nat → Int64) : MC := .inr (.inl (n, f))
abbrev cR (ci n : Nat) (f : Nat → Option Nat) : MC := .inr (.inr (.inl (ci, n, f)))
abbrev cO (ci : Nat) (fs : List MV) : MC := .inr (.inr (.inr (ci, fs)))
/-- the script: its address, length, contents -/
abbrev MS : Type := Option (Nat × Nat × (Nat → Int32))
def m_v (al : List Nat) (sc : MS) : MV → Option Value
  | .inl x => some (.int x)
  | .inr (.inl x) => some (.long x)
  | .inr (.inr (.inl none)) => some .null
  | .inr (.inr (.inl (some p))) => (al[p]?).map Value.ref
  | .inr (.inr (.inr _)) => sc.map (fun q => Value.ref q.1)
def m_cat : MV → Nat
  | .inr (.inl _) => 2
  | _ => 1
theorem m_v_cat {al : List Nat} {sc : MS} {v : MV} {V : Value} (h : m_v al sc v = some V) : V.category = m_cat v := by
  rcases v with x | x | (_ | p) | u
  · cases h; rfl
  · cases h; rfl
  · cases h; rfl
  · simp only [m_v, Option.map_eq_some_iff] at h
    obtain ⟨a, -, rfl⟩ := h
    rfl
  · simp only [m_v, Option.map_eq_some_iff] at h
    obtain ⟨a, -, rfl⟩ := h
    rfl
/-- more places: what was there stays -/
def m_le (al al' : List Nat) : Prop := ∃ x, al' = al ++ x
theorem m_le.rf {al : List Nat} : m_le al al := ⟨[], (List.append_nil al).symm⟩
theorem m_le.tr {a b c : List Nat} (h : m_le a b) (k : m_le b c) : m_le a c := by
  obtain ⟨x, rfl⟩ := h
  obtain ⟨y, rfl⟩ := k
  exact ⟨x ++ y, List.append_assoc a x y⟩
theorem m_le.at {a b : List Nat} (h : m_le a b) {p q : Nat} (hp : a[p]? = some q) : b[p]? = some q := by
  obtain ⟨x, rfl⟩ := h
  have hl := (List.getElem?_eq_some_iff.mp hp).1
  rw [List.getElem?_append_left hl]
  exact hp
theorem m_v_le {al al' : List Nat} {sc : MS} {v : MV} {V : Value} (hl : m_le al al') (h : m_v al sc v = some V) : m_v al' sc v = some V := by
  rcases v with x | x | (_ | p) | u
  · exact h
  · exact h
  · exact h
  · simp only [m_v, Option.map_eq_some_iff] at h ⊢
    obtain ⟨a, h1, h2⟩ := h
    exact ⟨a, hl.at h1, h2⟩
  · exact h
theorem m_v_sc {al : List Nat} {sc : MS} {v : MV} {V : Value} (h : m_v al none v = some V) : m_v al sc v = some V := by
  rcases v with x | x | (_ | p) | u
  · exact h
  · exact h
  · exact h
  · exact h
  · cases h
/-- a list of values, one by one -/
def m_vs (al : List Nat) (sc : MS) (vs : List MV) (VS : List Value) : Prop := vs.map (m_v al sc) = VS.map some
theorem m_vs.nil {al : List Nat} {sc : MS} : m_vs al sc [] [] := rfl
theorem m_vs.cons {al : List Nat} {sc : MS} {v : MV} {V : Value} {vs : List MV} {VS : List Value} (h : m_v al sc v = some V) (k : m_vs al sc vs VS) : m_vs al sc (v :: vs) (V :: VS) := by
  unfold m_vs at *
  rw [List.map_cons, List.map_cons, h, k]
theorem m_vs.inv {al : List Nat} {sc : MS} {v : MV} {vs : List MV} {VS : List Value} (h : m_vs al sc (v :: vs) VS) : ∃ V VS', VS = V :: VS' ∧ m_v al sc v = some V ∧ m_vs al sc vs VS' := by
  cases VS with
  | nil => cases h
  | cons V VS' =>
    unfold m_vs at h
    rw [List.map_cons, List.map_cons] at h
    exact ⟨V, VS', rfl, (List.cons.inj h).1, (List.cons.inj h).2⟩
theorem m_vs.inv0 {al : List Nat} {sc : MS} {VS : List Value} (h : m_vs al sc [] VS) : VS = [] := by
  cases VS with
  | nil => rfl
  | cons V VS' => cases h
theorem m_vs.le {al al' : List Nat} {sc : MS} (hl : m_le al al') : ∀ {vs : List MV} {VS : List Value}, m_vs al sc vs VS → m_vs al' sc vs VS := by
  intro vs
  induction vs with
  | nil => intro VS h; rw [h.inv0]; exact m_vs.nil
  | cons v vs ih =>
    intro VS h
    obtain ⟨V, VS', rfl, h1, h2⟩ := h.inv
    exact m_vs.cons (m_v_le hl h1) (ih h2)
theorem m_vs.sc {al : List Nat} {sc : MS} : ∀ {vs : List MV} {VS : List Value}, m_vs al none vs VS → m_vs al sc vs VS := by
  intro vs
  induction vs with
  | nil => intro VS h; rw [h.inv0]; exact m_vs.nil
  | cons v vs ih =>
    intro VS h
    obtain ⟨V, VS', rfl, h1, h2⟩ := h.inv
    exact m_vs.cons (m_v_sc h1) (ih h2)
theorem m_vs.len {al : List Nat} {sc : MS} {vs : List MV} {VS : List Value} (h : m_vs al sc vs VS) : VS.length = vs.length := by
  have h1 := congrArg List.length h
  rw [List.length_map, List.length_map] at h1
  exact h1.symm
theorem m_vs.at {al : List Nat} {sc : MS} {vs : List MV} {VS : List Value} (h : m_vs al sc vs VS) {k : Nat} {v : MV} (hk : vs[k]? = some v) : ∃ V, VS[k]? = some V ∧ m_v al sc v = some V := by
  have h1 := congrArg (fun l : List (Option Value) => l[k]?) h
  simp only [List.getElem?_map, hk, Option.map_some] at h1
  cases hV : VS[k]? with
  | none => rw [hV] at h1; cases h1
  | some V => rw [hV] at h1; exact ⟨V, rfl, Option.some.inj h1⟩
theorem m_vs.set {al : List Nat} {sc : MS} {vs : List MV} {VS : List Value} (h : m_vs al sc vs VS) {k : Nat} {v : MV} {V : Value} (hv : m_v al sc v = some V) : m_vs al sc (vs.set k v) (VS.set k V) := by
  unfold m_vs at *
  rw [List.map_set, List.map_set, h, hv]
theorem m_vs.app {al : List Nat} {sc : MS} {a b : List MV} {A B : List Value} (h : m_vs al sc a A) (k : m_vs al sc b B) : m_vs al sc (a ++ b) (A ++ B) := by
  unfold m_vs at *
  rw [List.map_append, List.map_append, h, k]
theorem m_vs.split {al : List Nat} {sc : MS} : ∀ {a b : List MV} {VS : List Value}, m_vs al sc (a ++ b) VS → ∃ A B, VS = A ++ B ∧ m_vs al sc a A ∧ m_vs al sc b B := by
  intro a
  induction a with
  | nil => intro b VS h; exact ⟨[], VS, rfl, m_vs.nil, h⟩
  | cons v a ih =>
    intro b VS h
    obtain ⟨V, VS', rfl, h1, h2⟩ := m_vs.inv (show m_vs al sc (v :: (a ++ b)) VS from h)
    obtain ⟨A, B, rfl, h3, h4⟩ := ih h2
    exact ⟨V :: A, B, rfl, m_vs.cons h1 h3, h4⟩
theorem m_vs.rev {al : List Nat} {sc : MS} {vs : List MV} {VS : List Value} (h : m_vs al sc vs VS) : m_vs al sc vs.reverse VS.reverse := by
  unfold m_vs at *
  rw [List.map_reverse, List.map_reverse, h]
theorem m_vs.cats {al : List Nat} {sc : MS} : ∀ {vs : List MV} {VS : List Value}, m_vs al sc vs VS → (VS.map fun v => v.category) = vs.map m_cat := by
  intro vs
  induction vs with
  | nil => intro VS h; rw [h.inv0]; rfl
  | cons v vs ih =>
    intro VS h
    obtain ⟨V, VS', rfl, h1, h2⟩ := h.inv
    rw [List.map_cons, List.map_cons, ih h2, m_v_cat h1]
/-- locals: a list of places and values -/
def m_ls (al : List Nat) (sc : MS) (lv : ML) (LV : List (Nat × Value)) : Prop := lv.map (fun q => (q.1, m_v al sc q.2)) = LV.map (fun q => (q.1, some q.2))
theorem m_ls.nil {al : List Nat} {sc : MS} : m_ls al sc [] [] := rfl
theorem m_ls.cons {al : List Nat} {sc : MS} {i : Nat} {v : MV} {V : Value} {lv : ML} {LV : List (Nat × Value)} (h : m_v al sc v = some V) (k : m_ls al sc lv LV) : m_ls al sc ((i, v) :: lv) ((i, V) :: LV) := by
  unfold m_ls at *
  rw [List.map_cons, List.map_cons, h, k]
theorem m_ls.inv {al : List Nat} {sc : MS} {q : Nat × MV} {lv : ML} {LV : List (Nat × Value)} (h : m_ls al sc (q :: lv) LV) : ∃ V LV', LV = (q.1, V) :: LV' ∧ m_v al sc q.2 = some V ∧ m_ls al sc lv LV' := by
  cases LV with
  | nil => cases h
  | cons Q LV' =>
    unfold m_ls at h
    rw [List.map_cons, List.map_cons] at h
    obtain ⟨h1, h2⟩ := List.cons.inj h
    obtain ⟨i, V⟩ := Q
    have h3 := congrArg Prod.fst h1
    have h4 := congrArg Prod.snd h1
    dsimp only at h3 h4
    subst h3
    exact ⟨V, LV', rfl, h4, h2⟩
theorem m_ls.inv0 {al : List Nat} {sc : MS} {LV : List (Nat × Value)} (h : m_ls al sc [] LV) : LV = [] := by
  cases LV with
  | nil => rfl
  | cons V VS' => cases h
theorem m_ls.le {al al' : List Nat} {sc : MS} (hl : m_le al al') : ∀ {lv : ML} {LV : List (Nat × Value)}, m_ls al sc lv LV → m_ls al' sc lv LV := by
  intro lv
  induction lv with
  | nil => intro LV h; rw [h.inv0]; exact m_ls.nil
  | cons v vs ih =>
    intro LV h
    obtain ⟨V, LV', rfl, h1, h2⟩ := h.inv
    exact m_ls.cons (m_v_le hl h1) (ih h2)
theorem m_ls.at {al : List Nat} {sc : MS} : ∀ {lv : ML} {LV : List (Nat × Value)} {i : Nat} {v : MV}, m_ls al sc lv LV → lv.find? (fun q => q.1 == i) = some (i, v) → ∃ V, (i, V) ∈ LV ∧ m_v al sc v = some V := by
  intro lv
  induction lv with
  | nil => intro LV i v h hf; cases hf
  | cons q lv ih =>
    intro LV i v h hf
    obtain ⟨V, LV', rfl, h1, h2⟩ := h.inv
    rw [List.find?_cons] at hf
    split at hf
    · cases hf
      exact ⟨V, List.mem_cons_self, h1⟩
    · obtain ⟨V2, h3, h4⟩ := ih h2 hf
      exact ⟨V2, List.mem_cons_of_mem _ h3, h4⟩
/-- a local is read -/
def m_get (lv : ML) (i : Nat) : Option MV := (lv.find? (fun q => q.1 == i)).map (fun q => q.2)
theorem m_get_find {lv : ML} {i : Nat} {v : MV} (h : m_get lv i = some v) : lv.find? (fun q => q.1 == i) = some (i, v) := by
  unfold m_get at h
  rw [Option.map_eq_some_iff] at h
  obtain ⟨⟨k, w⟩, h1, h2⟩ := h
  have h3 := List.find?_some h1
  dsimp only at h2 h3
  subst h2
  rw [h1, eq_of_beq h3]
/-- a local is written -/
def m_put (lv : ML) (i : Nat) (v : MV) : ML := (i, v) :: lv.filter (fun q => !(q.1 == i) && !(q.1 + 1 == i && m_cat q.2 == 2))
theorem m_ls.filt {al : List Nat} {sc : MS} {i : Nat} : ∀ {lv : ML} {LV : List (Nat × Value)}, m_ls al sc lv LV → m_ls al sc (lv.filter (fun q => !(q.1 == i) && !(q.1 + 1 == i && m_cat q.2 == 2))) (LV.filter (fun q => !(q.1 == i) && !(q.1 + 1 == i && q.2.category == 2))) := by
  intro lv
  induction lv with
  | nil => intro LV h; rw [h.inv0]; exact m_ls.nil
  | cons q lv ih =>
    intro LV h
    obtain ⟨V, LV', rfl, h1, h2⟩ := h.inv
    rw [List.filter_cons, List.filter_cons]
    have h3 : V.category = m_cat q.2 := m_v_cat h1
    dsimp only
    rw [h3]
    split
    · exact m_ls.cons h1 (ih h2)
    · exact ih h2
/-- a cell of the clean heap and the world's cell -/
def m_c (ac : Nat → ClassId) (al : List Nat) (c : MC) (e : va_E) : Prop := match c with
  | .inl (t, n, f) => e = .inl (ac t, n, .inl f)
  | .inr (.inl (n, f)) => e = .inl (ac 2, n, .inr (.inl f))
  | .inr (.inr (.inl (ci, n, f))) => ∃ F : Nat → Option Nat, e = .inl (ac (3 + ci), n, .inr (.inr (.inr (.inr F)))) ∧ ∀ k : Nat, (f k).map (fun p => al[p]?) = (F k).map some
  | .inr (.inr (.inr (ci, fs))) => ∃ FS : List Value, e = .inr (ci, FS) ∧ m_vs al none fs FS
theorem m_c.le {ac : Nat → ClassId} {al al' : List Nat} (hl : m_le al al') {c : MC} {e : va_E} (h : m_c ac al c e) : m_c ac al' c e := by
  rcases c with ⟨t, n, f⟩ | ⟨n, f⟩ | ⟨ci, n, f⟩ | ⟨ci, fs⟩
  · exact h
  · exact h
  · obtain ⟨F, h1, h2⟩ := h
    refine ⟨F, h1, fun k => ?_⟩
    have h3 := h2 k
    cases hf : f k with
    | none => rw [hf] at h3; exact h3
    | some p =>
      rw [hf] at h3
      cases hF : F k with
      | none => rw [hF] at h3; cases h3
      | some a =>
        rw [hF] at h3
        have h4 : al[p]? = some a := Option.some.inj h3
        show some (al'[p]?) = some (some a)
        rw [hl.at h4]
  · obtain ⟨FS, h1, h2⟩ := h
    exact ⟨FS, h1, h2.le hl⟩
/-- the clean heap and the world: the same places -/
def m_al (ws : va_W) : List Nat := ws.map (fun q => q.1)
def m_W (ac : Nat → ClassId) (h : List MC) (ws : va_W) : Prop := ws.length = h.length ∧ ∀ (p : Nat) (c : MC), h[p]? = some c → ∃ (a : Nat) (e : va_E), ws[p]? = some (a, e) ∧ m_c ac (m_al ws) c e
theorem m_al_at {ws : va_W} {p a : Nat} {e : va_E} (h : ws[p]? = some (a, e)) : (m_al ws)[p]? = some a := by
  unfold m_al
  rw [List.getElem?_map, h]
  rfl
theorem m_al_set {ws : va_W} {p a : Nat} {e0 e : va_E} (h : ws[p]? = some (a, e0)) : m_al (ws.set p (a, e)) = m_al ws := by
  unfold m_al
  rw [List.map_set]
  refine List.ext_getElem? fun i => ?_
  by_cases hi : p = i
  · subst hi
    have hl := (List.getElem?_eq_some_iff.mp h).1
    rw [List.getElem?_set_self (by rw [List.length_map]; exact hl), List.getElem?_map, h]
    rfl
  · rw [List.getElem?_set_ne hi]
theorem m_W.get {ac : Nat → ClassId} {h : List MC} {ws : va_W} (H : m_W ac h ws) {p : Nat} {c : MC} (hp : h[p]? = some c) : ∃ (a : Nat) (e : va_E), ws[p]? = some (a, e) ∧ (m_al ws)[p]? = some a ∧ m_c ac (m_al ws) c e := by
  obtain ⟨a, e, h1, h2⟩ := H.2 p c hp
  exact ⟨a, e, h1, m_al_at h1, h2⟩
theorem m_W.set {ac : Nat → ClassId} {h : List MC} {ws : va_W} (H : m_W ac h ws) {p a : Nat} {c : MC} {e0 e : va_E} (hp : ws[p]? = some (a, e0)) (hc : m_c ac (m_al ws) c e) : m_W ac (h.set p c) (ws.set p (a, e)) := by
  refine ⟨by rw [List.length_set, List.length_set]; exact H.1, fun i ci hi => ?_⟩
  rw [m_al_set hp]
  by_cases hip : p = i
  · subst hip
    have hl := (List.getElem?_eq_some_iff.mp hp).1
    have hl2 : p < h.length := by rw [← H.1]; exact hl
    rw [List.getElem?_set_self hl2] at hi
    cases hi
    exact ⟨a, e, List.getElem?_set_self hl, hc⟩
  · rw [List.getElem?_set_ne hip] at hi
    obtain ⟨a1, e1, h1, h2⟩ := H.2 i ci hi
    exact ⟨a1, e1, by rw [List.getElem?_set_ne hip]; exact h1, h2⟩
theorem m_al_push (ws : va_W) (q : Nat) (e : va_E) : m_al (ws ++ [(q, e)]) = m_al ws ++ [q] := by
  unfold m_al
  rw [List.map_append]
  rfl
theorem m_le_push (ws : va_W) (q : Nat) (e : va_E) : m_le (m_al ws) (m_al (ws ++ [(q, e)])) := ⟨[q], m_al_push ws q e⟩
theorem m_W.push {ac : Nat → ClassId} {h : List MC} {ws : va_W} (H : m_W ac h ws) {q : Nat} {c : MC} {e : va_E} (hc : m_c ac (m_al ws) c e) : m_W ac (h ++ [c]) (ws ++ [(q, e)]) := by
  refine ⟨by rw [List.length_append, List.length_append, H.1]; rfl, fun i ci hi => ?_⟩
  by_cases hl : i < h.length
  · rw [List.getElem?_append_left hl] at hi
    obtain ⟨a1, e1, h1, h2⟩ := H.2 i ci hi
    exact ⟨a1, e1, by rw [List.getElem?_append_left (by rw [H.1]; exact hl)]; exact h1, h2.le (m_le_push ws q e)⟩
  · rw [List.getElem?_append_right (by omega)] at hi
    have hz : i - h.length < 1 := (List.getElem?_eq_some_iff.mp hi).1
    have hi0 : i = h.length := by omega
    subst hi0
    rw [Nat.sub_self] at hi
    cases hi
    refine ⟨q, e, ?_, hc.le (m_le_push ws q e)⟩
    rw [List.getElem?_append_right (by rw [H.1]; exact Nat.le_refl _), H.1, Nat.sub_self]
    rfl
theorem m_al_new {ac : Nat → ClassId} {h : List MC} {ws : va_W} (H : m_W ac h ws) (q : Nat) (e : va_E) : (m_al (ws ++ [(q, e)]))[h.length]? = some q := by
  refine m_al_at (e := e) ?_
  rw [List.getElem?_append_right (by rw [H.1]; exact Nat.le_refl _), H.1, Nat.sub_self]
  rfl
/-- a method: name, bytes, locals, type of its answer, table of handlers -/
abbrev MM : Type := MethodName × ByteArray × Nat × Option FieldType × List (Nat × Nat × Nat × Nat)
/-- launch, classes and slots, array classes -/
abbrev MG : Type := Launch × va_G × (Nat → ClassId)
def m_Fr (M : MM) (p : Program) (s : State) (m : MethodId) (args : Array Value) (meth : Method) (c : Code) : Prop :=
  p.tables.exec = Jvm.exec ∧ c.code = M.2.1 ∧ meth.sig.returnType = M.2.2.2.1 ∧ meth.locks = false ∧ c.maxLocals = M.2.2.1 ∧ s.vm.findClass M.1.cls = some m.cls ∧ (∀ w ∈ m_Ts, w.before args s = true) ∧ meth.name = M.1.name ∧ c.exceptionTable.toList = tableOf M.2.2.2.2
/-- where a static of the two that a new Throwable reads lies -/
def m_L (C n d : String) (A : Nat → Prop) (U : State) (H : Heap) : Prop := ∃ (c : ClassId) (k : Class) (i : Nat) (f : Field) (a : Addr) (cell : Cell), U.vm.findClass C = some c ∧ U.fieldFound? C n d = some (c, k, i, f) ∧ f.isStatic = true ∧ k.statics = some a ∧ H[a]? = some cell ∧ cell.vm.isStatics = true ∧ cell.cls = c ∧ f.slot < cell.slots.size ∧ k.staticTypes[f.slot]? = some f.type ∧ ¬ A a
/-- a class can be cast to another -/
def m_Cs (C T : String) (U : State) : Prop := ∃ c t : ClassId, U.vm.findClass C = some c ∧ U.vm.findClass T = some t ∧ U.vm.assignable c t = true
theorem m_Cs.moved {C T : String} {u U : State} (hvm : u.vm.Alike U.vm) (h : m_Cs C T u) : m_Cs C T U := by
  obtain ⟨c, t, h1, h2, h3⟩ := h
  exact ⟨c, t, by rw [hvm.findClass]; exact h1, by rw [hvm.findClass]; exact h2, by rw [hvm.assignable]; exact h3⟩
/-- what isn't a good word: two statics of Throwable, the texts, the links between nest mates, the classes that arrays are made of, the pairs of exceptions that are no kin -/
def m_St (A : Nat → Prop) (s : State) : Prop := (m_L Bundle.tN "UNASSIGNED_STACK" Bundle.steD A s s.heap ∧ m_L Bundle.tN "SUPPRESSED_SENTINEL" Bundle.listD A s s.heap ∧ va_Zq Bundle.tN "UNASSIGNED_STACK" Bundle.steD A s s.heap ∧ va_Zq Bundle.tN "SUPPRESSED_SENTINEL" Bundle.listD A s s.heap) ∧ (∀ (q : Nat) (cell : Cell), A q → s.heap[q]? = some cell → cell.vm.isStatics = false) ∧ (∀ q ∈ m_strs, ∃ sa, vk_R q.1 q.2.1 q.2.2 sa s) ∧ (∀ q ∈ m_nestF, va_Nw (.fieldLinkNest q.1 q.2.1 q.2.2.1 q.2.2.2.1 q.2.2.2.2.1 q.2.2.2.2.2) s) ∧ (∀ q ∈ m_nestM, va_Nw (.methodLinkNest q.1 q.2.1 q.2.2.1 q.2.2.2) s) ∧ (∀ C ∈ m_aos, va_AO C s) ∧ (∀ q ∈ m_ncs, va_Nc q.1 q.2 s) ∧ (∀ q ∈ m_cas, m_Cs q.1 q.2 s) ∧ ∀ y ∈ m_decl, va_Nw (.declares y) s
def m_sc (A : Nat → Prop) (s : State) (sc : MS) : Prop := ∀ q, sc = some q → va_X q.1 q.2.1 q.2.2 s s.heap ∧ q.1 < s.heap.size ∧ ¬ A q.1
/-- the world at the end -/
def m_Wd (g : MG) (al0 : List Nat) (A : Nat → Prop) (h : List MC) (ws : va_W) (t : State) : Prop := m_W g.2.2 h ws ∧ va_P g.2.1 m_cl ws t.heap ∧ va_K g.2.1 m_cl (m_tys g.2.2) t ∧ va_D A ws ∧ m_le al0 (m_al ws)
/-- an end: by return, or by throw -/
def m_E (g : MG) (Q : MO → List MC → Prop) (al0 : List Nat) (A : Nat → Prop) (CT ST : Nat) (s : State) (o : Outcome) (t : State) : Prop :=
  ((∃ (r : Option MV) (V : Option Value) (h' : List MC) (ws' : va_W), o = .returned V ∧ m_vs (m_al ws') none r.toList V.toList ∧ Q (.inl r) h' ∧ m_Wd g al0 A h' ws' t) ∨
   (∃ (E : String) (q : Addr) (ce : Cell) (h' : List MC) (ws' : va_W), o = .threw q ∧ t.heap[q]? = some ce ∧ ce.vm = .none ∧ s.vm.findClass E = some ce.cls ∧ Q (.inr E) h' ∧ m_Wd g al0 A h' ws' t)) ∧
  va_F A s t ∧ s.WarmedH t.vm ∧ ∃ L : List Loc, s.sameButNew ({ t with vm := s.vm } : State) L CT ST ∧ ∀ z ∈ L, A z.base
def m_Z (g : MG) (Q : MO → List MC → Prop) (al0 : List Nat) (A : Nat → Prop) (CT ST : Nat) (below : List Frame) (s : State) : State → Prop := fun t => ∃ o, t.status = .running ∧ Ended t below o ∧ m_E g Q al0 A CT ST s o t
/-- the room that is left: d frames, w words of locals -/
def m_Rm (d w : Nat) (R : Room) : Prop := d ≤ R.frames ∧ w ≤ R.locals
/-- THE JUDGEMENT: from pc, with locals lv, stack st, heap h, the method comes to an end with Q; at most mc cells of ms slots are made -/
def Ev (g : MG) (sc : MS) (M : MM) (d w pc : Nat) (lv : ML) (st : List MV) (h : List MC) (mc ms : Nat) (Q : MO → List MC → Prop) : Prop :=
  ∀ (p : Program) (e : Env) (R : Room) (s : State) (m : MethodId) (args : Array Value) (below : List Frame) (meth : Method) (c : Code) (A : Nat → Prop) (al0 : List Nat) (H : Heap) (locs : List Loc) (cells slots CT ST : Nat) (ls : Array Slot) (ws : va_W) (LV : List (Nat × Value)) (VS : List Value),
    m_Fr M p s m args meth c → m_St A s → m_sc A s sc → m_Rm d w R → cells + mc ≤ CT → slots + ms ≤ ST → CT ≤ R.cells → ST ≤ R.slots → (∀ q, s.heap.size ≤ q → A q) → va_K g.2.1 m_cl (m_tys g.2.2) s →
    va_P g.2.1 m_cl ws H → va_D A ws → va_S A s.heap H locs → m_W g.2.2 h ws → m_le al0 (m_al ws) → lv_has ls M.2.2.1 LV → m_ls (m_al ws) sc lv LV → m_vs (m_al ws) sc st VS →
    W p g.1 e R s m args below meth c H locs cells slots (m_Z g Q al0 A CT ST below s) (F0 m pc ls VS)
/-- a method's return, said of its world -/
theorem m_ret {g : MG} {Q : MO → List MC → Prop} {al0 : List Nat} {A : Nat → Prop} {CT ST : Nat} {below : List Frame} {s : State} {p : Program} {e : Env} {R : Room} {m : MethodId} {args : Array Value} {meth : Method} {c : Code} {H : Heap} {locs : List Loc} {fr : JFrame} {r : Option MV} {V : Option Value} {h : List MC} {ws : va_W}
    (hv : m_vs (m_al ws) none r.toList V.toList) (hq : Q (.inl r) h) (hW : m_W g.2.2 h ws) (hP : va_P g.2.1 m_cl ws H) (hK : va_K g.2.1 m_cl (m_tys g.2.2) s) (hD : va_D A ws) (hal : m_le al0 (m_al ws)) (hS : va_S A s.heap H locs)
    (k : W p g.1 e R s m args below meth c H locs CT ST (MQ below (fun _ _ o t => o = .returned V ∧ t.heap = H) args s CT ST A) fr) : W p g.1 e R s m args below meth c H locs CT ST (m_Z g Q al0 A CT ST below s) fr := by
  intro T hT X
  obtain ⟨t, a1, o, b1, b2, ⟨ho, ht⟩, L, hL1, hL2⟩ := k T hT X
  obtain ⟨-, hW9, hsm⟩ := hL1
  exact ⟨t, a1, o, b1, b2, Or.inl ⟨r, V, h, ws, ho, hv, hq, hW, by rw [ht]; exact hP, va_K.moved hW9.alike hK, hD, hal⟩, hS.F ht, hW9, L, hsm, hL2⟩
