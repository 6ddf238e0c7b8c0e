/-! THE STORE: all numbers as integers. Fields of objects by place and number, arrays by place and index, the law's one long. A layout says what lies at a place. -/
abbrev SS : Type := (Nat → Nat → Int) × (Nat → Int → Int) × (Nat → Int64)
/-- an array of ints (0) or booleans (1), its length; a row of references; an object: its class, its fields (none: a number; some r: a reference that stays); a row of one long -/
abbrev LC : Type := (Nat × Nat) ⊕ (Nat × Nat × (Nat → Option Nat)) ⊕ (Nat × List (Option (Option Nat))) ⊕ Unit
abbrev LY : Type := Nat → Option LC
abbrev iv (x : Int) : Int32 := Int32.ofInt x
abbrev iI (x : Int) : MV := mi (iv x)
def s_f (σ : SS) (p : Nat) : Nat → List (Option (Option Nat)) → List MV
  | _, [] => []
  | k, none :: l => iI (σ.1 p k) :: s_f σ p (k + 1) l
  | k, some r :: l => .inr (.inr (.inl r)) :: s_f σ p (k + 1) l
def s_c (σ : SS) (p : Nat) : LC → MC
  | .inl (t, n) => .inl (t, n, fun j => iv (σ.2.1 p j))
  | .inr (.inl (ci, n, f)) => cR ci n f
  | .inr (.inr (.inl (ci, l))) => cO ci (s_f σ p 0 l)
  | .inr (.inr (.inr _)) => cL 1 (fun _ => σ.2.2 p)
def Rep (ly : LY) (h : List MC) (σ : SS) : Prop := ∀ (p : Nat) (c : LC), ly p = some c → h[p]? = some (s_c σ p c)
/-- a field is set; an element is set; the long is set -/
def sF (σ : SS) (p k : Nat) (v : Int) : SS := (fun a b => if a = p ∧ b = k then v else σ.1 a b, σ.2)
def sA (σ : SS) (p : Nat) (i v : Int) : SS := (σ.1, (fun a b => if a = p ∧ b = i then v else σ.2.1 a b), σ.2.2)
def sL (σ : SS) (p : Nat) (v : Int64) : SS := (σ.1, σ.2.1, fun a => if a = p then v else σ.2.2 a)
theorem s_f_len (σ : SS) (p : Nat) : ∀ (l : List (Option (Option Nat))) (k : Nat), (s_f σ p k l).length = l.length := by
  intro l
  induction l with
  | nil => intro k; rfl
  | cons a l ih =>
    intro k
    cases a with
    | none => show (s_f σ p (k + 1) l).length + 1 = _; rw [ih]; rfl
    | some r => show (s_f σ p (k + 1) l).length + 1 = _; rw [ih]; rfl
theorem s_f_at (σ : SS) (p : Nat) : ∀ (l : List (Option (Option Nat))) (k j : Nat), (s_f σ p k l)[j]? = (l[j]?).map (fun x => match x with | none => iI (σ.1 p (k + j)) | some r => .inr (.inr (.inl r))) := by
  intro l
  induction l with
  | nil => intro k j; simp [s_f]
  | cons a l ih =>
    intro k j
    cases j with
    | zero => cases a <;> rfl
    | succ j =>
      have h := ih (k + 1) j
      rw [show k + 1 + j = k + (j + 1) by omega] at h
      cases a with
      | none => show (s_f σ p (k + 1) l)[j]? = _; rw [h]; rfl
      | some r => show (s_f σ p (k + 1) l)[j]? = _; rw [h]; rfl
theorem s_f_eq {σ τ : SS} {p q : Nat} : ∀ (l : List (Option (Option Nat))) (k : Nat), (∀ j, k ≤ j → σ.1 p j = τ.1 q j) → s_f σ p k l = s_f τ q k l := by
  intro l
  induction l with
  | nil => intro k _; rfl
  | cons a l ih =>
    intro k h
    cases a with
    | none => unfold s_f; rw [ih (k + 1) (fun j hj => h j (by omega)), h k (Nat.le_refl k)]
    | some r => unfold s_f; rw [ih (k + 1) (fun j hj => h j (by omega))]
theorem s_c_eq {σ τ : SS} {p : Nat} (h1 : ∀ j, σ.1 p j = τ.1 p j) (h2 : ∀ j, σ.2.1 p j = τ.2.1 p j) (h3 : σ.2.2 p = τ.2.2 p) (c : LC) : s_c σ p c = s_c τ p c := by
  rcases c with ⟨t, n⟩ | ⟨ci, n, f⟩ | ⟨ci, l⟩ | u
  · show (Sum.inl (t, n, fun j : Nat => iv (σ.2.1 p j)) : MC) = Sum.inl (t, n, fun j : Nat => iv (τ.2.1 p j))
    simp only [h2]
  · rfl
  · show cO ci (s_f σ p 0 l) = cO ci (s_f τ p 0 l)
    rw [s_f_eq (q := p) l 0 (fun j _ => h1 j)]
  · show cL 1 (fun _ => σ.2.2 p) = cL 1 (fun _ => τ.2.2 p)
    rw [h3]
theorem s_f_set (σ : SS) (p : Nat) (v : Int) : ∀ (l : List (Option (Option Nat))) (k j : Nat), l[j]? = some none → (s_f σ p k l).set j (iI v) = s_f (sF σ p (k + j) v) p k l := by
  intro l
  induction l with
  | nil => intro k j h; simp at h
  | cons a l ih =>
    intro k j h
    cases j with
    | zero =>
      cases a with
      | none =>
        show iI v :: s_f σ p (k + 1) l = iI ((sF σ p k v).1 p k) :: s_f (sF σ p k v) p (k + 1) l
        have h8 : ∀ j, k + 1 ≤ j → σ.1 p j = (sF σ p k v).1 p j := by
          intro j hj
          have h9 : ¬ j = k := by omega
          simp [sF, h9]
        rw [s_f_eq (τ := sF σ p k v) (q := p) l (k + 1) h8]
        simp [sF]
      | some r => cases h
    | succ j =>
      have h9 := ih (k + 1) j h
      rw [show k + 1 + j = k + (j + 1) by omega] at h9
      cases a with
      | none =>
        show iI (σ.1 p k) :: (s_f σ p (k + 1) l).set j (iI v) = iI ((sF σ p (k + (j + 1)) v).1 p k) :: _
        rw [h9]
        simp [sF]
      | some r =>
        show _ :: (s_f σ p (k + 1) l).set j (iI v) = _
        rw [h9]
        rfl
/-- a cell of the layout is written: the others stay -/
theorem Rep.put {ly : LY} {h : List MC} {σ τ : SS} {p : Nat} {c : LC} (hR : Rep ly h σ) (hp : ly p = some c) (ho : ∀ q, q ≠ p → (∀ j, σ.1 q j = τ.1 q j) ∧ (∀ j, σ.2.1 q j = τ.2.1 q j) ∧ σ.2.2 q = τ.2.2 q) : Rep ly (h.set p (s_c τ p c)) τ := by
  intro q c9 hq
  by_cases hqp : p = q
  · subst hqp
    have hl := (List.getElem?_eq_some_iff.mp (hR p c hp)).1
    rw [List.getElem?_set_self hl]
    cases Option.some.inj (hp.symm.trans hq)
    rfl
  · rw [List.getElem?_set_ne hqp, hR q c9 hq]
    obtain ⟨a1, a2, a3⟩ := ho q (fun z => hqp z.symm)
    rw [s_c_eq a1 a2 a3 c9]
