/-! THE STORE: all numbers as integers. Fields of objects by place and number, arrays by place and index, the law's one long. A layout says what lies at a place. -/
abbrev SS : Type := (Nat → Nat → Int) × (Nat → Int → Int) × (Nat → Int64)
/-- an array of ints (0) or booleans (1), its length, its number in the store; a row of references; an object: its class, its fields (none: a number; some r: a reference that stays); a row of one long -/
abbrev LC : Type := (Nat × Nat × Nat) ⊕ (Nat × Nat × (Nat → Option Nat)) ⊕ (Nat × List (Option (Option Nat))) ⊕ Unit
abbrev LY : Type := Nat → Option LC
abbrev iv (x : Int) : Int32 := Int32.ofInt x
abbrev iI (x : Int) : MV := mi (iv x)
def s_f (σ : SS) (p : Nat) : Nat → List (Option (Option Nat)) → List MV
  | _, [] => []
  | k, none :: l => iI (σ.1 p k) :: s_f σ p (k + 1) l
  | k, some r :: l => .inr (.inr (.inl r)) :: s_f σ p (k + 1) l
def s_c (σ : SS) (p : Nat) : LC → MC
  | .inl (t, n, i) => .inl (t, n, fun j => iv (σ.2.1 i j))
  | .inr (.inl (ci, n, f)) => cR ci n f
  | .inr (.inr (.inl (ci, l))) => cO ci (s_f σ p 0 l)
  | .inr (.inr (.inr _)) => cL 1 (fun _ => σ.2.2 p)
abbrev rng (x : Int) : Prop := -2147483648 ≤ x ∧ x < 2147483648
/-- the heap holds the store, by the layout; all numbers are ints; an array's number is its own -/
def Rep (ly : LY) (h : List MC) (σ : SS) : Prop := (∀ (p : Nat) (c : LC), ly p = some c → h[p]? = some (s_c σ p c)) ∧ ((∀ p k, rng (σ.1 p k)) ∧ ∀ p i, rng (σ.2.1 p i)) ∧ ∀ (p q t n t' n' i : Nat), ly p = some (.inl (t, n, i)) → ly q = some (.inl (t', n', i)) → p = q
theorem Rep.at {ly : LY} {h : List MC} {σ : SS} (hR : Rep ly h σ) (p : Nat) (c : LC) (hp : ly p = some c) : h[p]? = some (s_c σ p c) := hR.1 p c hp
theorem Rep.rf {ly : LY} {h : List MC} {σ : SS} (hR : Rep ly h σ) (p k : Nat) : rng (σ.1 p k) := hR.2.1.1 p k
theorem Rep.ra {ly : LY} {h : List MC} {σ : SS} (hR : Rep ly h σ) (p : Nat) (i : Int) : rng (σ.2.1 p i) := hR.2.1.2 p i
abbrev LO (ci : Nat) (l : List (Option (Option Nat))) : LC := .inr (.inr (.inl (ci, l)))
abbrev LI (n i : Nat) : LC := .inl (0, n, i)
abbrev LZ (n i : Nat) : LC := .inl (1, n, i)
abbrev nu : Option (Option Nat) := none
abbrev rf (p : Nat) : Option (Option Nat) := some (some p)
/-- a field is set; an element is set; the long is set -/
def sF (σ : SS) (p k : Nat) (v : Int) : SS := (fun a b => if a = p ∧ b = k then v else σ.1 a b, σ.2)
def sA (σ : SS) (p : Nat) (i v : Int) : SS := (σ.1, (fun a b => if a = p ∧ b = i then v else σ.2.1 a b), σ.2.2)
def sL (σ : SS) (p : Nat) (v : Int64) : SS := (σ.1, σ.2.1, fun a => if a = p then v else σ.2.2 a)
theorem s_f_len (σ : SS) (p : Nat) : ∀ (l : List (Option (Option Nat))) (k : Nat), (s_f σ p k l).length = l.length := by
  intro l
  induction l with
  | nil => intro k; rfl
  | cons a l ih =>
    intro k
    cases a with
    | none => show (s_f σ p (k + 1) l).length + 1 = _; rw [ih]; rfl
    | some r => show (s_f σ p (k + 1) l).length + 1 = _; rw [ih]; rfl
theorem s_f_at (σ : SS) (p : Nat) : ∀ (l : List (Option (Option Nat))) (k j : Nat), (s_f σ p k l)[j]? = (l[j]?).map (fun x => match x with | none => iI (σ.1 p (k + j)) | some r => .inr (.inr (.inl r))) := by
  intro l
  induction l with
  | nil => intro k j; simp [s_f]
  | cons a l ih =>
    intro k j
    cases j with
    | zero => cases a <;> rfl
    | succ j =>
      have h := ih (k + 1) j
      rw [show k + 1 + j = k + (j + 1) by omega] at h
      cases a with
      | none => show (s_f σ p (k + 1) l)[j]? = _; rw [h]; rfl
      | some r => show (s_f σ p (k + 1) l)[j]? = _; rw [h]; rfl
theorem s_f_eq {σ τ : SS} {p q : Nat} : ∀ (l : List (Option (Option Nat))) (k : Nat), (∀ j, k ≤ j → σ.1 p j = τ.1 q j) → s_f σ p k l = s_f τ q k l := by
  intro l
  induction l with
  | nil => intro k _; rfl
  | cons a l ih =>
    intro k h
    cases a with
    | none => unfold s_f; rw [ih (k + 1) (fun j hj => h j (by omega)), h k (Nat.le_refl k)]
    | some r => unfold s_f; rw [ih (k + 1) (fun j hj => h j (by omega))]
theorem s_f_set (σ : SS) (p : Nat) (v : Int) : ∀ (l : List (Option (Option Nat))) (k j : Nat), l[j]? = some none → (s_f σ p k l).set j (iI v) = s_f (sF σ p (k + j) v) p k l := by
  intro l
  induction l with
  | nil => intro k j h; simp at h
  | cons a l ih =>
    intro k j h
    cases j with
    | zero =>
      cases a with
      | none =>
        show iI v :: s_f σ p (k + 1) l = iI ((sF σ p k v).1 p k) :: s_f (sF σ p k v) p (k + 1) l
        have h8 : ∀ j, k + 1 ≤ j → σ.1 p j = (sF σ p k v).1 p j := by
          intro j hj
          have h9 : ¬ j = k := by omega
          simp [sF, h9]
        rw [s_f_eq (τ := sF σ p k v) (q := p) l (k + 1) h8]
        simp [sF]
      | some r => cases h
    | succ j =>
      have h9 := ih (k + 1) j h
      rw [show k + 1 + j = k + (j + 1) by omega] at h9
      cases a with
      | none =>
        show iI (σ.1 p k) :: (s_f σ p (k + 1) l).set j (iI v) = iI ((sF σ p (k + (j + 1)) v).1 p k) :: _
        rw [h9]
        simp [sF]
      | some r =>
        show _ :: (s_f σ p (k + 1) l).set j (iI v) = _
        rw [h9]
        rfl
theorem sF_other {σ : SS} {p k a b : Nat} {v : Int} (h : ¬ (a = p ∧ b = k)) : (sF σ p k v).1 a b = σ.1 a b := by simp [sF, h]
theorem sF_rng {σ : SS} {p k : Nat} {v : Int} (h1 : ∀ p k, rng (σ.1 p k)) (hv : rng v) : ∀ a b, rng ((sF σ p k v).1 a b) := by
  intro a b
  unfold sF
  dsimp only
  split
  · exact hv
  · exact h1 a b
theorem sA_rng {σ : SS} {p : Nat} {i v : Int} (h1 : ∀ p i, rng (σ.2.1 p i)) (hv : rng v) : ∀ a b, rng ((sA σ p i v).2.1 a b) := by
  intro a b
  unfold sA
  dsimp only
  split
  · exact hv
  · exact h1 a b
/-- a field is written: the other cells stay -/
theorem Rep.setF {ly : LY} {h : List MC} {σ : SS} {p k ci : Nat} {v : Int} {l : List (Option (Option Nat))} (hR : Rep ly h σ) (hp : ly p = some (LO ci l)) (hv : rng v) : Rep ly (h.set p (s_c (sF σ p k v) p (LO ci l))) (sF σ p k v) := by
  refine ⟨fun q c9 hq => ?_, ⟨sF_rng hR.2.1.1 hv, hR.2.1.2⟩, hR.2.2⟩
  by_cases hqp : p = q
  · subst hqp
    have hl := (List.getElem?_eq_some_iff.mp (hR.at p _ hp)).1
    rw [List.getElem?_set_self hl]
    cases Option.some.inj (hp.symm.trans hq)
    rfl
  · rw [List.getElem?_set_ne hqp, hR.at q c9 hq]
    rcases c9 with ⟨t, n, i⟩ | ⟨cj, n, f⟩ | ⟨cj, l⟩ | u
    · rfl
    · rfl
    · show some (cO cj (s_f σ q 0 l)) = some (cO cj (s_f (sF σ p k v) q 0 l))
      rw [s_f_eq (τ := sF σ p k v) (q := q) l 0 (fun j _ => (sF_other (fun z => hqp z.1.symm)).symm)]
    · rfl
/-- an element is written -/
theorem Rep.setA {ly : LY} {h : List MC} {σ : SS} {p t n id : Nat} {i v : Int} (hR : Rep ly h σ) (hp : ly p = some (.inl (t, n, id))) (hv : rng v) : Rep ly (h.set p (s_c (sA σ id i v) p (.inl (t, n, id)))) (sA σ id i v) := by
  refine ⟨fun q c9 hq => ?_, ⟨hR.2.1.1, sA_rng hR.2.1.2 hv⟩, hR.2.2⟩
  by_cases hqp : p = q
  · subst hqp
    have hl := (List.getElem?_eq_some_iff.mp (hR.at p _ hp)).1
    rw [List.getElem?_set_self hl]
    cases Option.some.inj (hp.symm.trans hq)
    rfl
  · rw [List.getElem?_set_ne hqp, hR.at q c9 hq]
    rcases c9 with ⟨t2, n2, i2⟩ | ⟨cj, n, f⟩ | ⟨cj, l⟩ | u
    · have h3 : ¬ i2 = id := fun z => hqp (hR.2.2 p q t n t2 n2 id hp (by rw [hq, z]))
      show some (Sum.inl (t2, n2, fun j : Nat => iv (σ.2.1 i2 j)) : MC) = some (Sum.inl (t2, n2, fun j : Nat => iv ((sA σ id i v).2.1 i2 j)))
      simp [sA, h3]
    · rfl
    · show some (cO cj (s_f σ q 0 l)) = some (cO cj (s_f (sA σ id i v) q 0 l))
      exact congrArg (fun z => some (cO cj z)) (s_f_eq l 0 (fun j _ => rfl))
    · rfl
/-- the long is written -/
theorem Rep.setL {ly : LY} {h : List MC} {σ : SS} {p : Nat} {v : Int64} (hR : Rep ly h σ) (hp : ly p = some (.inr (.inr (.inr ())))) : Rep ly (h.set p (cL 1 (fun _ => v))) (sL σ p v) := by
  refine ⟨fun q c9 hq => ?_, ⟨hR.2.1.1, hR.2.1.2⟩, hR.2.2⟩
  by_cases hqp : p = q
  · subst hqp
    have hl := (List.getElem?_eq_some_iff.mp (hR.at p _ hp)).1
    rw [List.getElem?_set_self hl]
    cases Option.some.inj (hp.symm.trans hq)
    show some (cL 1 fun _ => v) = some (cL 1 fun _ => (sL σ p v).2.2 p)
    simp [sL]
  · rw [List.getElem?_set_ne hqp, hR.at q c9 hq]
    rcases c9 with ⟨t2, n2, i2⟩ | ⟨cj, n, f⟩ | ⟨cj, l⟩ | u
    · rfl
    · rfl
    · show some (cO cj (s_f σ q 0 l)) = some (cO cj (s_f (sL σ p v) q 0 l))
      exact congrArg (fun z => some (cO cj z)) (s_f_eq l 0 (fun j _ => rfl))
    · show some (cL 1 fun _ => σ.2.2 q) = some (cL 1 fun _ => if q = p then v else σ.2.2 q)
      rw [if_neg (fun z : q = p => hqp z.symm)]
/-- reading past the end gives 0: what 'at' answers -/
def gA (σ : SS) (p n : Nat) (i : Int) : Int := if 0 ≤ i ∧ i < n then σ.2.1 p i else 0
theorem gA_rng {ly : LY} {h : List MC} {σ : SS} (hR : Rep ly h σ) (p n : Nat) (i : Int) : rng (gA σ p n i) := by
  unfold gA
  split
  · exact hR.ra p i
  · omega
/-- writing past the end does nothing: what 'set' does -/
def gS (σ : SS) (p n : Nat) (i v : Int) : SS := if 0 ≤ i ∧ i < n then sA σ p i v else σ
/-! reading what was written -/
theorem sF_same (σ : SS) (p k : Nat) (v : Int) : (sF σ p k v).1 p k = v := by simp [sF]
theorem sF_arr (σ : SS) (p k : Nat) (v : Int) : (sF σ p k v).2 = σ.2 := rfl
theorem sA_same (σ : SS) (p : Nat) (i v : Int) : (sA σ p i v).2.1 p i = v := by simp [sA]
theorem sA_other {σ : SS} {p a : Nat} {i v b : Int} (h : ¬ (a = p ∧ b = i)) : (sA σ p i v).2.1 a b = σ.2.1 a b := by simp [sA, h]
theorem sA_fld (σ : SS) (p : Nat) (i v : Int) : (sA σ p i v).1 = σ.1 := rfl
