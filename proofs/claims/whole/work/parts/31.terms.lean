/-! TERMS: a row goes through a stack of what is due: how many variables are bound above each -/
abbrev Op : Type := (Int → Int) × (Int → Int → Int)
/-- what an operation's arguments want -/
def tP (O : Op) (e : AG) : List Int := if e.2.1 % 4 = 1 then (List.range (O.1 (e.2.1 / 4)).toNat).map (fun i : Nat => e.1 + O.2 (e.2.1 / 4) (i : Int)) else []
/-- an operation that was told: its arity is none below 0 -/
abbrev opk (O : Op) (e : AG) : Prop := e.2.1 % 4 ≠ 1 ∨ 0 ≤ O.1 (e.2.1 / 4)
def tR (O : Op) : Row → List Int → Option (List Int)
  | [], S => some S
  | _ :: _, [] => none
  | e :: r, b :: S => if e.1 = b ∧ opk O e then tR O r (tP O e ++ S) else none
theorem tR_nil (O : Op) (S : List Int) : tR O [] S = some S := rfl
theorem tR_cons {O : Op} {e : AG} {r : Row} {S : List Int} (h : opk O e) : tR O (e :: r) (e.1 :: S) = tR O r (tP O e ++ S) := if_pos ⟨rfl, h⟩
theorem tR_inv {O : Op} {e : AG} {r : Row} {S S' : List Int} (h : tR O (e :: r) S = some S') : ∃ T, S = e.1 :: T ∧ tR O r (tP O e ++ T) = some S' := by
  cases S with
  | nil => cases h
  | cons b S =>
    unfold tR at h
    split at h
    · rename_i c; exact ⟨S, by rw [c.1], h⟩
    · cases h
theorem tR_opk {O : Op} {e : AG} {r : Row} {S S' : List Int} (h : tR O (e :: r) S = some S') : opk O e := by
  cases S with
  | nil => cases h
  | cons b S =>
    unfold tR at h
    split at h
    · rename_i c; exact c.2
    · cases h
theorem tR_append {O : Op} : ∀ (r : Row) {q : Row} {S : List Int}, tR O (r ++ q) S = (tR O r S).bind (tR O q) := by
  intro r
  induction r with
  | nil => intro q S; rfl
  | cons e r ih =>
    intro q S
    cases S with
    | nil => rfl
    | cons b S =>
      show (if e.1 = b ∧ opk O e then tR O (r ++ q) (tP O e ++ S) else none) = (if e.1 = b ∧ opk O e then tR O r (tP O e ++ S) else none).bind (tR O q)
      split
      · exact ih
      · rfl
theorem tR_join {O : Op} {r q : Row} {S T U : List Int} (h1 : tR O r S = some T) (h2 : tR O q T = some U) : tR O (r ++ q) S = some U := by
  rw [tR_append, h1]
  exact h2
theorem tR_frame {O : Op} : ∀ {r : Row} {S S' : List Int} (T : List Int), tR O r S = some S' → tR O r (S ++ T) = some (S' ++ T) := by
  intro r
  induction r with
  | nil => intro S S' T h; cases h; rfl
  | cons e r ih =>
    intro S S' T h
    obtain ⟨U, rfl, h2⟩ := tR_inv h
    show tR O (e :: r) (e.1 :: (U ++ T)) = _
    rw [tR_cons (tR_opk h), ← List.append_assoc]
    exact ih T h2
theorem opk_sub {O : Op} {β : Int} {φ : Int → Int} {e : AG} (h : opk O e) : opk O (tS β φ e) := by
  rcases h with h | h
  · exact Or.inl (by rw [tS_code]; exact h)
  · by_cases c : e.2.1 % 4 = 1
    · exact Or.inr (by rw [tS_num (by omega)]; exact h)
    · exact Or.inl (by rw [tS_code]; exact c)
theorem tP_sub (O : Op) (β : Int) (φ : Int → Int) (e : AG) : tP O (tS β φ e) = (tP O e).map (fun x => β + x) := by
  unfold tP
  rw [tS_code]
  split
  · rename_i c
    rw [tS_num (by omega), List.map_map]
    refine List.map_congr_left (fun i _ => ?_)
    show β + e.1 + _ = β + (e.1 + _)
    omega
  · rfl
theorem tR_sub {O : Op} {β : Int} {φ : Int → Int} : ∀ {r : Row} {S S' : List Int}, tR O r S = some S' → tR O (r.map (tS β φ)) (S.map (fun x => β + x)) = some (S'.map (fun x => β + x)) := by
  intro r
  induction r with
  | nil => intro S S' h; cases h; rfl
  | cons e r ih =>
    intro S S' h
    obtain ⟨U, rfl, h2⟩ := tR_inv h
    show tR O (tS β φ e :: r.map (tS β φ)) ((tS β φ e).1 :: U.map (fun x => β + x)) = _
    rw [tR_cons (opk_sub (tR_opk h)), tP_sub, ← List.map_append]
    exact ih h2
/-- all fillings are terms -/
def wfF (O : Op) (Φ : Fl) : Prop := ∀ h F, Φ h = some F → tR O F [0] = some []
theorem tP_hole {O : Op} {e : AG} (h : e.2.1 % 4 ≠ 1) : tP O e = [] := if_neg h
theorem tR_X {O : Op} {Φ : Fl} {e : AG} {S : List Int} (hw : wfF O Φ) (ho : opk O e) : tR O (tX Φ e) (e.1 :: S) = some (tP O e ++ S) := by
  unfold tX
  split
  · rename_i c
    cases hΦ : Φ (e.2.1 / 4) with
    | none => exact tR_cons ho
    | some F =>
      have h1 := tR_frame S (tR_sub (β := e.1) (φ := tI e.2.2) (hw _ _ hΦ))
      rw [tP_hole (by omega)]
      have h2 : (List.map (fun x => e.1 + x) [0] ++ S) = e.1 :: S := by
        show (e.1 + 0) :: S = _
        rw [Int.add_zero]
      rw [h2] at h1
      exact h1
  · exact tR_cons ho
theorem tR_E {O : Op} {Φ : Fl} (hw : wfF O Φ) : ∀ {r : Row} {S S' : List Int}, tR O r S = some S' → tR O (tE Φ r) S = some S' := by
  intro r
  induction r with
  | nil => intro S S' h; exact h
  | cons e r ih =>
    intro S S' h
    obtain ⟨U, rfl, h2⟩ := tR_inv h
    rw [show tE Φ (e :: r) = tX Φ e ++ tE Φ r from List.flatMap_cons]
    exact tR_join (tR_X hw (tR_opk h)) (ih h2)
theorem tR_N {O : Op} {Φ : Fl} (hw : wfF O Φ) : ∀ (k : Nat) {r : Row} {S S' : List Int}, tR O r S = some S' → tR O (tN Φ k r) S = some S' := by
  intro k
  induction k with
  | zero => intro r S S' h; exact h
  | succ k ih => intro r S S' h; exact ih (tR_E hw h)
/-- the first terms of a row -/
theorem tR_split {O : Op} : ∀ (r : Row) (S T : List Int), tR O r (S ++ T) = some [] → ∃ a b, r = a ++ b ∧ tR O a S = some [] ∧ tR O b T = some [] := by
  intro r
  induction r with
  | nil =>
    intro S T h
    have h1 : S ++ T = [] := Option.some.inj h
    obtain ⟨rfl, rfl⟩ := List.append_eq_nil_iff.mp h1
    exact ⟨[], [], rfl, rfl, rfl⟩
  | cons e r ih =>
    intro S T h
    cases S with
    | nil => exact ⟨[], e :: r, rfl, rfl, h⟩
    | cons b S =>
      obtain ⟨U, h1, h2⟩ := tR_inv h
      rw [List.cons_append] at h1
      obtain ⟨rfl, rfl⟩ := List.cons.inj h1
      rw [← List.append_assoc] at h2
      obtain ⟨x, y, rfl, h3, h4⟩ := ih _ _ h2
      exact ⟨e :: x, y, rfl, by rw [tR_cons (tR_opk h)]; exact h3, h4⟩
/-- a row that goes through is not longer than it must: the same beginning can't go through twice -/
theorem tR_uniq {O : Op} : ∀ {a b c d : Row} {S : List Int}, a ++ b = c ++ d → tR O a S = some [] → tR O c S = some [] → a = c ∧ b = d := by
  intro a
  induction a with
  | nil =>
    intro b c d S he h1 h2
    cases h1
    cases c with
    | nil => exact ⟨rfl, he⟩
    | cons e c => cases h2
  | cons e a ih =>
    intro b c d S he h1 h2
    obtain ⟨U, rfl, h3⟩ := tR_inv h1
    cases c with
    | nil => cases h2
    | cons f c =>
      obtain ⟨rfl, he2⟩ := List.cons.inj (show e :: (a ++ b) = f :: (c ++ d) from he)
      obtain ⟨V, h4, h5⟩ := tR_inv h2
      cases h4
      obtain ⟨rfl, rfl⟩ := ih he2 h3 h5
      exact ⟨rfl, rfl⟩
/-! how many: groups with arguments, and leaves -/
def nA (O : Op) (r : Row) : Nat := (r.filter (fun e => !(tP O e).isEmpty)).length
def il (r : Row) : Nat := (r.map (fun e => 1 + e.2.2.length)).sum
def bA (O : Op) (e : AG) : Nat := if (tP O e).isEmpty = true then 0 else 1
theorem nA_le (O : Op) (r : Row) : nA O r ≤ r.length := List.length_filter_le _ _
theorem nA_cons (O : Op) (e : AG) (r : Row) : nA O (e :: r) = bA O e + nA O r := by
  unfold nA bA
  rw [List.filter_cons]
  by_cases c : (tP O e).isEmpty = true
  · rw [c, if_pos rfl, if_neg (by decide)]; omega
  · rw [if_neg c, if_pos (by rw [Bool.not_eq_true'] ; exact Bool.eq_false_iff.mpr c), List.length_cons]; omega
theorem nA_append (O : Op) (a b : Row) : nA O (a ++ b) = nA O a + nA O b := by
  unfold nA
  rw [List.filter_append, List.length_append]
theorem bA_le (O : Op) (e : AG) : bA O e ≤ 1 := by unfold bA; split <;> omega
theorem bA_nil {O : Op} {e : AG} (h : tP O e = []) : bA O e = 0 := by unfold bA; rw [h]; rfl
theorem bA_hole {O : Op} {e : AG} (h : e.2.1 % 4 ≠ 1) : bA O e = 0 := bA_nil (tP_hole h)
/-- an operation has at most three arguments -/
def ar3 (O : Op) : Prop := ∀ f, O.1 f ≤ 3
theorem tP_len {O : Op} {e : AG} (h3 : ar3 O) : (tP O e).length ≤ 3 * bA O e := by
  by_cases c : tP O e = []
  · rw [c]; exact Nat.zero_le _
  · have h1 : bA O e = 1 := by
      unfold bA
      rw [if_neg (fun z => c (List.isEmpty_iff.mp z))]
    rw [h1]
    unfold tP
    split
    · rw [List.length_map, List.length_range]
      have := h3 (e.2.1 / 4)
      omega
    · exact Nat.zero_le _
theorem tR_count {O : Op} (h3 : ar3 O) : ∀ {r : Row} {S S' : List Int}, tR O r S = some S' → r.length + S'.length ≤ S.length + 3 * nA O r := by
  intro r
  induction r with
  | nil => intro S S' h; cases h; show 0 + _ ≤ _ + 3 * 0; omega
  | cons e r ih =>
    intro S S' h
    obtain ⟨U, rfl, h2⟩ := tR_inv h
    have h4 := ih h2
    have h5 := tP_len (e := e) h3
    rw [nA_cons]
    rw [List.length_append] at h4
    rw [List.length_cons, List.length_cons]
    omega
/-- stack never longer than all operations allow -/
theorem tR_stack {O : Op} (h3 : ar3 O) {r q : Row} {S S' : List Int} (h : tR O (r ++ q) S = some S') : ∃ T, tR O r S = some T ∧ tR O q T = some S' ∧ T.length ≤ S.length + 3 * nA O r := by
  rw [tR_append] at h
  cases hT : tR O r S with
  | none => rw [hT] at h; cases h
  | some T =>
    rw [hT] at h
    have := tR_count h3 hT
    exact ⟨T, rfl, h, by omega⟩
theorem il_append (a b : Row) : il (a ++ b) = il a + il b := by
  unfold il
  rw [List.map_append, List.sum_append]
theorem il_cons (e : AG) (r : Row) : il (e :: r) = 1 + e.2.2.length + il r := rfl
/-- parameters: at most four; only holes have variables -/
def pa4 (pa : Int → Int) : Prop := ∀ h, pa h ≤ 4
theorem il_le {O : Op} {pa : Int → Int} {n : Int} (hp : pa4 pa) : ∀ {r : Row}, okR pa n r → il r + 4 * nA O r ≤ 5 * r.length := by
  intro r
  induction r with
  | nil => intro _; exact Nat.le_refl _
  | cons e r ih =>
    intro h
    have h1 := ih (fun x hx => h x (List.mem_cons_of_mem _ hx))
    obtain ⟨-, -, -, -, -, h6, h7, -⟩ := h e List.mem_cons_self
    rw [il_cons, nA_cons, List.length_cons]
    by_cases c : e.2.1 % 4 = 2
    · have h8 := h6 c
      have h9 := hp (e.2.1 / 4)
      rw [bA_hole (by omega)]
      omega
    · have := bA_le O e
      rw [h7 c, List.length_nil]
      omega
/-! sizes of normal forms -/
theorem wfF_ne {O : Op} {Φ : Fl} (hw : wfF O Φ) : ∀ h F, Φ h = some F → F ≠ [] := by
  intro h F hF hE
  have := hw h F hF
  rw [hE] at this
  cases this
theorem nA_sub (O : Op) (β : Int) (φ : Int → Int) (r : Row) : nA O (r.map (tS β φ)) = nA O r := by
  unfold nA
  rw [List.filter_map, List.length_map]
  congr 1
  refine List.filter_congr (fun x _ => ?_)
  show (!(tP O (tS β φ x)).isEmpty) = _
  rw [tP_sub, List.isEmpty_map]
/-- a whole term has a leaf: its last group -/
theorem nA_lt {O : Op} : ∀ {r : Row} {S : List Int}, S ≠ [] → tR O r S = some [] → nA O r < r.length := by
  intro r
  induction r with
  | nil => intro S hS h; cases h; exact absurd rfl hS
  | cons x r ih =>
    intro S hS h
    obtain ⟨U, rfl, h2⟩ := tR_inv h
    rw [nA_cons, List.length_cons]
    by_cases d : tP O x ++ U = []
    · have h3 := (List.append_eq_nil_iff.mp d).1
      rw [bA_nil h3]
      rw [d] at h2
      cases r with
      | nil => show 0 + 0 < 0 + 1; omega
      | cons y r => cases h2
    · have := ih d h2
      have := bA_le O x
      omega
theorem cnt_X {O : Op} {Φ : Fl} {e : AG} (hw : wfF O Φ) : bA O e ≤ nA O (tX Φ e) ∧ 1 + nA O (tX Φ e) ≤ (tX Φ e).length + bA O e := by
  unfold tX
  by_cases c : e.2.1 % 4 = 2
  · rw [if_pos c, bA_hole (by omega)]
    refine ⟨Nat.zero_le _, ?_⟩
    cases hΦ : Φ (e.2.1 / 4) with
    | none =>
      dsimp only
      rw [nA_cons, bA_hole (by omega)]
      show 1 + (0 + 0) ≤ 1 + 0
      omega
    | some F =>
      dsimp only
      rw [nA_sub, List.length_map]
      have := nA_lt (by simp) (hw _ _ hΦ)
      omega
  · rw [if_neg c, nA_cons]
    show bA O e ≤ bA O e + 0 ∧ 1 + (bA O e + 0) ≤ 1 + bA O e
    omega
/-- with arguments, and leaves: not fewer in the normal form -/
theorem cnt_E {O : Op} {Φ : Fl} (hw : wfF O Φ) : ∀ (r : Row), nA O r ≤ nA O (tE Φ r) ∧ r.length + nA O (tE Φ r) ≤ (tE Φ r).length + nA O r := by
  intro r
  induction r with
  | nil => exact ⟨Nat.le_refl _, Nat.le_refl _⟩
  | cons e r ih =>
    rw [show tE Φ (e :: r) = tX Φ e ++ tE Φ r from List.flatMap_cons, List.length_append, List.length_cons, nA_append, nA_cons]
    have := cnt_X (e := e) hw
    omega
theorem cnt_N {O : Op} {Φ : Fl} (hw : wfF O Φ) : ∀ (k : Nat) (r : Row), nA O r ≤ nA O (tN Φ k r) ∧ r.length + nA O (tN Φ k r) ≤ (tN Φ k r).length + nA O r := by
  intro k
  induction k with
  | zero => intro r; exact ⟨Nat.le_refl _, Nat.le_refl _⟩
  | succ k ih =>
    intro r
    have h1 := cnt_E hw r
    have h2 := ih (tE Φ r)
    show nA O r ≤ nA O (tN Φ k (tE Φ r)) ∧ r.length + nA O (tN Φ k (tE Φ r)) ≤ (tN Φ k (tE Φ r)).length + nA O r
    omega
theorem len_E {O : Op} {Φ : Fl} (hw : wfF O Φ) (r : Row) : r.length ≤ (tE Φ r).length := by
  have := cnt_E hw r
  omega
theorem len_N {O : Op} {Φ : Fl} (hw : wfF O Φ) (k : Nat) (r : Row) : r.length ≤ (tN Φ k r).length := by
  have := cnt_N hw k r
  omega
