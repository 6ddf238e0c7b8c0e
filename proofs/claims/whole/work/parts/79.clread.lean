/-! THE CLASS: READ -/
/-- how many are smaller -/
def bef (vs : List Int) (k : Nat) : Nat := ((List.range vs.length).filter (fun j => decide (vs.getD j 0 < vs.getD k 0))).length
/-- the parameter that stands at a place when the variables rise -/
def odr (vs : List Int) (i : Nat) : Nat := ((List.range vs.length).find? (fun k => bef vs k == i)).getD 0
/-- the order of the parameters in two bits each -/
def pk (vs : List Int) : Nat → Int
  | 0 => 0
  | k + 1 => bo (pk vs k) (bs k (2 * (bef vs k : Int)))
theorem pk_rng (vs : List Int) (n : Nat) : rng (pk vs n) := by
  cases n with
  | zero => exact ⟨by show (-2147483648 : Int) ≤ 0; decide, by show (0 : Int) < 2147483648; decide⟩
  | succ n => exact bo_rng _ _
def pk4 (n a b c d : Nat) : Int := (if 0 < n then (fun x => bo x (bs 0 (2 * (a : Int)))) else id) 0 |> (if 1 < n then (fun x => bo x (bs 1 (2 * (b : Int)))) else id) |> (if 2 < n then (fun x => bo x (bs 2 (2 * (c : Int)))) else id) |> (if 3 < n then (fun x => bo x (bs 3 (2 * (d : Int)))) else id)
theorem pk4_ok : ∀ (n : Fin 5) (a b c d : Fin 4), (a.val ≠ b.val ∨ n.val < 2) → (a.val ≠ c.val ∧ b.val ≠ c.val ∨ n.val < 3) → (a.val ≠ d.val ∧ b.val ≠ d.val ∧ c.val ≠ d.val ∨ n.val < 4) → (0 < n.val → bh (pk4 n.val a.val b.val c.val d.val) (2 * (a.val : Int)) % 4 = 0) ∧ (1 < n.val → bh (pk4 n.val a.val b.val c.val d.val) (2 * (b.val : Int)) % 4 = 1) ∧ (2 < n.val → bh (pk4 n.val a.val b.val c.val d.val) (2 * (c.val : Int)) % 4 = 2) ∧ (3 < n.val → bh (pk4 n.val a.val b.val c.val d.val) (2 * (d.val : Int)) % 4 = 3) := by
  decide +kernel
theorem filter_lt {α : Type} {P Q : α → Bool} : ∀ {l : List α}, (∀ x ∈ l, P x = true → Q x = true) → (∃ x ∈ l, Q x = true ∧ P x = false) → (l.filter P).length < (l.filter Q).length := by
  intro l
  induction l with
  | nil => rintro _ ⟨x, hx, -⟩; cases hx
  | cons a l ih =>
    intro h1 h2
    have h1' : ∀ x ∈ l, P x = true → Q x = true := fun x hx => h1 x (List.mem_cons_of_mem _ hx)
    have hle : ∀ m : List α, (∀ x ∈ m, P x = true → Q x = true) → (m.filter P).length ≤ (m.filter Q).length := by
      intro m
      induction m with
      | nil => intro _; exact Nat.le_refl _
      | cons b m ihm =>
        intro hm
        have i1 := ihm (fun x hx => hm x (List.mem_cons_of_mem _ hx))
        have i2 := hm b List.mem_cons_self
        rw [List.filter_cons, List.filter_cons]
        cases hp : P b with
        | true => rw [if_pos rfl, if_pos (i2 hp), List.length_cons, List.length_cons]; omega
        | false =>
          rw [if_neg Bool.false_ne_true]
          split
          · rw [List.length_cons]; omega
          · exact i1
    obtain ⟨x, hx, hq, hp⟩ := h2
    rw [List.filter_cons, List.filter_cons]
    rcases List.mem_cons.mp hx with z | z
    · rw [z] at hq hp
      rw [if_neg (by rw [hp]; exact Bool.false_ne_true), if_pos hq, List.length_cons]
      have := hle l h1'
      omega
    · have i1 := ih h1' ⟨x, z, hq, hp⟩
      have i2 := h1 a List.mem_cons_self
      cases hpa : P a with
      | true => rw [if_pos rfl, if_pos (i2 hpa), List.length_cons, List.length_cons]; omega
      | false =>
        rw [if_neg Bool.false_ne_true]
        split
        · rw [List.length_cons]; omega
        · exact i1
theorem bef_mono {vs : List Int} {j k : Nat} (hj : j < vs.length) (h : vs.getD j 0 < vs.getD k 0) : bef vs j < bef vs k := by
  unfold bef
  refine filter_lt (fun x _ hx => ?_) ⟨j, List.mem_range.mpr hj, decide_eq_true h, ?_⟩
  · rw [decide_eq_true_eq] at hx ⊢; omega
  · rw [decide_eq_false_iff_not]; omega
theorem bef_lt {vs : List Int} {k : Nat} (hk : k < vs.length) : bef vs k < vs.length := by
  have h : ((List.range vs.length).filter (fun j => decide (vs.getD j 0 < vs.getD k 0))).length < ((List.range vs.length).filter (fun _ => true)).length := filter_lt (fun _ _ _ => rfl) ⟨k, List.mem_range.mpr hk, rfl, by rw [decide_eq_false_iff_not]; omega⟩
  rw [List.filter_eq_self.mpr (fun _ _ => rfl), List.length_range] at h
  exact h
theorem getD_inj {vs : List Int} (h : vs.Nodup) {j k : Nat} (hj : j < vs.length) (hk : k < vs.length) (he : vs.getD j 0 = vs.getD k 0) : j = k := by
  have := tI_inj h (j := (j : Int)) (k := (k : Int)) (by omega) (by omega) (by omega) (by omega) (by unfold tI; rw [Int.toNat_natCast, Int.toNat_natCast]; exact he)
  omega
theorem bef_inj {vs : List Int} (h : vs.Nodup) {j k : Nat} (hj : j < vs.length) (hk : k < vs.length) (he : bef vs j = bef vs k) : j = k := by
  refine getD_inj h hj hk ?_
  have h1 : ¬ vs.getD j 0 < vs.getD k 0 := fun z => by have := bef_mono hj z; omega
  have h2 : ¬ vs.getD k 0 < vs.getD j 0 := fun z => by have := bef_mono hk z; omega
  omega
theorem odr_at {vs : List Int} (h : vs.Nodup) {k : Nat} (hk : k < vs.length) : odr vs (bef vs k) = k := by
  unfold odr
  cases hq : (List.range vs.length).find? (fun j => bef vs j == bef vs k) with
  | none =>
    have := List.find?_eq_none.mp hq k (List.mem_range.mpr hk)
    exact absurd (beq_self_eq_true _) this
  | some j =>
    have h1 := List.find?_some hq
    have h2 := List.mem_range.mp (List.mem_of_find?_eq_some hq)
    exact bef_inj h h2 hk (eq_of_beq h1)
theorem bef_sur {vs : List Int} (h : vs.Nodup) (h4 : vs.length ≤ 4) {i : Nat} (hi : i < vs.length) : ∃ k, k < vs.length ∧ bef vs k = i := by
  have l : ∀ k, k < vs.length → bef vs k < vs.length := fun k hk => bef_lt hk
  have n : ∀ j k, j < vs.length → k < vs.length → j ≠ k → bef vs j ≠ bef vs k := fun j k hj hk hne z => hne (bef_inj h hj hk z)
  apply Decidable.byContradiction
  intro hz
  have no : ∀ k, k < vs.length → bef vs k ≠ i := fun k hk z => hz ⟨k, hk, z⟩
  have c : vs.length = 0 ∨ vs.length = 1 ∨ vs.length = 2 ∨ vs.length = 3 ∨ vs.length = 4 := by omega
  rcases c with c | c | c | c | c
  · omega
  · have := l 0 (by omega); have := no 0 (by omega); omega
  · have := l 0 (by omega); have := no 0 (by omega); have := l 1 (by omega); have := no 1 (by omega); have := n 0 1 (by omega) (by omega) (by decide); omega
  · have := l 0 (by omega); have := no 0 (by omega); have := l 1 (by omega); have := no 1 (by omega); have := l 2 (by omega); have := no 2 (by omega); have := n 0 1 (by omega) (by omega) (by decide); have := n 0 2 (by omega) (by omega) (by decide); have := n 1 2 (by omega) (by omega) (by decide); omega
  · have := l 0 (by omega); have := no 0 (by omega); have := l 1 (by omega); have := no 1 (by omega); have := l 2 (by omega); have := no 2 (by omega); have := l 3 (by omega); have := no 3 (by omega); have := n 0 1 (by omega) (by omega) (by decide); have := n 0 2 (by omega) (by omega) (by decide); have := n 1 2 (by omega) (by omega) (by decide); have := n 0 3 (by omega) (by omega) (by decide); have := n 1 3 (by omega) (by omega) (by decide); have := n 2 3 (by omega) (by omega) (by decide); omega
theorem pk_at {vs : List Int} (h : vs.Nodup) (h4 : vs.length ≤ 4) {i : Nat} (hi : i < vs.length) : odr vs i < vs.length ∧ bh (pk vs vs.length) (2 * (i : Int)) % 4 = (odr vs i : Int) := by
  obtain ⟨k, hk, rfl⟩ := bef_sur h h4 hi
  rw [odr_at h hk]
  refine ⟨hk, ?_⟩
  have n : ∀ j k, j < vs.length → k < vs.length → j ≠ k → bef vs j ≠ bef vs k := fun j k hj hk hne z => hne (bef_inj h hj hk z)
  have l : ∀ k, k < vs.length → bef vs k < 4 := fun k hk => by have := bef_lt hk; omega
  have c : vs.length = 1 ∨ vs.length = 2 ∨ vs.length = 3 ∨ vs.length = 4 := by omega
  rcases c with c | c | c | c
  · have p := pk4_ok ⟨1, by decide⟩ ⟨bef vs 0, l 0 (by omega)⟩ ⟨0, by decide⟩ ⟨0, by decide⟩ ⟨0, by decide⟩ (Or.inr (by decide)) (Or.inr (by decide)) (Or.inr (by decide))
    have hk0 : k = 0 := by omega
    rw [c, hk0]
    exact p.1 (by decide)
  · have p := pk4_ok ⟨2, by decide⟩ ⟨bef vs 0, l 0 (by omega)⟩ ⟨bef vs 1, l 1 (by omega)⟩ ⟨0, by decide⟩ ⟨0, by decide⟩ (Or.inl (n 0 1 (by omega) (by omega) (by decide))) (Or.inr (by decide)) (Or.inr (by decide))
    have hk0 : k = 0 ∨ k = 1 := by omega
    rw [c]
    rcases hk0 with rfl | rfl
    · exact p.1 (by decide)
    · exact p.2.1 (by decide)
  · have p := pk4_ok ⟨3, by decide⟩ ⟨bef vs 0, l 0 (by omega)⟩ ⟨bef vs 1, l 1 (by omega)⟩ ⟨bef vs 2, l 2 (by omega)⟩ ⟨0, by decide⟩ (Or.inl (n 0 1 (by omega) (by omega) (by decide))) (Or.inl ⟨n 0 2 (by omega) (by omega) (by decide), n 1 2 (by omega) (by omega) (by decide)⟩) (Or.inr (by decide))
    have hk0 : k = 0 ∨ k = 1 ∨ k = 2 := by omega
    rw [c]
    rcases hk0 with rfl | rfl | rfl
    · exact p.1 (by decide)
    · exact p.2.1 (by decide)
    · exact p.2.2.1 (by decide)
  · have p := pk4_ok ⟨4, by decide⟩ ⟨bef vs 0, l 0 (by omega)⟩ ⟨bef vs 1, l 1 (by omega)⟩ ⟨bef vs 2, l 2 (by omega)⟩ ⟨bef vs 3, l 3 (by omega)⟩ (Or.inl (n 0 1 (by omega) (by omega) (by decide))) (Or.inl ⟨n 0 2 (by omega) (by omega) (by decide), n 1 2 (by omega) (by omega) (by decide)⟩) (Or.inl ⟨n 0 3 (by omega) (by omega) (by decide), n 1 3 (by omega) (by omega) (by decide), n 2 3 (by omega) (by omega) (by decide)⟩)
    have hk0 : k = 0 ∨ k = 1 ∨ k = 2 ∨ k = 3 := by omega
    rw [c]
    rcases hk0 with rfl | rfl | rfl | rfl
    · exact p.1 (by decide)
    · exact p.2.1 (by decide)
    · exact p.2.2.1 (by decide)
    · exact p.2.2.2 (by decide)
/-! what is read of a row: names of the holes that came up, the order of their parameters, how many they are, what was told -/
abbrev Rs : Type := (Int → Int) × (Int → List Nat) × Int × List Int
def ordL (vs : List Int) : List Nat := (List.range vs.length).map (odr vs)
/-- a hole comes up -/
def rsN (z : Rs) (h : Int) (vs : List Int) : Rs := if z.1 h = 0 then (up1 z.1 h (z.2.2.1 + 1), up1 z.2.1 h (ordL vs), z.2.2.1 + 1, z.2.2.2) else z
def rst (z : Rs) (e : AG) : Rs := if e.2.1 % 4 = 2 then
    ((rsN z (e.2.1 / 4) e.2.2).1, (rsN z (e.2.1 / 4) e.2.2).2.1, (rsN z (e.2.1 / 4) e.2.2).2.2.1, (rsN z (e.2.1 / 4) e.2.2).2.2.2 ++ (4 * ((rsN z (e.2.1 / 4) e.2.2).1 (e.2.1 / 4) - 1) + 2) :: ((rsN z (e.2.1 / 4) e.2.2).2.1 (e.2.1 / 4)).map (fun k => 4 * e.2.2.getD k 0))
  else (z.1, z.2.1, z.2.2.1, z.2.2.2 ++ [e.2.1])
def rs0 : Rs := (fun _ => 0, fun _ => [], 0, [])
def rsR (z : Rs) (r : Row) : Rs := r.foldl rst z
/-- good: as many names as holes, orders are of parameters -/
def rsk (pa : Int → Int) (z : Rs) : Prop := 0 ≤ z.2.2.1 ∧ (∀ h, 0 ≤ z.1 h ∧ z.1 h ≤ z.2.2.1) ∧ ∀ h, z.1 h ≠ 0 → ((z.2.1 h).length : Int) = pa h ∧ ∀ k ∈ z.2.1 h, (k : Int) < pa h
theorem ordL_len (vs : List Int) : (ordL vs).length = vs.length := by unfold ordL; rw [List.length_map, List.length_range]
theorem ordL_get {vs : List Int} {i k : Nat} (h : (ordL vs)[i]? = some k) : i < vs.length ∧ k = odr vs i := by
  unfold ordL at h
  rw [List.getElem?_map] at h
  cases hq : (List.range vs.length)[i]? with
  | none => rw [hq] at h; cases h
  | some j =>
    rw [hq] at h
    have hl := (List.getElem?_eq_some_iff.mp hq).1
    rw [List.length_range] at hl
    have hj : j = i := by
      rw [List.getElem?_range hl] at hq
      exact (Option.some.inj hq).symm
    exact ⟨hl, by rw [← hj]; exact (Option.some.inj h).symm⟩
theorem rsN_ok {pa : Int → Int} {z : Rs} {h : Int} {vs : List Int} (hn : vs.Nodup) (h4 : vs.length ≤ 4) (hl : (vs.length : Int) = pa h) (k : rsk pa z) : rsk pa (rsN z h vs) ∧ (rsN z h vs).1 h ≠ 0 := by
  obtain ⟨k1, k2, k3⟩ := k
  unfold rsN
  by_cases c : z.1 h = 0
  · rw [if_pos c]
    refine ⟨⟨by show 0 ≤ z.2.2.1 + 1; omega, fun g => ?_, fun g hg => ?_⟩, ?_⟩
    · show 0 ≤ up1 z.1 h (z.2.2.1 + 1) g ∧ up1 z.1 h (z.2.2.1 + 1) g ≤ z.2.2.1 + 1
      have := k2 g
      unfold up1
      split <;> omega
    · have hg' : up1 z.1 h (z.2.2.1 + 1) g ≠ 0 := hg
      show ((up1 z.2.1 h (ordL vs) g).length : Int) = pa g ∧ ∀ k ∈ up1 z.2.1 h (ordL vs) g, (k : Int) < pa g
      by_cases e : g = h
      · rw [e, up1_same, ordL_len]
        refine ⟨hl, fun k hk => ?_⟩
        obtain ⟨i, hi⟩ := List.mem_iff_getElem?.mp hk
        obtain ⟨i1, i2⟩ := ordL_get hi
        have := (pk_at hn h4 i1).1
        omega
      · rw [up1_ne e] at hg' ⊢
        exact k3 g hg'
    · show up1 z.1 h (z.2.2.1 + 1) h ≠ 0
      rw [up1_same]
      omega
  · rw [if_neg c]
    exact ⟨⟨k1, k2, k3⟩, c⟩
theorem rst_ok {pa : Int → Int} {z : Rs} {e : AG} (hn : e.2.2.Nodup) (h4 : e.2.2.length ≤ 4) (hl : e.2.1 % 4 = 2 → (e.2.2.length : Int) = pa (e.2.1 / 4)) (hv : e.2.1 % 4 ≠ 2 → e.2.2 = []) (k : rsk pa z) : rsk pa (rst z e) ∧ (rst z e).2.2.2.length = z.2.2.2.length + (1 + e.2.2.length) := by
  unfold rst
  by_cases c : e.2.1 % 4 = 2
  · rw [if_pos c]
    obtain ⟨k1, k2⟩ := rsN_ok hn h4 (hl c) k
    refine ⟨k1, ?_⟩
    show ((rsN z (e.2.1 / 4) e.2.2).2.2.2 ++ _ :: _).length = _
    have h5 := (k1.2.2 _ k2).1
    have h6 : (rsN z (e.2.1 / 4) e.2.2).2.2.2 = z.2.2.2 := by unfold rsN; split <;> rfl
    rw [List.length_append, List.length_cons, List.length_map, h6]
    have := hl c
    omega
  · rw [if_neg c, hv c]
    exact ⟨k, by show (z.2.2.2 ++ [e.2.1]).length = _; rw [List.length_append]; rfl⟩
