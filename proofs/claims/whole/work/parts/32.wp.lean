/-! WHAT A MODEL ANSWERS -/
def Wp {α : Type} (m : Option (α × SS)) (P : α → SS → Prop) : Prop := ∃ a σ, m = some (a, σ) ∧ P a σ
theorem wp_some {α : Type} {P : α → SS → Prop} {a : α} {σ : SS} (h : P a σ) : Wp (some (a, σ)) P := ⟨a, σ, rfl, h⟩
theorem wp_ck {α : Type} {P : α → SS → Prop} {Q : Prop} [Decidable Q] {m : Option (α × SS)} (hQ : Q) (h : Wp m P) : Wp (ck Q m) P := by
  unfold ck
  rw [if_pos hQ]
  exact h
theorem wp_lb {α β : Type} {P : α → SS → Prop} {x : β} {f : β → Option (α × SS)} (h : ∀ y, y = x → Wp (f y) P) : Wp (lb x f) P := h x rfl
theorem wp_lx {α β : Type} {P : α → SS → Prop} {x : β} {f : β → Option (α × SS)} (h : Wp (f x) P) : Wp (lb x f) P := h
theorem wp_t {α : Type} {P : α → SS → Prop} {Q : Prop} [Decidable Q] {m1 m2 : Option (α × SS)} (hQ : Q) (h : Wp m1 P) : Wp (if Q then m1 else m2) P := by rw [if_pos hQ]; exact h
theorem wp_f {α : Type} {P : α → SS → Prop} {Q : Prop} [Decidable Q] {m1 m2 : Option (α × SS)} (hQ : ¬ Q) (h : Wp m2 P) : Wp (if Q then m1 else m2) P := by rw [if_neg hQ]; exact h
theorem wp_if {α : Type} {P : α → SS → Prop} {Q : Prop} [Decidable Q] {m1 m2 : Option (α × SS)} (h1 : Q → Wp m1 P) (h2 : ¬ Q → Wp m2 P) : Wp (if Q then m1 else m2) P := by
  by_cases c : Q
  · exact wp_t c (h1 c)
  · exact wp_f c (h2 c)
theorem wp_sq {α β : Type} {P : α → SS → Prop} {R : β → SS → Prop} {m : Option (β × SS)} {k : β → SS → Option (α × SS)} (h : Wp m R) (h2 : ∀ a σ, R a σ → Wp (k a σ) P) : Wp (sq m k) P := by
  obtain ⟨a, σ, rfl, hR⟩ := h
  exact h2 a σ hR
theorem wp_sr {α β : Type} {P : α → SS → Prop} {R : α ⊕ β → SS → Prop} {m : Option ((α ⊕ β) × SS)} {k : β → SS → Option (α × SS)} (h : Wp m R) (h1 : ∀ a σ, R (.inl a) σ → P a σ) (h2 : ∀ b σ, R (.inr b) σ → Wp (k b σ) P) : Wp (sr m k) P := by
  obtain ⟨a, σ, rfl, hR⟩ := h
  cases a with
  | inl a => exact ⟨a, σ, rfl, h1 a σ hR⟩
  | inr b => exact h2 b σ hR
theorem wp_srr {α β γ : Type} {P : α ⊕ γ → SS → Prop} {R : α ⊕ β → SS → Prop} {m : Option ((α ⊕ β) × SS)} {k : β → SS → Option ((α ⊕ γ) × SS)} (h : Wp m R) (h1 : ∀ a σ, R (.inl a) σ → P (.inl a) σ) (h2 : ∀ b σ, R (.inr b) σ → Wp (k b σ) P) : Wp (srr m k) P := by
  obtain ⟨a, σ, rfl, hR⟩ := h
  cases a with
  | inl a => exact ⟨.inl a, σ, rfl, h1 a σ hR⟩
  | inr b => exact h2 b σ hR
theorem wp_sx {α β : Type} {P : α ⊕ String → SS → Prop} {R : β ⊕ String → SS → Prop} {m : Option ((β ⊕ String) × SS)} {k : β → SS → Option ((α ⊕ String) × SS)} (h : Wp m R) (h1 : ∀ E σ, R (.inr E) σ → P (.inr E) σ) (h2 : ∀ b σ, R (.inl b) σ → Wp (k b σ) P) : Wp (sx m k) P := by
  obtain ⟨a, σ, rfl, hR⟩ := h
  cases a with
  | inl b => exact h2 b σ hR
  | inr E => exact ⟨.inr E, σ, rfl, h1 E σ hR⟩
theorem wp_mono {α : Type} {P R : α → SS → Prop} {m : Option (α × SS)} (h : Wp m P) (k : ∀ a σ, P a σ → R a σ) : Wp m R := by
  obtain ⟨a, σ, e, hP⟩ := h
  exact ⟨a, σ, e, k a σ hP⟩
/-- only places of X are changed -/
def fx (X : Nat → Prop) (σ τ : SS) : Prop := (∀ a, ¬ X a → (∀ b, τ.1 a b = σ.1 a b) ∧ ∀ i, τ.2.1 a i = σ.2.1 a i) ∧ τ.2.2 = σ.2.2
theorem fx_rf {X : Nat → Prop} {σ : SS} : fx X σ σ := ⟨fun _ _ => ⟨fun _ => rfl, fun _ => rfl⟩, rfl⟩
theorem fx_tr {X : Nat → Prop} {σ τ υ : SS} (h : fx X σ τ) (k : fx X τ υ) : fx X σ υ := ⟨fun a ha => ⟨fun b => by rw [(k.1 a ha).1, (h.1 a ha).1], fun i => by rw [(k.1 a ha).2, (h.1 a ha).2]⟩, by rw [k.2, h.2]⟩
theorem fx_mono {X Y : Nat → Prop} {σ τ : SS} (h : fx X σ τ) (k : ∀ a, X a → Y a) : fx Y σ τ := ⟨fun a ha => h.1 a (fun z => ha (k a z)), h.2⟩
theorem fx_F {X : Nat → Prop} {σ τ : SS} {p k : Nat} {v : Int} (h : fx X σ τ) (hp : X p) : fx X σ (sF τ p k v) := fx_tr h ⟨fun a ha => ⟨fun b => sF_other (fun z => ha (z.1 ▸ hp)), fun _ => rfl⟩, rfl⟩
theorem fx_A {X : Nat → Prop} {σ τ : SS} {p : Nat} {i v : Int} (h : fx X σ τ) (hp : X p) : fx X σ (sA τ p i v) := fx_tr h ⟨fun a ha => ⟨fun _ => rfl, fun j => sA_other (fun z => ha (z.1 ▸ hp))⟩, rfl⟩
theorem fx_S {X : Nat → Prop} {σ τ : SS} {p n : Nat} {i v : Int} (h : fx X σ τ) (hp : X p) : fx X σ (gS τ p n i v) := by
  unfold gS
  split
  · exact fx_A h hp
  · exact h
theorem fx_f {X : Nat → Prop} {σ τ : SS} (h : fx X σ τ) {a b : Nat} (ha : ¬ X a) : τ.1 a b = σ.1 a b := (h.1 a ha).1 b
theorem fx_a {X : Nat → Prop} {σ τ : SS} (h : fx X σ τ) {a : Nat} {i : Int} (ha : ¬ X a) : τ.2.1 a i = σ.2.1 a i := (h.1 a ha).2 i
theorem fx_g {X : Nat → Prop} {σ τ : SS} (h : fx X σ τ) {a n : Nat} {i : Int} (ha : ¬ X a) : gA τ a n i = gA σ a n i := by
  unfold gA
  rw [fx_a h ha]
theorem fx_cA {X : Nat → Prop} {σ τ : SS} (h : fx X σ τ) (h1 : ¬ X 1) (h2 : ¬ X 2) (i : Int) : cA τ i = cA σ i := by
  unfold cA
  rw [fx_f h h1, fx_g h h2]
theorem fx_cB {X : Nat → Prop} {σ τ : SS} (h : fx X σ τ) (h1 : ¬ X 1) (h2 : ¬ X 3) (i : Int) : cB τ i = cB σ i := by
  unfold cB
  rw [fx_f h h1, fx_g h h2]
/-! reading what was written -/
theorem gA_F (σ : SS) (p k : Nat) (v : Int) (q n : Nat) (j : Int) : gA (sF σ p k v) q n j = gA σ q n j := rfl
theorem gA_S_same {σ : SS} {p n : Nat} {i v : Int} (h0 : 0 ≤ i) (h : i < n) : gA (gS σ p n i v) p n i = v := by
  unfold gS gA
  rw [if_pos ⟨h0, h⟩, if_pos ⟨h0, h⟩]
  exact sA_same _ _ _ _
theorem gA_S_ne {σ : SS} {p n q m : Nat} {i v j : Int} (h : ¬ (q = p ∧ j = i)) : gA (gS σ p n i v) q m j = gA σ q m j := by
  unfold gS
  split
  · unfold gA
    split
    · exact sA_other h
    · rfl
  · rfl
theorem gA_in {σ : SS} {p n : Nat} {i : Int} (h0 : 0 ≤ i) (h : i < n) : gA σ p n i = σ.2.1 p i := if_pos ⟨h0, h⟩
theorem sF_f {σ : SS} {p k q j : Nat} {v : Int} (h : ¬ (q = p ∧ j = k)) : (sF σ p k v).1 q j = σ.1 q j := sF_other h
theorem gS_f' (σ : SS) (p n : Nat) (i v : Int) (q j : Nat) : (gS σ p n i v).1 q j = σ.1 q j := by rw [gS_f]
