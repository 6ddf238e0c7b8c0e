/-! ROWS IN THE CELLS, AND THE CURSOR -/
def cseg (σ : SS) : Int → Row → Int → Prop
  | i, [], j => i = j
  | i, e :: r, j => cA σ i = e.2.1 ∧ cB σ i = e.1 ∧ (∀ (k : Nat) (v : Int), e.2.2[k]? = some v → cA σ (i + 1 + k) = 4 * v) ∧ cseg σ (i + 1 + e.2.2.length) r j
theorem cseg_le {σ : SS} : ∀ {r : Row} {i j : Int}, cseg σ i r j → j = i + il r := by
  intro r
  induction r with
  | nil => intro i j h; rw [show il [] = 0 from rfl]; have : i = j := h; omega
  | cons e r ih =>
    intro i j h
    have h1 := ih h.2.2.2
    rw [il_cons]
    omega
theorem il_pos {r : Row} (h : r ≠ []) : 0 < il r := by
  cases r with
  | nil => exact absurd rfl h
  | cons e r => rw [il_cons]; omega
theorem cseg_fx {X : Nat → Prop} {σ τ : SS} (h : fx X σ τ) (h1 : ¬ X 1) (h2 : ¬ X 2) (h3 : ¬ X 3) : ∀ {r : Row} {i j : Int}, cseg σ i r j → cseg τ i r j := by
  intro r
  induction r with
  | nil => intro i j k; exact k
  | cons e r ih =>
    intro i j k
    obtain ⟨a, b, c, d⟩ := k
    exact ⟨by rw [fx_cA h h1 h2]; exact a, by rw [fx_cB h h1 h3]; exact b, fun q v hv => by rw [fx_cA h h1 h2]; exact c q v hv, ih d⟩
theorem cseg_append {σ : SS} : ∀ {a b : Row} {i j k : Int}, cseg σ i a j → cseg σ j b k → cseg σ i (a ++ b) k := by
  intro a
  induction a with
  | nil => intro b i j k h1 h2; have : i = j := h1; rw [this]; exact h2
  | cons e a ih =>
    intro b i j k h1 h2
    obtain ⟨p, q, r, s⟩ := h1
    exact ⟨p, q, r, ih s h2⟩
/-- holes as the class holds them: pa is -1 where there is no such hole -/
def cHol (σ : SS) (pa : Int → Int) (Φ : Fl) : Prop := ∀ h, 0 ≤ pa h → 0 ≤ h ∧ h < 324 ∧ gA σ 8 324 h = pa h ∧ (Φ h = none → gA σ 9 324 h = 0) ∧ ∀ F, Φ h = some F → 0 < gA σ 9 324 h ∧ cseg σ (gA σ 9 324 h) F (gA σ 10 324 h) ∧ gA σ 10 324 h ≤ σ.1 1 2
theorem cHol_fx {X : Nat → Prop} {σ τ : SS} {pa : Int → Int} {Φ : Fl} (h : fx X σ τ) (h1 : ¬ X 1) (h2 : ¬ X 2) (h3 : ¬ X 3) (h8 : ¬ X 8) (h9 : ¬ X 9) (h10 : ¬ X 10) (k : cHol σ pa Φ) : cHol τ pa Φ := by
  intro q hq
  obtain ⟨a, b, c, d, e⟩ := k q hq
  rw [fx_g h h8, fx_g h h9, fx_g h h10, fx_f h h1]
  exact ⟨a, b, c, d, fun F hF => ⟨(e F hF).1, cseg_fx h h1 h2 h3 (e F hF).2.1, (e F hF).2.2⟩⟩
/-- all of a cursor's own places -/
def cP (p : Nat) : Nat → Prop := fun a => p ≤ a ∧ a ≤ p + 5
theorem cur_ge {p : Nat} (h : cur p) : 30 ≤ p ∧ p ≤ 45 := by unfold cur at h; omega
theorem cP_lo {p a : Nat} (h : cur p) (ha : a < 30) : ¬ cP p a := fun z => by have := cur_ge h; have := z.1; omega
/-- a frame: what is left of a row, what is bound above it, what stands for its free variables, whose filling it is -/
abbrev Fr : Type := Row × Int × (Int → Int) × Int
def ahd (Φ : Fl) (R : Nat) : List Fr → Row
  | [] => []
  | f :: fs => (tN Φ R f.1).map (tS f.2.1 f.2.2.1) ++ ahd Φ R fs
def frm (σ : SS) (p : Nat) (pa : Int → Int) (j : Nat) (f : Fr) : Prop := (cseg σ (gA σ (p + 1) 64 j) f.1 (gA σ (p + 2) 64 j) ∧ 0 ≤ gA σ (p + 1) 64 j ∧ gA σ (p + 2) 64 j ≤ σ.1 1 2) ∧ gA σ (p + 3) 64 j = f.2.1 ∧ (0 < j → ∀ k : Int, 0 ≤ k → k < pa f.2.2.2 → gA σ (p + 4) 256 ((j : Int) * 4 + k) = f.2.2.1 k)
def frs (σ : SS) (p : Nat) (pa : Int → Int) : List Fr → Prop
  | [] => True
  | f :: fs => frm σ p pa fs.length f ∧ frs σ p pa fs
/-- frames that are good: N variables are free in the whole -/
def nfr (pa : Int → Int) (N : Int) (fs : List Fr) (h : Int) : Int := if fs = [] then N else pa h
/-- a hole within a hole's filling, some steps down -/
def dsc (Φ : Fl) : Nat → Int → Int → Prop
  | 0, g, h => g = h
  | n + 1, g, h => ∃ F e, Φ g = some F ∧ e ∈ F ∧ e.2.1 % 4 = 2 ∧ dsc Φ n (e.2.1 / 4) h
def chn (Φ : Fl) (h : Int) : List Fr → Prop
  | [] => True
  | [_] => True
  | f :: _ :: _ => ∃ pre e n, Φ f.2.2.2 = some (pre ++ e :: f.1) ∧ f.1 ≠ [] ∧ e.2.1 % 4 = 2 ∧ dsc Φ n (e.2.1 / 4) h
def fok (pa : Int → Int) (Φ : Fl) (N : Int) : List Fr → Prop
  | [] => True
  | f :: fs => okR pa (nfr pa N fs f.2.2.2) f.1 ∧ 0 ≤ f.2.1 ∧ (∀ k, 0 ≤ k → k < nfr pa N fs f.2.2.2 → 0 ≤ f.2.2.1 k ∧ f.2.2.1 k < f.2.1 + N) ∧ (∀ j k, 0 ≤ j → j < nfr pa N fs f.2.2.2 → 0 ≤ k → k < nfr pa N fs f.2.2.2 → f.2.2.1 j = f.2.2.1 k → j = k) ∧ (fs = [] → f.2.1 = 0 ∧ f.2.2.1 = fun x => x) ∧ (fs ≠ [] → 0 ≤ pa f.2.2.2 ∧ ∃ dn, Φ f.2.2.2 = some (dn ++ f.1)) ∧ chn Φ f.2.2.2 fs ∧ fok pa Φ N fs
/-- ended frames are left, the lowest aside -/
def lve : List Fr → List Fr
  | [] => []
  | [f] => [f]
  | f :: g :: fs => if f.1.isEmpty then lve (g :: fs) else f :: g :: fs
theorem ahd_lve (Φ : Fl) (R : Nat) : ∀ fs : List Fr, ahd Φ R (lve fs) = ahd Φ R fs := by
  intro fs
  induction fs with
  | nil => rfl
  | cons f fs ih =>
    cases fs with
    | nil => rfl
    | cons g fs =>
      unfold lve
      by_cases c : f.1.isEmpty = true
      · rw [if_pos c, ih]
        show _ = (tN Φ R f.1).map (tS f.2.1 f.2.2.1) ++ ahd Φ R (g :: fs)
        rw [List.isEmpty_iff.mp c, tN_nil]
        rfl
      · rw [if_neg c]
theorem lve_ne {fs : List Fr} (h : fs ≠ []) : lve fs ≠ [] := by
  induction fs with
  | nil => exact absurd rfl h
  | cons f fs ih =>
    cases fs with
    | nil => exact h
    | cons g fs =>
      unfold lve
      split
      · exact ih (by simp)
      · simp
theorem fok_lve {pa : Int → Int} {Φ : Fl} {N : Int} : ∀ {fs : List Fr}, fok pa Φ N fs → fok pa Φ N (lve fs) := by
  intro fs
  induction fs with
  | nil => intro h; exact h
  | cons f fs ih =>
    intro h
    cases fs with
    | nil => exact h
    | cons g fs =>
      unfold lve
      split
      · exact ih h.2.2.2.2.2.2.2
      · exact h
/-- behind leaving: the top has something left, or it is the lowest -/
theorem lve_top : ∀ (fs : List Fr), match lve fs with | [] => fs = [] | f :: gs => f.1 ≠ [] ∨ gs = [] := by
  intro fs
  induction fs with
  | nil => rfl
  | cons f fs ih =>
    cases fs with
    | nil => exact Or.inr rfl
    | cons g fs =>
      unfold lve
      by_cases c : f.1.isEmpty = true
      · rw [if_pos c]
        cases h : lve (g :: fs) with
        | nil => rw [h] at ih; cases ih
        | cons x xs => rw [h] at ih; exact ih
      · rw [if_neg c]
        exact Or.inl (fun z => c (by rw [z]; rfl))
theorem frs_fx {X : Nat → Prop} {σ τ : SS} {p : Nat} {pa : Int → Int} (h : fx X σ τ) (h0 : ∀ a, a < 4 → ¬ X a) (h1 : ∀ a, p < a → a ≤ p + 4 → ¬ X a) : ∀ {fs : List Fr}, frs σ p pa fs → frs τ p pa fs := by
  intro fs
  induction fs with
  | nil => intro _; exact True.intro
  | cons f fs ih =>
    intro k
    obtain ⟨⟨a, b, c⟩, d⟩ := k
    refine ⟨⟨?_, ?_, ?_⟩, ih d⟩
    · rw [fx_g h (h1 _ (by omega) (by omega)), fx_g h (h1 _ (by omega) (by omega)), fx_f h (h0 1 (by omega))]
      exact ⟨cseg_fx h (h0 _ (by omega)) (h0 _ (by omega)) (h0 _ (by omega)) a.1, a.2⟩
    · rw [fx_g h (h1 _ (by omega) (by omega))]; exact b
    · intro hj q h2 h3
      rw [fx_g h (h1 _ (by omega) (by omega))]; exact c hj q h2 h3
def jst (p : Nat) : Nat → Prop := fun a => a = p
theorem s_leave {fu p : Nat} {pa : Int → Int} : ∀ (fs : List Fr) (n : Nat) (σ : SS), fs ≠ [] → fs.length ≤ n → fs.length ≤ 64 → σ.1 p 6 = (fs.length : Int) - 1 → 4 ≤ p → frs σ p pa fs →
    Wp (l_U_leaveEnded_0 fu p n σ) (fun _ τ => fx (jst p) σ τ ∧ τ.1 p 6 = ((lve fs).length : Int) - 1 ∧ frs τ p pa (lve fs) ∧ ∀ b, b ≠ 6 → τ.1 p b = σ.1 p b) := by
  intro fs
  induction fs with
  | nil => intro n σ h; exact absurd rfl h
  | cons f fs ih =>
    intro n σ _ hn h64 ht hp hfs
    cases n with
    | zero => simp at hn
    | succ n =>
      rw [l_U_leaveEnded_0]
      cases fs with
      | nil =>
        refine wp_f (by rw [ht]; show ¬ (0 : Int) < ((0 + 1 : Nat) : Int) - 1; decide) (wp_some ⟨fx_rf, ht, hfs, fun _ _ => rfl⟩)
      | cons g fs =>
        have hl : ((f :: g :: fs).length : Int) = (fs.length : Int) + 2 := by rw [List.length_cons, List.length_cons]; omega
        rw [hl] at ht
        have hle : (g :: fs).length = fs.length + 1 := rfl
        refine wp_t (by omega) ?_
        obtain ⟨⟨a, b, c⟩, d⟩ := id hfs
        have e1 : ((g :: fs).length : Int) = σ.1 p 6 := by rw [hle]; omega
        rw [e1] at a
        have h1 := cseg_le a.1
        by_cases ce : f.1 = []
        · have h2 : il f.1 = 0 := by rw [ce]; rfl
          refine wp_f (by omega) (wp_ck (by rw [List.length_cons, List.length_cons] at h64; omega) (wp_lx ?_))
          have hfx : fx (jst p) σ (sF σ p 6 (σ.1 p 6 - 1)) := fx_F fx_rf rfl
          have h3 := ih n (sF σ p 6 (σ.1 p 6 - 1)) (by simp) (by rw [List.length_cons] at hn; omega) (by rw [List.length_cons] at h64; omega) (by rw [sF_same, hle]; omega) hp (frs_fx hfx (fun a ha z => by have : a = p := z; omega) (fun a ha _ z => by have : a = p := z; omega) d)
          have e2 : lve (f :: g :: fs) = lve (g :: fs) := by
            show (if f.1.isEmpty then lve (g :: fs) else f :: g :: fs) = _
            rw [if_pos (by rw [ce]; rfl)]
          rw [e2]
          refine wp_mono h3 (fun _ τ k => ⟨fx_tr hfx k.1, k.2.1, k.2.2.1, fun b hb => ?_⟩)
          rw [k.2.2.2 b hb]
          exact sF_other (fun z => hb z.2)
        · have h2 := il_pos ce
          have e2 : lve (f :: g :: fs) = f :: g :: fs := by
            show (if f.1.isEmpty then lve (g :: fs) else f :: g :: fs) = _
            rw [if_neg (fun z => ce (List.isEmpty_iff.mp z))]
          rw [e2]
          refine wp_t (by omega) (wp_some ⟨fx_rf, by rw [hl]; omega, hfs, fun _ _ => rfl⟩)
