/-! THE CURSOR'S OTHER METHODS -/
theorem s_advance {O : Op} {fu p : Nat} {pa : Int → Int} {Φ : Fl} {R : Nat} {N : Int} {fs : List Fr} {σ : SS} (hc : cur p) (hfu : 100 ≤ fu) (hR : R < fu) (hR2 : R ≤ 1000) (hh : hOk O pa Φ R) (hN : 0 ≤ N) (hN2 : N ≤ 1000) (hH : cHol σ pa Φ) (hT : σ.1 1 2 ≤ 1000000) (hcst : cst σ p pa Φ N fs) (hB : ∀ e ∈ ahd Φ R fs, e.1 ≤ 10000) :
    Wp (f_U_advance fu p σ) (fun x τ => adP p pa Φ R N σ (ahd Φ R fs) x τ) := by
  obtain ⟨rk, hrk, hlt⟩ := hh.2.2.1
  unfold f_U_advance
  refine wp_sr (s_advl hc hfu hh hrk hN hN2 R fu 0 fs σ hR (by omega) (by omega) (fun _ _ e _ _ _ _ => hlt _) hH hT hcst hB) ?_ ?_
  · rintro a τ ⟨y, hy, h⟩
    cases hy
    exact h
  · rintro b τ ⟨y, hy, h⟩
    cases hy
theorem s_startAt {p : Nat} {pa : Int → Int} {Φ : Fl} {N : Int} {r : Row} {i j : Int} {σ : SS} (hc : cur p) (hr : cseg σ i r j) (hi : 0 ≤ i) (hj : j ≤ σ.1 1 2) (hok : okR pa N r) :
    Wp (f_U_startAt p i j σ) (fun _ τ => fx (cP p) σ τ ∧ cst τ p pa Φ N [(r, 0, fun x => x, -1)]) := by
  have hcg := cur_ge hc
  unfold f_U_startAt
  refine wp_lb (fun σ2 e2 => wp_lb (fun σ6 e6 => wp_lb (fun σ10 e10 => wp_lb (fun σ14 e14 => wp_some ?_))))
  have hx : fx (cP p) σ σ14 := by
    rw [e14, e10, e6, e2]
    exact fx_S (fx_S (fx_S (fx_F fx_rf (by unfold cP; omega)) (by unfold cP; omega)) (by unfold cP; omega)) (by unfold cP; omega)
  refine ⟨hx, by simp, Nat.le_of_ble_eq_true rfl, ?_, ?_, ?_⟩
  · rw [e14, gS_f', e10, gS_f', e6, gS_f', e2, sF_same]
    rfl
  · refine ⟨⟨⟨?_, ?_, ?_⟩, ?_, ?_⟩, True.intro⟩
    · show cseg σ14 (gA σ14 (p + 1) 64 0) r (gA σ14 (p + 2) 64 0)
      rw [e14, gA_S_ne (by omega), gA_S_ne (by omega), ← e14, e10, gA_S_ne (by omega), gA_S_same (by omega) (by omega), e6, gA_S_same (by omega) (by omega)]
      exact cseg_fx hx (cP_lo hc (by omega)) (cP_lo hc (by omega)) (cP_lo hc (by omega)) hr
    · show 0 ≤ gA σ14 (p + 1) 64 0
      rw [e14, gA_S_ne (by omega), e10, gA_S_ne (by omega), e6, gA_S_same (by omega) (by omega)]
      exact hi
    · show gA σ14 (p + 2) 64 0 ≤ σ14.1 1 2
      rw [fx_f hx (cP_lo hc (by omega)), e14, gA_S_ne (by omega), e10, gA_S_same (by omega) (by omega)]
      exact hj
    · show gA σ14 (p + 3) 64 0 = 0
      rw [e14, gA_S_same (by omega) (by omega)]
    · intro h0; exact absurd h0 (Nat.lt_irrefl 0)
  · refine ⟨by rw [show nfr pa N [] (-1) = N from rfl]; exact hok, Int.le_refl 0, fun k h0 h1 => ⟨h0, by have : k < N := h1; show k < 0 + N; omega⟩, fun j k _ _ _ _ h => h, fun _ => ⟨rfl, rfl⟩, fun z => absurd rfl z, True.intro, True.intro⟩
theorem ahd_one (Φ : Fl) (R : Nat) (r : Row) (h : Int) : ahd Φ R [(r, 0, fun x => x, h)] = tN Φ R r := by
  show (tN Φ R r).map (tS 0 (fun x => x)) ++ [] = _
  rw [List.append_nil, show tS 0 (fun x => x) = id from funext tS_id, List.map_id]
/-- where a value stands first -/
def fnd : List Int → Int → Int
  | [], _ => -1
  | x :: xs, v => if x = v then 0 else if fnd xs v < 0 then -1 else fnd xs v + 1
theorem fnd_lo (vs : List Int) (v : Int) : -1 ≤ fnd vs v ∧ fnd vs v < vs.length := by
  induction vs with
  | nil => exact ⟨Int.le_refl _, by show (-1 : Int) < 0; omega⟩
  | cons x xs ih =>
    unfold fnd
    rw [List.length_cons]
    split
    · omega
    · split <;> omega
theorem fnd_at {v : Int} : ∀ {vs : List Int} {i : Nat}, (∀ k, k < i → vs[k]? ≠ some v) → vs[i]? = some v → fnd vs v = i := by
  intro vs
  induction vs with
  | nil => intro i _ h; cases h
  | cons x xs ih =>
    intro i h1 h2
    cases i with
    | zero => cases h2; unfold fnd; rw [if_pos rfl]; rfl
    | succ i =>
      have h3 := ih (i := i) (fun k hk => by have := h1 (k + 1) (by omega); exact this) h2
      have h4 : x ≠ v := fun z => h1 0 (by omega) (by rw [← z]; rfl)
      unfold fnd
      rw [if_neg h4, h3, if_neg (by omega)]
      omega
theorem fnd_no {v : Int} : ∀ {vs : List Int}, (∀ k : Nat, vs[k]? ≠ some v) → fnd vs v = -1 := by
  intro vs
  induction vs with
  | nil => intro _; rfl
  | cons x xs ih =>
    intro h1
    have h3 := ih (fun k => by have := h1 (k + 1); exact this)
    have h4 : x ≠ v := fun z => h1 0 (by rw [← z]; rfl)
    unfold fnd
    rw [if_neg h4, h3, if_pos (by omega)]
theorem fnd_get {v : Int} : ∀ {vs : List Int}, 0 ≤ fnd vs v → vs[(fnd vs v).toNat]? = some v := by
  intro vs
  induction vs with
  | nil => intro h; exact absurd (show (0 : Int) ≤ -1 from h) (by decide)
  | cons x xs ih =>
    intro h
    unfold fnd at h ⊢
    split
    · rename_i c; rw [c]; rfl
    · rename_i c
      rw [if_neg c] at h
      split
      · rename_i c2; rw [if_pos c2] at h; exact absurd h (by decide)
      · rename_i c2
        have h5 := ih (by omega)
        rw [show (fnd xs v + 1).toNat = (fnd xs v).toNat + 1 by omega]
        exact h5
theorem fnd_neg {v : Int} {vs : List Int} : fnd vs v < 0 ↔ v ∉ vs := by
  constructor
  · intro h hm
    induction vs with
    | nil => cases hm
    | cons x xs ih =>
      unfold fnd at h
      split at h
      · omega
      · rename_i c
        rcases List.mem_cons.mp hm with q | q
        · exact c q.symm
        · split at h
          · rename_i c2; exact ih c2 q
          · omega
  · intro h
    rw [fnd_no (fun k hk => h (List.mem_of_getElem? hk))]
    decide
theorem s_paramFor {fu p : Nat} {σ : SS} {vs : List Int} {v : Int} (hfu : 10 ≤ fu) (h4 : vs.length ≤ 4) (hcnt : σ.1 p 11 = (vs.length : Int)) (hvar : ∀ (k : Nat) (v : Int), vs[k]? = some v → gA σ (p + 5) 4 k = v) : f_U_parameterFor fu p v σ = some (fnd vs v, σ) := by
  have key : ∀ (m i n : Nat), m + i = vs.length → m < n → (∀ k, k < i → vs[k]? ≠ some v) → l_U_parameterFor_2 fu p n v i σ = some (if 0 ≤ fnd vs v then .inl (fnd vs v) else .inr (), σ) := by
    intro m
    induction m with
    | zero =>
      intro i n h1 h2 h3
      cases n with
      | zero => omega
      | succ n =>
        rw [l_U_parameterFor_2, if_neg (by rw [hcnt]; omega)]
        have h5 : fnd vs v = -1 := fnd_no (fun k hk => by
          have := (List.getElem?_eq_some_iff.mp hk).1
          exact h3 k (by omega) hk)
        rw [h5]
        rfl
    | succ m ih =>
      intro i n h1 h2 h3
      cases n with
      | zero => omega
      | succ n =>
        have hi : i < vs.length := by omega
        have hv : vs[i]? = some vs[i] := List.getElem?_eq_getElem hi
        rw [l_U_parameterFor_2, if_pos (by rw [hcnt]; omega), hvar i _ hv]
        by_cases c : vs[i] = v
        · rw [if_pos c]
          have h5 := fnd_at h3 (by rw [hv, c])
          rw [h5, if_pos (by omega)]
        · rw [if_neg c, ck_t (by omega), show (i : Int) + 1 = ((i + 1 : Nat) : Int) by omega]
          refine ih (i + 1) n (by omega) (by omega) (fun k hk => ?_)
          by_cases q : k = i
          · subst q; rw [hv]; intro z; exact c (Option.some.inj z)
          · exact h3 k (by omega)
  unfold f_U_parameterFor
  have h0 := key vs.length 0 fu (by omega) (by omega) (fun k hk => absurd hk (Nat.not_lt_zero k))
  rw [show ((0 : Nat) : Int) = 0 from rfl] at h0
  rw [h0]
  by_cases c : 0 ≤ fnd vs v
  · rw [if_pos c]; rfl
  · rw [if_neg c]
    have := (fnd_lo vs v).1
    have e : fnd vs v = -1 := by omega
    rw [e]
    rfl
theorem s_standsAs {fu p q : Nat} {σ : SS} {e e' : AG} (hfu : 10 ≤ fu) (h4 : e.2.2.length ≤ 4) (h1 : grp σ p e) (h2 : grp σ q e') (hl : e.2.1 = e'.2.1 → e.2.2.length = e'.2.2.length) : f_U_standsAs fu p q σ = some ((if e.2.1 = e'.2.1 ∧ e.2.2 = e'.2.2 then 1 else 0), σ) := by
  obtain ⟨a1, a2, a3, a4, a5⟩ := h1
  obtain ⟨b1, b2, b3, b4, b5⟩ := h2
  unfold f_U_standsAs
  rw [a1, b1, a2, b2]
  by_cases c : e.2.1 = e'.2.1
  · rw [c, if_pos rfl, if_pos rfl]
    have hll := hl c
    have key : ∀ (m i n : Nat), m + i = e.2.2.length → m < n → (∀ k, k < i → e.2.2[k]? = e'.2.2[k]?) → l_U_standsAs_26 fu p q n i σ = some (if e.2.2 = e'.2.2 then .inr () else .inl 0, σ) := by
      intro m
      induction m with
      | zero =>
        intro i n q1 q2 q3
        cases n with
        | zero => omega
        | succ n =>
          rw [l_U_standsAs_26, if_neg (by rw [a4]; omega), if_pos]
          refine List.ext_getElem? (fun k => ?_)
          by_cases hk : k < i
          · exact q3 k hk
          · rw [List.getElem?_eq_none (by omega), List.getElem?_eq_none (by omega)]
      | succ m ih =>
        intro i n q1 q2 q3
        cases n with
        | zero => omega
        | succ n =>
          have hi : i < e.2.2.length := by omega
          have hi' : i < e'.2.2.length := by omega
          have hv : e.2.2[i]? = some e.2.2[i] := List.getElem?_eq_getElem hi
          have hv' : e'.2.2[i]? = some e'.2.2[i] := List.getElem?_eq_getElem hi'
          rw [l_U_standsAs_26, if_pos (by rw [a4]; omega), a5 i _ hv, b5 i _ hv']
          by_cases d : e.2.2[i] = e'.2.2[i]
          · rw [if_pos d, ck_t (by omega), show (i : Int) + 1 = ((i + 1 : Nat) : Int) by omega]
            refine ih (i + 1) n (by omega) (by omega) (fun k hk => ?_)
            by_cases z : k = i
            · subst z; rw [hv, hv', d]
            · exact q3 k (by omega)
          · rw [if_neg d, if_neg]
            intro z
            apply d
            have := congrArg (fun l : List Int => l[i]?) z
            rw [hv, hv'] at this
            exact Option.some.inj this
    have h0 := key e.2.2.length 0 fu (by omega) (by omega) (fun k hk => absurd hk (Nat.not_lt_zero k))
    rw [show ((0 : Nat) : Int) = 0 from rfl] at h0
    rw [h0]
    by_cases d : e.2.2 = e'.2.2
    · rw [if_pos d, if_pos ⟨rfl, d⟩]; rfl
    · rw [if_neg d, if_neg (fun z => d z.2)]; rfl
  · have e0 : (if e.2.1 = e'.2.1 ∧ e.2.2 = e'.2.2 then (1 : Int) else 0) = 0 := if_neg (fun z => c z.1)
    rw [e0]
    by_cases d : e.2.1 % 4 = e'.2.1 % 4
    · rw [if_pos d, if_neg (by omega)]
    · rw [if_neg d]
/-! one cursor as another -/
theorem cur_ne {p q : Nat} (hp : cur p) (hq : cur q) (h : p ≠ q) : p + 6 ≤ q ∨ q + 6 ≤ p := by unfold cur at hp hq; omega
def in3 (p : Nat) : Nat → Prop := fun a => a = p + 1 ∨ a = p + 2 ∨ a = p + 3
theorem s_cf1 {fu p q : Nat} (hp : cur p) (hq : cur q) (hpq : p ≠ q) {top : Nat} (h64 : top < 64) : ∀ (m i n : Nat) (σ : SS), m + i = top + 1 → m < n → σ.1 p 6 = (top : Int) → (∀ j : Nat, j < i → gA σ (p + 1) 64 j = gA σ (q + 1) 64 j ∧ gA σ (p + 2) 64 j = gA σ (q + 2) 64 j ∧ gA σ (p + 3) 64 j = gA σ (q + 3) 64 j) →
    Wp (l_U_copyFrom_10 fu p q n i σ) (fun _ τ => fx (in3 p) σ τ ∧ (∀ a b, τ.1 a b = σ.1 a b) ∧ ∀ j : Nat, j ≤ top → gA τ (p + 1) 64 j = gA σ (q + 1) 64 j ∧ gA τ (p + 2) 64 j = gA σ (q + 2) 64 j ∧ gA τ (p + 3) 64 j = gA σ (q + 3) 64 j) := by
  have hne := cur_ne hp hq hpq
  intro m
  induction m with
  | zero =>
    intro i n σ h1 h2 h3 h4
    cases n with
    | zero => omega
    | succ n =>
      rw [l_U_copyFrom_10]
      exact wp_t (by rw [h3]; omega) (wp_some ⟨fx_rf, fun _ _ => rfl, fun j hj => h4 j (by omega)⟩)
  | succ m ih =>
    intro i n σ h1 h2 h3 h4
    cases n with
    | zero => omega
    | succ n =>
      rw [l_U_copyFrom_10]
      refine wp_f (by rw [h3]; omega) (wp_lb (fun σ3 e3 => wp_lb (fun σ7 e7 => wp_lb (fun σ11 e11 => wp_ck (by omega) ?_))))
      have hx : fx (in3 p) σ σ11 := by
        rw [e11, e7, e3]
        exact fx_S (fx_S (fx_S fx_rf (Or.inl rfl)) (Or.inr (Or.inl rfl))) (Or.inr (Or.inr rfl))
      have gq : ∀ (a n : Nat) (j : Int), (∀ k, k ≤ 5 → a ≠ p + k) → gA σ11 a n j = gA σ a n j := by
        intro a n j ha
        exact fx_g hx (fun z => by rcases z with z | z | z <;> exact absurd z (ha _ (by omega)))
      have hf : ∀ a b, σ11.1 a b = σ.1 a b := by intro a b; rw [e11, gS_f', e7, gS_f', e3, gS_f']
      have e7' : gA σ3 (q + 2) 64 i = gA σ (q + 2) 64 i := by rw [e3, gA_S_ne (by omega)]
      have e11' : gA σ7 (q + 3) 64 i = gA σ (q + 3) 64 i := by rw [e7, gA_S_ne (by omega), e3, gA_S_ne (by omega)]
      rw [e7'] at e7
      rw [e11'] at e11
      rw [show (i : Int) + 1 = ((i + 1 : Nat) : Int) by omega]
      have h5 := ih (i + 1) n σ11 (by omega) (by omega) (by rw [hf]; exact h3) (fun j hj => by
        rw [gq (q + 1) 64 j (fun k hk => by omega), gq (q + 2) 64 j (fun k hk => by omega), gq (q + 3) 64 j (fun k hk => by omega)]
        by_cases c : j = i
        · subst c
          refine ⟨?_, ?_, ?_⟩
          · rw [e11, gA_S_ne (by omega), e7, gA_S_ne (by omega), e3, gA_S_same (by omega) (by omega)]
          · rw [e11, gA_S_ne (by omega), e7, gA_S_same (by omega) (by omega)]
          · rw [e11, gA_S_same (by omega) (by omega)]
        · have h6 := h4 j (by omega)
          refine ⟨?_, ?_, ?_⟩
          · rw [e11, gA_S_ne (by omega), e7, gA_S_ne (by omega), e3, gA_S_ne (by omega)]; exact h6.1
          · rw [e11, gA_S_ne (by omega), e7, gA_S_ne (by omega), e3, gA_S_ne (by omega)]; exact h6.2.1
          · rw [e11, gA_S_ne (by omega), e7, gA_S_ne (by omega), e3, gA_S_ne (by omega)]; exact h6.2.2)
      refine wp_mono h5 (fun _ τ k => ⟨fx_tr hx k.1, fun a b => by rw [k.2.1, hf], fun j hj => ?_⟩)
      have h7 := k.2.2 j hj
      rw [gq (q + 1) 64 j (fun k hk => by omega), gq (q + 2) 64 j (fun k hk => by omega), gq (q + 3) 64 j (fun k hk => by omega)] at h7
      exact h7
theorem s_cf2 {fu p q : Nat} (hp : cur p) (hq : cur q) (hpq : p ≠ q) {top : Nat} (h64 : top < 64) : ∀ (m i n : Nat) (σ : SS), m + i = (top + 1) * 4 → m < n → σ.1 p 6 = (top : Int) → (∀ j : Nat, j < i → gA σ (p + 4) 256 j = gA σ (q + 4) 256 j) →
    Wp (l_U_copyFrom_74 fu p q n i σ) (fun _ τ => fx (jst (p + 4)) σ τ ∧ (∀ a b, τ.1 a b = σ.1 a b) ∧ ∀ j : Nat, j < (top + 1) * 4 → gA τ (p + 4) 256 j = gA σ (q + 4) 256 j) := by
  have hne := cur_ne hp hq hpq
  intro m
  induction m with
  | zero =>
    intro i n σ h1 h2 h3 h4
    cases n with
    | zero => omega
    | succ n =>
      rw [l_U_copyFrom_74, h3]
      exact wp_ck (by omega) (wp_ck (by omega) (wp_f (by omega) (wp_some ⟨fx_rf, fun _ _ => rfl, fun j hj => h4 j (by omega)⟩)))
  | succ m ih =>
    intro i n σ h1 h2 h3 h4
    cases n with
    | zero => omega
    | succ n =>
      rw [l_U_copyFrom_74, h3]
      refine wp_ck (by omega) (wp_ck (by omega) (wp_t (by omega) (wp_lb (fun σ5 e5 => wp_ck (by omega) ?_))))
      have hx : fx (jst (p + 4)) σ σ5 := by rw [e5]; exact fx_S fx_rf rfl
      have gq : ∀ (j : Int), gA σ5 (q + 4) 256 j = gA σ (q + 4) 256 j := fun j => fx_g hx (fun z => by have : q + 4 = p + 4 := z; omega)
      have hf : ∀ a b, σ5.1 a b = σ.1 a b := by intro a b; rw [e5, gS_f']
      rw [show (i : Int) + 1 = ((i + 1 : Nat) : Int) by omega]
      have h5 := ih (i + 1) n σ5 (by omega) (by omega) (by rw [hf]; exact h3) (fun j hj => by
        rw [gq]
        by_cases c : j = i
        · subst c; rw [e5, gA_S_same (by omega) (by omega)]
        · rw [e5, gA_S_ne (by omega)]; exact h4 j (by omega))
      refine wp_mono h5 (fun _ τ k => ⟨fx_tr hx k.1, fun a b => by rw [k.2.1, hf], fun j hj => by rw [k.2.2 j hj, gq]⟩)
theorem s_cf3 {fu p q : Nat} (hp : cur p) (hq : cur q) (hpq : p ≠ q) {cn : Nat} (h4c : cn ≤ 4) : ∀ (m i n : Nat) (σ : SS), m + i = cn → m < n → σ.1 p 11 = (cn : Int) → (∀ j : Nat, j < i → gA σ (p + 5) 4 j = gA σ (q + 5) 4 j) →
    Wp (l_U_copyFrom_142 fu p q n i σ) (fun _ τ => fx (jst (p + 5)) σ τ ∧ (∀ a b, τ.1 a b = σ.1 a b) ∧ ∀ j : Nat, j < cn → gA τ (p + 5) 4 j = gA σ (q + 5) 4 j) := by
  have hne := cur_ne hp hq hpq
  intro m
  induction m with
  | zero =>
    intro i n σ h1 h2 h3 h4
    cases n with
    | zero => omega
    | succ n =>
      rw [l_U_copyFrom_142, h3]
      exact wp_f (by omega) (wp_some ⟨fx_rf, fun _ _ => rfl, fun j hj => h4 j (by omega)⟩)
  | succ m ih =>
    intro i n σ h1 h2 h3 h4
    cases n with
    | zero => omega
    | succ n =>
      rw [l_U_copyFrom_142, h3]
      refine wp_t (by omega) (wp_lb (fun σ5 e5 => wp_ck (by omega) ?_))
      have hx : fx (jst (p + 5)) σ σ5 := by rw [e5]; exact fx_S fx_rf rfl
      have gq : ∀ (j : Int), gA σ5 (q + 5) 4 j = gA σ (q + 5) 4 j := fun j => fx_g hx (fun z => by have : q + 5 = p + 5 := z; omega)
      have hf : ∀ a b, σ5.1 a b = σ.1 a b := by intro a b; rw [e5, gS_f']
      rw [show (i : Int) + 1 = ((i + 1 : Nat) : Int) by omega]
      have h5 := ih (i + 1) n σ5 (by omega) (by omega) (by rw [hf]; exact h3) (fun j hj => by
        rw [gq]
        by_cases c : j = i
        · subst c; rw [e5, gA_S_same (by omega) (by omega)]
        · rw [e5, gA_S_ne (by omega)]; exact h4 j (by omega))
      refine wp_mono h5 (fun _ τ k => ⟨fx_tr hx k.1, fun a b => by rw [k.2.1, hf], fun j hj => by rw [k.2.2 j hj, gq]⟩)
theorem s_copyFrom {fu p q : Nat} {pa : Int → Int} {Φ : Fl} {N : Int} {fs : List Fr} {e : AG} {σ : SS} (hfu : 300 ≤ fu) (hp : cur p) (hq : cur q) (hpq : p ≠ q) (hp4 : pa4 pa) (h4 : e.2.2.length ≤ 4) (hcst : cst σ q pa Φ N fs) (hg : grp σ q e) :
    Wp (f_U_copyFrom fu p q σ) (fun _ τ => fx (cP p) σ τ ∧ cst τ p pa Φ N fs ∧ grp τ p e) := by
  have hne := cur_ne hp hq hpq
  have hcg := cur_ge hp
  obtain ⟨c1, c2, c3, c4, c5⟩ := hcst
  have hlen : 0 < fs.length := by
    cases fs with
    | nil => exact absurd rfl c1
    | cons a b => rw [List.length_cons]; omega
  obtain ⟨top, htop⟩ : ∃ top : Nat, fs.length = top + 1 := ⟨fs.length - 1, by omega⟩
  unfold f_U_copyFrom
  refine wp_lb (fun σ2 e2 => ?_)
  have x2 : fx (cP p) σ σ2 := by rw [e2]; exact fx_F fx_rf (by unfold cP; omega)
  have t2 : σ2.1 p 6 = (top : Int) := by rw [e2, sF_same, c3, htop]; omega
  refine wp_sq (s_cf1 hp hq hpq (by omega : top < 64) (top + 1) 0 fu σ2 (by omega) (by omega) t2 (fun j hj => absurd hj (Nat.not_lt_zero j))) ?_
  rintro - σ6 ⟨y1, y2, y3⟩
  have x6 : fx (cP p) σ σ6 := fx_tr x2 (fx_mono y1 (fun a z => by unfold cP; rcases z with z | z | z <;> omega))
  refine wp_sq (s_cf2 hp hq hpq (by omega : top < 64) ((top + 1) * 4) 0 fu σ6 (by omega) (by omega) (by rw [y2]; exact t2) (fun j hj => absurd hj (Nat.not_lt_zero j))) ?_
  rintro - σ11 ⟨z1, z2, z3⟩
  have x11 : fx (cP p) σ σ11 := fx_tr x6 (fx_mono z1 (fun a z => by have : a = p + 4 := z; unfold cP; omega))
  have nq : ∀ k, ¬ cP p (q + k) ∨ 6 ≤ k := by intro k; unfold cP; omega
  have nq0 : ¬ cP p q := by unfold cP; omega
  have fq : ∀ {υ : SS}, fx (cP p) σ υ → ∀ b, υ.1 q b = σ.1 q b := fun hy b => fx_f hy nq0
  refine wp_lb (fun σ16 e16 => wp_lb (fun σ20 e20 => wp_lb (fun σ24 e24 => wp_lb (fun σ28 e28 => ?_))))
  have x16 : fx (cP p) σ σ16 := by rw [e16]; exact fx_F x11 (by unfold cP; omega)
  have x20 : fx (cP p) σ σ20 := by rw [e20]; exact fx_F x16 (by unfold cP; omega)
  have x24 : fx (cP p) σ σ24 := by rw [e24]; exact fx_F x20 (by unfold cP; omega)
  have x28 : fx (cP p) σ σ28 := by rw [e28]; exact fx_F x24 (by unfold cP; omega)
  rw [fq x11] at e16
  rw [fq x16] at e20
  rw [fq x20] at e24
  rw [fq x24] at e28
  obtain ⟨g1, g2, g3, g4, g5⟩ := hg
  have p7 : σ28.1 p 7 = e.2.1 % 4 := by rw [e28, sF_f (by omega), e24, sF_f (by omega), e20, sF_f (by omega), e16, sF_same]; exact g1
  have p8 : σ28.1 p 8 = e.2.1 / 4 := by rw [e28, sF_f (by omega), e24, sF_f (by omega), e20, sF_same]; exact g2
  have p9 : σ28.1 p 9 = e.1 := by rw [e28, sF_f (by omega), e24, sF_same]; exact g3
  have p11 : σ28.1 p 11 = (e.2.2.length : Int) := by rw [e28, sF_same]; exact g4
  have p6 : σ28.1 p 6 = (top : Int) := by rw [e28, sF_f (by omega), e24, sF_f (by omega), e20, sF_f (by omega), e16, sF_f (by omega), z2, y2]; exact t2
  have ga : ∀ (a n : Nat) (j : Int), gA σ28 a n j = gA σ11 a n j := by intro a n j; rw [e28, gA_F, e24, gA_F, e20, gA_F, e16, gA_F]
  refine wp_sq (s_cf3 hp hq hpq h4 e.2.2.length 0 fu σ28 (by omega) (by omega) p11 (fun j hj => absurd hj (Nat.not_lt_zero j))) ?_
  rintro - σ32 ⟨w1, w2, w3⟩
  have x32 : fx (cP p) σ σ32 := fx_tr x28 (fx_mono w1 (fun a z => by have : a = p + 5 := z; unfold cP; omega))
  have gb : ∀ (k n : Nat) (j : Int), k ≤ 4 → gA σ32 (p + k) n j = gA σ11 (p + k) n j := fun k n j hk => by rw [fx_g w1 (fun z => by have : p + k = p + 5 := z; omega), ga]
  refine wp_some ⟨x32, ⟨c1, c2, by rw [w2, p6, htop]; omega, ?_, c5⟩, by rw [w2]; exact p7, by rw [w2]; exact p8, by rw [w2]; exact p9, by rw [w2]; exact p11, ?_⟩
  · have key : ∀ gs : List Fr, gs.length ≤ top + 1 → frs σ q pa gs → frs σ32 p pa gs := by
      intro gs
      induction gs with
      | nil => intro _ _; exact True.intro
      | cons f gs ih =>
        intro hl hf
        rw [List.length_cons] at hl
        obtain ⟨⟨a, b, c⟩, d⟩ := hf
        have q1 := y3 gs.length (by omega)
        have q2 : ∀ k : Nat, k ≤ 3 → gA σ2 (q + k) 64 gs.length = gA σ (q + k) 64 gs.length := fun k hk => fx_g x2 (by unfold cP; omega)
        have q3 : ∀ k : Nat, 1 ≤ k → k ≤ 3 → gA σ32 (p + k) 64 gs.length = gA σ6 (p + k) 64 gs.length := fun k hk hk3 => by rw [gb k 64 _ (by omega), fx_g z1 (fun z => by have : p + k = p + 4 := z; omega)]
        refine ⟨⟨?_, ?_, ?_⟩, ih (by omega) d⟩
        · rw [q3 1 (by omega) (by omega), q3 2 (by omega) (by omega), q1.1, q1.2.1, q2 1 (by omega), q2 2 (by omega)]
          rw [fx_f x32 (cP_lo hp (by omega))]
          exact ⟨cseg_fx x32 (cP_lo hp (by omega)) (cP_lo hp (by omega)) (cP_lo hp (by omega)) a.1, a.2⟩
        · rw [q3 3 (by omega) (by omega), q1.2.2, q2 3 (by omega)]; exact b
        · intro hj k hk hk2
          have h5 := hp4 f.2.2.2
          have e5 : (gs.length : Int) * 4 + k = ((gs.length * 4 + k.toNat : Nat) : Int) := by omega
          rw [gb 4 256 _ (by omega), e5, z3 _ (by omega), fx_g x6 (by unfold cP; omega), ← e5]
          exact c hj k hk hk2
    exact key fs (by omega) c4
  · intro k v hk
    have hk2 := (List.getElem?_eq_some_iff.mp hk).1
    rw [w3 k hk2, fx_g x28 (by unfold cP; omega)]
    exact g5 k v hk
