/-! CELLS AND HOLES OF THE CLASS -/
def lenOk (x : Int) : Prop := x = 2048 ∨ x = 4096 ∨ x = 8192 ∨ x = 16384 ∨ x = 32768 ∨ x = 65536 ∨ x = 131072
def cCel (σ : SS) : Prop := lenOk (σ.1 1 99) ∧ 1200 ≤ σ.1 1 2 ∧ σ.1 1 2 ≤ σ.1 1 99 ∧ σ.1 1 2 ≤ 130800
def X3 : Nat → Prop := fun a => a = 1 ∨ a = 2 ∨ a = 3
def cle (σ τ : SS) (t : Int) : Prop := ∀ i, i < t → cA τ i = cA σ i ∧ cB τ i = cB σ i
theorem cle_tr {σ τ υ : SS} {s t : Int} (h : cle σ τ s) (k : cle τ υ t) (hst : s ≤ t) : cle σ υ s := fun i hi => ⟨by rw [(k i (by omega)).1, (h i hi).1], by rw [(k i (by omega)).2, (h i hi).2]⟩
theorem cle_rf {σ : SS} {t : Int} : cle σ σ t := fun _ _ => ⟨rfl, rfl⟩
theorem cseg_cle {σ τ : SS} {t : Int} (h : cle σ τ t) : ∀ {r : Row} {i j : Int}, cseg σ i r j → j ≤ t → cseg τ i r j := by
  intro r
  induction r with
  | nil => intro i j k _; exact k
  | cons e r ih =>
    intro i j k hj
    have h1 := cseg_le k
    rw [il_cons] at h1
    obtain ⟨a, b, c, d⟩ := k
    refine ⟨by rw [(h i (by omega)).1]; exact a, by rw [(h i (by omega)).2]; exact b, fun q v hv => ?_, ih d hj⟩
    have := (List.getElem?_eq_some_iff.mp hv).1
    rw [(h _ (by omega)).1]
    exact c q v hv
theorem s_append {x y : Int} {σ : SS} (hC : cCel σ) (ht : σ.1 1 2 < 130800) : Wp (f_C_append x y σ) (fun _ τ => fx X3 σ τ ∧ cCel τ ∧ τ.1 1 2 = σ.1 1 2 + 1 ∧ cle σ τ (σ.1 1 2) ∧ cA τ (σ.1 1 2) = x ∧ cB τ (σ.1 1 2) = y) := by
  obtain ⟨h1, h2, h3, h4⟩ := hC
  have hl : 2048 ≤ σ.1 1 99 ∧ σ.1 1 99 ≤ 131072 := by unfold lenOk at h1; omega
  unfold f_C_append
  refine wp_ck (by omega) (wp_lb (fun σ1 e1 => ?_))
  have k1 : σ1.1 1 2 = σ.1 1 2 := by
    rw [e1]; split
    · exact gw_f (by decide)
    · rfl
  have k2 : lenOk (σ1.1 1 99) ∧ σ.1 1 2 < σ1.1 1 99 := by
    rw [e1]; split
    · rename_i c
      rw [gw_g]
      unfold lenOk at h1 ⊢
      omega
    · rename_i c
      exact ⟨h1, by omega⟩
  have k3 : fx X3 σ σ1 := by
    rw [e1]; split
    · refine ⟨fun a ha => ⟨fun b => gw_f (fun z => ha (Or.inl z.1)), fun i => gw_a i ⟨fun z => ha (Or.inr (Or.inl z)), fun z => ha (Or.inr (Or.inr z))⟩⟩, rfl⟩
    · exact fx_rf
  have k4 : ∀ (a : Nat) (i : Int), 0 ≤ i → i < σ.1 1 99 → σ1.2.1 a i = σ.2.1 a i := by
    intro a i h0 hi
    rw [e1]; split
    · show (if (a = 2 ∨ a = 3) ∧ ¬ (0 ≤ i ∧ i < σ.1 1 99) then 0 else σ.2.1 a i) = _
      rw [if_neg (fun z => z.2 ⟨h0, hi⟩)]
    · rfl
  have hl2 : σ1.1 1 99 ≤ 131072 := by have := k2.1; unfold lenOk at this; omega
  refine wp_ck (by rw [k1]; exact ⟨k2.2, by omega⟩) (wp_some ?_)
  rw [k1]
  have f99 : (sF (sA (sA σ1 2 (σ.1 1 2) x) 3 (σ.1 1 2) y) 1 2 (σ.1 1 2 + 1)).1 1 99 = σ1.1 1 99 := sF_f (by decide)
  have f2 : (sF (sA (sA σ1 2 (σ.1 1 2) x) 3 (σ.1 1 2) y) 1 2 (σ.1 1 2 + 1)).1 1 2 = σ.1 1 2 + 1 := sF_same _ _ _ _
  refine ⟨fx_F (fx_A (fx_A k3 (Or.inr (Or.inl rfl))) (Or.inr (Or.inr rfl))) (Or.inl rfl), ⟨by rw [f99]; exact k2.1, by rw [f2]; omega, by rw [f2, f99]; omega, by rw [f2]; omega⟩, f2, ?_, ?_, ?_⟩
  · intro i hi
    unfold cA cB
    rw [f99]
    have hA : ∀ a : Nat, gA (sF (sA (sA σ1 2 (σ.1 1 2) x) 3 (σ.1 1 2) y) 1 2 (σ.1 1 2 + 1)) a (σ1.1 1 99).toNat i = gA σ a (σ.1 1 99).toNat i := by
      intro a
      unfold gA
      by_cases h0 : 0 ≤ i
      · rw [if_pos ⟨h0, by omega⟩, if_pos ⟨h0, by omega⟩]
        show (sA (sA σ1 2 (σ.1 1 2) x) 3 (σ.1 1 2) y).2.1 a i = _
        rw [sA_other (fun z => by omega), sA_other (fun z => by omega), k4 a i h0 (by omega)]
      · rw [if_neg (fun z => h0 z.1), if_neg (fun z => h0 z.1)]
    exact ⟨hA 2, hA 3⟩
  · unfold cA
    rw [f99, gA_in (by omega) (by omega)]
    show (sA (sA σ1 2 (σ.1 1 2) x) 3 (σ.1 1 2) y).2.1 2 (σ.1 1 2) = x
    rw [sA_other (fun z => by omega), sA_same]
  · unfold cB
    rw [f99, gA_in (by omega) (by omega)]
    show (sA (sA σ1 2 (σ.1 1 2) x) 3 (σ.1 1 2) y).2.1 3 (σ.1 1 2) = y
    rw [sA_same]
/-- variables are appended behind a group -/
def vseg (σ : SS) (i : Int) (vs : List Int) : Prop := ∀ (k : Nat) (v : Int), vs[k]? = some v → cA σ (i + k) = 4 * v
theorem s_fwh {fu q : Nat} {vs : List Int} {x1 x4 : Int} (hq : q = 43 ∨ q = 44) (h4 : vs.length ≤ 4) : ∀ (m i n : Nat) (σ : SS), m + i = vs.length → m < n → cCel σ → σ.1 1 2 + 10 < 130800 + i → (∀ v ∈ vs, 0 ≤ v ∧ v < 10) → (∀ (k : Nat) (v : Int), vs[k]? = some v → gA σ q 4 k = v) → vseg σ (σ.1 1 2 - i) (vs.take i) →
    Wp (l_G_fillWithHole_39 fu q n x1 x4 vs.length i σ) (fun _ τ => fx X3 σ τ ∧ cCel τ ∧ τ.1 1 2 = σ.1 1 2 + m ∧ cle σ τ (σ.1 1 2) ∧ vseg τ (σ.1 1 2 - i) vs) := by
  intro m
  induction m with
  | zero =>
    intro i n σ h1 h2 hC hb hv hk hs
    cases n with
    | zero => omega
    | succ n =>
      rw [l_G_fillWithHole_39]
      refine wp_f (by omega) (wp_some ⟨fx_rf, hC, by omega, cle_rf, ?_⟩)
      rw [List.take_of_length_le (by omega)] at hs
      exact hs
  | succ m ih =>
    intro i n σ h1 h2 hC hb hv hk hs
    cases n with
    | zero => omega
    | succ n =>
      rw [l_G_fillWithHole_39]
      have hi : i < vs.length := by omega
      have hvi : vs[i]? = some vs[i] := List.getElem?_eq_getElem hi
      have hvb := hv vs[i] (List.getElem_mem hi)
      refine wp_t (by omega) ?_
      rw [hk i _ hvi]
      refine wp_ck (by omega) (wp_sq (s_append hC (by omega)) ?_)
      rintro - τ ⟨a1, a2, a3, a4, a5, a6⟩
      refine wp_ck (by omega) ?_
      rw [show (i : Int) + 1 = ((i + 1 : Nat) : Int) by omega]
      have h5 := ih (i + 1) n τ (by omega) (by omega) a2 (by omega) hv (fun k v hkv => by rw [fx_g a1 (fun z => by rcases z with z | z | z <;> omega)]; exact hk k v hkv) (by
        intro k v hkv
        rw [a3, show σ.1 1 2 + 1 - ((i + 1 : Nat) : Int) + k = σ.1 1 2 - i + k by omega]
        have hk2 := (List.getElem?_eq_some_iff.mp hkv).1
        rw [List.length_take] at hk2
        rw [List.getElem?_take_of_lt (by omega)] at hkv
        by_cases c : k = i
        · subst c
          rw [hvi] at hkv
          cases hkv
          rw [show σ.1 1 2 - (k : Int) + k = σ.1 1 2 by omega, a5]
          omega
        · rw [(a4 _ (by omega)).1]
          exact hs k v (by rw [List.getElem?_take_of_lt (by omega)]; exact hkv))
      refine wp_mono h5 (fun _ υ k => ⟨fx_tr a1 k.1, k.2.1, by rw [k.2.2.1, a3]; omega, cle_tr a4 k.2.2.2.1 (by omega), ?_⟩)
      have h6 := k.2.2.2.2
      rw [a3, show σ.1 1 2 + 1 - ((i + 1 : Nat) : Int) = σ.1 1 2 - i by omega] at h6
      exact h6
def X79 : Nat → Prop := fun a => a = 1 ∨ a = 2 ∨ a = 3 ∨ a = 7 ∨ a = 9 ∨ a = 10 ∨ a = 12
/-- behind fillFrom: the hole's filling lies between start and the top -/
def filP (h start : Int) (σ τ : SS) : Prop := fx X79 σ τ ∧ τ.1 1 2 = σ.1 1 2 ∧ (∀ i, cA τ i = cA σ i ∧ cB τ i = cB σ i) ∧ τ.1 1 99 = σ.1 1 99 ∧ τ.1 7 8 = σ.1 7 8 + 1 ∧ τ.1 7 6 = σ.1 7 6 ∧ τ.1 7 7 = σ.1 7 7 ∧ gA τ 9 324 h = start ∧ gA τ 10 324 h = σ.1 1 2 ∧ gA τ 12 324 (σ.1 7 8) = h ∧ (∀ g, g ≠ h → gA τ 9 324 g = gA σ 9 324 g ∧ gA τ 10 324 g = gA σ 10 324 g) ∧ ∀ i, i ≠ σ.1 7 8 → gA τ 12 324 i = gA σ 12 324 i
theorem s_fillFrom {h start : Int} {σ : SS} (h0 : 0 ≤ h) (h1 : h < 324) (h2 : 0 ≤ σ.1 7 8) (h3 : σ.1 7 8 < 324) : Wp (f_G_fillFrom h start σ) (fun _ τ => filP h start σ τ) := by
  unfold f_G_fillFrom
  refine wp_lb (fun σ2 e2 => wp_lb (fun σ6 e6 => wp_lb (fun σ10 e10 => ?_)))
  have f2 : ∀ a b, σ2.1 a b = σ.1 a b := fun a b => by rw [e2, gS_f']
  have f6 : ∀ a b, σ6.1 a b = σ.1 a b := fun a b => by rw [e6, gS_f', f2]
  have f10 : ∀ a b, σ10.1 a b = σ.1 a b := fun a b => by rw [e10, gS_f', f6]
  rw [f2] at e6
  rw [f6] at e10
  rw [f10]
  refine wp_ck (by omega) (wp_lb (fun σ15 e15 => wp_some ?_))
  have ga : ∀ (a n : Nat) (i : Int), gA σ15 a n i = gA σ10 a n i := fun a n i => by rw [e15, gA_F]
  have hfx : fx X79 σ σ15 := by
    rw [e15, e10, e6, e2]
    exact fx_F (fx_S (fx_S (fx_S fx_rf (by unfold X79; omega)) (by unfold X79; omega)) (by unfold X79; omega)) (by unfold X79; omega)
  have f99 : σ15.1 1 99 = σ.1 1 99 := by rw [e15, sF_f (by decide), f10]
  have cc : ∀ (a : Nat) (n : Nat) (i : Int), a = 2 ∨ a = 3 → gA σ15 a n i = gA σ a n i := by
    intro a n i ha
    rw [ga, e10, gA_S_ne (by omega), e6, gA_S_ne (by omega), e2, gA_S_ne (by omega)]
  refine ⟨hfx, by rw [e15, sF_f (by decide), f10], fun i => ⟨?_, ?_⟩, f99, by rw [e15, sF_same], by rw [e15, sF_f (by decide), f10], by rw [e15, sF_f (by decide), f10], ?_, ?_, ?_, fun g hg => ⟨?_, ?_⟩, fun i hi => ?_⟩
  · unfold cA; rw [f99, cc 2 _ _ (by omega)]
  · unfold cB; rw [f99, cc 3 _ _ (by omega)]
  · rw [ga, e10, gA_S_ne (by omega), e6, gA_S_ne (by omega), e2, gA_S_same h0 (by omega)]
  · rw [ga, e10, gA_S_ne (by omega), e6, gA_S_same h0 (by omega)]
  · rw [ga, e10, gA_S_same h2 (by omega)]
  · rw [ga, e10, gA_S_ne (by omega), e6, gA_S_ne (by omega), e2, gA_S_ne (by omega)]
  · rw [ga, e10, gA_S_ne (by omega), e6, gA_S_ne (by omega), e2, gA_S_ne (by omega)]
  · rw [ga, e10, gA_S_ne (by omega), e6, gA_S_ne (by omega), e2, gA_S_ne (by omega)]
