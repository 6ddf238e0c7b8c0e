/-! THE REFERENCE: TWO HOLES -/
def rkp (σ : SS) (o : Int) (K : List Int) : Prop := ∀ (k : Nat) (v : Int), K[k]? = some v → σ.2.1 81 (o + k) = v
theorem rkp_snoc {σ : SS} {o : Int} {K : List Int} {v : Int} (h : rkp σ o K) : rkp (sA σ 81 (o + K.length) v) o (K ++ [v]) := by
  intro k w hk
  by_cases c : k < K.length
  · rw [List.getElem?_append_left c] at hk
    rw [sA_other (by omega)]
    exact h k w hk
  · rw [List.getElem?_append_right (by omega)] at hk
    have h0 : k - K.length = 0 := by
      have := (List.getElem?_eq_some_iff.mp hk).1
      simp at this
      omega
    rw [h0] at hk
    have hk' : v = w := Option.some.inj hk
    rw [show o + (k : Int) = o + (K.length : Int) by omega, sA_same]
    exact hk'
theorem rkp_A {σ : SS} {o i v : Int} {K : List Int} (h : rkp σ o K) (hi : i < o ∨ o + K.length ≤ i) : rkp (sA σ 81 i v) o K := fun k w hk => by
  have := (List.getElem?_eq_some_iff.mp hk).1
  rw [sA_other (by omega)]
  exact h k w hk
/-- a hole stands at the beginning of a row -/
def rho (σ : SS) (q : Nat) (e : AG) : Prop := σ.2.1 q 0 = e.2.1 ∧ ∀ (k : Nat) (v : Int), e.2.2[k]? = some v → σ.2.1 q (1 + k) = 4 * v
theorem rho_fx {X : Nat → Prop} {σ τ : SS} {q : Nat} {e : AG} (h : fx X σ τ) (hq : ¬ X q) (k : rho σ q e) : rho τ q e := ⟨by rw [fx_a h hq]; exact k.1, fun j v hv => by rw [fx_a h hq]; exact k.2 j v hv⟩
theorem rho_of {σ : SS} {q : Nat} {e : AG} {r : Row} {j : Int} (h : rseg σ q 0 (e :: r) j) : rho σ q e := ⟨h.1, fun k v hk => by have := h.2.1 k v hk; rw [Int.zero_add] at this; exact this⟩
def X81 : Nat → Prop := fun a => a = 55 ∨ (58 ≤ a ∧ a ≤ 61) ∨ a = 81
theorem X5_X81 {σ τ : SS} (h : fy X5 σ τ) : fy X81 σ τ := fy_mono h (fun a z => by unfold X5 at z; unfold X81; omega)
theorem j81 {σ τ : SS} (h : fx (jst 81) σ τ) : fy X81 σ τ := fy_of h (by unfold jst; omega) (fun a z => by have : a = 81 := z; unfold X81; omega)
theorem rSt_81 {σ τ : SS} {told : Int} {s : St} (h : fx (jst 81) σ τ) (k : rSt σ told s) : rSt τ told s := rSt_fx h (by unfold jst; omega) (fun a h1 h2 z => by have : a = 81 := z; omega) k
theorem s_full {O : Op} {told : Int} {R : Nat} {s : St} {σ : SS} (hg : gOk O told R s) (hc : rSt σ told s) : f_D_isFull σ = some (0, σ) := by
  have hb := mOk_b hg.1.2.2.2.2.2.2.2.1 hg.2.1
  have h8 := hg.1.2.2.2.2.2.2.2.1
  unfold f_D_isFull
  rw [hc.2.1, hc.2.2.1, ck_t (by omega), if_neg (by omega)]
theorem s_saml {fu : Nat} {a b : AG} {h : Int} (hh : 0 ≤ h ∧ h < 324) (h4 : a.2.2.length ≤ 4) (hl : b.2.2.length = a.2.2.length) : ∀ (m i n : Nat) (σ : SS), m + i = a.2.2.length → m < n → rho σ 71 a → rho σ 72 b → σ.2.1 58 h = (a.2.2.length : Int) → rkp σ 0 (kix i (fun j => a.2.2[j]? == b.2.2[j]?)) →
    Wp (l_D_same_13 fu n h (kix i (fun j => a.2.2[j]? == b.2.2[j]?)).length i σ) (fun z τ => z = ((kix a.2.2.length (fun j => a.2.2[j]? == b.2.2[j]?)).length : Int) ∧ fx (jst 81) σ τ ∧ rkp τ 0 (kix a.2.2.length (fun j => a.2.2[j]? == b.2.2[j]?))) := by
  intro m
  induction m with
  | zero =>
    intro i n σ hmi hn ha hb h58 hk
    cases n with
    | zero => omega
    | succ n =>
      rw [l_D_same_13]
      have e : i = a.2.2.length := by omega
      rw [e] at hk
      exact wp_ck ⟨hh.1, hh.2⟩ (wp_f (by omega) (wp_some ⟨by rw [e], fx_rf, hk⟩))
  | succ m ih =>
    intro i n σ hmi hn ha hb h58 hk
    cases n with
    | zero => omega
    | succ n =>
      rw [l_D_same_13]
      have hi : i < a.2.2.length := by omega
      have hae : a.2.2[i]? = some a.2.2[i] := List.getElem?_eq_getElem hi
      have hbe : b.2.2[i]? = some b.2.2[i] := List.getElem?_eq_getElem (by omega)
      have hkl := kix_len i (fun j => a.2.2[j]? == b.2.2[j]?)
      have e2 : ((i : Int) + 1) = ((i + 1 : Nat) : Int) := by omega
      have hsu := kix_succ i (fun j => a.2.2[j]? == b.2.2[j]?)
      refine wp_ck ⟨hh.1, hh.2⟩ (wp_t (by omega) (wp_ck (by omega) (wp_ck ⟨by omega, by omega⟩ (wp_ck (by omega) (wp_ck ⟨by omega, by omega⟩ ?_)))))
      rw [ha.2 i _ hae, hb.2 i _ hbe]
      by_cases c : a.2.2[i] = b.2.2[i]
      · have hP : (a.2.2[i]? == b.2.2[i]?) = true := by rw [hae, hbe, c]; exact beq_self_eq_true _
        rw [if_pos hP] at hsu
        refine wp_sq (R := fun z τ => z = ((kix (i + 1) (fun j => a.2.2[j]? == b.2.2[j]?)).length : Int) ∧ τ = sA σ 81 (0 + ((kix i (fun j => a.2.2[j]? == b.2.2[j]?)).length : Int)) i) (wp_t (by rw [c]) (wp_ck ⟨by omega, by omega⟩ (wp_lx (wp_ck (by omega) (wp_some ⟨by rw [hsu, List.length_append]; show _ = ((_ + 1 : Nat) : Int); omega, by rw [Int.zero_add]⟩))))) ?_
        rintro z τ ⟨rfl, hτ⟩
        have hx : fx (jst 81) σ τ := by rw [hτ]; exact fx_A fx_rf rfl
        have n81 : ∀ a, a ≠ 81 → ¬ jst 81 a := fun a h z => h z
        refine wp_ck (by omega) ?_
        rw [e2]
        have h3 := ih (i + 1) n τ (by omega) (by omega) (rho_fx hx (n81 71 (by omega)) ha) (rho_fx hx (n81 72 (by omega)) hb) (by rw [fx_a hx (n81 58 (by omega))]; exact h58) (by rw [hsu, hτ]; exact rkp_snoc hk)
        exact wp_mono h3 (fun _ υ k => ⟨k.1, fx_tr hx k.2.1, k.2.2⟩)
      · have hP : ¬ (a.2.2[i]? == b.2.2[i]?) = true := by
          rw [hae, hbe]
          intro z
          exact c (Option.some.inj (eq_of_beq z))
        rw [if_neg hP, List.append_nil] at hsu
        refine wp_sq (R := fun z τ => z = ((kix (i + 1) (fun j => a.2.2[j]? == b.2.2[j]?)).length : Int) ∧ τ = σ) (wp_f (by omega) (wp_some ⟨by rw [hsu], rfl⟩)) ?_
        rintro z τ ⟨rfl, rfl⟩
        refine wp_ck (by omega) ?_
        rw [e2]
        exact ih (i + 1) n _ (by omega) (by omega) ha hb h58 (by rw [hsu]; exact hk)
theorem s_same {O : Op} {fu R : Nat} {told : Int} {s : St} {a b : AG} {σ : SS} (hR : 300 < R) (hfu : 20 ≤ fu) (hg : gOk O told R s) (hc : rSt σ told s) (ha : rho σ 71 a) (hb : rho σ 72 b) (hΦ : s.2.1 (a.2.1 / 4) = none) (hx : (a.2.2.length : Int) = s.1 (a.2.1 / 4)) (hy : b.2.2.length = a.2.2.length) :
    Wp (f_D_same fu σ) (fun z τ => z = 0 ∧ fy X81 σ τ ∧ rSt τ told (nw s (a.2.1 / 4) a.2.2 b.2.2)) := by
  have h4 := hg.1.2.2.2.1 (a.2.1 / 4)
  have hbm := mOk_b hg.1.2.2.2.2.2.2.2.1 hg.2.1
  have h8 := hg.1.2.2.2.2.2.2.2.1
  have hhr := sOk_h hg.1 (g := a.2.1 / 4) (by omega) (by omega)
  have h58 : σ.2.1 58 (a.2.1 / 4) = (a.2.2.length : Int) := by rw [(hc.1 _ (by omega)).2.2.1]; exact hx.symm
  unfold f_D_same
  refine wp_ck ⟨by omega, by omega⟩ ?_
  rw [ha.1]
  refine wp_lx (wp_sq (s_saml (fu := fu) (a := a) (b := b) hhr (by omega) hy a.2.2.length 0 fu σ (by omega) (by omega) ha hb h58 (fun k v hk => by rw [show kix 0 _ = [] from rfl] at hk; cases hk)) ?_)
  rintro z σ5 ⟨rfl, x1, k1⟩
  have n81 : ∀ a, a ≠ 81 → ¬ jst 81 a := fun a h z => h z
  have c5 := rSt_81 x1 hc
  refine wp_ck ⟨hhr.1, hhr.2⟩ ?_
  rw [fx_a x1 (n81 58 (by omega)), h58]
  unfold nw
  by_cases c : (kix a.2.2.length (fun i => a.2.2[i]? == b.2.2[i]?)).length = a.2.2.length
  · rw [if_pos c]
    exact wp_t (by rw [c]) (wp_some ⟨rfl, j81 x1, c5⟩)
  · rw [if_neg c]
    have hkl := kix_len a.2.2.length (fun i => a.2.2[i]? == b.2.2[i]?)
    have hkm : ∀ v ∈ kix a.2.2.length (fun i => a.2.2[i]? == b.2.2[i]?), 0 ≤ v ∧ v ≤ 10 := fun v hv => by have := kix_mem hv; omega
    refine wp_f (by omega) (wp_e (s_full hg c5) (wp_t rfl (wp_sq (s_make (n := ((kix a.2.2.length (fun i => a.2.2[i]? == b.2.2[i]?)).length : Int)) hg.1 (by omega) c5) ?_)))
    rintro g σ18 ⟨rfl, x18, c18⟩
    obtain ⟨n1, n2⟩ := sNew_g hg.1
    have hhn : a.2.1 / 4 ≠ 24 + s.2.2.2 := fun z => by rw [← z] at n1; omega
    have n5 : ¬ X5 81 := fun z => by unfold X5 at z; omega
    refine wp_sq (s_pass (h := a.2.1 / 4) hfu (sOk_new hg.1 (by omega) (by omega)) c18 hΦ (by show 0 ≤ up1 s.1 _ _ _; rw [up1_ne hhn]; omega) (by omega) (by omega) hkm (fun k v hk => by rw [fx_a x18.1 n5]; have := k1 k v hk; rw [Int.zero_add] at this; exact this)) ?_
    rintro - σ23 ⟨x23, c23⟩
    exact wp_some ⟨rfl, fy_tr (fy_tr (j81 x1) (X5_X81 x18)) (X5_X81 x23), c23⟩
theorem s_botl {fu : Nat} {a b : AG} {h g : Int} (hfu : 20 ≤ fu) (hh : 0 ≤ h ∧ h < 324) (hg : 0 ≤ g ∧ g < 324) (h4 : a.2.2.length ≤ 4) (h4b : b.2.2.length ≤ 4) : ∀ (m i n : Nat) (σ : SS), m + i = a.2.2.length → m < n → rho σ 71 a → rho σ 72 b → σ.2.1 58 h = (a.2.2.length : Int) → σ.2.1 58 g = (b.2.2.length : Int) → rkp σ 0 (kix i (fun j => decide (0 ≤ fnd b.2.2 (a.2.2.getD j 0)))) → rkp σ 8 ((kix i (fun j => decide (0 ≤ fnd b.2.2 (a.2.2.getD j 0)))).map (fun j => fnd b.2.2 (a.2.2.getD j.toNat 0))) →
    Wp (l_D_both_23 fu n h g (kix i (fun j => decide (0 ≤ fnd b.2.2 (a.2.2.getD j 0)))).length i σ) (fun z τ => z = ((kix a.2.2.length (fun j => decide (0 ≤ fnd b.2.2 (a.2.2.getD j 0)))).length : Int) ∧ fx (jst 81) σ τ ∧ rkp τ 0 (kix a.2.2.length (fun j => decide (0 ≤ fnd b.2.2 (a.2.2.getD j 0)))) ∧ rkp τ 8 ((kix a.2.2.length (fun j => decide (0 ≤ fnd b.2.2 (a.2.2.getD j 0)))).map (fun j => fnd b.2.2 (a.2.2.getD j.toNat 0)))) := by
  intro m
  induction m with
  | zero =>
    intro i n σ hmi hn ha hb h58 h58g hk hk8
    cases n with
    | zero => omega
    | succ n =>
      rw [l_D_both_23]
      have e : i = a.2.2.length := by omega
      rw [e] at hk hk8
      exact wp_ck ⟨hh.1, hh.2⟩ (wp_f (by omega) (wp_some ⟨by rw [e], fx_rf, hk, hk8⟩))
  | succ m ih =>
    intro i n σ hmi hn ha hb h58 h58g hk hk8
    cases n with
    | zero => omega
    | succ n =>
      rw [l_D_both_23]
      have hi : i < a.2.2.length := by omega
      have hae : a.2.2[i]? = some a.2.2[i] := List.getElem?_eq_getElem hi
      have hgd : a.2.2.getD i 0 = a.2.2[i] := by rw [List.getD_eq_getElem?_getD, hae]; rfl
      have hkl := kix_len i (fun j => decide (0 ≤ fnd b.2.2 (a.2.2.getD j 0)))
      have e2 : ((i : Int) + 1) = ((i + 1 : Nat) : Int) := by omega
      have hsu := kix_succ i (fun j => decide (0 ≤ fnd b.2.2 (a.2.2.getD j 0)))
      have hfd : ∀ τ, rho τ 72 b → f_D_find fu 72 1 (b.2.2.length : Int) (4 * a.2.2[i]) τ = some (fnd b.2.2 a.2.2[i], τ) := fun τ hr => s_find (fr := 1) hfu h4b (by omega) (by omega) hr.2
      have n81 : ∀ a, a ≠ 81 → ¬ jst 81 a := fun a h z => h z
      refine wp_ck ⟨hh.1, hh.2⟩ (wp_t (by omega) (wp_ck ⟨hg.1, hg.2⟩ (wp_ck (by omega) (wp_ck ⟨by omega, by omega⟩ ?_))))
      rw [ha.2 i _ hae, h58g]
      refine wp_e (hfd σ hb) ?_
      by_cases c : 0 ≤ fnd b.2.2 a.2.2[i]
      · have hP : decide (0 ≤ fnd b.2.2 (a.2.2.getD i 0)) = true := by rw [hgd]; exact decide_eq_true c
        rw [if_pos hP] at hsu
        generalize hKe : kix i (fun j => decide (0 ≤ fnd b.2.2 (a.2.2.getD j 0))) = K at hk hk8 hkl hsu ⊢
        refine wp_sq (R := fun z τ => z = ((kix (i + 1) (fun j => decide (0 ≤ fnd b.2.2 (a.2.2.getD j 0)))).length : Int) ∧ τ = sA (sA σ 81 (0 + (K.length : Int)) i) 81 (8 + (K.length : Int)) (fnd b.2.2 a.2.2[i])) (wp_f (by omega) (wp_ck ⟨by omega, by omega⟩ (wp_lb (fun σ14 e14 => wp_ck (by omega) (wp_ck ⟨hg.1, hg.2⟩ (wp_ck (by omega) (wp_ck ⟨by omega, by omega⟩ ?_))))))) ?_
        · have x14 : fx (jst 81) σ σ14 := by rw [e14]; exact fx_A fx_rf rfl
          rw [fx_a x14 (n81 58 (by omega)), fx_a x14 (n81 71 (by omega)), ha.2 i _ hae, h58g]
          refine wp_e (hfd σ14 (rho_fx x14 (n81 72 (by omega)) hb)) (wp_ck ⟨by omega, by omega⟩ (wp_lx (wp_ck (by omega) (wp_some ⟨by rw [hsu, List.length_append]; show _ = ((_ + 1 : Nat) : Int); omega, by rw [e14, Int.zero_add]⟩))))
        · rintro z τ ⟨rfl, hτ⟩
          have hx : fx (jst 81) σ τ := by rw [hτ]; exact fx_A (fx_A fx_rf rfl) rfl
          refine wp_ck (by omega) ?_
          rw [e2]
          have k0 : rkp τ 0 (K ++ [(i : Int)]) := by
            rw [hτ]
            exact rkp_A (rkp_snoc hk) (by rw [List.length_append]; show _ ∨ 0 + ((_ + 1 : Nat) : Int) ≤ _; omega)
          have k8 : rkp τ 8 ((K ++ [(i : Int)]).map (fun j => fnd b.2.2 (a.2.2.getD j.toNat 0))) := by
            rw [hτ, List.map_append]
            have h5 := rkp_snoc (v := fnd b.2.2 a.2.2[i]) (rkp_A (i := 0 + (K.length : Int)) (v := (i : Int)) hk8 (by omega))
            rw [List.length_map] at h5
            show rkp _ 8 (_ ++ [fnd b.2.2 (a.2.2.getD ((i : Nat) : Int).toNat 0)])
            rw [Int.toNat_natCast, hgd]
            exact h5
          have h3 := ih (i + 1) n τ (by omega) (by omega) (rho_fx hx (n81 71 (by omega)) ha) (rho_fx hx (n81 72 (by omega)) hb) (by rw [fx_a hx (n81 58 (by omega))]; exact h58) (by rw [fx_a hx (n81 58 (by omega))]; exact h58g) (by rw [hsu]; exact k0) (by rw [hsu]; exact k8)
          exact wp_mono h3 (fun _ υ k => ⟨k.1, fx_tr hx k.2.1, k.2.2⟩)
      · have hP : ¬ decide (0 ≤ fnd b.2.2 (a.2.2.getD i 0)) = true := by rw [hgd, decide_eq_true_eq]; exact c
        rw [if_neg hP, List.append_nil] at hsu
        refine wp_sq (R := fun z τ => z = ((kix (i + 1) (fun j => decide (0 ≤ fnd b.2.2 (a.2.2.getD j 0)))).length : Int) ∧ τ = σ) (wp_t (by omega) (wp_some ⟨by rw [hsu], rfl⟩)) ?_
        rintro z τ ⟨rfl, rfl⟩
        refine wp_ck (by omega) ?_
        rw [e2]
        exact ih (i + 1) n _ (by omega) (by omega) ha hb h58 h58g (by rw [hsu]; exact hk) (by rw [hsu]; exact hk8)
theorem s_bot2 {fu : Nat} {K : List Int} {x2 x4 : Int} (h4 : K.length ≤ 4) : ∀ (m j n : Nat) (σ : SS), m + j = K.length → m < n → rkp σ 8 K → (∀ (k : Nat) (v : Int), k < j → K[k]? = some v → σ.2.1 81 k = v) →
    Wp (l_D_both_143 fu n x2 K.length x4 j σ) (fun _ τ => fx (jst 81) σ τ ∧ ∀ (k : Nat) (v : Int), K[k]? = some v → τ.2.1 81 k = v) := by
  intro m
  induction m with
  | zero =>
    intro j n σ h1 h2 h3 h5
    cases n with
    | zero => omega
    | succ n =>
      rw [l_D_both_143]
      exact wp_f (by omega) (wp_some ⟨fx_rf, fun k v hk => h5 k v (by have := (List.getElem?_eq_some_iff.mp hk).1; omega) hk⟩)
  | succ m ih =>
    intro j n σ h1 h2 h3 h5
    cases n with
    | zero => omega
    | succ n =>
      rw [l_D_both_143]
      have hj : j < K.length := by omega
      have hKj : K[j]? = some K[j] := List.getElem?_eq_getElem hj
      refine wp_t (by omega) (wp_ck (by omega) (wp_ck ⟨by omega, by omega⟩ (wp_ck ⟨by omega, by omega⟩ ?_)))
      rw [h3 j _ hKj]
      refine wp_lb (fun σ6 e6 => wp_ck (by omega) ?_)
      have hx : fx (jst 81) σ σ6 := by rw [e6]; exact fx_A fx_rf rfl
      rw [show (j : Int) + 1 = ((j + 1 : Nat) : Int) by omega]
      have h9 := ih (j + 1) n σ6 (by omega) (by omega) (by rw [e6]; exact rkp_A h3 (by omega)) (fun k v hk hk2 => by
        rw [e6]
        by_cases c : k = j
        · subst c
          rw [hKj] at hk2
          cases hk2
          exact sA_same _ _ _ _
        · rw [sA_other (by omega)]; exact h5 k v (by omega) hk2)
      exact wp_mono h9 (fun _ τ k => ⟨fx_tr hx k.1, k.2⟩)
theorem s_both {O : Op} {fu R : Nat} {told : Int} {s : St} {a b : AG} {σ : SS} (hR : 300 < R) (hfu : 20 ≤ fu) (hg : gOk O told R s) (hc : rSt σ told s) (ha : rho σ 71 a) (hb : rho σ 72 b) (hΦ : s.2.1 (a.2.1 / 4) = none) (hx : (a.2.2.length : Int) = s.1 (a.2.1 / 4)) (hΨ : s.2.1 (b.2.1 / 4) = none) (hy : (b.2.2.length : Int) = s.1 (b.2.1 / 4)) (hne : a.2.1 / 4 ≠ b.2.1 / 4) :
    Wp (f_D_both fu σ) (fun z τ => z = 0 ∧ fy X81 σ τ ∧ rSt τ told (jn s (a.2.1 / 4) a.2.2 (b.2.1 / 4) b.2.2)) := by
  have h4 := hg.1.2.2.2.1 (a.2.1 / 4)
  have h4b := hg.1.2.2.2.1 (b.2.1 / 4)
  have hbm := mOk_b hg.1.2.2.2.2.2.2.2.1 hg.2.1
  have h8 := hg.1.2.2.2.2.2.2.2.1
  have hhr := sOk_h hg.1 (g := a.2.1 / 4) (by omega) (by omega)
  have hgr := sOk_h hg.1 (g := b.2.1 / 4) (by omega) (by omega)
  have h58 : σ.2.1 58 (a.2.1 / 4) = (a.2.2.length : Int) := by rw [(hc.1 _ (by omega)).2.2.1]; exact hx.symm
  have h58b : σ.2.1 58 (b.2.1 / 4) = (b.2.2.length : Int) := by rw [(hc.1 _ (by omega)).2.2.1]; exact hy.symm
  unfold f_D_both
  refine wp_ck ⟨by omega, by omega⟩ ?_
  rw [ha.1, hb.1]
  refine wp_lx (wp_ck ⟨by omega, by omega⟩ (wp_lx (wp_sq (s_botl (fu := fu) (a := a) (b := b) hfu hhr hgr (by omega) (by omega) a.2.2.length 0 fu σ (by omega) (by omega) ha hb h58 h58b (fun k v hk => by rw [show kix 0 _ = [] from rfl] at hk; cases hk) (fun k v hk => by rw [show kix 0 _ = [] from rfl] at hk; cases hk)) ?_)))
  rintro z σ8 ⟨rfl, x1, k1, k2⟩
  have n81 : ∀ a, a ≠ 81 → ¬ jst 81 a := fun a h z => h z
  have c8 := rSt_81 x1 hc
  have hkl := kix_len a.2.2.length (fun j => decide (0 ≤ fnd b.2.2 (a.2.2.getD j 0)))
  have hkm : ∀ v ∈ kix a.2.2.length (fun j => decide (0 ≤ fnd b.2.2 (a.2.2.getD j 0))), 0 ≤ v ∧ v < s.1 (a.2.1 / 4) := fun v hv => by have := kix_mem hv; omega
  have hkm2 : ∀ v ∈ (kix a.2.2.length (fun j => decide (0 ≤ fnd b.2.2 (a.2.2.getD j 0)))).map (fun j => fnd b.2.2 (a.2.2.getD j.toNat 0)), 0 ≤ v ∧ v ≤ 10 := by
    intro v hv
    obtain ⟨j, hj, rfl⟩ := List.mem_map.mp hv
    have h1 := (kix_mem hj).2.2
    rw [decide_eq_true_eq] at h1
    have h2 := fnd_lo b.2.2 (a.2.2.getD j.toNat 0)
    exact ⟨h1, by omega⟩
  have hkd := kix_nodup a.2.2.length (fun j => decide (0 ≤ fnd b.2.2 (a.2.2.getD j 0)))
  unfold jn
  generalize hK : kix a.2.2.length (fun j => decide (0 ≤ fnd b.2.2 (a.2.2.getD j 0))) = K at k1 k2 hkl hkm hkm2 hkd ⊢
  generalize hK2 : K.map (fun j => fnd b.2.2 (a.2.2.getD j.toNat 0)) = K2 at k2 hkm2 ⊢
  have hl2 : K2.length = K.length := by rw [← hK2, List.length_map]
  obtain ⟨p1, p2, -, -⟩ := pas_ok (K := K) hR hg hΦ (by omega) hkm hkd (by omega)
  obtain ⟨n1, n2⟩ := sNew_g hg.1
  have hhn : a.2.1 / 4 ≠ 24 + s.2.2.2 := fun z => by rw [← z] at n1; omega
  have hgn : b.2.1 / 4 ≠ 24 + s.2.2.2 := fun z => by rw [← z] at n1; omega
  have n5 : ¬ X5 81 := fun z => by unfold X5 at z; omega
  refine wp_e (s_full hg c8) (wp_t rfl (wp_sq (s_make (n := (K.length : Int)) hg.1 (by omega) c8) ?_))
  rintro g σ19 ⟨rfl, x19, c19⟩
  refine wp_sq (s_pass (h := a.2.1 / 4) hfu p1 c19 hΦ (by show 0 ≤ up1 s.1 _ _ _; rw [up1_ne hhn]; omega) (by omega) (by omega) (fun v hv => by have := hkm v hv; omega) (fun k v hk => by rw [fx_a x19.1 n5]; have := k1 k v hk; rw [Int.zero_add] at this; exact this)) ?_
  rintro - σ24 ⟨x24, c24⟩
  have h2 := s_bot2 (fu := fu) (K := K2) (x2 := b.2.1 / 4) (x4 := 24 + s.2.2.2) (by omega) K2.length 0 fu σ24 (by omega) (by omega) (fun k v hk => by rw [fx_a x24.1 n5, fx_a x19.1 n5]; exact k2 k v hk) (fun k v hk => by omega)
  rw [hl2] at h2
  refine wp_sq h2 ?_
  rintro - σ29 ⟨x29, k29⟩
  have h3 := s_pass (fu := fu) (s := pas s (a.2.1 / 4) K) (h := b.2.1 / 4) (g := 24 + s.2.2.2) (K := K2) (σ := σ29) hfu p2 (rSt_81 x29 c24) (by rw [pas_phi (fun z => hne z.symm)]; exact hΨ) (by rw [pas_pa hgn]; omega) (by omega) (by omega) hkm2 k29
  rw [hl2] at h3
  refine wp_sq h3 ?_
  rintro - σ34 ⟨x34, c34⟩
  exact wp_some ⟨rfl, fy_tr (fy_tr (fy_tr (fy_tr (j81 x1) (X5_X81 x19)) (X5_X81 x24)) (j81 x29)) (X5_X81 x34), c34⟩
