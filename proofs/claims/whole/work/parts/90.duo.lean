/-! ONE CALL OF BOTH -/
theorem rD_XH {σ τ : SS} {d : Dk} (hx : fx XH σ τ) (k : rD σ d) : rD τ d := by
  obtain ⟨k1, k2, k3, k4, k5, k6, k7⟩ := k
  have n : ∀ a, 55 ≤ a → ¬ XH a := fun a h z => by unfold XH at z; omega
  exact ⟨rSt_fx hx (n 55 (by omega)) (fun a h1 h2 => n a (by omega)) k1, rOp_fx hx (n 56 (by omega)) (n 57 (by omega)) k2, by rw [fx_f hx (n 55 (by omega))]; exact k3, fun i hi => rSl_fx hx (fun a h1 h2 => n a (by omega)) (k4 i hi), rRd_fx hx (fx_f hx (n 55 (by omega))) (fx_f hx (n 55 (by omega))) (n 82 (by omega)) k5, by rw [fx_f hx (n 55 (by omega))]; exact k6, by rw [fx_f hx (n 55 (by omega))]; exact k7⟩
theorem cD_XD {R : Nat} {σ τ : SS} {d : Dk} (hg : gD R d) (hx : fx XD σ τ) (k : cD σ d) : cD τ d := by
  obtain ⟨k1, k2, k3, k4, k5, k6, k7⟩ := k
  have n : ∀ a, a < 55 → ¬ XD a := fun a h z => by unfold XD at z; omega
  have hcl : cle σ τ 1200 := fun i _ => ⟨fx_cA hx (n 1 (by omega)) (n 2 (by omega)) i, fx_cB hx (n 1 (by omega)) (n 3 (by omega)) i⟩
  exact ⟨cSt_fx hx (fun a h1 h2 => n a (by omega)) (fun a h1 h2 h3 => n a (by omega)) k1, cOp_fx hx (n 5 (by omega)) (n 6 (by omega)) k2, by rw [fx_f hx (n 4 (by omega))]; exact k3, fun i hi => cSl_fx hx (n _ (by omega)) (n _ (by omega)) hcl hi (il_30 hg.2.1.1.2.2.2.1 (hg.2.2.1 i hi)).1 (k4 i hi), cRd_fx hx (n 51 (by omega)) (n 52 (by omega)) k5, by rw [fx_f hx (n 0 (by omega))]; exact k6, by rw [fx_f hx (n 0 (by omega))]; exact k7⟩
/-- the law's long touches neither -/
theorem cseg_lg {τ : SS} {l : Nat → Int64} : ∀ {r : Row} {i j : Int}, cseg τ i r j → cseg (τ.1, τ.2.1, l) i r j := by
  intro r
  induction r with
  | nil => intro i j k; exact k
  | cons e r ih =>
    intro i j k
    obtain ⟨a, b, c, d⟩ := k
    exact ⟨a, b, c, ih d⟩
theorem lay_lg {τ : SS} {l : Nat → Int64} : ∀ {r : List Int} {s : Int}, lay τ r s → lay (τ.1, τ.2.1, l) r s := by
  intro r
  induction r with
  | nil => intro s k; exact k
  | cons e r ih =>
    intro s k
    exact ⟨k.1, k.2.1, ih k.2.2⟩
theorem cHol_lg {τ : SS} {l : Nat → Int64} {pa : Int → Int} {Φ : Fl} (k : cHol τ pa Φ) : cHol (τ.1, τ.2.1, l) pa Φ := by
  intro q hq
  obtain ⟨a, b, c, d, e⟩ := k q hq
  exact ⟨a, b, c, d, fun F hF => ⟨(e F hF).1, cseg_lg (e F hF).2.1, (e F hF).2.2⟩⟩
theorem cSl_lg {τ : SS} {l : Nat → Int64} {i : Nat} {s : Sl} (k : cSl τ i s) : cSl (τ.1, τ.2.1, l) i s := by
  obtain ⟨k1, k2, k3, k4, k5, k6, k7, k8, k9⟩ := k
  exact ⟨k1, k2, k3, k4, k5, k6, k7, stk_eq (σ := τ) (fun _ _ => rfl) k8, cseg_lg k9⟩
theorem cD_lg {τ : SS} {l : Nat → Int64} {d : Dk} (k : cD τ d) : cD (τ.1, τ.2.1, l) d := by
  obtain ⟨⟨a1, a2, a3, a4, a5, a6, a7, a8⟩, k2, k3, k4, k5, k6, k7⟩ := k
  exact ⟨⟨cHol_lg a1, a2, a3, a4, a5, a6, lay_lg a7, a8⟩, k2, k3, fun i hi => cSl_lg (k4 i hi), k5, k6, k7⟩
theorem rSl_lg {τ : SS} {l : Nat → Int64} {i : Nat} {s : Sl} (k : rSl τ i s) : rSl (τ.1, τ.2.1, l) i s := by
  obtain ⟨k1, k2, k3, k4, k5, k6, k7, k8⟩ := k
  exact ⟨k1, k2, k3, k4, k5, rstk_eq (σ := τ) (fun _ _ _ => rfl) k6, k7, rseg_eq (σ := τ) (fun _ _ _ => rfl) rfl k8⟩
theorem rHol_lg {τ : SS} {l : Nat → Int64} {pa : Int → Int} {Φ : Fl} (k : rHol τ pa Φ) : rHol (τ.1, τ.2.1, l) pa Φ := by
  intro q hq
  obtain ⟨a, b, c, d, e⟩ := k q hq
  exact ⟨a, b, c, d, fun F hF => ⟨(e F hF).1, (e F hF).2.1, rseg_eq (σ := τ) (fun _ _ _ => rfl) rfl (e F hF).2.2⟩⟩
theorem rD_lg {τ : SS} {l : Nat → Int64} {d : Dk} (k : rD τ d) : rD (τ.1, τ.2.1, l) d := by
  obtain ⟨⟨a1, a2, a3, a4⟩, k2, k3, k4, k5, k6, k7⟩ := k
  exact ⟨⟨rHol_lg a1, a2, a3, a4⟩, k2, k3, fun i hi => rSl_lg (k4 i hi), k5, k6, k7⟩
/-- the numbers of unifications after n calls -/
def cn (d : Dk) (n : Nat) : Prop := 0 ≤ d.2.2.2.2.2.2.2.1 ∧ d.2.2.2.2.2.2.2.1 ≤ n ∧ 0 ≤ d.2.2.2.2.2.2.2.2 ∧ d.2.2.2.2.2.2.2.2 ≤ n
theorem cn_s {d e : Dk} {n : Nat} (h : cn d n) (k : e.2.2.2.2.2.2.2 = d.2.2.2.2.2.2.2) : cn e (n + 1) := by
  unfold cn at h ⊢
  rw [k]
  omega
/-- after n calls both hold one desk -/
def JR (R n : Nat) (σ : SS) : Prop := ∃ d : Dk, gD R d ∧ cD σ d ∧ rD σ d ∧ 0 ≤ σ.1 0 99 ∧ σ.1 0 99 ≤ n ∧ cn d n
def Ans (cod : String → Int → Prop) (z : Int ⊕ String) (b c : Int) : Prop := (∃ v, z = .inl v ∧ c = 0 ∧ b = v) ∨ ∃ E, z = .inr E ∧ cod E c
/-- one call of both: the class, then, whatever the long, the reference -/
def Duo (R n : Nat) (cod : String → Int → Prop) (fH : SS → Option ((Int ⊕ String) × SS)) (fD : SS → Option (Int × SS)) (σ : SS) : Prop :=
  ∃ z τ, fH σ = some (z, τ) ∧ ∀ l, ∃ b ω, fD (τ.1, τ.2.1, l) = some (b, ω) ∧ JR R (n + 1) ω ∧ ω.2.2 = l ∧ Ans cod z b (ω.1 55 0)
theorem duo {R n : Nat} {cod : String → Int → Prop} {fH : SS → Option ((Int ⊕ String) × SS)} {fD : SS → Option (Int × SS)} {σ : SS} (d : Dk) (h0 : 0 ≤ σ.1 0 99) (h1 : σ.1 0 99 ≤ n) (hr : rD σ d)
    (H : Wp (fH σ) (fun z τ => fx XH σ τ ∧ tho σ τ ∧ ∃ d', gD R d' ∧ cn d' (n + 1) ∧ cD τ d' ∧ ∀ υ, rD υ d → Wp (fD υ) (fun b ω => fx XD υ ω ∧ rD ω d' ∧ Ans cod z b (ω.1 55 0)))) : Duo R n cod fH fD σ := by
  obtain ⟨z, τ, e, hx, ht, d', hg, hcn, hc, hD⟩ := H
  refine ⟨z, τ, e, fun l => ?_⟩
  obtain ⟨b, ω, e2, hx2, hr2, ha⟩ := hD (τ.1, τ.2.1, l) (rD_lg (rD_XH hx hr))
  have h9 : ω.1 0 99 = τ.1 0 99 := fx_f hx2 (fun z => by unfold XD at z; omega)
  have t1 := ht.1
  have t2 := ht.2
  exact ⟨b, ω, e2, ⟨d', hg, cD_XD hg hx2 (cD_lg hc), hr2, by omega, by omega, hcn⟩, hx2.2, ha⟩
def c1 (E : String) (c : Int) : Prop := E = "java/lang/IllegalArgumentException" ∧ c = 1
def c12 (E : String) (c : Int) : Prop := (E = "java/lang/IllegalArgumentException" ∧ c = 1) ∨ (E = "java/lang/IllegalStateException" ∧ c = 2)
def c21 (E : String) (c : Int) : Prop := (E = "java/lang/IllegalStateException" ∧ c = 1) ∨ (E = "java/lang/IllegalArgumentException" ∧ c = 2)
def c3 (E : String) (c : Int) : Prop := E = "java/lang/IndexOutOfBoundsException" ∧ c = 1
theorem c12_rfs {d : Dk} {x y : Int} (h : rfs d x y ≠ 0) : c12 (exn (rfs d x y)) (rfs d x y : Int) := by
  unfold rfs at h ⊢
  split at h
  · split at h
    · exact absurd rfl h
    · rename_i c1 c2
      rw [if_pos c1, if_neg c2]
      exact Or.inr ⟨rfl, rfl⟩
  · rename_i c1
    rw [if_neg c1]
    exact Or.inl ⟨rfl, rfl⟩
theorem tho_same {σ τ : SS} (h : τ.1 0 99 = σ.1 0 99) : tho σ τ := ⟨by omega, by omega⟩
theorem duo_operation {R n : Nat} {σ : SS} {a b c : Int} (hn : n ≤ 90000) (hJ : JR R n σ) : Duo R n c1 (f_H_operation a b c) (f_D_operation a b c) σ := by
  obtain ⟨d, hg, hc, hr, h0, h1, hcn⟩ := hJ
  refine duo d h0 h1 hr (wp_mono (s_operation hg ⟨h0, by omega⟩ hc) ?_)
  intro z τ hP
  obtain ⟨hx, ht, ⟨hv, hz, hc'⟩ | ⟨hv, hz, hc'⟩⟩ := hP
  · refine ⟨hx, ht, dkO d a b c, gD_O hg hv, cn_s hcn (by unfold dkO; split <;> rfl), hc', fun υ hr' => wp_mono (s_operationR hg hr') ?_⟩
    intro z2 ω hP2
    obtain ⟨hx2, ⟨_, e0, eb, hr2⟩ | ⟨hv', _⟩⟩ := hP2
    · exact ⟨hx2, hr2, Or.inl ⟨_, hz, e0, eb⟩⟩
    · exact absurd hv hv'
  · refine ⟨hx, ht, d, hg, cn_s hcn rfl, hc', fun υ hr' => wp_mono (s_operationR hg hr') ?_⟩
    intro z2 ω hP2
    obtain ⟨hx2, ⟨hv', _⟩ | ⟨_, e0, hr2⟩⟩ := hP2
    · exact absurd hv' hv
    · exact ⟨hx2, hr2, Or.inr ⟨_, hz, rfl, e0⟩⟩
theorem duo_hole {R n : Nat} {σ : SS} {x : Int} (hn : n ≤ 90000) (hJ : JR R n σ) : Duo R n c1 (f_H_hole x) (f_D_hole x) σ := by
  obtain ⟨d, hg, hc, hr, h0, h1, hcn⟩ := hJ
  refine duo d h0 h1 hr (wp_mono (s_hole hg ⟨h0, by omega⟩ hc) ?_)
  intro z τ hP
  obtain ⟨hx, -, ht, ⟨v1, v2, hz, hc'⟩ | ⟨hv, hz, hc'⟩⟩ := hP
  · refine ⟨hx, ht, dkT d x, gD_T ⟨v1, v2⟩ hg, cn_s hcn (by unfold dkT; split <;> rfl), hc', fun υ hr' => wp_mono (s_holeR hg hr') ?_⟩
    intro z2 ω hP2
    obtain ⟨hx2, e0, ⟨_, _, eb, hr2⟩ | ⟨hv', _⟩⟩ := hP2
    · exact ⟨hx2, hr2, Or.inl ⟨_, hz, by rw [e0, if_pos ⟨v1, v2⟩], eb⟩⟩
    · exact absurd ⟨v1, v2⟩ hv'
  · refine ⟨hx, ht, d, hg, cn_s hcn rfl, hc', fun υ hr' => wp_mono (s_holeR hg hr') ?_⟩
    intro z2 ω hP2
    obtain ⟨hx2, e0, ⟨v1, v2, _⟩ | ⟨_, hr2⟩⟩ := hP2
    · exact absurd ⟨v1, v2⟩ hv
    · exact ⟨hx2, hr2, Or.inr ⟨_, hz, rfl, by rw [e0, if_neg hv]⟩⟩
theorem duo_begin {R n : Nat} {σ : SS} {x y : Int} (hn : n ≤ 90000) (hJ : JR R n σ) : Duo R n c1 (f_H_begin x y) (f_D_begin x y) σ := by
  obtain ⟨d, hg, hc, hr, h0, h1, hcn⟩ := hJ
  refine duo d h0 h1 hr (wp_mono (s_begin hg ⟨h0, by omega⟩ hc) ?_)
  intro z τ hP
  obtain ⟨hx, -, ht, ⟨v1, v2, v3, v4, hz, hc'⟩ | ⟨hv, hz, hc'⟩⟩ := hP
  · refine ⟨hx, ht, dkS d x.toNat (slB y), gD_S hg (gSl_B ⟨v3, v4⟩), cn_s hcn rfl, hc', fun υ hr' => wp_mono (s_beginR hg hr') ?_⟩
    intro z2 ω hP2
    obtain ⟨hx2, ⟨_, _, _, _, e0, eb, hr2⟩ | ⟨hv', _⟩⟩ := hP2
    · exact ⟨hx2, hr2, Or.inl ⟨_, hz, e0, eb⟩⟩
    · exact absurd ⟨v1, v2, v3, v4⟩ hv'
  · refine ⟨hx, ht, d, hg, cn_s hcn rfl, hc', fun υ hr' => wp_mono (s_beginR hg hr') ?_⟩
    intro z2 ω hP2
    obtain ⟨hx2, ⟨v1, v2, v3, v4, _⟩ | ⟨_, e0, hr2⟩⟩ := hP2
    · exact absurd ⟨v1, v2, v3, v4⟩ hv
    · exact ⟨hx2, hr2, Or.inr ⟨_, hz, rfl, e0⟩⟩
theorem duo_put {R n fu : Nat} {σ : SS} {x k y : Int} (hfu : 1000 ≤ fu) (hn : n ≤ 90000) (hJ : JR R n σ) : Duo R n c21 (f_H_put fu x k y) (f_D_put fu x k y) σ := by
  obtain ⟨d, hg, hc, hr, h0, h1, hcn⟩ := hJ
  refine duo d h0 h1 hr (wp_mono (s_put hfu hg ⟨h0, by omega⟩ hc) ?_)
  intro z τ hP
  obtain ⟨hx, ht, hP⟩ := hP
  rcases hP with ⟨a1, hz, hc'⟩ | ⟨a1, a2, hz, hc'⟩ | ⟨a1, a2, a3, hz, hc'⟩ | ⟨a1, a2, a3, a4, hz, hc'⟩ | ⟨a1, a2, a3, a4, hz, hc'⟩
  · refine ⟨hx, ht, d, hg, cn_s hcn rfl, hc', fun υ hr' => wp_mono (s_putR hfu hg hr') ?_⟩
    intro z2 ω hP2
    obtain ⟨hx2, hP2⟩ := hP2
    rcases hP2 with ⟨b1, e0, hr2⟩ | ⟨b1, _⟩ | ⟨b1, _⟩ | ⟨b1, _⟩ | ⟨b1, _⟩
    · exact ⟨hx2, hr2, Or.inr ⟨_, hz, Or.inr ⟨rfl, e0⟩⟩⟩
    all_goals exact absurd b1 a1
  · refine ⟨hx, ht, d, hg, cn_s hcn rfl, hc', fun υ hr' => wp_mono (s_putR hfu hg hr') ?_⟩
    intro z2 ω hP2
    obtain ⟨hx2, hP2⟩ := hP2
    rcases hP2 with ⟨b1, _⟩ | ⟨b1, b2, e0, hr2⟩ | ⟨b1, b2, _⟩ | ⟨b1, b2, _⟩ | ⟨b1, b2, _⟩
    · exact absurd a1 b1
    · exact ⟨hx2, hr2, Or.inr ⟨_, hz, Or.inl ⟨rfl, e0⟩⟩⟩
    all_goals exact absurd a2 b2
  · refine ⟨hx, ht, d, hg, cn_s hcn rfl, hc', fun υ hr' => wp_mono (s_putR hfu hg hr') ?_⟩
    intro z2 ω hP2
    obtain ⟨hx2, hP2⟩ := hP2
    rcases hP2 with ⟨b1, _⟩ | ⟨b1, b2, _⟩ | ⟨b1, b2, b3, e0, hr2⟩ | ⟨b1, b2, b3, _⟩ | ⟨b1, b2, b3, _⟩
    · exact absurd a1 b1
    · exact absurd b2 a2
    · exact ⟨hx2, hr2, Or.inr ⟨_, hz, Or.inr ⟨rfl, e0⟩⟩⟩
    all_goals exact absurd b3 a3
  · refine ⟨hx, ht, d, hg, cn_s hcn rfl, hc', fun υ hr' => wp_mono (s_putR hfu hg hr') ?_⟩
    intro z2 ω hP2
    obtain ⟨hx2, hP2⟩ := hP2
    rcases hP2 with ⟨b1, _⟩ | ⟨b1, b2, _⟩ | ⟨b1, b2, b3, _⟩ | ⟨b1, b2, b3, b4, e0, eb, hr2⟩ | ⟨b1, b2, b3, b4, _⟩
    · exact absurd a1 b1
    · exact absurd b2 a2
    · exact absurd a3 b3
    · exact ⟨hx2, hr2, Or.inl ⟨_, hz, e0, eb⟩⟩
    · exact absurd b4 a4
  · refine ⟨hx, ht, _, gD_S hg (gSl_P hg (by omega) a2 a3 a4), cn_s hcn rfl, hc', fun υ hr' => wp_mono (s_putR hfu hg hr') ?_⟩
    intro z2 ω hP2
    obtain ⟨hx2, hP2⟩ := hP2
    rcases hP2 with ⟨b1, _⟩ | ⟨b1, b2, _⟩ | ⟨b1, b2, b3, _⟩ | ⟨b1, b2, b3, b4, _⟩ | ⟨b1, b2, b3, b4, e0, eb, hr2⟩
    · exact absurd a1 b1
    · exact absurd b2 a2
    · exact absurd a3 b3
    · exact absurd a4 b4
    · exact ⟨hx2, hr2, Or.inl ⟨_, hz, e0, eb⟩⟩
theorem duo_unify {R n fu : Nat} {σ : SS} {x y : Int} (hfu : 20000 ≤ fu) (hR : 300 < R) (hRf : R ≤ 1000) (hn : n ≤ 90000) (hJ : JR R n σ) : Duo R n c12 (f_H_unify fu x y) (f_D_unify fu x y) σ := by
  obtain ⟨d, hg, hc, hr, h0, h1, hcn⟩ := hJ
  have hct : cnt d := by unfold cn at hcn; unfold cnt; omega
  refine duo d h0 h1 hr (wp_mono (s_unify hR (by omega) hRf (by omega) hg ⟨h0, by omega⟩ hct hc) ?_)
  intro z τ hP
  obtain ⟨hx, ⟨e, hz, hg', hc', h9, hs⟩ | ⟨e, hz, hc', ht⟩⟩ := hP
  · refine ⟨hx, tho_same h9, _, hg', ?_, hc', fun υ hr' => wp_mono (s_unifyR hfu hR (by omega) hg hct hr' (fun _ => hs)) ?_⟩
    · unfold cn at hcn
      unfold dkU cn
      split
      · simp only []
        omega
      · simp only []
        omega
    · intro z2 ω hP2
      obtain ⟨hx2, e0, ⟨_, eb, hr2⟩ | ⟨e', _⟩⟩ := hP2
      · exact ⟨hx2, hr2, Or.inl ⟨_, hz, by rw [e0, e]; rfl, eb⟩⟩
      · exact absurd e e'
  · refine ⟨hx, ht, d, hg, cn_s hcn rfl, hc', fun υ hr' => wp_mono (s_unifyR hfu hR (by omega) hg hct hr' (fun z => absurd z e)) ?_⟩
    intro z2 ω hP2
    obtain ⟨hx2, e0, ⟨e', _⟩ | ⟨_, hr2⟩⟩ := hP2
    · exact absurd e' e
    · exact ⟨hx2, hr2, Or.inr ⟨_, hz, by rw [e0]; exact c12_rfs e⟩⟩
theorem duo_read {R n fu : Nat} {σ : SS} {x : Int} (hfu : 20000 ≤ fu) (hR : 300 < R) (hRf : R ≤ 1000) (hn : n ≤ 90000) (hJ : JR R n σ) : Duo R n c12 (f_H_read fu x) (f_D_read fu x) σ := by
  obtain ⟨d, hg, hc, hr, h0, h1, hcn⟩ := hJ
  refine duo d h0 h1 hr (wp_mono (s_read hR (by omega) hRf (by omega) hg ⟨h0, by omega⟩ hc) ?_)
  intro z τ hP
  obtain ⟨hx, ht, ⟨e, hz, hc'⟩ | ⟨e, hz, hc'⟩⟩ := hP
  · refine ⟨hx, ht, _, gD_R hR hg e, cn_s hcn rfl, hc', fun υ hr' => wp_mono (s_readR hfu hR (by omega) hg hr') ?_⟩
    intro z2 ω hP2
    obtain ⟨hx2, e0, ⟨_, eb, hr2⟩ | ⟨e', _⟩⟩ := hP2
    · exact ⟨hx2, hr2, Or.inl ⟨_, hz, by rw [e0, e]; rfl, eb⟩⟩
    · exact absurd e e'
  · refine ⟨hx, ht, d, hg, cn_s hcn rfl, hc', fun υ hr' => wp_mono (s_readR hfu hR (by omega) hg hr') ?_⟩
    intro z2 ω hP2
    obtain ⟨hx2, e0, ⟨e', _⟩ | ⟨_, hr2⟩⟩ := hP2
    · exact absurd e' e
    · exact ⟨hx2, hr2, Or.inr ⟨_, hz, by rw [e0]; exact c12_rfs e⟩⟩
theorem duo_item {R n : Nat} {σ : SS} {x : Int} (hn : n ≤ 90000) (hJ : JR R n σ) : Duo R n c3 (f_H_item x) (f_D_item x) σ := by
  obtain ⟨d, hg, hc, hr, h0, h1, hcn⟩ := hJ
  refine duo d h0 h1 hr (wp_mono (s_item hg ⟨h0, by omega⟩ hc) ?_)
  intro z τ hP
  obtain ⟨hx, hc', ht, hP⟩ := hP
  refine ⟨hx, ht, d, hg, cn_s hcn rfl, hc', fun υ hr' => wp_mono (s_itemR hg hr') ?_⟩
  intro z2 ω hP2
  obtain ⟨hx2, e0, hr2, eb⟩ := hP2
  refine ⟨hx2, hr2, ?_⟩
  rcases hP with ⟨v1, v2, hz⟩ | ⟨hv, hz⟩
  · exact Or.inl ⟨_, hz, by rw [e0, if_pos ⟨v1, v2⟩], eb ⟨v1, v2⟩⟩
  · exact Or.inr ⟨_, hz, rfl, by rw [e0, if_neg hv]⟩
theorem duo_isSame {R n fu : Nat} {σ : SS} {x y : Int} (hfu : 20000 ≤ fu) (hR : 300 < R) (hRf : R ≤ 1000) (hn : n ≤ 90000) (hJ : JR R n σ) : Duo R n c12 (f_H_isSame fu x y) (f_D_isSame fu x y) σ := by
  obtain ⟨d, hg, hc, hr, h0, h1, hcn⟩ := hJ
  refine duo d h0 h1 hr (wp_mono (s_isSame hR (by omega) hRf (by omega) hg ⟨h0, by omega⟩ hc) ?_)
  intro z τ hP
  obtain ⟨hx, hc', ht, hP⟩ := hP
  refine ⟨hx, ht, d, hg, cn_s hcn rfl, hc', fun υ hr' => wp_mono (s_isSameR hfu hR (by omega) hg hr') ?_⟩
  intro z2 ω hP2
  obtain ⟨hx2, e0, hr2, eb⟩ := hP2
  refine ⟨hx2, hr2, ?_⟩
  rcases hP with ⟨e, w, hz, w1, w0⟩ | ⟨e, hz⟩
  · refine Or.inl ⟨_, hz, by rw [e0, e]; rfl, ?_⟩
    by_cases c : samR (tN d.2.2.2.1.2.1 R (d.2.2.2.2.1 x.toNat).2.2.1) (tN d.2.2.2.1.2.1 R (d.2.2.2.2.1 y.toNat).2.2.1)
    · rw [w1 c, (eb e).1 c]
    · rw [w0 c, (eb e).2 c]
  · exact Or.inr ⟨_, hz, by rw [e0]; exact c12_rfs e⟩
theorem duo_size {R n fu : Nat} {σ : SS} {x : Int} (hfu : 20000 ≤ fu) (hR : 300 < R) (hRf : R ≤ 1000) (hn : n ≤ 90000) (hJ : JR R n σ) : Duo R n c1 (f_H_size fu x) (f_D_size fu x) σ := by
  obtain ⟨d, hg, hc, hr, h0, h1, hcn⟩ := hJ
  refine duo d h0 h1 hr (wp_mono (s_size hR (by omega) hg ⟨h0, by omega⟩ hc) ?_)
  intro z τ hP
  obtain ⟨hx, hc', ht, hP⟩ := hP
  refine ⟨hx, ht, d, hg, cn_s hcn rfl, hc', fun υ hr' => wp_mono (s_sizeR hfu hR (by omega) hg hr') ?_⟩
  intro z2 ω hP2
  obtain ⟨hx2, e0, hr2, eb⟩ := hP2
  refine ⟨hx2, hr2, ?_⟩
  rcases hP with ⟨v1, v2, hz⟩ | ⟨hv, hz⟩
  · exact Or.inl ⟨_, hz, by rw [e0, if_pos ⟨v1, v2⟩], eb ⟨v1, v2⟩⟩
  · exact Or.inr ⟨_, hz, rfl, by rw [e0, if_neg hv]⟩
theorem usesA_eq {R : Nat} {d : Dk} {h v w : Int} (k : usesA R d h v) (l : usesA R d h w) : v = w := by
  unfold usesA at k l
  split at k
  · rename_i e
    rw [e] at l
    have l' : w = bs 1 (d.2.2.2.1.1 h) - 1 := l
    rw [k, l']
  · rename_i F e
    rw [e] at l
    have l' : rng w ∧ iv w = rb (iv 0) (tN d.2.2.2.1.2.1 R F) := l
    exact (iv_eq k.1 l'.1).mp (by rw [k.2, l'.2])
theorem duo_uses {R n fu : Nat} {σ : SS} {x : Int} (hfu : 20000 ≤ fu) (hR : 300 < R) (hRf : R ≤ 1000) (hn : n ≤ 90000) (hJ : JR R n σ) : Duo R n c1 (f_H_uses fu x) (f_D_uses fu x) σ := by
  obtain ⟨d, hg, hc, hr, h0, h1, hcn⟩ := hJ
  refine duo d h0 h1 hr (wp_mono (s_uses hR (by omega) hRf (by omega) hg ⟨h0, by omega⟩ hc) ?_)
  intro z τ hP
  obtain ⟨hx, hc', ht, hP⟩ := hP
  refine ⟨hx, ht, d, hg, cn_s hcn rfl, hc', fun υ hr' => wp_mono (s_usesR hfu hR (by omega) hg hr') ?_⟩
  intro z2 ω hP2
  obtain ⟨hx2, e0, hr2, eb⟩ := hP2
  refine ⟨hx2, hr2, ?_⟩
  rcases hP with ⟨v1, v2, w, hz, hw⟩ | ⟨hv, hz⟩
  · exact Or.inl ⟨_, hz, by rw [e0, if_pos ⟨v1, v2⟩], usesA_eq (eb ⟨v1, v2⟩) hw⟩
  · exact Or.inr ⟨_, hz, rfl, by rw [e0, if_neg hv]⟩
/-- the two that throw nothing -/
def Duo0 (R n : Nat) (fH fD : SS → Option (Int × SS)) (σ : SS) : Prop := ∃ z τ ω, fH σ = some (z, τ) ∧ fD τ = some (z, ω) ∧ JR R (n + 1) ω
theorem duo_empty {R n fu : Nat} {σ : SS} (hfu : 20000 ≤ fu) (hJ : JR R n σ) : Duo0 R n (f_H_empty fu) (f_D_empty fu) σ := by
  obtain ⟨d, hg, hc, hr, h0, h1, hcn⟩ := hJ
  obtain ⟨z, τ, e1, hx, hc', h9, hz⟩ := s_empty (fu := fu) (by omega) hg hc
  obtain ⟨b, ω, e2, hx2, -, hr2, hb⟩ := s_emptyR hfu hg (rD_XH hx hr)
  have h8 : ω.1 0 99 = τ.1 0 99 := fx_f hx2 (fun z => by unfold XD at z; omega)
  refine ⟨z, τ, ω, e1, by rw [e2, hb, hz], dkE d, gD_E hg, cD_XD (gD_E hg) hx2 hc', hr2, by omega, by omega, cn_s hcn rfl⟩
theorem duo_count {R n fu : Nat} {σ : SS} {x : Int} (hfu : 20000 ≤ fu) (hJ : JR R n σ) : Duo0 R n (f_H_count x) (f_D_count fu x) σ := by
  obtain ⟨d, hg, hc, hr, h0, h1, hcn⟩ := hJ
  obtain ⟨b, ω, e2, hx2, hr2, hb⟩ := s_countR (x := x) hfu hg hr
  have h8 : ω.1 0 99 = σ.1 0 99 := fx_f hx2 (fun z => by unfold XD at z; omega)
  refine ⟨aCnt d x, σ, ω, s_count hc, by rw [e2, hb], d, hg, cD_XD hg hx2 hc, hr2, by omega, by omega, cn_s hcn rfl⟩
