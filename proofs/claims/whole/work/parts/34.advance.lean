/-! THE CURSOR GOES ON -/
theorem ck_t {α : Type} {P : Prop} [Decidable P] {m : Option α} (h : P) : ck P m = m := by unfold ck; rw [if_pos h]
theorem lb_e {α β : Type} (x : α) (f : α → β) : lb x f = f x := rfl
theorem wp_e {α β : Type} {P : α → SS → Prop} {m : Option (β × SS)} {k : β → SS → Option (α × SS)} {a : β} {σ : SS} (e : m = some (a, σ)) (h : Wp (k a σ) P) : Wp (sq m k) P := by
  rw [e]
  exact h
theorem s_outside {p : Nat} {pa : Int → Int} {Φ : Fl} {N : Int} {f : Fr} {fs : List Fr} {σ : SS} {v b : Int} (hp4 : pa4 pa) (hfs : frs σ p pa (f :: fs)) (hok : fok pa Φ N (f :: fs)) (ht : σ.1 p 6 = fs.length) (h64 : fs.length < 64) (hv : 0 ≤ v) (hb : 0 ≤ b) (hvn : v < b + nfr pa N fs f.2.2.2) (hbs : b ≤ 1000000) (hβ : f.2.1 ≤ 1000000) (hN : N ≤ 1000) : f_U_outside p v b σ = some (tV f.2.2.1 b v, σ) := by
  unfold f_U_outside
  obtain ⟨o1, o2, o3, o4, o5, o6, o7, o8⟩ := hok
  by_cases c0 : fs = []
  · rw [if_pos (by rw [ht, c0]; rfl), (o5 c0).2, tV_id]
  · have hl : 0 < fs.length := by
      cases fs with
      | nil => exact absurd rfl c0
      | cons g fs => rw [List.length_cons]; omega
    rw [if_neg (by omega)]
    by_cases c1 : v < b
    · rw [if_pos c1, tV_lt c1]
    · rw [if_neg c1, tV_ge (by omega)]
      have e1 : nfr pa N fs f.2.2.2 = pa f.2.2.2 := if_neg c0
      rw [e1] at hvn o3
      have h4 := hp4 f.2.2.2
      have h5 := o3 (v - b) (by omega) (by omega)
      have h6 := hfs.1.2.2 hl (v - b) (by omega) (by omega)
      rw [ht]
      rw [ck_t (by omega), lb_e, ck_t (by omega), ck_t (by omega), h6, ck_t (by omega)]
theorem s_vars {fu p : Nat} {pa : Int → Int} {Φ : Fl} {N : Int} {f : Fr} {fs : List Fr} {vs : List Int} {place b x1 : Int} (hc : cur p) (hp4 : pa4 pa) (hok : fok pa Φ N (f :: fs)) (h64 : fs.length < 64) (hb : 0 ≤ b) (hbs : b ≤ 1000000) (hβ : f.2.1 ≤ 1000000) (hN : N ≤ 1000) (hpl : 0 ≤ place) (hpl2 : place ≤ 1000000) (h4 : vs.length ≤ 4) (hvs : ∀ v ∈ vs, 0 ≤ v ∧ v < b + nfr pa N fs f.2.2.2) :
    ∀ (m i n : Nat) (σ : SS), m + i = vs.length → m < n → frs σ p pa (f :: fs) → σ.1 p 6 = fs.length → σ.1 p 11 = vs.length → (∀ (k : Nat) (v : Int), vs[k]? = some v → cA σ (place + 1 + k) = 4 * v) → (∀ (k : Nat) (v : Int), k < i → vs[k]? = some v → gA σ (p + 5) 4 k = tV f.2.2.1 b v) →
    Wp (l_U_advance_166 fu p n x1 place b i σ) (fun _ τ => fx (jst (p + 5)) σ τ ∧ (∀ a b, τ.1 a b = σ.1 a b) ∧ ∀ (k : Nat) (v : Int), vs[k]? = some v → gA τ (p + 5) 4 k = tV f.2.2.1 b v) := by
  intro m
  have hcg := cur_ge hc
  induction m with
  | zero =>
    intro i n σ hmi hn hfs ht hcnt hcell hdone
    cases n with
    | zero => omega
    | succ n =>
      rw [l_U_advance_166]
      refine wp_f (by rw [hcnt]; omega) (wp_some ⟨fx_rf, fun _ _ => rfl, fun k v hv => hdone k v ?_ hv⟩)
      have := (List.getElem?_eq_some_iff.mp hv).1
      omega
  | succ m ih =>
    intro i n σ hmi hn hfs ht hcnt hcell hdone
    cases n with
    | zero => omega
    | succ n =>
      rw [l_U_advance_166]
      have hi : i < vs.length := by omega
      have hv : vs[i]? = some vs[i] := List.getElem?_eq_getElem hi
      have hvm := hvs vs[i] (List.getElem_mem hi)
      refine wp_t (by rw [hcnt]; omega) (wp_ck (by omega) (wp_ck (by omega) ?_))
      refine wp_e rfl ?_
      have e1 : cA σ (place + 1 + (i : Int)) / 4 = vs[i] := by rw [hcell i _ hv]; omega
      rw [e1]
      refine wp_lx (wp_e (s_outside hp4 hfs hok ht h64 hvm.1 hb hvm.2 hbs hβ hN) ?_)
      refine wp_lx (wp_ck (by omega) ?_)
      have hfx : fx (jst (p + 5)) σ (gS σ (p + 5) 4 i (tV f.2.2.1 b vs[i])) := fx_S fx_rf rfl
      have e2 : ((i : Int) + 1) = ((i + 1 : Nat) : Int) := by omega
      rw [e2]
      have h3 := ih (i + 1) n (gS σ (p + 5) 4 i (tV f.2.2.1 b vs[i])) (by omega) (by omega) (frs_fx hfx (fun a ha z => by have : a = p + 5 := z; omega) (fun a ha h9 z => by have : a = p + 5 := z; omega) hfs) (by rw [gS_f']; exact ht) (by rw [gS_f']; exact hcnt) (fun k v hk => by rw [fx_cA hfx (fun z => by have : 1 = p + 5 := z; omega) (fun z => by have : 2 = p + 5 := z; omega)]; exact hcell k v hk) (fun k v hk hkv => by
        by_cases c : k = i
        · subst c
          rw [hv] at hkv
          cases hkv
          exact gA_S_same (by omega) (by omega)
        · rw [gA_S_ne (fun z => c (by omega))]
          exact hdone k v (by omega) hkv)
      refine wp_mono h3 (fun _ τ k => ⟨fx_tr hfx k.1, fun a b => by rw [k.2.1, gS_f'], k.2.2⟩)
/-- the images of a filling's row are laid -/
theorem s_images {fu p : Nat} {vs : List Int} {top : Nat} (hc : cur p) (h64 : top < 64) (h4 : vs.length ≤ 4) :
    ∀ (m i n : Nat) (σ : SS), m + i = vs.length → m < n → σ.1 p 6 = top → σ.1 p 11 = vs.length → (∀ (k : Nat) (v : Int), vs[k]? = some v → gA σ (p + 5) 4 k = v) → (∀ (k : Nat) (v : Int), k < i → vs[k]? = some v → gA σ (p + 4) 256 ((top : Int) * 4 + k) = v) →
    Wp (l_U_enterFilling_94 fu p n i σ) (fun _ τ => fx (jst (p + 4)) σ τ ∧ (∀ a b, τ.1 a b = σ.1 a b) ∧ (∀ j : Int, j < (top : Int) * 4 → gA τ (p + 4) 256 j = gA σ (p + 4) 256 j) ∧ ∀ (k : Nat) (v : Int), vs[k]? = some v → gA τ (p + 4) 256 ((top : Int) * 4 + k) = v) := by
  intro m
  have hcg := cur_ge hc
  induction m with
  | zero =>
    intro i n σ hmi hn ht hcnt hvar hdone
    cases n with
    | zero => omega
    | succ n =>
      rw [l_U_enterFilling_94]
      refine wp_f (by rw [hcnt]; omega) (wp_some ⟨fx_rf, fun _ _ => rfl, fun _ _ => rfl, fun k v hv => hdone k v ?_ hv⟩)
      have := (List.getElem?_eq_some_iff.mp hv).1
      omega
  | succ m ih =>
    intro i n σ hmi hn ht hcnt hvar hdone
    cases n with
    | zero => omega
    | succ n =>
      rw [l_U_enterFilling_94]
      have hi : i < vs.length := by omega
      have hv : vs[i]? = some vs[i] := List.getElem?_eq_getElem hi
      rw [ht]
      refine wp_t (by rw [hcnt]; omega) (wp_ck (by omega) (wp_ck (by omega) (wp_lx (wp_ck (by omega) ?_))))
      rw [hvar i _ hv]
      have hfx : fx (jst (p + 4)) σ (gS σ (p + 4) 256 ((top : Int) * 4 + i) vs[i]) := fx_S fx_rf rfl
      have e2 : ((i : Int) + 1) = ((i + 1 : Nat) : Int) := by omega
      rw [e2]
      have h3 := ih (i + 1) n (gS σ (p + 4) 256 ((top : Int) * 4 + i) vs[i]) (by omega) (by omega) (by rw [gS_f']; exact ht) (by rw [gS_f']; exact hcnt) (fun k v hk => by rw [gA_S_ne (fun z => by omega)]; exact hvar k v hk) (fun k v hk hkv => by
        by_cases c : k = i
        · subst c
          rw [hv] at hkv
          cases hkv
          exact gA_S_same (by omega) (by omega)
        · rw [gA_S_ne (fun z => c (by omega))]
          exact hdone k v (by omega) hkv)
      refine wp_mono h3 (fun _ τ k => ⟨fx_tr hfx k.1, fun a b => by rw [k.2.1, gS_f'], fun j hj => by rw [k.2.2.1 j hj, gA_S_ne (fun z => by omega)], k.2.2.2⟩)
/-- the group at which a cursor is -/
def grp (σ : SS) (p : Nat) (e : AG) : Prop := σ.1 p 7 = e.2.1 % 4 ∧ σ.1 p 8 = e.2.1 / 4 ∧ σ.1 p 9 = e.1 ∧ σ.1 p 11 = (e.2.2.length : Int) ∧ ∀ (k : Nat) (v : Int), e.2.2[k]? = some v → gA σ (p + 5) 4 k = v
/-- all holes are good: fillings fit, are terms, have ranks below R, have sizes up to 80 -/
def hOk (O : Op) (pa : Int → Int) (Φ : Fl) (R : Nat) : Prop := okF pa Φ ∧ wfF O Φ ∧ (∃ rk, rkd Φ rk ∧ ∀ h, rk h < R) ∧ pa4 pa ∧ (∀ h F, Φ h = some F → 0 ≤ pa h) ∧ ∀ h F, Φ h = some F → (tN Φ R F).length ≤ 80
theorem hOk_lw {O : Op} {pa : Int → Int} {Φ : Fl} {R : Nat} {rk : Int → Nat} (h : ∀ h, rk h < R) (r : Row) : lw Φ rk R r := fun e _ _ => h _
theorem tN_hole {O : Op} {pa : Int → Int} {Φ : Fl} {R : Nat} {e : AG} {F : Row} (hh : hOk O pa Φ R) (hc : e.2.1 % 4 = 2) (hF : Φ (e.2.1 / 4) = some F) : tN Φ R [e] = (tN Φ R F).map (tS e.1 (tI e.2.2)) := by
  obtain ⟨h1, h2, ⟨rk, h3, h4⟩, h5, h6, h7⟩ := hh
  have hR : 0 < R := Nat.lt_of_le_of_lt (Nat.zero_le _) (h4 0)
  obtain ⟨R', rfl⟩ : ∃ R', R = R' + 1 := ⟨R - 1, by omega⟩
  have e1 : tN Φ (R' + 1) [e] = tN Φ R' (F.map (tS e.1 (tI e.2.2))) := by
    show tN Φ R' (tE Φ [e]) = _
    congr 1
    unfold tE tX
    rw [List.flatMap_cons, List.flatMap_nil, List.append_nil, if_pos hc, hF]
  have e2 : lw Φ rk R' F := lw_mono (h3 _ _ hF) (by have := h4 (e.2.1 / 4); omega)
  rw [e1, tN_sub (h6 _ _ hF) h1 R' (h1 _ _ hF), tN_stab h3 R' (R' + 1) e2 (Nat.le_succ _)]
theorem tN_open {Φ : Fl} {R : Nat} {e : AG} (h : ¬ isF Φ e) : tN Φ R [e] = [e] := tN_nof R (fun x hx => by cases List.mem_singleton.mp hx; exact h)
/-- a group's bound is the bound of the first group that stands for it -/
theorem bnd_E {O : Op} {Φ : Fl} (hw : wfF O Φ) {r : Row} {e : AG} (he : e ∈ r) : ∃ x ∈ tE Φ r, x.1 = e.1 := by
  by_cases c : isF Φ e
  · obtain ⟨c1, F, hF⟩ := c
    cases F with
    | nil => exact absurd rfl (wfF_ne hw _ _ hF)
    | cons y F =>
      have h0 := hw _ _ hF
      obtain ⟨T, h1, -⟩ := tR_inv h0
      have hy : y.1 = 0 := (List.cons.inj h1).1.symm
      refine ⟨tS e.1 (tI e.2.2) y, List.mem_flatMap.mpr ⟨e, he, ?_⟩, ?_⟩
      · unfold tX
        rw [if_pos c1, hF]
        exact List.mem_cons_self
      · show e.1 + y.1 = e.1
        omega
  · refine ⟨e, List.mem_flatMap.mpr ⟨e, he, ?_⟩, rfl⟩
    rw [tX_nof c]
    exact List.mem_cons_self
theorem bnd_N {O : Op} {Φ : Fl} (hw : wfF O Φ) : ∀ (k : Nat) {r : Row} {e : AG}, e ∈ r → ∃ x ∈ tN Φ k r, x.1 = e.1 := by
  intro k
  induction k with
  | zero => intro r e he; exact ⟨e, he, rfl⟩
  | succ k ih =>
    intro r e he
    obtain ⟨x, hx, h1⟩ := bnd_E hw he
    obtain ⟨y, hy, h2⟩ := ih hx
    exact ⟨y, hy, h2.trans h1⟩
/-! the rows that wait are few -/
theorem sz_mem {Φ : Fl} {R : Nat} {F : Row} {e : AG} (he : e ∈ F) : (tN Φ R [e]).length ≤ (tN Φ R F).length := by
  obtain ⟨a, b, rfl⟩ := List.append_of_mem he
  rw [tN_append Φ R a (e :: b), tN_cons Φ R e b, List.length_append, List.length_append]
  omega
theorem dsc_sz {O : Op} {pa : Int → Int} {Φ : Fl} {R : Nat} (hh : hOk O pa Φ R) : ∀ (n : Nat) {g h : Int} {F H : Row}, dsc Φ n g h → Φ g = some F → Φ h = some H → (tN Φ R H).length ≤ (tN Φ R F).length := by
  intro n
  induction n with
  | zero => intro g h F H hd h1 h2; have : g = h := hd; subst this; rw [h1] at h2; cases h2; exact Nat.le_refl _
  | succ n ih =>
    intro g h F H hd h1 h2
    obtain ⟨F', e, k1, k2, k3, k4⟩ := hd
    rw [h1] at k1
    cases k1
    have k5 := sz_mem (Φ := Φ) (R := R) k2
    cases hF : Φ (e.2.1 / 4) with
    | some E =>
      rw [tN_hole hh k3 hF, List.length_map] at k5
      exact Nat.le_trans (ih k4 hF h2) k5
    | none =>
      cases n with
      | zero => have : e.2.1 / 4 = h := k4; rw [this, h2] at hF; cases hF
      | succ n => obtain ⟨F9, e9, q, -⟩ := k4; rw [hF] at q; cases q
theorem chn_sz {O : Op} {pa : Int → Int} {Φ : Fl} {R : Nat} {N : Int} (hh : hOk O pa Φ R) : ∀ {fs : List Fr} {h : Int} {H : Row}, fs ≠ [] → fok pa Φ N fs → chn Φ h fs → Φ h = some H → (tN Φ R H).length + 2 * fs.length ≤ 82 := by
  intro fs
  induction fs with
  | nil => intro h H hne; exact absurd rfl hne
  | cons f fs ih =>
    intro h H _ hok hch hH
    have h80 := hh.2.2.2.2.2 h H hH
    cases fs with
    | nil => show _ + 2 * 1 ≤ 82; omega
    | cons g fs =>
      obtain ⟨pre, e, n, h1, h2, h3, h4⟩ := hch
      have h5 := ih (by simp) hok.2.2.2.2.2.2.2 hok.2.2.2.2.2.2.1 h1
      have hpre : pre ≠ [] := by
        intro z
        rw [z, List.nil_append] at h1
        obtain ⟨T, k1, k2⟩ := tR_inv (hh.2.1 _ _ h1)
        rw [tP_hole (by omega)] at k2
        have : T = [] := (List.cons.inj k1).2.symm
        rw [this] at k2
        cases hf : f.1 with
        | nil => exact h2 hf
        | cons x xs => rw [hf] at k2; cases k2
      have h6 : 1 ≤ (tN Φ R pre).length := Nat.le_trans (by cases pre with | nil => exact absurd rfl hpre | cons x xs => rw [List.length_cons]; omega) (len_N hh.2.1 R pre)
      have h7 : 1 ≤ (tN Φ R f.1).length := Nat.le_trans (by cases hf : f.1 with | nil => exact absurd hf h2 | cons x xs => rw [List.length_cons]; omega) (len_N hh.2.1 R f.1)
      have h8 : (tN Φ R H).length ≤ (tN Φ R [e]).length := by
        cases hE : Φ (e.2.1 / 4) with
        | some E => rw [tN_hole hh h3 hE, List.length_map]; exact dsc_sz hh n h4 hE hH
        | none =>
          cases n with
          | zero => have : e.2.1 / 4 = h := h4; rw [this, hH] at hE; cases hE
          | succ n => obtain ⟨F9, e9, q, -⟩ := h4; rw [hE] at q; cases q
      rw [tN_append, tN_cons, List.length_append, List.length_append] at h5
      rw [List.length_cons]
      omega
theorem dsc_snoc {Φ : Fl} {h : Int} {F : Row} {e : AG} (he : e ∈ F) (h3 : e.2.1 % 4 = 2) : ∀ (n : Nat) {g : Int}, dsc Φ n g h → Φ h = some F → dsc Φ (n + 1) g (e.2.1 / 4) := by
  intro n
  induction n with
  | zero => intro g hd hF; have : g = h := hd; subst this; exact ⟨F, e, hF, he, h3, rfl⟩
  | succ n ih =>
    intro g hd hF
    obtain ⟨F', x, k1, k2, k3, k4⟩ := hd
    exact ⟨F', x, k1, k2, k3, ih k4 hF⟩
