/-! THE CLASS HOLDS A STATE OF HOLES -/
def lay (σ : SS) : List Int → Int → Prop
  | [], s => σ.1 1 2 = s
  | h :: t, s => gA σ 9 324 h = s ∧ s ≤ gA σ 10 324 h ∧ lay σ t (gA σ 10 324 h)
def cSt (σ : SS) (told : Int) (s : St) : Prop := cHol σ s.1 s.2.1 ∧ cCel σ ∧ σ.1 7 6 = told ∧ σ.1 7 7 = s.2.2.2 ∧ σ.1 7 8 = (s.2.2.1.length : Int) ∧ (∀ (k : Nat) (v : Int), s.2.2.1[k]? = some v → gA σ 12 324 k = v) ∧ lay σ s.2.2.1 1200 ∧ ∀ h, s.2.1 h = none → gA σ 9 324 h = 0
theorem lay_fx {X : Nat → Prop} {σ τ : SS} (h : fx X σ τ) (h1 : ¬ X 1) (h9 : ¬ X 9) (h10 : ¬ X 10) : ∀ {l : List Int} {s : Int}, lay σ l s → lay τ l s := by
  intro l
  induction l with
  | nil => intro s k; show τ.1 1 2 = s; rw [fx_f h h1]; exact k
  | cons a l ih =>
    intro s k
    show gA τ 9 324 a = s ∧ s ≤ gA τ 10 324 a ∧ lay τ l (gA τ 10 324 a)
    rw [fx_g h h9, fx_g h h10]
    exact ⟨k.1, k.2.1, ih k.2.2⟩
theorem cSt_fx {X : Nat → Prop} {σ τ : SS} {told : Int} {s : St} (h : fx X σ τ) (h0 : ∀ a, 1 ≤ a → a ≤ 3 → ¬ X a) (h7 : ∀ a, 7 ≤ a → a ≤ 12 → a ≠ 11 → ¬ X a) (k : cSt σ told s) : cSt τ told s := by
  obtain ⟨k1, k2, k3, k4, k5, k6, k7, k8⟩ := k
  refine ⟨cHol_fx h (h0 1 (by omega) (by omega)) (h0 2 (by omega) (by omega)) (h0 3 (by omega) (by omega)) (h7 8 (by omega) (by omega) (by omega)) (h7 9 (by omega) (by omega) (by omega)) (h7 10 (by omega) (by omega) (by omega)) k1, ?_, ?_, ?_, ?_, ?_, lay_fx h (h0 1 (by omega) (by omega)) (h7 9 (by omega) (by omega) (by omega)) (h7 10 (by omega) (by omega) (by omega)) k7, ?_⟩
  · unfold cCel; rw [fx_f h (h0 1 (by omega) (by omega)), fx_f h (h0 1 (by omega) (by omega))]; exact k2
  · rw [fx_f h (h7 7 (by omega) (by omega) (by omega))]; exact k3
  · rw [fx_f h (h7 7 (by omega) (by omega) (by omega))]; exact k4
  · rw [fx_f h (h7 7 (by omega) (by omega) (by omega))]; exact k5
  · intro k v hk; rw [fx_g h (h7 12 (by omega) (by omega) (by omega))]; exact k6 k v hk
  · intro g hg; rw [fx_g h (h7 9 (by omega) (by omega) (by omega))]; exact k8 g hg
def X78 : Nat → Prop := fun a => a = 7 ∨ a = 8
theorem s_makeNew {O : Op} {told n : Int} {s : St} {σ : SS} (hs : sOk O told s) (hc : cSt σ told s) (hm : told + s.2.2.2 < 300) (hn : 0 ≤ n) :
    Wp (f_G_makeNew n σ) (fun a τ => a = 24 + s.2.2.2 ∧ fx X78 σ τ ∧ cSt τ told (sNew s n)) := by
  obtain ⟨k1, k2, k3, k4, k5, k6, k7, k8⟩ := hc
  have h8 := hs.2.2.2.2.2.2.2.1
  unfold f_G_makeNew
  rw [k3, k4]
  refine wp_ck (by omega) (wp_t (by omega) (wp_ck (by omega) (wp_lx (wp_lb (fun σ7 e7 => ?_)))))
  have f7 : ∀ a b, σ7.1 a b = σ.1 a b := fun a b => by rw [e7, gS_f']
  rw [f7, k4]
  refine wp_ck (by omega) (wp_lb (fun σ12 e12 => wp_some ⟨rfl, ?_, ?_⟩))
  · rw [e12, e7]; exact fx_F (fx_S fx_rf (by unfold X78; omega)) (by unfold X78; omega)
  · have hx : fx X78 σ σ12 := by rw [e12, e7]; exact fx_F (fx_S fx_rf (by unfold X78; omega)) (by unfold X78; omega)
    have nx : ∀ a, a ≠ 7 → a ≠ 8 → ¬ X78 a := fun a h1 h2 z => z.elim h1 h2
    have g8 : ∀ j, j ≠ 24 + s.2.2.2 → gA σ12 8 324 j = gA σ 8 324 j := fun j hj => by rw [e12, gA_F, e7, gA_S_ne (by omega)]
    have g8' : gA σ12 8 324 (24 + s.2.2.2) = n := by rw [e12, gA_F, e7, gA_S_same (by omega) (by omega)]
    refine ⟨fun h hh => ?_, ?_, ?_, ?_, ?_, ?_, lay_fx hx (nx _ (by omega) (by omega)) (nx _ (by omega) (by omega)) (nx _ (by omega) (by omega)) k7, ?_⟩
    · rw [fx_g hx (nx 9 (by omega) (by omega)), fx_g hx (nx 10 (by omega) (by omega)), fx_f hx (nx 1 (by omega) (by omega))]
      by_cases c : h = 24 + s.2.2.2
      · have hno : s.2.1 h = none := by
          cases hq : s.2.1 h with
          | none => rfl
          | some F =>
            have := (hs.2.2.2.2.2.2.1 h).mp (hs.2.2.2.2.2.2.2.2.1 h ((hs.2.2.2.2.2.1 h).mp ⟨F, hq⟩))
            omega
        refine ⟨by omega, by omega, ?_, fun _ => k8 h hno, fun F hF => ?_⟩
        · show gA σ12 8 324 h = up1 s.1 (24 + s.2.2.2) n h
          rw [c, up1_same]
          exact g8'
        · have : s.2.1 h = some F := hF
          rw [hno] at this
          cases this
      · have hh' : 0 ≤ s.1 h := by have h9 : 0 ≤ up1 s.1 (24 + s.2.2.2) n h := hh; rw [up1_ne c] at h9; exact h9
        obtain ⟨a, b, d, e, f⟩ := k1 h hh'
        refine ⟨a, b, ?_, e, fun F hF => ⟨(f F hF).1, cseg_fx hx (nx _ (by omega) (by omega)) (nx _ (by omega) (by omega)) (nx _ (by omega) (by omega)) (f F hF).2.1, (f F hF).2.2⟩⟩
        show gA σ12 8 324 h = up1 s.1 (24 + s.2.2.2) n h
        rw [up1_ne c, g8 h c]
        exact d
    · unfold cCel; rw [fx_f hx (nx 1 (by omega) (by omega)), fx_f hx (nx 1 (by omega) (by omega))]; exact k2
    · rw [e12, sF_f (by decide), f7]; exact k3
    · rw [e12, sF_same]; rfl
    · rw [e12, sF_f (by decide), f7]; exact k5
    · intro k v hk; rw [fx_g hx (nx 12 (by omega) (by omega))]; exact k6 k v hk
    · intro g hg; rw [fx_g hx (nx 9 (by omega) (by omega))]; exact k8 g hg
theorem lay_snoc {σ τ : SS} {h : Int} (h9 : gA τ 9 324 h = σ.1 1 2) (h10 : gA τ 10 324 h = τ.1 1 2) (hle : σ.1 1 2 ≤ τ.1 1 2) : ∀ {l : List Int} {s : Int}, (∀ g ∈ l, gA τ 9 324 g = gA σ 9 324 g ∧ gA τ 10 324 g = gA σ 10 324 g) → lay σ l s → lay τ (l ++ [h]) s := by
  intro l
  induction l with
  | nil =>
    intro s _ k
    have k' : σ.1 1 2 = s := k
    show gA τ 9 324 h = s ∧ s ≤ gA τ 10 324 h ∧ τ.1 1 2 = gA τ 10 324 h
    rw [h9, h10]
    omega
  | cons a l ih =>
    intro s hg k
    have h1 := hg a List.mem_cons_self
    show gA τ 9 324 a = s ∧ s ≤ gA τ 10 324 a ∧ lay τ (l ++ [h]) (gA τ 10 324 a)
    rw [h1.1, h1.2]
    exact ⟨k.1, k.2.1, ih (fun g hg2 => hg g (List.mem_cons_of_mem _ hg2)) k.2.2⟩
/-- behind a filling the class holds the state with it -/
theorem cSt_fil {O : Op} {X : Nat → Prop} {told h : Int} {s : St} {F : Row} {σ σ1 τ : SS} (n3 : ∀ a, 4 ≤ a → a ≤ 12 → ¬ X a) (hs : sOk O told s) (hc : cSt σ told s) (hΦ : s.2.1 h = none) (hp : 0 ≤ s.1 h) (hm : s.2.2.2 ≤ 300) (hol : s.2.2.1.length < 324)
    (hx1 : fx X σ σ1) (hcel : cCel σ1) (hcl : cle σ σ1 (σ.1 1 2)) (htop : σ.1 1 2 ≤ σ1.1 1 2) (hF : cseg σ1 (σ.1 1 2) F (σ1.1 1 2)) (hτ : filP h (σ.1 1 2) σ1 τ) : cSt τ told (sFil s h F) ∧ cle σ τ (σ.1 1 2) ∧ τ.1 1 2 = σ1.1 1 2 := by
  obtain ⟨k1, k2, k3, k4, k5, k6, k7, k8⟩ := hc
  obtain ⟨t1, t2, t3, t4, t5, t6, t7, t8, t9, t10, t11, t12⟩ := hτ
  have f7 : ∀ b, σ1.1 7 b = σ.1 7 b := fun b => fx_f hx1 (n3 7 (by omega) (by omega))
  have clt : cle σ τ (σ.1 1 2) := fun i hi => ⟨by rw [(t3 i).1, (hcl i hi).1], by rw [(t3 i).2, (hcl i hi).2]⟩
  have e9 : ∀ g, g ≠ h → gA τ 9 324 g = gA σ 9 324 g := fun g hg => by rw [(t11 g hg).1, fx_g hx1 (n3 9 (by omega) (by omega))]
  have e10 : ∀ g, g ≠ h → gA τ 10 324 g = gA σ 10 324 g := fun g hg => by rw [(t11 g hg).2, fx_g hx1 (n3 10 (by omega) (by omega))]
  rw [f7] at t5 t6 t7 t10 t12
  have hseg : cseg τ (σ.1 1 2) F (σ1.1 1 2) := cseg_cle (σ := σ1) (fun i hi => t3 i) hF (Int.le_refl _)
  refine ⟨⟨fun g hg => ?_, ?_, ?_, ?_, ?_, ?_, ?_, ?_⟩, clt, t2⟩
  · have hg' : 0 ≤ s.1 g := hg
    obtain ⟨a, b, d, e, f⟩ := k1 g hg'
    rw [fx_g t1 (by unfold X79; omega), fx_g hx1 (n3 8 (by omega) (by omega))]
    refine ⟨a, b, d, fun hn => ?_, fun G hG => ?_⟩
    · have hn' : up1 s.2.1 h (some F) g = none := hn
      by_cases c : g = h
      · rw [c, up1_same] at hn'; cases hn'
      · rw [up1_ne c] at hn'
        rw [e9 g c]
        exact e hn'
    · have hG' : up1 s.2.1 h (some F) g = some G := hG
      by_cases c : g = h
      · rw [c, up1_same] at hG'
        cases hG'
        rw [c, t8, t9, t2]
        exact ⟨by have := k2.2.1; omega, hseg, Int.le_refl _⟩
      · rw [up1_ne c] at hG'
        obtain ⟨f1, f2, f3⟩ := f G hG'
        rw [e9 g c, e10 g c, t2]
        exact ⟨f1, cseg_cle clt f2 f3, by omega⟩
  · unfold cCel; rw [t2, t4]; exact hcel
  · rw [t6]; exact k3
  · rw [t7]; exact k4
  · rw [t5, k5]
    show (s.2.2.1.length : Int) + 1 = ((s.2.2.1 ++ [h]).length : Int)
    rw [List.length_append]
    rfl
  · intro k v hk
    have hk' : (s.2.2.1 ++ [h])[k]? = some v := hk
    by_cases c : k < s.2.2.1.length
    · rw [List.getElem?_append_left c] at hk'
      rw [t12 _ (by rw [k5]; omega), fx_g hx1 (n3 12 (by omega) (by omega))]
      exact k6 k v hk'
    · rw [List.getElem?_append_right (by omega)] at hk'
      have hz := (List.getElem?_eq_some_iff.mp hk').1
      have hz2 : k = s.2.2.1.length := by
        have : [h].length = 1 := rfl
        omega
      subst hz2
      rw [Nat.sub_self] at hk'
      cases hk'
      rw [← k5]
      exact t10
  · refine lay_snoc (σ := σ) (by rw [t8]) (by rw [t9, t2]) (by rw [t2]; exact htop) (fun g hg => ?_) k7
    have hgh : g ≠ h := fun z => by
      obtain ⟨G, hG⟩ := (hs.2.2.2.2.2.1 g).mpr hg
      rw [z, hΦ] at hG
      cases hG
    exact ⟨e9 g hgh, e10 g hgh⟩
  · intro g hg
    have hg' : up1 s.2.1 h (some F) g = none := hg
    have c : g ≠ h := fun z => by rw [z, up1_same] at hg'; cases hg'
    rw [up1_ne c] at hg'
    rw [e9 g c]
    exact k8 g hg'
theorem s_fillWithHole {O : Op} {fu q : Nat} {told h g : Int} {s : St} {kept : List Int} {σ : SS} (hfu : 10 ≤ fu) (hq : q = 43 ∨ q = 44) (hs : sOk O told s) (hc : cSt σ told s) (hΦ : s.2.1 h = none) (hp : 0 ≤ s.1 h) (hm : s.2.2.2 ≤ 300) (hol : s.2.2.1.length < 324) (ht : σ.1 1 2 < 130000) (hg : 0 ≤ g) (hg2 : g < 324) (hpg : s.1 g = (kept.length : Int)) (hk4 : kept.length ≤ 4) (hkv : ∀ v ∈ kept, 0 ≤ v ∧ v < 10) (hka : ∀ (k : Nat) (v : Int), kept[k]? = some v → gA σ q 4 k = v) :
    Wp (f_G_fillWithHole fu h g q σ) (fun a τ => a = 1 ∧ cSt τ told (sFil s h (hRow g kept)) ∧ fx X79 σ τ ∧ cle σ τ (σ.1 1 2) ∧ τ.1 1 2 ≤ σ.1 1 2 + 5 ∧ σ.1 1 2 ≤ τ.1 1 2) := by
  have hhr := sOk_h hs hp hm
  unfold f_G_fillWithHole
  refine wp_f (by omega) (wp_lx (wp_ck (by omega) (wp_sq (s_append hc.2.1 (by omega)) ?_)))
  rintro - σ6 ⟨a1, a2, a3, a4, a5, a6⟩
  have n3 : ∀ a, 4 ≤ a → ¬ X3 a := fun a ha z => by unfold X3 at z; omega
  have e8 : gA σ6 8 324 g = (kept.length : Int) := by rw [fx_g a1 (n3 8 (by omega)), (hc.1 g (by omega)).2.2.1, hpg]
  refine wp_e rfl ?_
  rw [e8]
  have hka6 : ∀ (k : Nat) (v : Int), kept[k]? = some v → gA σ6 q 4 k = v := fun k v hk => by rw [fx_g a1 (n3 q (by omega))]; exact hka k v hk
  refine wp_sq (s_fwh (x1 := h) (x4 := σ.1 1 2) hq hk4 kept.length 0 fu σ6 (by omega) (by omega) a2 (by omega) hkv hka6 (fun k v hk => by rw [List.take_zero] at hk; cases hk)) ?_
  rintro - σ16 ⟨b1, b2, b3, b4, b5⟩
  have x16 : fx X3 σ σ16 := fx_tr a1 b1
  have c16 : cle σ σ16 (σ.1 1 2) := cle_tr a4 b4 (by omega)
  refine wp_sq (s_fillFrom (h := h) (start := σ.1 1 2) (σ := σ16) hhr.1 hhr.2 (by rw [fx_f x16 (n3 7 (by omega)), hc.2.2.2.2.1]; omega) (by rw [fx_f x16 (n3 7 (by omega)), hc.2.2.2.2.1]; omega)) ?_
  intro _ τ hτ
  have hseg : cseg σ16 (σ.1 1 2) (hRow g kept) (σ16.1 1 2) := by
    refine ⟨?_, ?_, fun k v hk => ?_, ?_⟩
    · rw [(b4 _ (by omega)).1]; exact a5
    · rw [(b4 _ (by omega)).2]; exact a6
    · have := b5 k v hk
      rw [a3] at this
      rw [show σ.1 1 2 + 1 + (k : Int) = σ.1 1 2 + 1 - ((0 : Nat) : Int) + k by omega]
      exact this
    · show σ.1 1 2 + 1 + (kept.length : Int) = σ16.1 1 2
      rw [b3, a3]
  have r2 : fx X79 σ τ := fx_tr (fx_mono x16 (fun a z => by unfold X79; rcases z with z | z | z <;> omega)) hτ.1
  obtain ⟨r1, r3, r4⟩ := cSt_fil (fun a h4 _ => n3 a h4) hs hc hΦ hp hm hol x16 b2 c16 (by omega) hseg hτ
  exact wp_some ⟨rfl, r1, r2, r3, by omega, by omega⟩
