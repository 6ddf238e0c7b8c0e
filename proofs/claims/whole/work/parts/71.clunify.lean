/-! THE CLASS: UNIFY -/
theorem lay_to {σ : SS} : ∀ {l : List Int} {b : Int}, lay σ l b → (b ≤ σ.1 1 2 ∧ ∀ h ∈ l, gA σ 10 324 h ≤ σ.1 1 2) := by
  intro l
  induction l with
  | nil => intro b h; have h' : σ.1 1 2 = b := h; exact ⟨by omega, fun h hh => absurd hh List.not_mem_nil⟩
  | cons a l ih =>
    intro b h
    obtain ⟨h1, h2, h3⟩ := h
    obtain ⟨i1, i2⟩ := ih h3
    exact ⟨by omega, fun g hg => (List.mem_cons.mp hg).elim (fun z => by rw [z]; exact i1) (i2 g)⟩
theorem lay_pop {σ τ : SS} {h : Int} (ht : τ.1 1 2 = gA σ 9 324 h) : ∀ {l : List Int} {b : Int}, (∀ g ∈ l, gA τ 9 324 g = gA σ 9 324 g ∧ gA τ 10 324 g = gA σ 10 324 g) → lay σ (l ++ [h]) b → lay τ l b := by
  intro l
  induction l with
  | nil => intro b _ k; show τ.1 1 2 = b; rw [ht]; exact k.1
  | cons a l ih =>
    intro b h1 k
    obtain ⟨k1, k2, k3⟩ := k
    obtain ⟨e1, e2⟩ := h1 a List.mem_cons_self
    refine ⟨by rw [e1]; exact k1, by rw [e2]; exact k2, ?_⟩
    rw [e2]
    exact ih (fun g hg => h1 g (List.mem_cons_of_mem _ hg)) k3
def X19 : Nat → Prop := fun a => a = 1 ∨ a = 9
theorem s_undol {fu : Nat} {m : List Int} {x2 : Int} : ∀ (len : Nat) (l : List Int) (n : Nat) (σ : SS), l.length = len → len < n → (m ++ l).length ≤ 300 → (∀ h ∈ m ++ l, 0 ≤ h ∧ h < 324) → (m ++ l).Nodup → (∀ (k : Nat) (v : Int), (m ++ l)[k]? = some v → gA σ 12 324 k = v) → lay σ (m ++ l) 1200 →
    Wp (l_G_undoTo_7 fu n m.length x2 (((m ++ l).length : Int) - 1) σ) (fun _ τ => fx X19 σ τ ∧ lay τ m 1200 ∧ τ.1 1 99 = σ.1 1 99 ∧ ∀ h, gA τ 9 324 h = if h ∈ l then 0 else gA σ 9 324 h) := by
  intro len
  induction len with
  | zero =>
    intro l n σ hl hn _ _ _ _ hlay
    have h0 : l = [] := List.length_eq_zero_iff.mp hl
    cases n with
    | zero => omega
    | succ n =>
      rw [l_G_undoTo_7]
      rw [h0, List.append_nil] at hlay ⊢
      exact wp_t (by omega) (wp_some ⟨fx_rf, hlay, rfl, fun h => by rw [if_neg List.not_mem_nil]⟩)
  | succ len ih =>
    intro l n σ hl hn h300 hr hnd hord hlay
    obtain ⟨l', h, hlh⟩ : ∃ l' h, l = l' ++ [h] := by
      rcases List.eq_nil_or_concat l with w | ⟨a, b, w⟩
      · rw [w] at hl; cases hl
      · exact ⟨a, b, by rw [w, List.concat_eq_append]⟩
    have hl' : l'.length = len := by rw [hlh, List.length_append] at hl; have : l'.length + 1 = len + 1 := hl; omega
    have hml : m ++ l = (m ++ l') ++ [h] := by rw [hlh, List.append_assoc]
    have hlen : (m ++ l).length = (m ++ l').length + 1 := by rw [hml, List.length_append]; rfl
    have hhr := hr h (by rw [hml]; exact List.mem_append_right _ (List.mem_singleton.mpr rfl))
    have hoh : gA σ 12 324 ((m ++ l').length : Int) = h := hord _ _ (by rw [hml, List.getElem?_append_right (Nat.le_refl _), Nat.sub_self]; rfl)
    rw [hml] at hnd
    have hnd' := List.nodup_append.mp hnd
    have hnm : h ∉ m ++ l' := fun z => hnd'.2.2 h z h (List.mem_singleton.mpr rfl) rfl
    cases n with
    | zero => omega
    | succ n =>
      rw [l_G_undoTo_7]
      have hap : (m ++ l').length = m.length + l'.length := List.length_append
      rw [show ((m ++ l).length : Int) - 1 = ((m ++ l').length : Int) by omega, hoh]
      refine wp_f (by omega) (wp_lx (wp_lb (fun σ5 e5 => wp_lb (fun σ9 e9 => wp_ck (by omega) ?_))))
      have x9 : fx X19 σ σ9 := by rw [e9, e5]; exact fx_S (fx_F fx_rf (Or.inl rfl)) (Or.inr rfl)
      have g9h : gA σ9 9 324 h = 0 := by rw [e9]; exact gA_S_same hhr.1 hhr.2
      have g9 : ∀ g, g ≠ h → gA σ9 9 324 g = gA σ 9 324 g := fun g hg => by rw [e9, gA_S_ne (fun z => hg z.2), e5, gA_F]
      have t9 : σ9.1 1 2 = gA σ 9 324 h := by rw [e9, gS_f', e5]; exact sF_same _ _ _ _
      have l9 : lay σ9 (m ++ l') 1200 := lay_pop t9 (fun g hg => ⟨g9 g (fun z => hnm (z ▸ hg)), fx_g x9 (by unfold X19; omega)⟩) (by rw [← hml]; exact hlay)
      have h9 := ih l' n σ9 hl' (by omega) (by omega) (fun g hg => hr g (by rw [hml]; exact List.mem_append_left _ hg)) hnd'.1 (fun k v hk => by
        rw [fx_g x9 (by unfold X19; omega)]
        refine hord k v ?_
        have hkl := (List.getElem?_eq_some_iff.mp hk).1
        rw [hml, List.getElem?_append_left hkl]
        exact hk) l9
      rw [show ((m ++ l').length : Int) + -1 = ((m ++ l').length : Int) - 1 by omega]
      refine wp_mono h9 (fun _ τ k => ⟨fx_tr x9 k.1, k.2.1, by rw [k.2.2.1, e9, gS_f', e5]; exact sF_f (by decide), fun g => ?_⟩)
      rw [k.2.2.2 g, hlh]
      by_cases c : g ∈ l'
      · rw [if_pos c, if_pos (List.mem_append_left _ c)]
      · rw [if_neg c]
        by_cases c2 : g = h
        · rw [if_pos (List.mem_append_right _ (List.mem_singleton.mpr c2)), c2]; exact g9h
        · rw [if_neg (fun z => (List.mem_append.mp z).elim c (fun w => c2 (List.mem_singleton.mp w)))]; exact g9 g c2
/-- the fillings of a later state are undone -/
theorem s_undo {O : Op} {fu : Nat} {told : Int} {s t : St} {σ : SS} (hfu : 400 ≤ fu) (hs : sOk O told s) (ht : sOk O told t) (hm : mOk told t) (hx : sx2 s t) (hc : cSt σ told t) :
    Wp (f_G_undoTo fu s.2.2.1.length s.2.2.2 σ) (fun _ τ => cSt τ told s ∧ fx (fun a => a = 1 ∨ a = 7 ∨ a = 9) σ τ ∧ (∀ i, cA τ i = cA σ i ∧ cB τ i = cB σ i)) := by
  obtain ⟨k1, k2, k3, k4, k5, k6, k7, k8⟩ := hc
  have hb := mOk_b ht.2.2.2.2.2.2.2.1 hm
  obtain ⟨l, hl⟩ := hx.2.2.1
  have hlen : t.2.2.1.length = s.2.2.1.length + l.length := by rw [hl, List.length_append]
  unfold f_G_undoTo
  rw [k5]
  refine wp_ck (by omega) (wp_lx ?_)
  rw [hl]
  refine wp_sq (s_undol (fu := fu) (m := s.2.2.1) (x2 := s.2.2.2) l.length l fu σ rfl (by omega) (by rw [← hl]; omega) (fun h hh => by
    rw [← hl] at hh
    exact sOk_h ht (ht.2.2.2.2.2.2.2.2.1 h hh) (by omega)) (by rw [← hl]; exact ht.2.2.2.2.1.1) (fun k v hk => k6 k v (by rw [hl]; exact hk)) (by rw [← hl]; exact k7)) ?_
  rintro - σ5 ⟨a1, a2, a3, a4⟩
  refine wp_lb (fun σ10 e10 => wp_lb (fun σ14 e14 => wp_some ?_))
  have x14 : fx (fun a => a = 1 ∨ a = 7 ∨ a = 9) σ σ14 := by rw [e14, e10]; exact fx_F (fx_F (fx_mono a1 (fun a z => by unfold X19 at z; omega)) (by omega)) (by omega)
  have g14 : ∀ a n i, gA σ14 a n i = gA σ5 a n i := fun a n i => by rw [e14, e10]; rfl
  have f14 : ∀ b, σ14.1 1 b = σ5.1 1 b := fun b => by rw [e14, sF_f (by omega), e10, sF_f (by omega)]
  have cel : ∀ i, cA σ14 i = cA σ i ∧ cB σ14 i = cB σ i := by
    intro i
    unfold cA cB
    rw [f14 99, a3, g14, g14, fx_g a1 (by unfold X19; omega), fx_g a1 (by unfold X19; omega)]
    exact ⟨rfl, rfl⟩
  have lay14 : lay σ14 s.2.2.1 1200 := by
    have key : ∀ {l : List Int} {b : Int}, lay σ5 l b → lay σ14 l b := by
      intro l
      induction l with
      | nil => intro b h; show σ14.1 1 2 = b; rw [f14]; exact h
      | cons a l ih => intro b h; show gA σ14 9 324 a = b ∧ b ≤ gA σ14 10 324 a ∧ lay σ14 l (gA σ14 10 324 a); rw [g14, g14]; exact ⟨h.1, h.2.1, ih h.2.2⟩
    exact key a2
  have lto := lay_to lay14
  -- what is filled in s is filled in t, and is no one of l
  have hnl : ∀ h F, s.2.1 h = some F → h ∉ l := by
    intro h F hF z
    have h1 := (hs.2.2.2.2.2.1 h).mp ⟨F, hF⟩
    have hnd := ht.2.2.2.2.1.1
    rw [hl] at hnd
    exact (List.nodup_append.mp hnd).2.2 h h1 h z rfl
  have g9 : ∀ h, gA σ14 9 324 h = if h ∈ l then 0 else gA σ 9 324 h := fun h => by rw [g14]; exact a4 h
  have h0 : ∀ h, s.2.1 h = none → gA σ14 9 324 h = 0 := by
    intro h hn
    rw [g9]
    split
    · rfl
    · rename_i c
      refine k8 h ?_
      cases hq : t.2.1 h with
      | none => rfl
      | some F =>
        have h1 := (ht.2.2.2.2.2.1 h).mp ⟨F, hq⟩
        rw [hl] at h1
        rcases List.mem_append.mp h1 with z | z
        · obtain ⟨G, hG⟩ := (hs.2.2.2.2.2.1 h).mpr z
          rw [hn] at hG
          cases hG
        · exact absurd z c
  have ltop : σ14.1 1 2 ≤ σ.1 1 2 := by
    cases hll : l with
    | nil =>
      have h1 := lay_to k7
      have h2 : lay σ14 s.2.2.1 1200 ∧ lay σ s.2.2.1 1200 := ⟨lay14, by rw [hl, hll, List.append_nil] at k7; exact k7⟩
      -- both end at the same place
      have key : ∀ {l : List Int} {b : Int}, (∀ g ∈ l, gA σ14 10 324 g = gA σ 10 324 g) → lay σ14 l b → lay σ l b → σ14.1 1 2 = σ.1 1 2 := by
        intro l
        induction l with
        | nil => intro b _ p q; have p' : σ14.1 1 2 = b := p; have q' : σ.1 1 2 = b := q; omega
        | cons a l ih => intro b h p q; exact ih (fun g hg => h g (List.mem_cons_of_mem _ hg)) (by rw [← h a List.mem_cons_self]; exact p.2.2) q.2.2
      have := key (fun g _ => by rw [g14, fx_g a1 (by unfold X19; omega)]) h2.1 h2.2
      omega
    | cons h l2 =>
      rw [hl, hll] at k7
      have key : ∀ {m : List Int} {b : Int}, (∀ g ∈ m, gA σ14 10 324 g = gA σ 10 324 g) → lay σ14 m b → lay σ (m ++ h :: l2) b → σ14.1 1 2 = gA σ 9 324 h ∧ gA σ 9 324 h ≤ σ.1 1 2 := by
        intro m
        induction m with
        | nil =>
          intro b _ p q
          have p' : σ14.1 1 2 = b := p
          obtain ⟨q1, q2, q3⟩ := q
          have := (lay_to q3).1
          exact ⟨by omega, by omega⟩
        | cons a m ih => intro b h p q; exact ih (fun g hg => h g (List.mem_cons_of_mem _ hg)) (by rw [← h a List.mem_cons_self]; exact p.2.2) q.2.2
      have := key (fun g _ => by rw [g14, fx_g a1 (by unfold X19; omega)]) lay14 k7
      omega
  refine ⟨⟨fun h hh => ?_, ?_, ?_, ?_, ?_, fun k v hk => ?_, lay14, h0⟩, x14, cel⟩
  · obtain ⟨i1, i2, i3, i4, i5⟩ := k1 h (by rw [hx.2.1 h hh]; exact hh)
    refine ⟨i1, i2, ?_, h0 h, fun F hF => ?_⟩
    · rw [g14, fx_g a1 (by unfold X19; omega), i3, hx.2.1 h hh]
    · obtain ⟨j1, j2, j3⟩ := i5 F (hx.1 h F hF)
      have e9 : gA σ14 9 324 h = gA σ 9 324 h := by rw [g9, if_neg (hnl h F hF)]
      have e10 : gA σ14 10 324 h = gA σ 10 324 h := by rw [g14, fx_g a1 (by unfold X19; omega)]
      rw [e9]
      refine ⟨j1, ?_, lto.2 h ((hs.2.2.2.2.2.1 h).mp ⟨F, hF⟩)⟩
      rw [e10]
      exact cseg_cle (t := gA σ 10 324 h) (fun i _ => cel i) j2 (Int.le_refl _)
  · have := lto.1
    obtain ⟨c1, c2, c3, c4⟩ := k2
    unfold cCel
    rw [f14 99, a3]
    exact ⟨c1, by omega, by omega, by omega⟩
  · rw [e14, sF_f (by decide), e10, sF_f (by decide), fx_f a1 (by unfold X19; omega)]; exact k3
  · rw [e14]; exact sF_same _ _ _ _
  · rw [e14, sF_f (by decide), e10]; exact sF_same _ _ _ _
  · rw [g14, fx_g a1 (by unfold X19; omega)]
    refine k6 k v ?_
    have := (List.getElem?_eq_some_iff.mp hk).1
    rw [hl, List.getElem?_append_left this]
    exact hk
theorem gSl_pa {O : Op} {pa pb : Int → Int} {told : Int} {l : Sl} (h : ∀ g, 0 ≤ pa g → pb g = pa g) (k : gSl O pa told l) : gSl O pb told l := by
  obtain ⟨k1, k2, k3, k4, k5, k6, k7, k8⟩ := k
  refine ⟨k1, k2, k3, k4, k5, k6, fun c => okR_pa h (k7 c), fun c => ?_⟩
  obtain ⟨r0, e, j1, j2, j3, j4, j5, j6, j7⟩ := k8 c
  exact ⟨r0, e, j1, okR_pa h j2, j3, j4, by rw [h _ (by omega)]; exact j5, j6, j7⟩
/-- the machine's run on two slots -/
def runU (R : Nat) (d : Dk) (x y : Int) : Int × St := un d.1 R 2401 d.2.2.2.1 (tN d.2.2.2.1.2.1 R (d.2.2.2.2.1 x.toNat).2.2.1) (tN d.2.2.2.1.2.1 R (d.2.2.2.2.1 y.toNat).2.2.1)
def dkU (R : Nat) (d : Dk) (x y : Int) : Dk := if (runU R d x y).1 = 0 then (d.1, d.2.1, d.2.2.1, (runU R d x y).2, d.2.2.2.2.1, d.2.2.2.2.2.1, d.2.2.2.2.2.2.1, d.2.2.2.2.2.2.2.1 + 1, d.2.2.2.2.2.2.2.2) else (d.1, d.2.1, d.2.2.1, d.2.2.2.1, d.2.2.2.2.1, d.2.2.2.2.2.1, d.2.2.2.2.2.2.1, d.2.2.2.2.2.2.2.1, d.2.2.2.2.2.2.2.2 + 1)
def cnt (d : Dk) : Prop := 0 ≤ d.2.2.2.2.2.2.2.1 ∧ d.2.2.2.2.2.2.2.1 ≤ 100000 ∧ 0 ≤ d.2.2.2.2.2.2.2.2 ∧ d.2.2.2.2.2.2.2.2 ≤ 100000
theorem rfs_ok {d : Dk} {x y : Int} (h : rfs d x y = 0) : 0 ≤ x ∧ x < 8 ∧ 0 ≤ y ∧ y < 8 ∧ whl (d.2.2.2.2.1 x.toNat) = true ∧ whl (d.2.2.2.2.1 y.toNat) = true ∧ (d.2.2.2.2.1 x.toNat).2.1 = (d.2.2.2.2.1 y.toNat).2.1 := by
  unfold rfs at h
  split at h
  · rename_i c
    split at h
    · rename_i c2
      exact ⟨c.1, c.2.1, c.2.2.1, c.2.2.2, c2⟩
    · cases h
  · cases h
theorem s_unify {fu R : Nat} {σ : SS} {d : Dk} {x y : Int} (hR : 300 < R) (hRf : R < fu) (hR2 : R ≤ 1000) (hfu : 3000 ≤ fu) (hg : gD R d) (hn : nth σ) (hcn : cnt d) (hc : cD σ d) :
    Wp (f_H_unify fu x y σ) (fun z τ => fx XH σ τ ∧ ((rfs d x y = 0 ∧ z = .inl (runU R d x y).1 ∧ gD R (dkU R d x y) ∧ cD τ (dkU R d x y) ∧ τ.1 0 99 = σ.1 0 99 ∧ sx2 d.2.2.2.1 (runU R d x y).2) ∨ (rfs d x y ≠ 0 ∧ z = .inr (exn (rfs d x y)) ∧ cD τ d ∧ tho σ τ))) := by
  unfold f_H_unify
  refine wp_sx (s_startBoth hg hn hc) ?_ ?_
  · rintro E τ ⟨a1, a2, a3⟩
    rcases a3 with ⟨-, a4, -⟩ | ⟨a4, a5, a6⟩
    · cases a4
    · exact ⟨fx_mono a1 (fun a z => by unfold XK at z; unfold XH; omega), Or.inr ⟨a4, by rw [Sum.inr.inj a5], a2, a6⟩⟩
  · rintro u σ2 ⟨a1, a2, a3⟩
    rcases a3 with ⟨a4, -, a5, a6, a7⟩ | ⟨-, a5, -⟩
    · obtain ⟨x1, x2, y1, y2, wx, wy, -⟩ := rfs_ok a4
      have gx := whl_row (hg.2.2.1 x.toNat (by omega)) wx
      have gy := whl_row (hg.2.2.1 y.toNat (by omega)) wy
      have hal := ahd_one d.2.2.2.1.2.1 R (d.2.2.2.2.1 x.toNat).2.2.1 (-1)
      have har := ahd_one d.2.2.2.1.2.1 R (d.2.2.2.2.1 y.toNat).2.2.1 (-1)
      refine wp_lx (wp_lx ?_)
      have hsv : Wp (f_N_solve fu σ2) (fun z τ => z = (runU R d x y).1 ∧ solP d.1 d.2.2.1 R d.2.2.2.1 σ2 (runU R d x y) τ) := by
        unfold f_N_solve
        refine wp_sr (s_solvel (O := d.1) (told := d.2.2.1) (N := (d.2.2.2.2.1 x.toNat).2.1) (A0 := (d.2.2.2.2.1 x.toNat).2.2.1) (B0 := (d.2.2.2.2.1 y.toNat).2.2.1) hR hRf hR2 hfu gx.2.2.2.1 (by omega) hg.1.2.2.2.2 gx.1 gx.2.2.1 gy.1 gy.2.2.1 2401 fu 0 0 d.2.2.2.1 _ _ [0] _ _ σ2 (by omega) ⟨[], by rw [tN_nil]; rfl, Nat.zero_le _⟩ ⟨[], by rw [tN_nil]; rfl, Nat.zero_le _⟩ (by omega) (Int.le_refl _) (by omega) hg.2.1 a2.1 a2.2.1 a6 hal a7 har (tR_N hg.2.1.1.2.1 R gx.1) (tR_N hg.2.1.1.2.1 R gy.1)) ?_ ?_
        · rintro z τ ⟨z1, z2⟩
          exact ⟨Sum.inl.inj z1, z2⟩
        · rintro z τ ⟨z1, -⟩
          cases z1
      refine wp_sq hsv ?_
      rintro z σ11 ⟨rfl, s1, s2, s3, s4, s5, s6, s7, s8⟩
      have n0 : ∀ b, σ11.1 0 b = σ2.1 0 b := fun b => fx_f s2 (by unfold XS; omega)
      have t2 := top_le hg.2.1.1 hg.2.1.2.1 a2.1
      have cl11 : cle σ2 σ11 1200 := fun i hi => s3 i (by omega)
      have xH2 : fx XH σ σ2 := fx_mono a1 (fun a z => by unfold XK at z; unfold XH; omega)
      have xH11 : fx XH σ2 σ11 := fx_mono s2 (fun a z => by unfold XS at z; unfold XH; omega)
      have slots11 : ∀ i, i < 8 → cSl σ11 i (d.2.2.2.2.1 i) := fun i hi => cSl_fx s2 (by unfold XS; omega) (by unfold XS; omega) cl11 hi (il_30 hg.2.1.1.2.2.2.1 (hg.2.2.1 i hi)).1 (a2.2.2.2.1 i hi)
      obtain ⟨u1, u2, u3, u4⟩ := hcn
      by_cases c : (runU R d x y).1 = 0
      · refine wp_t c ?_
        rw [n0 7, a2.2.2.2.2.2.1]
        refine wp_ck (by omega) (wp_lb (fun σ18 e18 => wp_some ⟨?_, Or.inl ⟨a4, rfl, ?_, ?_, ?_, s7⟩⟩))
        · rw [e18]; exact fx_F (fx_tr xH2 xH11) (by unfold XH; omega)
        · unfold dkU
          rw [if_pos c]
          exact ⟨hg.1, ⟨s5, s6, s8 c⟩, fun i hi => gSl_pa s7.2.1 (hg.2.2.1 i hi), hg.2.2.2⟩
        · have x18 : fx (jst 0) σ11 σ18 := by rw [e18]; exact fx_F fx_rf rfl
          have n : ∀ a, a ≠ 0 → ¬ jst 0 a := fun a h z => h z
          unfold dkU
          rw [if_pos c]
          refine ⟨cSt_fx x18 (fun a h1 h2 => n a (by omega)) (fun a h1 h2 h3 => n a (by omega)) s1, cOp_fx x18 (n 5 (by omega)) (n 6 (by omega)) (cOp_fx s2 (by unfold XS; omega) (by unfold XS; omega) a2.2.1), ?_, fun i hi => cSl_fx x18 (n _ (by omega)) (n _ (by omega)) (fun j _ => ⟨fx_cA x18 (n 1 (by omega)) (n 2 (by omega)) j, fx_cB x18 (n 1 (by omega)) (n 3 (by omega)) j⟩) hi (il_30 hg.2.1.1.2.2.2.1 (hg.2.2.1 i hi)).1 (slots11 i hi), cRd_fx x18 (n 51 (by omega)) (n 52 (by omega)) (cRd_fx s2 (by unfold XS; omega) (by unfold XS; omega) a2.2.2.2.2.1), ?_, ?_⟩
          · rw [fx_f x18 (n 4 (by omega)), fx_f s2 (by unfold XS; omega)]; exact a2.2.2.1
          · rw [e18]; exact sF_same _ _ _ _
          · rw [e18, sF_f (by decide), n0 8]; exact a2.2.2.2.2.2.2
        · rw [e18, sF_f (by decide), n0 99]; exact a5
      · refine wp_f c ?_
        rw [a2.1.2.2.2.2.1, a2.1.2.2.2.1]
        refine wp_sq (s_undo (fu := fu) (by omega) hg.2.1.1 s5 s6 s7 s1) ?_
        rintro - σ22 ⟨v1, v2, v3⟩
        have m0 : ∀ b, σ22.1 0 b = σ2.1 0 b := fun b => by rw [fx_f v2 (by omega), n0 b]
        rw [m0 8, a2.2.2.2.2.2.2]
        refine wp_ck (by omega) (wp_lb (fun σ28 e28 => wp_some ⟨?_, Or.inl ⟨a4, rfl, ?_, ?_, ?_, s7⟩⟩))
        · rw [e28]; exact fx_F (fx_tr (fx_tr xH2 xH11) (fx_mono v2 (fun a z => by unfold XH; omega))) (by unfold XH; omega)
        · unfold dkU
          rw [if_neg c]
          exact hg
        · have x28 : fx (jst 0) σ22 σ28 := by rw [e28]; exact fx_F fx_rf rfl
          have n : ∀ a, a ≠ 0 → ¬ jst 0 a := fun a h z => h z
          unfold dkU
          rw [if_neg c]
          refine ⟨cSt_fx x28 (fun a h1 h2 => n a (by omega)) (fun a h1 h2 h3 => n a (by omega)) v1, cOp_fx x28 (n 5 (by omega)) (n 6 (by omega)) (cOp_fx v2 (by omega) (by omega) (cOp_fx s2 (by unfold XS; omega) (by unfold XS; omega) a2.2.1)), ?_, fun i hi => cSl_fx x28 (n _ (by omega)) (n _ (by omega)) (fun j _ => ⟨fx_cA x28 (n 1 (by omega)) (n 2 (by omega)) j, fx_cB x28 (n 1 (by omega)) (n 3 (by omega)) j⟩) hi (il_30 hg.2.1.1.2.2.2.1 (hg.2.2.1 i hi)).1 (cSl_fx v2 (by omega) (by omega) (fun j _ => v3 j) hi (il_30 hg.2.1.1.2.2.2.1 (hg.2.2.1 i hi)).1 (slots11 i hi)), cRd_fx x28 (n 51 (by omega)) (n 52 (by omega)) (cRd_fx v2 (by omega) (by omega) (cRd_fx s2 (by unfold XS; omega) (by unfold XS; omega) a2.2.2.2.2.1)), ?_, ?_⟩
          · rw [fx_f x28 (n 4 (by omega)), fx_f v2 (by omega), fx_f s2 (by unfold XS; omega)]; exact a2.2.2.1
          · rw [e28, sF_f (by decide), m0 7]; exact a2.2.2.2.2.2.1
          · rw [e28]; exact sF_same _ _ _ _
        · rw [e28, sF_f (by decide), m0 99]; exact a5
    · cases a5
