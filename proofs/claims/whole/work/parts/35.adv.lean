/-! A CURSOR ENTERS A FILLING; IT GOES ON -/
theorem frs_lo {σ τ : SS} {p : Nat} {pa : Int → Int} (hp4 : pa4 pa) (htp : σ.1 1 2 ≤ τ.1 1 2) (hc : ∀ (r : Row) (i j : Int), cseg σ i r j → cseg τ i r j) : ∀ {gs : List Fr}, (∀ j : Nat, j < gs.length → gA τ (p + 1) 64 j = gA σ (p + 1) 64 j ∧ gA τ (p + 2) 64 j = gA σ (p + 2) 64 j ∧ gA τ (p + 3) 64 j = gA σ (p + 3) 64 j) → (∀ j : Int, j < (gs.length : Int) * 4 → gA τ (p + 4) 256 j = gA σ (p + 4) 256 j) → frs σ p pa gs → frs τ p pa gs := by
  intro gs
  induction gs with
  | nil => intro _ _ _; exact True.intro
  | cons f gs ih =>
    intro h1 h2 h3
    obtain ⟨⟨a, b, c⟩, d⟩ := h3
    have e1 := h1 gs.length (by rw [List.length_cons]; omega)
    refine ⟨⟨?_, ?_, ?_⟩, ih (fun j hj => h1 j (by rw [List.length_cons]; omega)) (fun j hj => h2 j (by rw [List.length_cons]; omega)) d⟩
    · rw [e1.1, e1.2.1]; exact ⟨hc _ _ _ a.1, a.2.1, Int.le_trans a.2.2 htp⟩
    · rw [e1.2.2]; exact b
    · intro hj k hk hk2
      have := hp4 f.2.2.2
      rw [h2 _ (by rw [List.length_cons]; omega)]
      exact c hj k hk hk2
theorem s_enter {O : Op} {fu p : Nat} {pa : Int → Int} {Φ : Fl} {R : Nat} {fs : List Fr} {F : Row} {vs : List Int} {h β : Int} {σ : SS} (hc : cur p) (hfu : 100 ≤ fu) (hh : hOk O pa Φ R) (hH : cHol σ pa Φ) (hne : fs ≠ []) (h63 : (lve fs).length ≤ 60) (hl : fs.length ≤ 62) (ht : σ.1 p 6 = (fs.length : Int) - 1) (hfs : frs σ p pa fs) (hn : σ.1 p 8 = h) (hb : σ.1 p 9 = β) (hcnt : σ.1 p 11 = (vs.length : Int)) (hvar : ∀ (k : Nat) (v : Int), vs[k]? = some v → gA σ (p + 5) 4 k = v) (hlen : (vs.length : Int) = pa h) (hF : Φ h = some F) :
    Wp (f_U_enterFilling fu p σ) (fun a τ => a = 1 ∧ fx (cP p) σ τ ∧ τ.1 p 6 = ((lve fs).length : Int) ∧ frs τ p pa ((F, β, tI vs, h) :: lve fs)) := by
  have hcg := cur_ge hc
  have hp4 := hh.2.2.2.1
  have hpa := hh.2.2.2.2.1 h F hF
  have h4 := hp4 h
  obtain ⟨i1, i2, i3, -, i5⟩ := hH h hpa
  obtain ⟨i6, i7, i8⟩ := i5 F hF
  unfold f_U_enterFilling f_U_leaveEnded
  refine wp_sq (R := fun _ τ => fx (jst p) σ τ ∧ τ.1 p 6 = ((lve fs).length : Int) - 1 ∧ frs τ p pa (lve fs) ∧ ∀ b, b ≠ 6 → τ.1 p b = σ.1 p b) ?_ ?_
  · refine wp_sq (s_leave fs fu σ hne (by omega) (by omega) ht (by omega) hfs) (fun _ τ k => wp_some k)
  · rintro - σ2 ⟨k1, k2, k3, k4⟩
    have hln : 0 < (lve fs).length := by
      cases hx : lve fs with
      | nil => exact absurd hx (lve_ne hne)
      | cons x xs => rw [List.length_cons]; omega
    have et : σ2.1 p 6 + 1 = ((lve fs).length : Int) := by omega
    rw [et]
    refine wp_ck (by omega) (wp_t (by omega) (wp_ck (by omega) (wp_lx (wp_lx (wp_lx (wp_lx ?_))))))
    -- the store when the frame is laid
    have q6 : ∀ τ : SS, (sF τ p 6 ((lve fs).length : Int)).1 p 6 = ((lve fs).length : Int) := fun τ => sF_same _ _ _ _
    have q8 : (sF σ2 p 6 ((lve fs).length : Int)).1 p 8 = h := by rw [sF_f (by omega), k4 8 (by decide)]; exact hn
    have q9 : (sF σ2 p 6 ((lve fs).length : Int)).1 p 9 = β := by rw [sF_f (by omega), k4 9 (by decide)]; exact hb
    have q11 : (sF σ2 p 6 ((lve fs).length : Int)).1 p 11 = (vs.length : Int) := by rw [sF_f (by omega), k4 11 (by decide)]; exact hcnt
    simp only [gS_f', q6, q8, q9, gA_F]
    have j1 : ¬ jst p 9 := fun z => by have : 9 = p := z; omega
    have j2 : ¬ jst p 10 := fun z => by have : 10 = p := z; omega
    rw [gA_S_ne (by omega), gA_F, fx_g k1 j1, fx_g k1 j2]
    generalize hτ : gS (gS (gS (sF σ2 p 6 ((lve fs).length : Int)) (p + 1) 64 ((lve fs).length : Int) (gA σ 9 324 h)) (p + 2) 64 ((lve fs).length : Int) (gA σ 10 324 h)) (p + 3) 64 ((lve fs).length : Int) β = τ
    have x1 : fx (cP p) σ τ := by
      rw [← hτ]
      exact fx_S (fx_S (fx_S (fx_F (fx_mono k1 (fun a z => by have : a = p := z; unfold cP; omega)) (by unfold cP; omega)) (by unfold cP; omega)) (by unfold cP; omega)) (by unfold cP; omega)
    have f6 : τ.1 p 6 = ((lve fs).length : Int) := by rw [← hτ, gS_f', gS_f', gS_f', q6]
    have f11 : τ.1 p 11 = (vs.length : Int) := by rw [← hτ, gS_f', gS_f', gS_f', q11]
    have n1 : gA τ (p + 1) 64 ((lve fs).length : Int) = gA σ 9 324 h := by rw [← hτ, gA_S_ne (by omega), gA_S_ne (by omega), gA_S_same (by omega) (by omega)]
    have n2 : gA τ (p + 2) 64 ((lve fs).length : Int) = gA σ 10 324 h := by rw [← hτ, gA_S_ne (by omega), gA_S_same (by omega) (by omega)]
    have n3 : gA τ (p + 3) 64 ((lve fs).length : Int) = β := by rw [← hτ, gA_S_same (by omega) (by omega)]
    have o1 : ∀ j : Nat, j < (lve fs).length → gA τ (p + 1) 64 j = gA σ2 (p + 1) 64 j ∧ gA τ (p + 2) 64 j = gA σ2 (p + 2) 64 j ∧ gA τ (p + 3) 64 j = gA σ2 (p + 3) 64 j := by
      intro j hj
      rw [← hτ]
      refine ⟨?_, ?_, ?_⟩ <;> rw [gA_S_ne (by omega), gA_S_ne (by omega), gA_S_ne (by omega), gA_F]
    have o4 : ∀ j : Int, gA τ (p + 4) 256 j = gA σ2 (p + 4) 256 j := by
      intro j
      rw [← hτ, gA_S_ne (by omega), gA_S_ne (by omega), gA_S_ne (by omega), gA_F]
    have o5 : ∀ (k : Nat) (v : Int), vs[k]? = some v → gA τ (p + 5) 4 k = v := by
      intro k v hk
      rw [← hτ, gA_S_ne (by omega), gA_S_ne (by omega), gA_S_ne (by omega), gA_F, fx_g k1 (fun z => by have : p + 5 = p := z; omega)]
      exact hvar k v hk
    have hx2 : ∀ {υ : SS}, fx (cP p) σ υ → ∀ (r : Row) (i j : Int), cseg σ i r j → cseg υ i r j := fun hy r i j => cseg_fx hy (cP_lo hc (by omega)) (cP_lo hc (by omega)) (cP_lo hc (by omega))
    have hvl : vs.length ≤ 4 := by omega
    refine wp_sq (s_images hc (by omega : (lve fs).length < 64) hvl vs.length 0 fu τ (by omega) (by omega) f6 f11 o5 (fun k v hk _ => absurd hk (Nat.not_lt_zero k))) ?_
    rintro - υ ⟨u1, u2, u3, u4⟩
    have x2 : fx (cP p) σ υ := fx_tr x1 (fx_mono u1 (fun a z => by have : a = p + 4 := z; unfold cP; omega))
    refine wp_some ⟨rfl, x2, by rw [u2]; exact f6, ⟨⟨?_, ?_⟩, ?_, ?_⟩, ?_⟩
    · rw [fx_g u1 (fun z => by have : p + 1 = p + 4 := z; omega), fx_g u1 (fun z => by have : p + 2 = p + 4 := z; omega), n1, n2]
      exact hx2 x2 _ _ _ i7
    · rw [fx_g u1 (fun z => by have : p + 1 = p + 4 := z; omega), fx_g u1 (fun z => by have : p + 2 = p + 4 := z; omega), n1, n2, fx_f x2 (cP_lo hc (by omega))]
      omega
    · rw [fx_g u1 (fun z => by have : p + 3 = p + 4 := z; omega), n3]
    · intro _ k hk hk2
      have hk3 : k.toNat < vs.length := by have : k < pa h := hk2; omega
      have hk4 : vs[k.toNat]? = some vs[k.toNat] := List.getElem?_eq_getElem hk3
      have := u4 k.toNat _ hk4
      rw [Int.toNat_of_nonneg hk] at this
      rw [this]
      show vs[k.toNat] = tI vs k
      unfold tI
      rw [List.getD_eq_getElem?_getD, hk4]
      rfl
    · refine frs_lo (σ := σ2) hp4 (by rw [fx_f x2 (cP_lo hc (by omega)), fx_f k1 (fun z => by have : 1 = p := z; omega)]; exact Int.le_refl _) (fun r i j hq => ?_) (fun j hj => ?_) (fun j hj => ?_) k3
      · have e0 : cseg σ i r j := cseg_fx (X := jst p) ⟨fun a ha => ⟨fun b => ((k1.1 a ha).1 b).symm, fun i => ((k1.1 a ha).2 i).symm⟩, k1.2.symm⟩ (fun z => by have : 1 = p := z; omega) (fun z => by have : 2 = p := z; omega) (fun z => by have : 3 = p := z; omega) hq
        exact hx2 x2 _ _ _ e0
      · rw [fx_g u1 (fun z => by have : p + 1 = p + 4 := z; omega), fx_g u1 (fun z => by have : p + 2 = p + 4 := z; omega), fx_g u1 (fun z => by have : p + 3 = p + 4 := z; omega)]
        exact o1 j hj
      · rw [u3 j hj]
        exact o4 j
