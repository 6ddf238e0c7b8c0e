/-! THE REFERENCE: UNIFY ON DESKS -/
theorem adm_nn {R : Nat} {h β : Int} {x : List Int} : ∀ (k : Nat) (s : St) (T : Row), 0 ≤ (adm R h β x k s T).1 := by
  intro k
  induction k with
  | zero => intro s T; exact Int.le_refl _
  | succ k ih =>
    intro s T
    cases T with
    | nil => exact Int.le_refl _
    | cons e T =>
      show 0 ≤ (if e.2.1 % 4 = 0 then (if frn x (e.1 - β) (e.2.1 / 4) = true then (2, s) else adm R h β x k s T) else if e.2.1 % 4 = 2 then (if e.2.1 / 4 = h then (3, s) else adm R h β x k (dr s x (e.1 - β) e) (tN (dr s x (e.1 - β) e).2.1 R T)) else adm R h β x k s T).1
      split
      · split
        · show (0 : Int) ≤ 2; decide
        · exact ih _ _
      · split
        · split
          · show (0 : Int) ≤ 3; decide
          · exact ih _ _
        · exact ih _ _
theorem flt_nn {R : Nat} {h β : Int} {x : List Int} {s : St} {T : Row} : 0 ≤ (flt R h β x s T).1 := by
  unfold flt
  split
  · split
    · show (0 : Int) ≤ 4; decide
    · split
      · show (0 : Int) ≤ 4; decide
      · exact Int.le_refl _
  · exact adm_nn _ _ _
theorem un_nn {O : Op} {R : Nat} : ∀ (k : Nat) (s : St) (L M : Row), 0 ≤ (un O R k s L M).1 := by
  intro k
  induction k with
  | zero => intro s L M; exact Int.le_refl _
  | succ k ih =>
    intro s L M
    cases L with
    | nil => cases M <;> exact Int.le_refl _
    | cons a L =>
      cases M with
      | nil => exact Int.le_refl _
      | cons b M =>
        unfold un
        split
        · split
          · split
            · exact ih _ _ _
            · exact ih _ _ _
          · split
            · exact ih _ _ _
            · exact flt_nn
        · split
          · split
            · exact ih _ _ _
            · exact flt_nn
          · split
            · exact ih _ _ _
            · show (0 : Int) ≤ 1; decide
theorem s_un13 {fu : Nat} {x1 x2 : Int} : ∀ (m j n : Nat) (σ : SS), m + j = 324 → m < n → (∀ h : Int, 0 ≤ h → h < 324 → σ.2.1 61 h = 0 ∨ σ.2.1 61 h = 1) → (∀ h : Int, 0 ≤ h → h < j → σ.2.1 62 h = σ.2.1 61 h) →
    Wp (l_D_unify_13 fu n x1 x2 j σ) (fun _ τ => fx (jst 62) σ τ ∧ ∀ h : Int, 0 ≤ h → h < 324 → τ.2.1 62 h = σ.2.1 61 h) := by
  intro m
  induction m with
  | zero =>
    intro j n σ h1 h2 h3 h4
    cases n with
    | zero => omega
    | succ n =>
      rw [l_D_unify_13]
      exact wp_f (by omega) (wp_some ⟨fx_rf, fun h a b => h4 h a (by omega)⟩)
  | succ m ih =>
    intro j n σ h1 h2 h3 h4
    cases n with
    | zero => omega
    | succ n =>
      rw [l_D_unify_13]
      refine wp_t (by omega) (wp_ck ⟨by omega, by omega⟩ (wp_ck (h3 j (by omega) (by omega)) (wp_ck ⟨by omega, by omega⟩ (wp_lb (fun σ5 e5 => wp_ck (by omega) ?_)))))
      have hx : fx (jst 62) σ σ5 := by rw [e5]; exact fx_A fx_rf rfl
      have n62 : ∀ a, a ≠ 62 → ¬ jst 62 a := fun a h z => h z
      rw [show (j : Int) + 1 = ((j + 1 : Nat) : Int) by omega]
      have h9 := ih (j + 1) n σ5 (by omega) (by omega) (fun h a b => by rw [fx_a hx (n62 61 (by omega))]; exact h3 h a b) (fun h a b => by
        rw [fx_a hx (n62 61 (by omega)), e5]
        by_cases c : h = j
        · rw [c]; exact sA_same _ _ _ _
        · rw [sA_other (by omega)]; exact h4 h a (by omega))
      exact wp_mono h9 (fun _ τ k => ⟨fx_tr hx k.1, fun h a b => by rw [k.2 h a b, fx_a hx (n62 61 (by omega))]⟩)
theorem s_un128 {fu : Nat} {x3 x4 : Int} : ∀ (m j n : Nat) (σ : SS), m + j = 324 → m < n → (∀ h : Int, 0 ≤ h → h < 324 → σ.2.1 62 h = 0 ∨ σ.2.1 62 h = 1) → (∀ h : Int, 0 ≤ h → h < j → σ.2.1 61 h = σ.2.1 62 h) →
    Wp (l_D_unify_128 fu n x3 x4 j σ) (fun _ τ => fx (jst 61) σ τ ∧ ∀ h : Int, 0 ≤ h → h < 324 → τ.2.1 61 h = σ.2.1 62 h) := by
  intro m
  induction m with
  | zero =>
    intro j n σ h1 h2 h3 h4
    cases n with
    | zero => omega
    | succ n =>
      rw [l_D_unify_128]
      exact wp_f (by omega) (wp_some ⟨fx_rf, fun h a b => h4 h a (by omega)⟩)
  | succ m ih =>
    intro j n σ h1 h2 h3 h4
    cases n with
    | zero => omega
    | succ n =>
      rw [l_D_unify_128]
      refine wp_t (by omega) (wp_ck ⟨by omega, by omega⟩ (wp_ck (h3 j (by omega) (by omega)) (wp_ck ⟨by omega, by omega⟩ (wp_lb (fun σ5 e5 => wp_ck (by omega) ?_)))))
      have hx : fx (jst 61) σ σ5 := by rw [e5]; exact fx_A fx_rf rfl
      have n61 : ∀ a, a ≠ 61 → ¬ jst 61 a := fun a h z => h z
      rw [show (j : Int) + 1 = ((j + 1 : Nat) : Int) by omega]
      have h9 := ih (j + 1) n σ5 (by omega) (by omega) (fun h a b => by rw [fx_a hx (n61 62 (by omega))]; exact h3 h a b) (fun h a b => by
        rw [fx_a hx (n61 62 (by omega)), e5]
        by_cases c : h = j
        · rw [c]; exact sA_same _ _ _ _
        · rw [sA_other (by omega)]; exact h4 h a (by omega))
      exact wp_mono h9 (fun _ τ k => ⟨fx_tr hx k.1, fun h a b => by rw [k.2 h a b, fx_a hx (n61 62 (by omega))]⟩)
theorem if01 {P : Prop} [Decidable P] : (if P then (1 : Int) else 0) = 0 ∨ (if P then (1 : Int) else 0) = 1 := by split <;> omega
/-- what the reference's desk is when its state of holes is another -/
theorem rD_st {σ τ : SS} {d : Dk} {s : St} {ug ub : Int} (hx : fx (fun a => a = 55 ∨ (58 ≤ a ∧ a ≤ 62) ∨ (71 ≤ a ∧ a ≤ 75) ∨ (77 ≤ a ∧ a ≤ 81)) σ τ) (h1 : τ.1 55 1 = σ.1 55 1) (h36 : τ.1 55 36 = σ.1 55 36) (h37 : τ.1 55 37 = σ.1 55 37) (h38 : τ.1 55 38 = ug) (h39 : τ.1 55 39 = ub) (hs : rSt τ d.2.2.1 s) (k : rD σ d) : rD τ (d.1, d.2.1, d.2.2.1, s, d.2.2.2.2.1, d.2.2.2.2.2.1, d.2.2.2.2.2.2.1, ug, ub) := by
  obtain ⟨k1, k2, k3, k4, k5, k6, k7⟩ := k
  exact ⟨hs, rOp_fx hx (by omega) (by omega) k2, by rw [h1]; exact k3, fun i hi => rSl_fx hx (fun a h1 h2 => by omega) (k4 i hi), rRd_fx hx h36 h37 (by omega) k5, h38, h39⟩
theorem s_unifyR {fu R : Nat} {x y : Int} {σ : SS} {d : Dk} (hfu : 20000 ≤ fu) (hR : 300 < R) (hRf : R < fu) (hg : gD R d) (hcn : cnt d) (hc : rD σ d) (hun : rfs d x y = 0 → sx2 d.2.2.2.1 (runU R d x y).2) :
    Wp (f_D_unify fu x y σ) (fun z τ => fx XD σ τ ∧ τ.1 55 0 = (rfs d x y : Int) ∧ ((rfs d x y = 0 ∧ z = (runU R d x y).1 ∧ rD τ (dkU R d x y)) ∨ (rfs d x y ≠ 0 ∧ rD τ d))) := by
  unfold f_D_unify
  refine wp_e (s_refuses hc) ?_
  have hc2 : rD (sF σ 55 0 (rfs d x y : Int)) d := rD_code hc
  have x2 : fx XD σ (sF σ 55 0 (rfs d x y : Int)) := fx_F fx_rf (by unfold XD; omega)
  have f20 : (sF σ 55 0 (rfs d x y : Int)).1 55 0 = (rfs d x y : Int) := sF_same _ _ _ _
  by_cases c : rfs d x y = 0
  · rw [if_pos c]
    refine wp_t rfl ?_
    generalize sF σ 55 0 (rfs d x y : Int) = σ2 at hc2 x2 f20
    obtain ⟨x1, x2', y1, y2', wx, wy, wd⟩ := rfs_ok c
    have gx := whl_row (hg.2.2.1 x.toNat (by omega)) wx
    have gy := whl_row (hg.2.2.1 y.toNat (by omega)) wy
    have bx := slot_bnd hR hg.1.2.2.2.2 hg.2.1 gx.1 gx.2.2.1
    have by' := slot_bnd hR hg.1.2.2.2.2 hg.2.1 gy.1 gy.2.2.1
    have hokx := okR_N gx.2.2.2.1 hg.2.1.1.1 R gx.2.1
    have hoky := okR_N gy.2.2.2.1 hg.2.1.1.1 R gy.2.1
    have ilx := il_le (O := d.1) hg.2.1.1.2.2.2.1 hokx
    have ily := il_le (O := d.1) hg.2.1.1.2.2.2.1 hoky
    have h61 : ∀ h : Int, 0 ≤ h → h < 324 → σ2.2.1 61 h = 0 ∨ σ2.2.1 61 h = 1 := fun h a b => by rw [hc2.1.2.2.2 h a b]; exact if01
    refine wp_sq (s_un13 (fu := fu) (x1 := x) (x2 := y) 324 0 fu σ2 (by omega) (by omega) h61 (fun h a b => by omega)) ?_
    rintro - σ8 ⟨x8, y8⟩
    have n62 : ∀ a, a ≠ 62 → ¬ jst 62 a := fun a h z => h z
    have f8 : ∀ b, σ8.1 55 b = σ2.1 55 b := fun b => fx_f x8 (n62 55 (by omega))
    rw [f8 3, hc2.1.2.2.1]
    refine wp_lx ?_
    have hc8 : rD σ8 d := by
      obtain ⟨k1, k2, k3, k4, k5, k6, k7⟩ := hc2
      exact ⟨rSt_fx x8 (n62 55 (by omega)) (fun a h1 h2 => n62 a (by omega)) k1, rOp_fx x8 (n62 56 (by omega)) (n62 57 (by omega)) k2, by rw [f8]; exact k3, fun i hi => rSl_fx x8 (fun a h1 h2 => n62 a (by omega)) (k4 i hi), rRd_fx x8 (f8 36) (f8 37) (n62 82 (by omega)) k5, by rw [f8]; exact k6, by rw [f8]; exact k7⟩
    refine wp_sq (s_rslot (Or.inl rfl) hfu hR hRf hg hc8 ⟨x1, x2'⟩ wx) ?_
    rintro z σ15 ⟨x15, rfl, r15, p15⟩
    refine wp_lb (fun σ20 e20 => ?_)
    have nQ1 : ∀ a, a ≠ 71 → (a < 73 ∨ 75 < a) → ¬ XQ 71 a := fun a h1 h2 => XQ_lo h1 h2
    have nQ2 : ∀ a, a ≠ 72 → (a < 73 ∨ 75 < a) → ¬ XQ 72 a := fun a h1 h2 => XQ_lo h1 h2
    have x20 : fx XM σ8 σ20 := by rw [e20]; exact fx_F (fx_mono x15 (fun a z => by unfold XQ at z; unfold XM; omega)) (by unfold XM; omega)
    have f20' : ∀ b, b ≠ 29 → σ20.1 55 b = σ8.1 55 b := fun b hb => by rw [e20, sF_f (fun z => hb z.2), fx_f x15 (nQ1 55 (by omega) (by omega))]
    have hc20 : rD σ20 d := rD_work x20 (fun b h1 _ _ => f20' b h1) hc8
    refine wp_sq (s_rslot (Or.inr rfl) hfu hR hRf hg hc20 ⟨y1, y2'⟩ wy) ?_
    rintro z σ24 ⟨x24, rfl, r24, p24⟩
    refine wp_lb (fun σ29 e29 => wp_lb (fun σ33 e33 => ?_))
    have f33 : ∀ b, b ≠ 30 → b ≠ 31 → σ33.1 55 b = σ20.1 55 b := fun b h1 h2 => by rw [e33, sF_f (fun z => h2 z.2), e29, sF_f (fun z => h1 z.2), fx_f x24 (nQ2 55 (by omega) (by omega))]
    have x33 : fx XM σ20 σ33 := by rw [e33, e29]; exact fx_F (fx_F (fx_mono x24 (fun a z => by unfold XQ at z; unfold XM; omega)) (by unfold XM; omega)) (by unfold XM; omega)
    have hc33 : rD σ33 d := rD_work x33 (fun b _ h2 h3 => f33 b h2 h3) hc20
    have f3329 : σ33.1 55 29 = (il (tN d.2.2.2.1.2.1 R (d.2.2.2.2.1 x.toNat).2.2.1) : Int) := by rw [f33 29 (by decide) (by decide), e20]; exact sF_same _ _ _ _
    have f3330 : σ33.1 55 30 = (il (tN d.2.2.2.1.2.1 R (d.2.2.2.2.1 y.toNat).2.2.1) : Int) := by rw [e33, sF_f (by decide), e29]; exact sF_same _ _ _ _
    have f3331 : σ33.1 55 31 = 0 := by rw [e33]; exact sF_same _ _ _ _
    have r33x : rseg σ33 71 0 (tN d.2.2.2.1.2.1 R (d.2.2.2.2.1 x.toNat).2.2.1) (il (tN d.2.2.2.1.2.1 R (d.2.2.2.2.1 x.toNat).2.2.1)) := by
      have h1 : rseg σ20 71 0 (tN d.2.2.2.1.2.1 R (d.2.2.2.2.1 x.toNat).2.2.1) (il (tN d.2.2.2.1.2.1 R (d.2.2.2.2.1 x.toNat).2.2.1)) := rseg_eq (fun k _ _ => by rw [e20]; rfl) rfl r15
      have h2 := rseg_fx x24 (nQ2 71 (by omega) (by omega)) h1
      exact rseg_eq (fun k _ _ => by rw [e33, e29]; rfl) rfl h2
    have r33y : rseg σ33 72 0 (tN d.2.2.2.1.2.1 R (d.2.2.2.2.1 y.toNat).2.2.1) (il (tN d.2.2.2.1.2.1 R (d.2.2.2.2.1 y.toNat).2.2.1)) := rseg_eq (fun k _ _ => by rw [e33, e29]; rfl) rfl r24
    rw [f3329, f3330]
    refine wp_sq (s_eqn (E := []) (p := 0) hfu rfl (by rw [f3331]; rfl) (by decide) r33x r33y (Int.le_refl _) (by omega) (Int.le_refl _) (by omega) (by omega)) ?_
    rintro - σ37 ⟨x37, g37, f37, q37⟩
    have x37M : fx XM σ33 σ37 := fx_mono x37 (fun a z => by unfold XE at z; unfold XM; omega)
    have hc37 : rD σ37 d := rD_work x37M (fun b _ _ h3 => g37 b h3) hc33
    have nofx := tN_nofg hR hg.2.1 (d.2.2.2.2.1 x.toNat).2.2.1
    have nofy := tN_nofg hR hg.2.1 (d.2.2.2.2.1 y.toNat).2.2.1
    have hct1 : tN d.2.2.2.1.2.1 R (ct1 [(tN d.2.2.2.1.2.1 R (d.2.2.2.2.1 x.toNat).2.2.1, tN d.2.2.2.1.2.1 R (d.2.2.2.2.1 y.toNat).2.2.1)]) = tN d.2.2.2.1.2.1 R (d.2.2.2.2.1 x.toNat).2.2.1 := by
      show tN d.2.2.2.1.2.1 R (tN d.2.2.2.1.2.1 R (d.2.2.2.2.1 x.toNat).2.2.1 ++ []) = _
      rw [List.append_nil, tN_nof R nofx]
    have hct2 : tN d.2.2.2.1.2.1 R (ct2 [(tN d.2.2.2.1.2.1 R (d.2.2.2.2.1 x.toNat).2.2.1, tN d.2.2.2.1.2.1 R (d.2.2.2.2.1 y.toNat).2.2.1)]) = tN d.2.2.2.1.2.1 R (d.2.2.2.2.1 y.toNat).2.2.1 := by
      show tN d.2.2.2.1.2.1 R (tN d.2.2.2.1.2.1 R (d.2.2.2.2.1 y.toNat).2.2.1 ++ []) = _
      rw [List.append_nil, tN_nof R nofy]
    have h99 := s_unl (O := d.1) (fu := fu) (R := R) (told := d.2.2.1) (N := (d.2.2.2.2.1 x.toNat).2.1) (x3 := d.2.2.2.1.2.2.2) (A0 := (d.2.2.2.2.1 x.toNat).2.2.1) (B0 := (d.2.2.2.2.1 y.toNat).2.2.1) hfu hR hRf hg.1.2.2.2.2 hg.1.2.2.2.1 gx.2.2.2.1 (by omega) gx.1 gx.2.2.1 gy.1 gy.2.2.1 2401 fu 0 d.2.2.2.1 [(tN d.2.2.2.1.2.1 R (d.2.2.2.2.1 x.toNat).2.2.1, tN d.2.2.2.1.2.1 R (d.2.2.2.2.1 y.toNat).2.2.1)] [0] _ σ37 (by omega) (by rw [hct1]; exact ⟨[], by rw [tN_nil]; rfl, Nat.zero_le _⟩) (by rw [hct2]; exact ⟨[], by rw [tN_nil]; rfl, Nat.zero_le _⟩) (by omega) hg.2.1 hc37.1 hc37.2.1 q37 (by rw [f37]; rfl) ⟨tR_N hg.2.1.1.2.1 R gx.1, tR_N hg.2.1.1.2.1 R gy.1, True.intro⟩ (fun z hz => by cases List.mem_singleton.mp hz; exact ⟨hokx, by rw [wd]; exact hoky⟩)
    rw [hct1, hct2] at h99
    refine wp_sq h99 ?_
    rintro z σ42 ⟨hz, x42, f42, c42⟩
    have hz' : z = (runU R d x y).1 := hz
    have c42' : rSt σ42 d.2.2.1 (runU R d x y).2 := c42
    have hsx := hun c
    have hnn : 0 ≤ (runU R d x y).1 := un_nn _ _ _ _
    -- fields up to here
    have g42 : ∀ b, b ≠ 3 → b ≠ 29 → b ≠ 30 → b ≠ 31 → σ42.1 55 b = σ2.1 55 b := fun b h1 h2 h3 h4 => by rw [f42 b h1 h2 h3 h4, g37 b h4, f33 b h3 h4, f20' b h2, f8]
    have x42a : fx (fun a => a = 55 ∨ (58 ≤ a ∧ a ≤ 62) ∨ (71 ≤ a ∧ a ≤ 75) ∨ (77 ≤ a ∧ a ≤ 81)) σ2 σ42 := fx_tr (fx_tr (fx_tr (fx_tr (fx_mono x8 (fun a z => by have : a = 62 := z; omega)) (fx_mono x20 (fun a z => by unfold XM at z; omega))) (fx_mono x33 (fun a z => by unfold XM at z; omega))) (fx_mono x37M (fun a z => by unfold XM at z; omega))) (fx_mono x42 (fun a z => by unfold XU at z; omega))
    have a62 : ∀ h : Int, 0 ≤ h → h < 324 → σ42.2.1 62 h = σ2.2.1 61 h := fun h a b => by rw [fx_a x42 (by unfold XU; omega), fx_a x37M (by unfold XM; omega), fx_a x33 (by unfold XM; omega), fx_a x20 (by unfold XM; omega)]; exact y8 h a b
    obtain ⟨u1, u2, u3, u4⟩ := hcn
    rw [hz']
    by_cases cz : (runU R d x y).1 = 0
    · -- no fault
      refine wp_sq (R := fun _ τ => τ = σ42) (wp_f (by omega) (wp_some rfl)) ?_
      rintro - τ rfl
      have f38 : τ.1 55 38 = d.2.2.2.2.2.2.2.1 := by rw [g42 38 (by decide) (by decide) (by decide) (by decide)]; exact hc2.2.2.2.2.2.1
      have f39 : τ.1 55 39 = d.2.2.2.2.2.2.2.2 := by rw [g42 39 (by decide) (by decide) (by decide) (by decide)]; exact hc2.2.2.2.2.2.2
      rw [f38]
      refine wp_sq (R := fun z υ => z = d.2.2.2.2.2.2.2.1 + 1 ∧ υ = τ) (wp_t cz (wp_ck (by omega) (wp_some ⟨rfl, rfl⟩))) ?_
      rintro z υ ⟨rfl, rfl⟩
      refine wp_lb (fun σ69 e69 => wp_t cz (wp_lb (fun σ74 e74 => wp_some ?_)))
      have f69 : ∀ b, b ≠ 38 → σ69.1 55 b = υ.1 55 b := fun b hb => by rw [e69, sF_f (fun z => hb z.2)]
      have f74 : ∀ b, b ≠ 38 → b ≠ 39 → σ74.1 55 b = υ.1 55 b := fun b h1 h2 => by rw [e74, sF_f (fun z => h2 z.2), f69 b h1]
      have x74 : fx (jst 55) υ σ74 := by rw [e74, e69]; exact fx_F (fx_F fx_rf rfl) rfl
      have n55 : ∀ a, a ≠ 55 → ¬ jst 55 a := fun a h z => h z
      refine ⟨fx_tr (fx_tr x2 (fx_mono x42a (fun a z => by unfold XD; omega))) (fx_mono x74 (fun a z => by have : a = 55 := z; unfold XD; omega)), by rw [f74 0 (by decide) (by decide), g42 0 (by decide) (by decide) (by decide) (by decide)]; exact f20, Or.inl ⟨c, rfl, ?_⟩⟩
      unfold dkU
      rw [if_pos cz]
      refine rD_st (σ := σ2) (fx_tr x42a (fx_mono x74 (fun a z => Or.inl z))) (by rw [f74 1 (by decide) (by decide), g42 1 (by decide) (by decide) (by decide) (by decide)]) (by rw [f74 36 (by decide) (by decide), g42 36 (by decide) (by decide) (by decide) (by decide)]) (by rw [f74 37 (by decide) (by decide), g42 37 (by decide) (by decide) (by decide) (by decide)]) ?_ ?_ ?_ hc2
      · rw [e74, sF_f (by decide), e69]; exact sF_same _ _ _ _
      · rw [e74, sF_same, f69 39 (by decide)]; exact f39
      · exact ⟨rHol_fx x74 (fun a h1 h2 => n55 a (by omega)) c42'.1, by rw [f74 2 (by decide) (by decide)]; exact c42'.2.1, by rw [f74 3 (by decide) (by decide)]; exact c42'.2.2.1, fun h a b => by rw [fx_a x74 (n55 61 (by omega))]; exact c42'.2.2.2 h a b⟩
    · -- a fault: all is taken back
      refine wp_sq (R := fun _ τ => fx (fun a => a = 55 ∨ a = 61) σ42 τ ∧ (∀ b, b ≠ 3 → τ.1 55 b = σ42.1 55 b) ∧ τ.1 55 3 = d.2.2.2.1.2.2.2 ∧ ∀ h : Int, 0 ≤ h → h < 324 → τ.2.1 61 h = σ2.2.1 61 h) (wp_t (by omega) (wp_sq (s_un128 (fu := fu) (x3 := d.2.2.2.1.2.2.2) (x4 := (runU R d x y).1) 324 0 fu σ42 (by omega) (by omega) (fun h a b => by rw [a62 h a b]; exact h61 h a b) (fun h a b => by omega)) ?_)) ?_
      · rintro - σ48 ⟨x48, y48⟩
        refine wp_lb (fun σ53 e53 => wp_some ⟨?_, fun b hb => ?_, ?_, fun h a b => ?_⟩)
        · rw [e53]; exact fx_F (fx_mono x48 (fun a z => Or.inr z)) (Or.inl rfl)
        · rw [e53, sF_f (fun z => hb z.2), fx_f x48 (by unfold jst; omega)]
        · rw [e53]; exact sF_same _ _ _ _
        · rw [e53]
          show σ48.2.1 61 h = _
          rw [y48 h a b, a62 h a b]
      · rintro - σ57 ⟨x57, f57, m57, y57⟩
        have f38 : σ57.1 55 38 = d.2.2.2.2.2.2.2.1 := by rw [f57 38 (by decide), g42 38 (by decide) (by decide) (by decide) (by decide)]; exact hc2.2.2.2.2.2.1
        have f39 : σ57.1 55 39 = d.2.2.2.2.2.2.2.2 := by rw [f57 39 (by decide), g42 39 (by decide) (by decide) (by decide) (by decide)]; exact hc2.2.2.2.2.2.2
        refine wp_sq (R := fun z υ => z = d.2.2.2.2.2.2.2.1 ∧ υ = σ57) (wp_f cz (wp_some ⟨f38, rfl⟩)) ?_
        rintro z υ ⟨rfl, rfl⟩
        refine wp_lb (fun σ69 e69 => wp_f cz ?_)
        have f69 : ∀ b, b ≠ 38 → σ69.1 55 b = υ.1 55 b := fun b hb => by rw [e69, sF_f (fun z => hb z.2)]
        rw [f69 39 (by decide), f39]
        refine wp_ck (by omega) (wp_lb (fun σ79 e79 => wp_some ?_))
        have f79 : ∀ b, b ≠ 38 → b ≠ 39 → σ79.1 55 b = υ.1 55 b := fun b h1 h2 => by rw [e79, sF_f (fun z => h2 z.2), f69 b h1]
        have x79 : fx (jst 55) υ σ79 := by rw [e79, e69]; exact fx_F (fx_F fx_rf rfl) rfl
        have n55 : ∀ a, a ≠ 55 → ¬ jst 55 a := fun a h z => h z
        have a79 : ∀ a i, a ≠ 55 → a ≠ 61 → σ79.2.1 a i = σ42.2.1 a i := fun a i h1 h2 => by rw [fx_a x79 (n55 a h1), fx_a x57 (by omega)]
        refine ⟨fx_tr (fx_tr (fx_tr x2 (fx_mono x42a (fun a z => by unfold XD; omega))) (fx_mono x57 (fun a z => by unfold XD; omega))) (fx_mono x79 (fun a z => by have : a = 55 := z; unfold XD; omega)), by rw [f79 0 (by decide) (by decide), f57 0 (by decide), g42 0 (by decide) (by decide) (by decide) (by decide)]; exact f20, Or.inl ⟨c, rfl, ?_⟩⟩
        unfold dkU
        rw [if_neg cz]
        refine rD_st (σ := σ2) (fx_tr (fx_tr x42a (fx_mono x57 (fun a z => by omega))) (fx_mono x79 (fun a z => Or.inl z))) (by rw [f79 1 (by decide) (by decide), f57 1 (by decide), g42 1 (by decide) (by decide) (by decide) (by decide)]) (by rw [f79 36 (by decide) (by decide), f57 36 (by decide), g42 36 (by decide) (by decide) (by decide) (by decide)]) (by rw [f79 37 (by decide) (by decide), f57 37 (by decide), g42 37 (by decide) (by decide) (by decide) (by decide)]) ?_ ?_ ?_ hc2
        · rw [e79, sF_f (by decide), e69]; exact sF_same _ _ _ _
        · rw [e79]; exact sF_same _ _ _ _
        · have h61t : ∀ h : Int, 0 ≤ h → h < 324 → σ79.2.1 61 h = if (d.2.2.2.1.2.1 h).isSome = true then 1 else 0 := fun h a b => by rw [fx_a x79 (n55 61 (by omega)), y57 h a b]; exact hc2.1.2.2.2 h a b
          refine ⟨fun h hh => ?_, ?_, ?_, h61t⟩
          · obtain ⟨i1, i2, i3, i4, i5⟩ := c42'.1 h (by rw [hsx.2.1 h hh]; exact hh)
            refine ⟨i1, i2, by rw [a79 58 h (by omega) (by omega), i3]; exact hsx.2.1 h hh, fun hn => by rw [h61t h i1 i2, hn]; rfl, fun F hF => ?_⟩
            obtain ⟨j1, j2, j3⟩ := i5 F (hsx.1 h F hF)
            exact ⟨by rw [h61t h i1 i2, hF]; show (1 : Int) ≠ 0; decide, by rw [a79 59 h (by omega) (by omega)]; exact j2, rseg_eq (fun k _ _ => a79 60 _ (by omega) (by omega)) rfl j3⟩
          · rw [f79 2 (by decide) (by decide), f57 2 (by decide), g42 2 (by decide) (by decide) (by decide) (by decide)]; exact hc2.1.2.1
          · rw [f79 3 (by decide) (by decide)]; exact m57
  · rw [if_neg c]
    exact wp_f (by decide) (wp_some ⟨x2, f20, Or.inr ⟨c, hc2⟩⟩)
