/-! THE REFERENCE: SMALLER METHODS ON DESKS -/
theorem rseg_same {σ : SS} {pa : Int → Int} {N : Int} : ∀ {L M : Row} {i j : Int}, rseg σ 71 i L j → rseg σ 72 i M j → okR pa N L → okR pa N M → (∀ k : Int, i ≤ k → k < j → σ.2.1 71 k = σ.2.1 72 k) → samR L M := by
  intro L
  induction L with
  | nil =>
    intro M i j h1 h2 _ _ _
    have e1 : i = j := h1
    cases M with
    | nil => rfl
    | cons b M => have := rseg_le h2; rw [il_cons] at this; omega
  | cons a L ih =>
    intro M i j h1 h2 o1 o2 hk
    have l1 := rseg_le h1
    rw [il_cons] at l1
    cases M with
    | nil => have e2 : i = j := h2; omega
    | cons b M =>
      have l2 := rseg_le h2
      rw [il_cons] at l2
      obtain ⟨a1, a2, a3⟩ := h1
      obtain ⟨b1, b2, b3⟩ := h2
      have hc : a.2.1 = b.2.1 := by rw [← a1, ← b1]; exact hk i (by omega) (by omega)
      have oa := o1 a List.mem_cons_self
      have ob := o2 b List.mem_cons_self
      have hl : a.2.2.length = b.2.2.length := by
        by_cases c : a.2.1 % 4 = 2
        · have h1 := oa.2.2.2.2.2.1 c
          have h2 := ob.2.2.2.2.2.1 (by omega)
          rw [hc] at h1
          omega
        · rw [oa.2.2.2.2.2.2.1 c, ob.2.2.2.2.2.2.1 (by omega)]
      have hv : a.2.2 = b.2.2 := by
        refine List.ext_getElem hl (fun k h3 h4 => ?_)
        have e1 := a2 k _ (List.getElem?_eq_getElem h3)
        have e2 := b2 k _ (List.getElem?_eq_getElem h4)
        have e3 := hk (i + 1 + k) (by omega) (by omega)
        omega
      rw [← hl] at b3
      have := ih a3 b3 (fun e he => o1 e (List.mem_cons_of_mem _ he)) (fun e he => o2 e (List.mem_cons_of_mem _ he)) (fun k h3 h4 => hk k (by omega) h4)
      unfold samR at this ⊢
      rw [List.map_cons, List.map_cons, this, show a.2 = b.2 from Prod.ext hc hv]
theorem rseg_same2 {σ : SS} : ∀ {L M : Row} {i j j' : Int}, rseg σ 71 i L j → rseg σ 72 i M j' → samR L M → j = j' ∧ ∀ k : Int, i ≤ k → k < j → σ.2.1 71 k = σ.2.1 72 k := by
  intro L
  induction L with
  | nil =>
    intro M i j j' h1 h2 hs
    cases M with
    | nil => have e1 : i = j := h1; have e2 : i = j' := h2; exact ⟨by omega, fun k a b => by omega⟩
    | cons b M => cases hs
  | cons a L ih =>
    intro M i j j' h1 h2 hs
    cases M with
    | nil => cases hs
    | cons b M =>
      unfold samR at hs
      rw [List.map_cons, List.map_cons] at hs
      obtain ⟨h3, h4⟩ := List.cons.inj hs
      obtain ⟨a1, a2, a3⟩ := h1
      obtain ⟨b1, b2, b3⟩ := h2
      rw [← h3] at b1 b2 b3
      obtain ⟨i1, i2⟩ := ih a3 b3 h4
      refine ⟨i1, fun k h5 h6 => ?_⟩
      by_cases c : k = i
      · rw [c, a1, b1]
      · by_cases c2 : k < i + 1 + a.2.2.length
        · have hk : (k - i - 1).toNat < a.2.2.length := by omega
          have e1 := a2 _ _ (List.getElem?_eq_getElem hk)
          have e2 := b2 _ _ (List.getElem?_eq_getElem hk)
          rw [show i + 1 + (((k - i - 1).toNat : Nat) : Int) = k by omega] at e1 e2
          rw [e1, e2]
        · exact i2 k (by omega) h6
theorem s_sam57 {fu : Nat} {L : Nat} (hL : L ≤ 16384) : ∀ (m j n : Nat) (w : Int) (σ : SS), m + j = L → m < n → σ.1 55 29 = (L : Int) → (w = 0 ∨ w = 1) → (w = 1 ↔ ∀ k : Int, 0 ≤ k → k < j → σ.2.1 71 k = σ.2.1 72 k) ∨ w = 0 →
    ∃ u, l_D_isSame_57 fu n w j σ = some (u, σ) ∧ (u = 0 ∨ u = 1) ∧ ((w = 1 ∧ (w = 1 ↔ ∀ k : Int, 0 ≤ k → k < j → σ.2.1 71 k = σ.2.1 72 k)) → (u = 1 ↔ ∀ k : Int, 0 ≤ k → k < L → σ.2.1 71 k = σ.2.1 72 k)) ∧ (w = 0 → u = 0) := by
  intro m
  induction m with
  | zero =>
    intro j n w σ h1 h2 h3 h4 h5
    cases n with
    | zero => omega
    | succ n =>
      rw [l_D_isSame_57, if_neg (by omega)]
      refine ⟨w, rfl, h4, fun hw => ?_, fun z => z⟩
      rw [show ((L : Nat) : Int) = (j : Int) by omega]
      exact hw.2
  | succ m ih =>
    intro j n w σ h1 h2 h3 h4 h5
    cases n with
    | zero => omega
    | succ n =>
      rw [l_D_isSame_57, if_pos (by omega)]
      by_cases c : w = 0
      · rw [if_pos c]
        exact ⟨w, rfl, h4, fun hw => by omega, fun z => z⟩
      · rw [if_neg c, ck_t ⟨by omega, by omega⟩, ck_t ⟨by omega, by omega⟩]
        have hw1 : w = 1 := by omega
        by_cases ce : σ.2.1 71 j = σ.2.1 72 j
        · obtain ⟨u, u1, u2, u3, u4⟩ := ih (j + 1) n 1 σ (by omega) (by omega) h3 (Or.inr rfl) (by
            rcases h5 with h5 | h5
            · refine Or.inl ⟨fun _ k a b => ?_, fun _ => rfl⟩
              by_cases ck : k = j
              · rw [ck]; exact ce
              · exact h5.mp hw1 k a (by omega)
            · omega)
          rw [if_pos ce, sq_e, ck_t (by omega), show (j : Int) + 1 = ((j + 1 : Nat) : Int) by omega]
          refine ⟨u, u1, u2, fun hw => u3 ⟨rfl, fun _ k a b => ?_, fun _ => rfl⟩, fun z => absurd z c⟩
          by_cases ck : k = j
          · rw [ck]; exact ce
          · exact hw.2.mp hw.1 k a (by omega)
        · obtain ⟨u, u1, u2, u3, u4⟩ := ih (j + 1) n 0 σ (by omega) (by omega) h3 (Or.inl rfl) (Or.inr rfl)
          rw [if_neg ce, sq_e, ck_t (by omega), show (j : Int) + 1 = ((j + 1 : Nat) : Int) by omega]
          refine ⟨u, u1, u2, fun hw => ?_, fun z => absurd z c⟩
          have hu := u4 rfl
          exact ⟨fun z => by omega, fun z => absurd (z j (by omega) (by omega)) ce⟩
theorem s_isSameR {fu R : Nat} {x y : Int} {σ : SS} {d : Dk} (hfu : 20000 ≤ fu) (hR : 300 < R) (hRf : R < fu) (hg : gD R d) (hc : rD σ d) :
    Wp (f_D_isSame fu x y σ) (fun z τ => fx XD σ τ ∧ τ.1 55 0 = (rfs d x y : Int) ∧ rD τ d ∧ (rfs d x y = 0 → (samR (tN d.2.2.2.1.2.1 R (d.2.2.2.2.1 x.toNat).2.2.1) (tN d.2.2.2.1.2.1 R (d.2.2.2.2.1 y.toNat).2.2.1) → z = 1) ∧ (¬ samR (tN d.2.2.2.1.2.1 R (d.2.2.2.2.1 x.toNat).2.2.1) (tN d.2.2.2.1.2.1 R (d.2.2.2.2.1 y.toNat).2.2.1) → z = 0))) := by
  unfold f_D_isSame
  refine wp_e (s_refuses hc) ?_
  have hc2 : rD (sF σ 55 0 (rfs d x y : Int)) d := rD_code hc
  have x2 : fx XD σ (sF σ 55 0 (rfs d x y : Int)) := fx_F fx_rf (by unfold XD; omega)
  have f20 : (sF σ 55 0 (rfs d x y : Int)).1 55 0 = (rfs d x y : Int) := sF_same _ _ _ _
  by_cases c : rfs d x y = 0
  · rw [if_pos c]
    refine wp_t rfl ?_
    generalize sF σ 55 0 (rfs d x y : Int) = σ2 at hc2 x2 f20
    obtain ⟨x1, x2', y1, y2', wx, wy, wd⟩ := rfs_ok c
    have gx := whl_row (hg.2.2.1 x.toNat (by omega)) wx
    have gy := whl_row (hg.2.2.1 y.toNat (by omega)) wy
    have bx := slot_bnd hR hg.1.2.2.2.2 hg.2.1 gx.1 gx.2.2.1
    have by' := slot_bnd hR hg.1.2.2.2.2 hg.2.1 gy.1 gy.2.2.1
    have hokx := okR_N gx.2.2.2.1 hg.2.1.1.1 R gx.2.1
    have hoky := okR_N gy.2.2.2.1 hg.2.1.1.1 R gy.2.1
    rw [← wd] at hoky
    have ilx := il_le (O := d.1) hg.2.1.1.2.2.2.1 hokx
    refine wp_sq (s_rslot (Or.inl rfl) hfu hR hRf hg hc2 ⟨x1, x2'⟩ wx) ?_
    rintro z σ8 ⟨x8, rfl, r8, p8⟩
    refine wp_lb (fun σ13 e13 => ?_)
    have nQ1 : ∀ a, a ≠ 71 → (a < 73 ∨ 75 < a) → ¬ XQ 71 a := fun a h1 h2 => XQ_lo h1 h2
    have nQ2 : ∀ a, a ≠ 72 → (a < 73 ∨ 75 < a) → ¬ XQ 72 a := fun a h1 h2 => XQ_lo h1 h2
    have x13 : fx XM σ2 σ13 := by rw [e13]; exact fx_F (fx_mono x8 (fun a z => by unfold XQ at z; unfold XM; omega)) (by unfold XM; omega)
    have f13 : ∀ b, b ≠ 29 → σ13.1 55 b = σ2.1 55 b := fun b hb => by rw [e13, sF_f (fun z => hb z.2), fx_f x8 (nQ1 55 (by omega) (by omega))]
    have hc13 : rD σ13 d := rD_work x13 (fun b h1 _ _ => f13 b h1) hc2
    refine wp_sq (s_rslot (Or.inr rfl) hfu hR hRf hg hc13 ⟨y1, y2'⟩ wy) ?_
    rintro z σ17 ⟨x17, rfl, r17, p17⟩
    refine wp_lb (fun σ22 e22 => ?_)
    have f22 : ∀ b, b ≠ 30 → σ22.1 55 b = σ13.1 55 b := fun b hb => by rw [e22, sF_f (fun z => hb z.2), fx_f x17 (nQ2 55 (by omega) (by omega))]
    have x22 : fx XM σ13 σ22 := by rw [e22]; exact fx_F (fx_mono x17 (fun a z => by unfold XQ at z; unfold XM; omega)) (by unfold XM; omega)
    have hc22 : rD σ22 d := rD_work x22 (fun b _ h2 _ => f22 b h2) hc13
    have f29 : σ22.1 55 29 = (il (tN d.2.2.2.1.2.1 R (d.2.2.2.2.1 x.toNat).2.2.1) : Int) := by rw [f22 29 (by decide), e13]; exact sF_same _ _ _ _
    have f30 : σ22.1 55 30 = (il (tN d.2.2.2.1.2.1 R (d.2.2.2.2.1 y.toNat).2.2.1) : Int) := by rw [e22]; exact sF_same _ _ _ _
    have rx : rseg σ22 71 0 (tN d.2.2.2.1.2.1 R (d.2.2.2.2.1 x.toNat).2.2.1) (il (tN d.2.2.2.1.2.1 R (d.2.2.2.2.1 x.toNat).2.2.1)) := by
      have h1 : rseg σ13 71 0 (tN d.2.2.2.1.2.1 R (d.2.2.2.2.1 x.toNat).2.2.1) (il (tN d.2.2.2.1.2.1 R (d.2.2.2.2.1 x.toNat).2.2.1)) := rseg_eq (fun k _ _ => by rw [e13]; rfl) rfl r8
      exact rseg_eq (fun k _ _ => by rw [e22]; rfl) rfl (rseg_fx x17 (nQ2 71 (by omega) (by omega)) h1)
    have ry : rseg σ22 72 0 (tN d.2.2.2.1.2.1 R (d.2.2.2.2.1 y.toNat).2.2.1) (il (tN d.2.2.2.1.2.1 R (d.2.2.2.2.1 y.toNat).2.2.1)) := rseg_eq (fun k _ _ => by rw [e22]; rfl) rfl r17
    have xall : fx XD σ σ22 := fx_tr x2 (fx_tr (fx_mono x13 (fun a z => by unfold XM at z; unfold XD; omega)) (fx_mono x22 (fun a z => by unfold XM at z; unfold XD; omega)))
    have f0 : σ22.1 55 0 = (rfs d x y : Int) := by rw [f22 0 (by decide), f13 0 (by decide)]; exact f20
    rw [f29, f30]
    by_cases ce : (il (tN d.2.2.2.1.2.1 R (d.2.2.2.2.1 x.toNat).2.2.1) : Int) = (il (tN d.2.2.2.1.2.1 R (d.2.2.2.2.1 y.toNat).2.2.1) : Int)
    · obtain ⟨u, u1, u2, u3, -⟩ := s_sam57 (fu := fu) (L := il (tN d.2.2.2.1.2.1 R (d.2.2.2.2.1 x.toNat).2.2.1)) (by omega) (il (tN d.2.2.2.1.2.1 R (d.2.2.2.2.1 x.toNat).2.2.1)) 0 fu 1 σ22 (by omega) (by omega) f29 (Or.inr rfl) (Or.inl ⟨fun _ k a b => by omega, fun _ => rfl⟩)
      have u1' : l_D_isSame_57 fu fu 1 0 σ22 = some (u, σ22) := u1
      have u3' := u3 ⟨rfl, fun _ k a b => by omega, fun _ => rfl⟩
      rw [if_pos ce, sq_e, u1', sq_e]
      refine wp_ck u2 (wp_some ⟨xall, f0, hc22, fun _ => ⟨fun hs => ?_, fun hs => ?_⟩⟩)
      · exact u3'.mpr (rseg_same2 rx ry hs).2
      · rcases u2 with z | z
        · exact z
        · rw [← ce] at ry
          exact absurd (rseg_same rx ry hokx hoky (fun k a b => u3'.mp z k a b)) hs
    · obtain ⟨u, u1, u2, -, u4⟩ := s_sam57 (fu := fu) (L := il (tN d.2.2.2.1.2.1 R (d.2.2.2.2.1 x.toNat).2.2.1)) (by omega) (il (tN d.2.2.2.1.2.1 R (d.2.2.2.2.1 x.toNat).2.2.1)) 0 fu 0 σ22 (by omega) (by omega) f29 (Or.inl rfl) (Or.inr rfl)
      have u1' : l_D_isSame_57 fu fu 0 0 σ22 = some (u, σ22) := u1
      rw [if_neg ce, sq_e, u1', sq_e]
      refine wp_ck u2 (wp_some ⟨xall, f0, hc22, fun _ => ⟨fun hs => ?_, fun _ => u4 rfl⟩⟩)
      exact absurd (rseg_same2 rx ry hs).1 ce
  · rw [if_neg c]
    exact wp_f (by decide) (wp_some ⟨x2, f20, hc2, fun z => absurd z c⟩)
theorem s_fails10 {σ : SS} : f_D_fails 1 0 σ = some (1, sF σ 55 0 1) := by rw [s_fails]; rfl
theorem s_fails00 {σ : SS} : f_D_fails 0 0 σ = some (0, sF σ 55 0 0) := by rw [s_fails]; rfl
theorem s_untold {x : Int} {σ : SS} {d : Dk} (hc : rD σ d) : (sq (if x < 0 then (some ((1 : Int), σ)) else (if x < (σ.1 55 2) then (some (0, σ)) else (some (1, σ)))) fun (z3 : Int) σ4 => f_D_fails z3 0 σ4) = some ((if 0 ≤ x ∧ x < d.2.2.1 then 0 else 1), sF σ 55 0 (if 0 ≤ x ∧ x < d.2.2.1 then 0 else 1)) := by
  rw [hc.1.2.1]
  by_cases c0 : x < 0
  · rw [if_pos c0, sq_e, s_fails10, if_neg (by omega)]
  · rw [if_neg c0]
    by_cases c1 : x < d.2.2.1
    · rw [if_pos c1, sq_e, s_fails00, if_pos (by omega)]
    · rw [if_neg c1, sq_e, s_fails10, if_neg (by omega)]
theorem sq_assoc {α β γ : Type} (m : Option (α × SS)) (f : α → SS → Option (β × SS)) (g : β → SS → Option (γ × SS)) : (sq m fun a σ => sq (f a σ) g) = sq (sq m f) g := by
  cases m with
  | none => rfl
  | some x => rfl
theorem s_sizeR {fu R : Nat} {x : Int} {σ : SS} {d : Dk} (hfu : 20000 ≤ fu) (hR : 300 < R) (hRf : R < fu) (hg : gD R d) (hc : rD σ d) :
    Wp (f_D_size fu x σ) (fun z τ => fx XD σ τ ∧ τ.1 55 0 = (if 0 ≤ x ∧ x < d.2.2.1 then 0 else 1) ∧ rD τ d ∧ (0 ≤ x ∧ x < d.2.2.1 → z = szo d.2.2.2.1.2.1 R x)) := by
  unfold f_D_size
  rw [sq_assoc]
  refine wp_e (s_untold hc) ?_
  have hc9 : rD (sF σ 55 0 (if 0 ≤ x ∧ x < d.2.2.1 then 0 else 1)) d := rD_code hc
  have x9 : fx XD σ (sF σ 55 0 (if 0 ≤ x ∧ x < d.2.2.1 then 0 else 1)) := fx_F fx_rf (by unfold XD; omega)
  have f0 : (sF σ 55 0 (if 0 ≤ x ∧ x < d.2.2.1 then 0 else 1)).1 55 0 = (if 0 ≤ x ∧ x < d.2.2.1 then 0 else 1) := sF_same _ _ _ _
  by_cases c : 0 ≤ x ∧ x < d.2.2.1
  · rw [if_pos c] at hc9 x9 f0 ⊢
    have hp : 0 ≤ d.2.2.2.1.1 x := (hg.2.1.1.2.2.2.2.2.2.1 x).mpr (Or.inl c)
    refine wp_t rfl (wp_sq (s_fullr hfu hR hRf hg.1.2.2.2.2 hg.2.1.1 hg.2.1.2.1 (gOk_canW hg.2.1) hc9.1 hc9.2.1 hp) ?_)
    rintro z τ ⟨z1, rfl⟩
    have nQ : ¬ XQ 72 55 := XQ_lo (by omega) (by omega)
    exact wp_some ⟨fx_tr x9 (fx_mono z1 (fun a z => by unfold XQ at z; unfold XD; omega)), by rw [fx_f z1 nQ]; exact f0, rD_work (fx_mono z1 (fun a z => by unfold XQ at z; unfold XM; omega)) (fun b _ _ _ => fx_f z1 nQ) hc9, fun _ => rfl⟩
  · rw [if_neg c] at hc9 x9 f0 ⊢
    exact wp_f (by decide) (wp_some ⟨x9, f0, hc9, fun z => absurd z c⟩)
theorem s_itemR {R : Nat} {x : Int} {σ : SS} {d : Dk} (hg : gD R d) (hc : rD σ d) :
    Wp (f_D_item x σ) (fun z τ => fx XD σ τ ∧ τ.1 55 0 = (if 0 ≤ x ∧ x < d.2.2.2.2.2.1.length then 0 else 1) ∧ rD τ d ∧ (0 ≤ x ∧ x < d.2.2.2.2.2.1.length → z = d.2.2.2.2.2.1.getD x.toNat 0)) := by
  have hl := hg.2.2.2
  have ht : (sq (if x < 0 then (some ((1 : Int), σ)) else (if x < (σ.1 55 36) then (some (0, σ)) else (some (1, σ)))) fun (z3 : Int) σ4 => f_D_fails z3 0 σ4) = some ((if 0 ≤ x ∧ x < d.2.2.2.2.2.1.length then 0 else 1), sF σ 55 0 (if 0 ≤ x ∧ x < d.2.2.2.2.2.1.length then 0 else 1)) := by
    rw [hc.2.2.2.2.1.1]
    by_cases c0 : x < 0
    · rw [if_pos c0, sq_e, s_fails10, if_neg (by omega)]
    · rw [if_neg c0]
      by_cases c1 : x < (d.2.2.2.2.2.1.length : Int)
      · rw [if_pos c1, sq_e, s_fails00, if_pos (by omega)]
      · rw [if_neg c1, sq_e, s_fails10, if_neg (by omega)]
  unfold f_D_item
  rw [sq_assoc]
  refine wp_e ht ?_
  have hc9 : rD (sF σ 55 0 (if 0 ≤ x ∧ x < (d.2.2.2.2.2.1.length : Int) then 0 else 1)) d := rD_code hc
  have x9 : fx XD σ (sF σ 55 0 (if 0 ≤ x ∧ x < (d.2.2.2.2.2.1.length : Int) then 0 else 1)) := fx_F fx_rf (by unfold XD; omega)
  have f0 : (sF σ 55 0 (if 0 ≤ x ∧ x < (d.2.2.2.2.2.1.length : Int) then 0 else 1)).1 55 0 = (if 0 ≤ x ∧ x < (d.2.2.2.2.2.1.length : Int) then 0 else 1) := sF_same _ _ _ _
  by_cases c : 0 ≤ x ∧ x < (d.2.2.2.2.2.1.length : Int)
  · rw [if_pos c] at hc9 x9 f0 ⊢
    have hk : x.toNat < d.2.2.2.2.2.1.length := by omega
    have := hc9.2.2.2.2.1.2.2 x.toNat _ (List.getElem?_eq_getElem hk)
    rw [show ((x.toNat : Nat) : Int) = x by omega] at this
    refine wp_t rfl (wp_ck ⟨by omega, by omega⟩ (wp_some ⟨x9, f0, hc9, fun _ => ?_⟩))
    rw [this, List.getD_eq_getElem?_getD, List.getElem?_eq_getElem hk]
    rfl
  · rw [if_neg c] at hc9 x9 f0 ⊢
    exact wp_f (by decide) (wp_some ⟨x9, f0, hc9, fun z => absurd z c⟩)
/-! empty and count -/
theorem s_had9 {O : Op} {fu : Nat} {told : Int} {s : St} {σ : SS} (hs : sOk O told s) (hc : rSt σ told s) : ∀ (m i n : Nat), ((m + i : Nat) : Int) = told → m < n → l_D_empty_9 fu n (had s.2.1 i) i σ = some (had s.2.1 told.toNat, σ) := by
  have h8 := hs.2.2.2.2.2.2.2.1
  intro m
  induction m with
  | zero =>
    intro i n h1 h2
    cases n with
    | zero => omega
    | succ n => rw [l_D_empty_9, hc.2.1, if_neg (by omega), show told.toNat = i by omega]
  | succ m ih =>
    intro i n h1 h2
    cases n with
    | zero => omega
    | succ n =>
      have hb := had_b s.2.1 i
      have hnext : ck (rng ((i : Int) + 1)) (l_D_empty_9 fu n (had s.2.1 (i + 1)) ((i : Int) + 1) σ) = some (had s.2.1 told.toNat, σ) := by
        rw [ck_t (by omega), show (i : Int) + 1 = ((i + 1 : Nat) : Int) by omega]
        exact ih (i + 1) n (by omega) (by omega)
      rw [had_succ] at hnext
      rw [l_D_empty_9, hc.2.1, if_pos (by omega), ck_t ⟨by omega, by omega⟩, hc.2.2.2 i (by omega) (by omega)]
      by_cases c : (s.2.1 (i : Int)).isSome = true
      · rw [if_pos c] at hnext ⊢
        rw [if_neg (by decide), sq_e, ck_t (by omega), lb_e]
        exact hnext
      · rw [if_neg c] at hnext ⊢
        rw [if_pos rfl, sq_e, ck_t (by omega), lb_e]
        exact hnext
theorem s_had73 {O : Op} {fu : Nat} {told : Int} {s : St} {σ : SS} (hs : sOk O told s) (hm : mOk told s) (hc : rSt σ told s) : ∀ (m i n : Nat), ((m + i : Nat) : Int) = 24 + s.2.2.2 → m < n → l_D_count_73 fu n (had s.2.1 i) i σ = some (had s.2.1 (24 + s.2.2.2).toNat, σ) := by
  have h8 := hs.2.2.2.2.2.2.2.1
  have hmb := mOk_b h8 hm
  intro m
  induction m with
  | zero =>
    intro i n h1 h2
    cases n with
    | zero => omega
    | succ n => rw [l_D_count_73, hc.2.2.1, ck_t (by omega), if_neg (by omega), show (24 + s.2.2.2).toNat = i by omega]
  | succ m ih =>
    intro i n h1 h2
    cases n with
    | zero => omega
    | succ n =>
      have hb := had_b s.2.1 i
      have hnext : ck (rng ((i : Int) + 1)) (l_D_count_73 fu n (had s.2.1 (i + 1)) ((i : Int) + 1) σ) = some (had s.2.1 (24 + s.2.2.2).toNat, σ) := by
        rw [ck_t (by omega), show (i : Int) + 1 = ((i + 1 : Nat) : Int) by omega]
        exact ih (i + 1) n (by omega) (by omega)
      rw [had_succ] at hnext
      rw [l_D_count_73, hc.2.2.1, ck_t (by omega), if_pos (by omega), ck_t ⟨by omega, by omega⟩, hc.2.2.2 i (by omega) (by omega)]
      by_cases c : (s.2.1 (i : Int)).isSome = true
      · rw [if_pos c] at hnext ⊢
        rw [if_neg (by decide), sq_e, ck_t (by omega), lb_e]
        exact hnext
      · rw [if_neg c] at hnext ⊢
        rw [if_pos rfl, sq_e, ck_t (by omega), lb_e]
        exact hnext
theorem s_em42 {fu : Nat} {x1 : Int} : ∀ (m j n : Nat) (σ : SS), m + j = 324 → m < n → (∀ h : Int, 0 ≤ h → h < j → σ.2.1 61 h = 0) →
    Wp (l_D_empty_42 fu n x1 j σ) (fun _ τ => fx (jst 61) σ τ ∧ ∀ h : Int, 0 ≤ h → h < 324 → τ.2.1 61 h = 0) := by
  intro m
  induction m with
  | zero =>
    intro j n σ h1 h2 h4
    cases n with
    | zero => omega
    | succ n =>
      rw [l_D_empty_42]
      exact wp_f (by omega) (wp_some ⟨fx_rf, fun h a b => h4 h a (by omega)⟩)
  | succ m ih =>
    intro j n σ h1 h2 h4
    cases n with
    | zero => omega
    | succ n =>
      rw [l_D_empty_42]
      refine wp_t (by omega) (wp_ck ⟨by omega, by omega⟩ (wp_lb (fun σ5 e5 => wp_ck (by omega) ?_)))
      have hx : fx (jst 61) σ σ5 := by rw [e5]; exact fx_A fx_rf rfl
      rw [show (j : Int) + 1 = ((j + 1 : Nat) : Int) by omega]
      have h9 := ih (j + 1) n σ5 (by omega) (by omega) (fun h a b => by
        rw [e5]
        by_cases c : h = j
        · rw [c]; exact sA_same _ _ _ _
        · rw [sA_other (by omega)]; exact h4 h a (by omega))
      exact wp_mono h9 (fun _ τ k => ⟨fx_tr hx k.1, k.2⟩)
theorem s_emptyR {fu R : Nat} {σ : SS} {d : Dk} (hfu : 20000 ≤ fu) (hg : gD R d) (hc : rD σ d) :
    Wp (f_D_empty fu σ) (fun z τ => fx XD σ τ ∧ τ.1 55 0 = 0 ∧ rD τ (dkE d) ∧ z = had d.2.2.2.1.2.1 d.2.2.1.toNat) := by
  have h8 := hg.2.1.1.2.2.2.2.2.2.2.1
  unfold f_D_empty
  refine wp_lb (fun σ2 e2 => ?_)
  have hc2 : rD σ2 d := by rw [e2]; exact rD_code hc
  have x2 : fx XD σ σ2 := by rw [e2]; exact fx_F fx_rf (by unfold XD; omega)
  have f2 : σ2.1 55 0 = 0 := by rw [e2]; exact sF_same _ _ _ _
  have h9 := s_had9 (fu := fu) hg.2.1.1 hc2.1 d.2.2.1.toNat 0 fu (by omega) (by omega)
  refine wp_e (show l_D_empty_9 fu fu 0 0 σ2 = some (had d.2.2.2.1.2.1 d.2.2.1.toNat, σ2) from h9) ?_
  refine wp_sq (s_em42 (fu := fu) 324 0 fu σ2 (by omega) (by omega) (fun h a b => by omega)) ?_
  rintro - σ11 ⟨x11, y11⟩
  refine wp_lb (fun τ e => wp_some ?_)
  have n61 : ∀ a, a ≠ 61 → ¬ jst 61 a := fun a h z => h z
  have f : ∀ b, b ≠ 3 → τ.1 55 b = σ2.1 55 b := fun b hb => by rw [e, sF_f (fun z => hb z.2), fx_f x11 (n61 55 (by omega))]
  have xτ : fx (fun a => a = 55 ∨ a = 61) σ2 τ := by rw [e]; exact fx_F (fx_mono x11 (fun a z => Or.inr z)) (Or.inl rfl)
  have a61 : ∀ h : Int, 0 ≤ h → h < 324 → τ.2.1 61 h = 0 := fun h a b => by rw [e]; exact y11 h a b
  refine ⟨fx_tr x2 (fx_mono xτ (fun a z => by unfold XD; omega)), by rw [f 0 (by decide)]; exact f2, ?_, rfl⟩
  have hs : rSt τ d.2.2.1 (sE d.2.2.1 d.2.2.2.1) := by
    refine ⟨fun h hh => ?_, by rw [f 2 (by decide)]; exact hc2.1.2.1, by rw [e]; exact sF_same _ _ _ _, fun h a b => by rw [a61 h a b]; rfl⟩
    have hh' : 0 ≤ (if 0 ≤ h ∧ h < d.2.2.1 then d.2.2.2.1.1 h else -1) := hh
    have ch : 0 ≤ h ∧ h < d.2.2.1 := Decidable.byContradiction (fun z => by rw [if_neg z] at hh'; omega)
    rw [if_pos ch] at hh'
    obtain ⟨i1, i2, i3, -, -⟩ := hc2.1.1 h hh'
    refine ⟨i1, i2, ?_, fun _ => a61 h i1 i2, fun F hF => by cases hF⟩
    show τ.2.1 58 h = if 0 ≤ h ∧ h < d.2.2.1 then d.2.2.2.1.1 h else -1
    rw [if_pos ch, fx_a xτ (by omega), i3]
  exact rD_st (σ := σ2) (fx_mono xτ (fun a z => by omega)) (f 1 (by decide)) (f 36 (by decide)) (f 37 (by decide)) (by rw [f 38 (by decide)]; exact hc2.2.2.2.2.2.1) (by rw [f 39 (by decide)]; exact hc2.2.2.2.2.2.2) hs hc2
/-- as many are filled as stand in the order -/
theorem had_ord {O : Op} {told : Int} {s : St} (hs : sOk O told s) (hm : mOk told s) : had s.2.1 (24 + s.2.2.2).toNat = (s.2.2.1.length : Int) := by
  have h8 := hs.2.2.2.2.2.2.2.1
  have hb := mOk_b h8 hm
  unfold had
  have hp : (kix (24 + s.2.2.2).toNat (fun h => (s.2.1 (h : Int)).isSome)).Perm s.2.2.1 := by
    refine (List.perm_ext_iff_of_nodup (kix_nodup _ _) hs.2.2.2.2.1.1).mpr (fun h => ?_)
    rw [← hs.2.2.2.2.2.1 h]
    constructor
    · intro hk
      obtain ⟨k1, k2, k3⟩ := kix_mem hk
      have k3' : (s.2.1 ((h.toNat : Nat) : Int)).isSome = true := k3
      rw [show ((h.toNat : Nat) : Int) = h by omega] at k3'
      exact Option.isSome_iff_exists.mp k3'
    · rintro ⟨F, hF⟩
      have hp := hs.2.2.2.2.2.2.2.2.1 h ((hs.2.2.2.2.2.1 h).mp ⟨F, hF⟩)
      have hr := (hs.2.2.2.2.2.2.1 h).mp hp
      unfold kix
      refine List.mem_map.mpr ⟨h.toNat, List.mem_filter.mpr ⟨List.mem_range.mpr (by omega), ?_⟩, by omega⟩
      show (s.2.1 ((h.toNat : Nat) : Int)).isSome = true
      rw [show ((h.toNat : Nat) : Int) = h by omega, hF]
      rfl
  rw [hp.length_eq]
theorem s_countR {fu R : Nat} {x : Int} {σ : SS} {d : Dk} (hfu : 20000 ≤ fu) (hg : gD R d) (hc : rD σ d) :
    Wp (f_D_count fu x σ) (fun z τ => fx XD σ τ ∧ rD τ d ∧ z = aCnt d x) := by
  have h8 := hg.2.1.1.2.2.2.2.2.2.2.1
  have hb := mOk_b h8 hg.2.1.2.1
  unfold f_D_count aCnt
  refine wp_lb (fun σ2 e2 => ?_)
  have hc2 : rD σ2 d := by rw [e2]; exact rD_code hc
  have x2 : fx XD σ σ2 := by rw [e2]; exact fx_F fx_rf (by unfold XD; omega)
  rw [hc2.2.2.1, hc2.1.2.1, hc2.1.2.2.1, hc2.2.2.2.2.1.1, hc2.2.2.2.2.1.2.1, hc2.2.2.2.2.2.1, hc2.2.2.2.2.2.2]
  by_cases c0 : x = 0
  · rw [if_pos c0, if_pos c0]; exact wp_some ⟨x2, hc2, rfl⟩
  rw [if_neg c0, if_neg c0]
  by_cases c1 : x = 1
  · rw [if_pos c1, if_pos c1]; exact wp_some ⟨x2, hc2, rfl⟩
  rw [if_neg c1, if_neg c1]
  by_cases c2 : x = 2
  · rw [if_pos c2, if_pos c2]; exact wp_some ⟨x2, hc2, rfl⟩
  rw [if_neg c2, if_neg c2]
  by_cases c3 : x = 3
  · rw [if_pos c3, if_pos c3]
    have h9 := s_had73 (fu := fu) hg.2.1.1 hg.2.1.2.1 hc2.1 (24 + d.2.2.2.1.2.2.2).toNat 0 fu (by omega) (by omega)
    refine wp_e (show l_D_count_73 fu fu 0 0 σ2 = some (had d.2.2.2.1.2.1 (24 + d.2.2.2.1.2.2.2).toNat, σ2) from h9) (wp_some ⟨x2, hc2, had_ord hg.2.1.1 hg.2.1.2.1⟩)
  rw [if_neg c3, if_neg c3]
  by_cases c4 : x = 4
  · rw [if_pos c4, if_pos c4]; exact wp_some ⟨x2, hc2, rfl⟩
  rw [if_neg c4, if_neg c4]
  by_cases c5 : x = 5
  · rw [if_pos c5, if_pos c5]; exact wp_some ⟨x2, hc2, rfl⟩
  rw [if_neg c5, if_neg c5]
  by_cases c6 : x = 6
  · rw [if_pos c6, if_pos c6]; exact wp_some ⟨x2, hc2, rfl⟩
  rw [if_neg c6, if_neg c6]
  by_cases c7 : x = 7
  · rw [if_pos c7, if_pos c7]; exact wp_some ⟨x2, hc2, rfl⟩
  rw [if_neg c7, if_neg c7]
  exact wp_some ⟨x2, hc2, rfl⟩
