/-! THE CLASS: SAME, SIZE, EMPTY, COUNT, ITEM -/
def samR (L M : Row) : Prop := L.map (fun e => e.2) = M.map (fun e => e.2)
theorem s_samel {O : Op} {fu R : Nat} {told N : Int} {s : St} (hR : 300 < R) (hRf : R < fu) (hR2 : R ≤ 1000) (hfu : 3000 ≤ fu) (hN : 0 ≤ N) (hN2 : N ≤ 1000) (hg : gOk O told R s) :
    ∀ (L : Row) (n : Nat) (M : Row) (x3 : Int) (fl fr : List Fr) (σ : SS), L.length < n → 0 ≤ x3 → x3 + L.length < 1000000 → cSt σ told s → cst σ 30 s.1 s.2.1 N fl → ahd s.2.1 R fl = L → cst σ 36 s.1 s.2.1 N fr → ahd s.2.1 R fr = M → (∀ e ∈ L, e.1 ≤ 10000) → (∀ e ∈ M, e.1 ≤ 10000) →
    Wp (l_H_isSame_8 fu n x3 σ) (fun z τ => fx (fun a => 30 ≤ a ∧ a ≤ 41) σ τ ∧ ∃ w, z = .inl (.inl w) ∧ (samR L M → w = 1) ∧ (¬ samR L M → w = 0)) := by
  have hHk := sOk_hOk hg.1 hg.2.1 hR hg.2.2
  intro L
  induction L with
  | nil =>
    intro n M x3 fl fr σ hn hx hx2 hc hcl hal hcr har hbL hbM
    cases n with
    | zero => omega
    | succ n =>
      rw [l_H_isSame_8]
      have ht := top_le hg.1 hg.2.1 hc
      refine wp_t (by omega) (wp_sq (s_advance cur30 (by omega) hRf hR2 hHk hN hN2 hc.1 (by omega) hcl (by rw [hal]; exact hbL)) ?_)
      rintro a2 σ3 ⟨q1, q2⟩
      rw [hal] at q2
      have q2' : a2 = 0 := q2
      have n30 : ∀ a, (a < 30 ∨ 35 < a) → ¬ cP 30 a := fun a ha z => by unfold cP at z; omega
      have c3 := cSt_cP cur30 q1 hc
      have cst36 : cst σ3 36 s.1 s.2.1 N fr := cst_go q1 (fun a ha => n30 a (by unfold cP at ha; omega)) (cle_cP cur30 q1) (by rw [fx_f q1 (n30 1 (by omega))]; exact Int.le_refl _) (fun _ _ => rfl) (fun _ _ z => z) hcr
      refine wp_sq (s_advance cur36 (by omega) hRf hR2 hHk hN hN2 c3.1 (by rw [fx_f q1 (n30 1 (by omega))]; omega) cst36 (by rw [har]; exact hbM)) ?_
      rintro a7 σ8 ⟨r1, r2⟩
      rw [har] at r2
      have x8 : fx (fun a => 30 ≤ a ∧ a ≤ 41) σ σ8 := fx_tr (fx_mono q1 (fun a z => by unfold cP at z; omega)) (fx_mono r1 (fun a z => by unfold cP at z; omega))
      cases M with
      | nil =>
        have r2' : a7 = 0 := r2
        refine wp_t (by omega) (wp_t q2' (wp_some ⟨x8, 1, rfl, fun _ => rfl, fun h => absurd rfl h⟩))
      | cons b M =>
        have r2' : a7 = 1 := r2.1
        exact wp_f (by omega) (wp_some ⟨x8, 0, rfl, fun h => (by unfold samR at h; cases h), fun _ => rfl⟩)
  | cons a L ih =>
    intro n M x3 fl fr σ hn hx hx2 hc hcl hal hcr har hbL hbM
    cases n with
    | zero => omega
    | succ n =>
      rw [l_H_isSame_8]
      have ht := top_le hg.1 hg.2.1 hc
      rw [List.length_cons] at hn hx2
      refine wp_t (by omega) (wp_sq (s_advance cur30 (by omega) hRf hR2 hHk hN hN2 hc.1 (by omega) hcl (by rw [hal]; exact hbL)) ?_)
      rintro a2 σ3 ⟨q1, q2⟩
      rw [hal] at q2
      obtain ⟨rfl, ga3, gl, cl3, al3⟩ := q2
      have n30 : ∀ a, (a < 30 ∨ 35 < a) → ¬ cP 30 a := fun a ha z => by unfold cP at z; omega
      have n36 : ∀ a, (a < 36 ∨ 41 < a) → ¬ cP 36 a := fun a ha z => by unfold cP at z; omega
      have c3 := cSt_cP cur30 q1 hc
      have e3 : σ3.1 1 2 = σ.1 1 2 := fx_f q1 (n30 1 (by omega))
      have cst36 : cst σ3 36 s.1 s.2.1 N fr := cst_go q1 (fun a ha => n30 a (by unfold cP at ha; omega)) (cle_cP cur30 q1) (by rw [e3]; exact Int.le_refl _) (fun _ _ => rfl) (fun _ _ z => z) hcr
      refine wp_sq (s_advance cur36 (by omega) hRf hR2 hHk hN hN2 c3.1 (by omega) cst36 (by rw [har]; exact hbM)) ?_
      rintro a7 σ8 ⟨r1, r2⟩
      rw [har] at r2
      have x8 : fx (fun a => 30 ≤ a ∧ a ≤ 41) σ σ8 := fx_tr (fx_mono q1 (fun a z => by unfold cP at z; omega)) (fx_mono r1 (fun a z => by unfold cP at z; omega))
      cases M with
      | nil =>
        have r2' : a7 = 0 := r2
        exact wp_f (by omega) (wp_some ⟨x8, 0, rfl, fun h => (by unfold samR at h; cases h), fun _ => rfl⟩)
      | cons b M =>
        obtain ⟨rfl, gb8, gr, cr8, ar8⟩ := r2
        have ga8 : grp σ8 30 a := grp_go r1 (fun a ha => n36 a (by unfold cP at ha; omega)) ga3
        have hokL : okR s.1 N (a :: L) := by rw [← hal]; exact ahd_ok hg.1.1 hN hcl.2.2.2.2
        have hokM : okR s.1 N (b :: M) := by rw [← har]; exact ahd_ok hg.1.1 hN hcr.2.2.2.2
        have hoka := hokL a List.mem_cons_self
        have hokb := hokM b List.mem_cons_self
        have h4a : a.2.2.length ≤ 4 := by
          by_cases c : a.2.1 % 4 = 2
          · have := hoka.2.2.2.2.2.1 c
            have := hg.1.2.2.2.1 (a.2.1 / 4)
            omega
          · rw [hoka.2.2.2.2.2.2.1 c]; exact Nat.zero_le _
        have hll : a.2.1 = b.2.1 → a.2.2.length = b.2.2.length := by
          intro he
          by_cases c : a.2.1 % 4 = 2
          · have h1 := hoka.2.2.2.2.2.1 c
            have h2 := hokb.2.2.2.2.2.1 (by omega)
            rw [he] at h1
            omega
          · rw [hoka.2.2.2.2.2.2.1 c, hokb.2.2.2.2.2.2.1 (by omega)]
        refine wp_t rfl (wp_f (by decide) (wp_e (s_standsAs (by omega) h4a ga8 gb8 hll) ?_))
        by_cases ce : a.2.1 = b.2.1 ∧ a.2.2 = b.2.2
        · rw [if_pos ce]
          refine wp_f (by decide) (wp_ck (by omega) ?_)
          have c8 := cSt_cP cur36 r1 c3
          have cl8 : cst σ8 30 s.1 s.2.1 N gl := cst_go r1 (fun a ha => n36 a (by unfold cP at ha; omega)) (cle_cP cur36 r1) (by rw [fx_f r1 (n36 1 (by omega))]; exact Int.le_refl _) (fun _ _ => rfl) (fun _ _ z => z) cl3
          have h9 := ih n M (x3 + 1) gl gr σ8 (by omega) (by omega) (by omega) c8 cl8 al3 cr8 ar8 (fun e he => hbL e (List.mem_cons_of_mem _ he)) (fun e he => hbM e (List.mem_cons_of_mem _ he))
          refine wp_mono h9 (fun z τ k => ⟨fx_tr x8 k.1, ?_⟩)
          obtain ⟨w, k1, k2, k3⟩ := k.2
          have hiff : samR (a :: L) (b :: M) ↔ samR L M := by
            unfold samR
            rw [List.map_cons, List.map_cons]
            constructor
            · intro h; exact (List.cons.inj h).2
            · intro h
              rw [h, show a.2 = b.2 from Prod.ext ce.1 ce.2]
          exact ⟨w, k1, fun h => k2 (hiff.mp h), fun h => k3 (fun z => h (hiff.mpr z))⟩
        · rw [if_neg ce]
          refine wp_t rfl (wp_some ⟨x8, 0, rfl, fun h => ?_, fun _ => rfl⟩)
          unfold samR at h
          rw [List.map_cons, List.map_cons] at h
          have := (List.cons.inj h).1
          exact absurd ⟨by rw [this], by rw [this]⟩ ce
theorem slot_bnd {O : Op} {told : Int} {R : Nat} {s : St} {A : Row} (hR : 300 < R) (hb2 : bd2 O) (hg : gOk O told R s) (hA : tR O A [0] = some []) (hl : A.length ≤ 30) : (tN s.2.1 R A).length ≤ 2400 ∧ ∀ e ∈ tN s.2.1 R A, 0 ≤ e.1 ∧ e.1 ≤ 4800 := by
  have h5 := len80 hR hg A
  refine ⟨by omega, fun e he => ?_⟩
  have h4 := tR_bnd hb2 (lo := 0) (hi := 0) (fun z hz => by cases List.mem_singleton.mp hz; omega) (tR_N hg.1.2.1 R hA) e he
  omega
theorem s_isSame {fu R : Nat} {σ : SS} {d : Dk} {x y : Int} (hR : 300 < R) (hRf : R < fu) (hR2 : R ≤ 1000) (hfu : 3000 ≤ fu) (hg : gD R d) (hn : nth σ) (hc : cD σ d) :
    Wp (f_H_isSame fu x y σ) (fun z τ => fx XH σ τ ∧ cD τ d ∧ tho σ τ ∧ ((rfs d x y = 0 ∧ ∃ w, z = .inl w ∧ (samR (tN d.2.2.2.1.2.1 R (d.2.2.2.2.1 x.toNat).2.2.1) (tN d.2.2.2.1.2.1 R (d.2.2.2.2.1 y.toNat).2.2.1) → w = 1) ∧ (¬ samR (tN d.2.2.2.1.2.1 R (d.2.2.2.2.1 x.toNat).2.2.1) (tN d.2.2.2.1.2.1 R (d.2.2.2.2.1 y.toNat).2.2.1) → w = 0)) ∨ (rfs d x y ≠ 0 ∧ z = .inr (exn (rfs d x y))))) := by
  unfold f_H_isSame
  refine wp_sx (s_startBoth hg hn hc) ?_ ?_
  · rintro E τ ⟨a1, a2, a3⟩
    rcases a3 with ⟨-, a4, -⟩ | ⟨a4, a5, a6⟩
    · cases a4
    · exact ⟨fx_mono a1 (fun a z => by unfold XK at z; unfold XH; omega), a2, a6, Or.inr ⟨a4, by rw [Sum.inr.inj a5]⟩⟩
  · rintro u σ2 ⟨a1, a2, a3⟩
    rcases a3 with ⟨a4, -, a5, a6, a7⟩ | ⟨-, a5, -⟩
    · obtain ⟨x1, x2, y1, y2, wx, wy, -⟩ := rfs_ok a4
      have gx := whl_row (hg.2.2.1 x.toNat (by omega)) wx
      have gy := whl_row (hg.2.2.1 y.toNat (by omega)) wy
      have bx := slot_bnd hR hg.1.2.2.2.2 hg.2.1 gx.1 gx.2.2.1
      have by' := slot_bnd hR hg.1.2.2.2.2 hg.2.1 gy.1 gy.2.2.1
      have hal := ahd_one d.2.2.2.1.2.1 R (d.2.2.2.2.1 x.toNat).2.2.1 (-1)
      have har := ahd_one d.2.2.2.1.2.1 R (d.2.2.2.2.1 y.toNat).2.2.1 (-1)
      refine wp_sr (s_samel (O := d.1) (told := d.2.2.1) hR hRf hR2 hfu gx.2.2.2.1 (by omega) hg.2.1 _ fu _ 0 _ _ σ2 (by omega) (Int.le_refl _) (by omega) a2.1 a6 hal a7 har (fun e he => by have := bx.2 e he; omega) (fun e he => by have := by'.2 e he; omega)) ?_ ?_
      · rintro z τ ⟨z1, w, z2, z3, z4⟩
        have z2' := Sum.inl.inj z2
        have xk : fx XK σ2 τ := fx_mono z1 (fun a z => by unfold XK; omega)
        have f0 : ∀ b, τ.1 0 b = σ2.1 0 b := fun b => fx_f z1 (by omega)
        refine ⟨fx_tr (fx_mono a1 (fun a z => by unfold XK at z; unfold XH; omega)) (fx_mono z1 (fun a z => by unfold XH; omega)), cD_XK hg xk (f0 7) (f0 8) a2, ?_, Or.inl ⟨a4, w, z2', z3, z4⟩⟩
        unfold tho
        rw [f0 99, a5]
        omega
      · rintro z τ ⟨z1, w, z2, -⟩
        cases z2
    · cases a5
theorem s_refuse {α : Type} {R : Nat} {σ : SS} {d : Dk} {x : Int} {P : (α ⊕ String) → SS → Prop} {k : Unit → SS → Option ((α ⊕ String) × SS)} (hg : gD R d) (hn : nth σ) (hc : cD σ d) (h1 : 0 ≤ x ∧ x < d.2.2.1 → Wp (k () σ) P) (h2 : ¬ (0 ≤ x ∧ x < d.2.2.1) → ∀ τ, cD τ d → fx XK σ τ → tho σ τ → P (.inr "java/lang/IllegalArgumentException") τ) : Wp (sx (f_H_refuseUntold x σ) k) P := by
  have ht := hc.1.2.2.1
  unfold f_H_refuseUntold
  by_cases c0 : x < 0
  · rw [if_pos c0]
    refine wp_sx (R := fun y τ => y = .inr "java/lang/IllegalArgumentException" ∧ P (.inr "java/lang/IllegalArgumentException") τ) (w_thr hg hn hc (fun τ a b e => ⟨rfl, h2 (by omega) τ a b e⟩)) (fun E τ h => ?_) (fun b τ h => ?_)
    · cases Sum.inr.inj h.1; exact h.2
    · cases h.1
  · rw [if_neg c0, ht]
    by_cases c1 : x < d.2.2.1
    · rw [if_pos c1]
      exact h1 ⟨by omega, c1⟩
    · rw [if_neg c1]
      refine wp_sx (R := fun y τ => y = .inr "java/lang/IllegalArgumentException" ∧ P (.inr "java/lang/IllegalArgumentException") τ) (w_thr hg hn hc (fun τ a b e => ⟨rfl, h2 (by omega) τ a b e⟩)) (fun E τ h => ?_) (fun b τ h => ?_)
      · cases Sum.inr.inj h.1; exact h.2
      · cases h.1
theorem tho_eq {σ τ : SS} (h : τ.1 0 99 = σ.1 0 99) : tho σ τ := by unfold tho; omega
theorem XK_XH {σ τ : SS} (h : fx XK σ τ) : fx XH σ τ := fx_mono h (fun a z => by unfold XK at z; unfold XH; omega)
theorem s_size {fu R : Nat} {σ : SS} {d : Dk} {x : Int} (hR : 300 < R) (hfu : 3000 ≤ fu) (hg : gD R d) (hn : nth σ) (hc : cD σ d) :
    Wp (f_H_size fu x σ) (fun z τ => fx XH σ τ ∧ cD τ d ∧ tho σ τ ∧ ((0 ≤ x ∧ x < d.2.2.1 ∧ z = .inl (szo d.2.2.2.1.2.1 R x)) ∨ (¬ (0 ≤ x ∧ x < d.2.2.1) ∧ z = .inr (exn 1)))) := by
  unfold f_H_size
  refine s_refuse hg hn hc (fun hx => ?_) (fun hx τ a b e => ⟨XK_XH b, a, e, Or.inr ⟨hx, rfl⟩⟩)
  have h8 := hg.2.1.1.2.2.2.2.2.2.2.1
  refine wp_sq (s_measure hR (by omega) hg.2.1.1 hg.2.1.2.1 (fun h F hF => by have := hg.2.1.2.2 h F hF; omega) hc.1) ?_
  rintro z σ7 ⟨rfl, a1, a2, a3⟩
  have xk : fx XK σ σ7 := fx_mono a1 (fun a z => Or.inr (Or.inl z))
  exact wp_some ⟨XK_XH xk, cD_XK hg xk (a2 0 7) (a2 0 8) hc, tho_eq (a2 0 99), Or.inl ⟨hx.1, hx.2, by rw [a3 x hx.1 (by omega)]⟩⟩
theorem s_item {R : Nat} {σ : SS} {d : Dk} {x : Int} (hg : gD R d) (hn : nth σ) (hc : cD σ d) :
    Wp (f_H_item x σ) (fun z τ => fx XH σ τ ∧ cD τ d ∧ tho σ τ ∧ ((0 ≤ x ∧ x < d.2.2.2.2.2.1.length ∧ z = .inl (d.2.2.2.2.2.1.getD x.toNat 0)) ∨ (¬ (0 ≤ x ∧ x < d.2.2.2.2.2.1.length) ∧ z = .inr "java/lang/IndexOutOfBoundsException"))) := by
  obtain ⟨r1, r2, r3, r4, r5⟩ := hc.2.2.2.2.1
  unfold f_H_item
  by_cases c0 : x < 0
  · rw [if_pos c0]
    exact w_thr hg hn hc (fun τ a b e => ⟨XK_XH b, a, e, Or.inr ⟨by omega, rfl⟩⟩)
  · rw [if_neg c0, r2]
    by_cases c1 : x < (d.2.2.2.2.2.1.length : Int)
    · rw [if_pos c1]
      refine wp_some ⟨fx_rf, hc, tho_eq rfl, Or.inl ⟨by omega, c1, ?_⟩⟩
      have hk : x.toNat < d.2.2.2.2.2.1.length := by omega
      have := r5 x.toNat _ (List.getElem?_eq_getElem hk)
      rw [show ((x.toNat : Nat) : Int) = x by omega] at this
      rw [this, List.getD_eq_getElem?_getD, List.getElem?_eq_getElem hk]
      rfl
    · rw [if_neg c1]
      exact w_thr hg hn hc (fun τ a b e => ⟨XK_XH b, a, e, Or.inr ⟨by omega, rfl⟩⟩)
/-- the answers of count -/
def aCnt (d : Dk) (x : Int) : Int := if x = 0 then d.2.1 else if x = 1 then d.2.2.1 else if x = 2 then d.2.2.2.1.2.2.2 else if x = 3 then (d.2.2.2.1.2.2.1.length : Int) else if x = 4 then (d.2.2.2.2.2.1.length : Int) else if x = 5 then d.2.2.2.2.2.2.1 else if x = 6 then d.2.2.2.2.2.2.2.1 else if x = 7 then d.2.2.2.2.2.2.2.2 else -1
theorem s_count {σ : SS} {d : Dk} {x : Int} (hc : cD σ d) : f_H_count x σ = some (aCnt d x, σ) := by
  obtain ⟨k1, k2, k3, k4, k5, k6, k7⟩ := hc
  unfold f_H_count aCnt
  rw [k3, k1.2.2.1, k1.2.2.2.1, k1.2.2.2.2.1, k5.2.1, k5.2.2.1, k6, k7]
  by_cases c0 : x = 0
  · rw [if_pos c0, if_pos c0]
  rw [if_neg c0, if_neg c0]
  by_cases c1 : x = 1
  · rw [if_pos c1, if_pos c1]
  rw [if_neg c1, if_neg c1]
  by_cases c2 : x = 2
  · rw [if_pos c2, if_pos c2]
  rw [if_neg c2, if_neg c2]
  by_cases c3 : x = 3
  · rw [if_pos c3, if_pos c3]
  rw [if_neg c3, if_neg c3]
  by_cases c4 : x = 4
  · rw [if_pos c4, if_pos c4]
  rw [if_neg c4, if_neg c4]
  by_cases c5 : x = 5
  · rw [if_pos c5, if_pos c5]
  rw [if_neg c5, if_neg c5]
  by_cases c6 : x = 6
  · rw [if_pos c6, if_pos c6]
  rw [if_neg c6, if_neg c6]
  by_cases c7 : x = 7
  · rw [if_pos c7, if_pos c7]
  rw [if_neg c7, if_neg c7]
/-- all fillings are taken away -/
def sE (told : Int) (s : St) : St := (fun h => if 0 ≤ h ∧ h < told then s.1 h else -1, fun _ => none, [], 0)
theorem pot_E {pa : Int → Int} {told : Int} (h0 : 0 ≤ told) (hp : ∀ h, 0 ≤ pa h → 0 ≤ h ∧ h < told) (h4 : pa4 pa) : pot pa (fun _ => none) ≤ 5 * told := by
  have key : ∀ n : Nat, ((List.range n).map (fun h : Nat => po pa (fun _ => none) h)).sum ≤ 5 * (if (n : Int) ≤ told then (n : Int) else told) := by
    intro n
    induction n with
    | zero => show (0 : Int) ≤ _; split <;> omega
    | succ n ih =>
      rw [List.range_succ, List.map_append, List.sum_append]
      show _ + (po pa (fun _ => none) (n : Nat) + 0) ≤ _
      have h1 : po pa (fun _ => none) (n : Nat) ≤ 5 := by
        have := h4 (n : Int)
        unfold po
        split <;> omega
      have h2 : ¬ ((n : Int) < told) → po pa (fun _ => none) (n : Nat) = 0 := by
        intro c
        unfold po
        rw [if_neg]
        intro z
        have := hp _ z.1
        omega
      by_cases c : (n : Int) < told
      · rw [if_pos (by omega)] at ih
        rw [if_pos (by omega)]
        omega
      · rw [h2 c]
        split at ih <;> split <;> omega
  have := key 324
  unfold pot
  split at this <;> omega
theorem sE_ok {O : Op} {told : Int} {R : Nat} {s : St} (hg : gOk O told R s) : gOk O told R (sE told s) ∧ sx2 (sE told s) s := by
  obtain ⟨h1, h2, h3, h4, h5, h6, h7, h8, h9, h10⟩ := hg.1
  have hpaE : ∀ g, 0 ≤ (sE told s).1 g ↔ 0 ≤ g ∧ g < told := by
    intro g
    show 0 ≤ (if 0 ≤ g ∧ g < told then s.1 g else -1) ↔ _
    by_cases c : 0 ≤ g ∧ g < told
    · rw [if_pos c]; exact ⟨fun _ => c, fun _ => (h7 g).mpr (Or.inl c)⟩
    · rw [if_neg c]; exact ⟨fun z => by omega, fun z => absurd z c⟩
  have h4E : pa4 (sE told s).1 := by
    intro g
    show (if 0 ≤ g ∧ g < told then s.1 g else -1) ≤ 4
    have := h4 g
    split <;> omega
  refine ⟨⟨⟨fun _ _ z => (by cases z), fun _ _ z => (by cases z), ⟨fun _ => 0, fun _ _ z => (by cases z), fun _ => Nat.zero_le _⟩, h4E, ⟨List.nodup_nil, fun pre h post F z => (by cases pre <;> cases z)⟩, fun h => ⟨fun ⟨F, z⟩ => (by cases z), fun z => (by cases z)⟩, fun h => ?_, ⟨h8.1, h8.2.1, Int.le_refl _⟩, fun h z => (by cases z), fun _ _ z => (by cases z)⟩, ⟨?_, ?_⟩, fun _ _ z => (by cases z)⟩, fun _ _ z => (by cases z), fun g hg => ?_, ⟨s.2.2.1, rfl⟩, h8.2.2⟩
  · rw [hpaE h]
    show _ ↔ (0 ≤ h ∧ h < told ∨ 24 ≤ h ∧ h < 24 + 0)
    omega
  · have := pot_E (pa := (sE told s).1) h8.1 (fun h z => (hpaE h).mp z) h4E
    show pot (sE told s).1 (fun _ => none) + 0 ≤ _
    omega
  · have := pot_E (pa := (sE told s).1) h8.1 (fun h z => (hpaE h).mp z) h4E
    show 2 * pot (sE told s).1 (fun _ => none) + ((0 : Nat) : Int) ≤ _
    omega
  · have c := (hpaE g).mp hg
    show s.1 g = if 0 ≤ g ∧ g < told then s.1 g else -1
    rw [if_pos c]
