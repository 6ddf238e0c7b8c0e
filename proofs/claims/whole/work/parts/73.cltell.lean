/-! THE CLASS: EMPTY, HOLE, OPERATION, BEGIN -/
theorem okG_told {pa pb : Int → Int} {told n : Int} {e : AG} (h : ∀ g, 0 ≤ g → g < told → pb g = pa g) (ht : e.2.1 % 4 = 2 → e.2.1 / 4 < told) (he : okG pa n e) : okG pb n e := by
  obtain ⟨k1, k2, k3, k4, k5, k6, k7, k8⟩ := he
  exact ⟨k1, k2, k3, k4, k5, fun c => by rw [h _ (by omega) (ht c)]; exact k6 c, k7, k8⟩
theorem gSl_told {O : Op} {pa pb : Int → Int} {told : Int} {l : Sl} (h : ∀ g, 0 ≤ g → g < told → pb g = pa g) (k : gSl O pa told l) : gSl O pb told l := by
  obtain ⟨k1, k2, k3, k4, k5, k6, k7, k8⟩ := k
  refine ⟨k1, k2, k3, k4, k5, k6, fun c e he => okG_told h (k6 e he).2.2 (k7 c e he), fun c => ?_⟩
  obtain ⟨r0, e, j1, j2, j3, j4, j5, j6, j7⟩ := k8 c
  have hm : ∀ x ∈ r0 ++ [e], x.2.1 % 4 = 2 → x.2.1 / 4 < told := fun x hx => (k6 x (by rw [j1]; exact hx)).2.2
  exact ⟨r0, e, j1, fun x hx => okG_told h (hm x (List.mem_append_left _ hx)) (j2 x hx), j3, j4, by rw [h _ (by omega) (hm e (List.mem_append_right _ (List.mem_singleton.mpr rfl)) j3)]; exact j5, j6, j7⟩
/-- how many told holes are filled -/
def had (Φ : Fl) (n : Nat) : Int := ((kix n (fun h => (Φ (h : Int)).isSome)).length : Int)
theorem had_succ (Φ : Fl) (n : Nat) : had Φ (n + 1) = had Φ n + (if (Φ (n : Int)).isSome = true then 1 else 0) := by
  unfold had
  rw [kix_succ, List.length_append]
  split
  · show ((_ + 1 : Nat) : Int) = _; omega
  · show ((_ + 0 : Nat) : Int) = _; omega
theorem had_b (Φ : Fl) (n : Nat) : 0 ≤ had Φ n ∧ had Φ n ≤ n := by
  have := kix_len n (fun h => (Φ (h : Int)).isSome)
  unfold had
  omega
theorem sq_e {α β : Type} (a : β) (σ : SS) (k : β → SS → Option (α × SS)) : sq (some (a, σ)) k = k a σ := rfl
theorem s_emptl {O : Op} {fu : Nat} {told : Int} {s : St} {σ : SS} (hs : sOk O told s) (hc : cSt σ told s) : ∀ (m i n : Nat), ((m + i : Nat) : Int) = told → m < n → l_H_empty_4 fu n (had s.2.1 i) i σ = some (had s.2.1 told.toNat, σ) := by
  have h8 := hs.2.2.2.2.2.2.2.1
  intro m
  induction m with
  | zero =>
    intro i n h1 h2
    cases n with
    | zero => omega
    | succ n =>
      rw [l_H_empty_4, hc.2.2.1, if_neg (by omega), show told.toNat = i by omega]
  | succ m ih =>
    intro i n h1 h2
    cases n with
    | zero => omega
    | succ n =>
      have hb := had_b s.2.1 i
      have hp : 0 ≤ s.1 (i : Int) := (hs.2.2.2.2.2.2.1 _).mpr (Or.inl ⟨by omega, by omega⟩)
      obtain ⟨i1, i2, i3, i4, i5⟩ := hc.1 _ hp
      have hnext : ck (rng ((i : Int) + 1)) (l_H_empty_4 fu n (had s.2.1 (i + 1)) ((i : Int) + 1) σ) = some (had s.2.1 told.toNat, σ) := by
        rw [ck_t (by omega), show (i : Int) + 1 = ((i + 1 : Nat) : Int) by omega]
        exact ih (i + 1) n (by omega) (by omega)
      rw [l_H_empty_4, hc.2.2.1, if_pos (by omega)]
      unfold f_G_isOpen
      cases hF : s.2.1 (i : Int) with
      | none =>
        rw [if_pos (i4 hF), sq_e, if_neg (by decide), sq_e]
        rw [had_succ, hF, show (if (none : Option Row).isSome = true then (1 : Int) else 0) = 0 from rfl, Int.add_zero] at hnext
        exact hnext
      | some F =>
        have j1 := (i5 F hF).1
        rw [if_neg (by omega), sq_e, if_pos rfl, ck_t (by omega), sq_e]
        rw [had_succ, hF, show (if (some F).isSome = true then (1 : Int) else 0) = 1 from rfl] at hnext
        exact hnext
def dkE (d : Dk) : Dk := (d.1, d.2.1, d.2.2.1, sE d.2.2.1 d.2.2.2.1, d.2.2.2.2)
theorem gD_E {R : Nat} {d : Dk} (hg : gD R d) : gD R (dkE d) := ⟨hg.1, (sE_ok hg.2.1).1, fun i hi => gSl_told (fun g h0 h1 => by show (if 0 ≤ g ∧ g < d.2.2.1 then d.2.2.2.1.1 g else -1) = _; rw [if_pos ⟨h0, h1⟩]) (hg.2.2.1 i hi), hg.2.2.2⟩
theorem s_empty {fu R : Nat} {σ : SS} {d : Dk} (hfu : 3000 ≤ fu) (hg : gD R d) (hc : cD σ d) :
    Wp (f_H_empty fu σ) (fun z τ => fx XH σ τ ∧ cD τ (dkE d) ∧ τ.1 0 99 = σ.1 0 99 ∧ z = had d.2.2.2.1.2.1 d.2.2.1.toNat) := by
  have h8 := hg.2.1.1.2.2.2.2.2.2.2.1
  unfold f_H_empty
  have hl := s_emptl (fu := fu) hg.2.1.1 hc.1 d.2.2.1.toNat 0 fu (by omega) (by omega)
  refine wp_e (show l_H_empty_4 fu fu 0 0 σ = some (had d.2.2.2.1.2.1 d.2.2.1.toNat, σ) from hl) ?_
  obtain ⟨e1, e2⟩ := sE_ok hg.2.1
  have hu := s_undo (fu := fu) (s := sE d.2.2.1 d.2.2.2.1) (by omega) e1.1 hg.2.1.1 hg.2.1.2.1 e2 hc.1
  refine wp_sq (show Wp (f_G_undoTo fu 0 0 σ) _ from hu) ?_
  rintro - τ ⟨v1, v2, v3⟩
  refine wp_some ⟨fx_mono v2 (fun a z => by unfold XH; omega), ?_, fx_f v2 (by omega), rfl⟩
  obtain ⟨k1, k2, k3, k4, k5, k6, k7⟩ := hc
  exact ⟨v1, cOp_fx v2 (by omega) (by omega) k2, by rw [fx_f v2 (by omega)]; exact k3, fun i hi => cSl_fx v2 (by omega) (by omega) (fun j _ => v3 j) hi (il_30 hg.2.1.1.2.2.2.1 (hg.2.2.1 i hi)).1 (k4 i hi), cRd_fx v2 (by omega) (by omega) k5, by rw [fx_f v2 (by omega)]; exact k6, by rw [fx_f v2 (by omega)]; exact k7⟩
/-! a hole is told -/
def sT (told n : Int) (s : St) : St := (up1 s.1 told n, s.2)
theorem sT_ok {O : Op} {told n : Int} {R : Nat} {s : St} (ht : told < 24) (hn : 0 ≤ n ∧ n ≤ 4) (hg : gOk O told R s) : gOk O (told + 1) R (sT told n s) := by
  obtain ⟨⟨h1, h2, h3, h4, h5, h6, h7, h8, h9, h10⟩, ⟨m1, m2⟩, hz⟩ := hg
  have hno : ¬ 0 ≤ s.1 told := fun z => by have := (h7 told).mp z; omega
  have hpa : ∀ g, 0 ≤ s.1 g → up1 s.1 told n g = s.1 g := fun g hgp => up1_ne (fun z => by rw [z] at hgp; exact hno hgp)
  have hΦ : s.2.1 told = none := by
    cases hq : s.2.1 told with
    | none => rfl
    | some F => exact absurd (h9 told ((h6 told).mp ⟨F, hq⟩)) hno
  have hpot := pot_new (pa := s.1) (Φ := s.2.1) (h := told) (n := n) (by omega) (by omega) (by omega) hΦ hn.1
  refine ⟨⟨fun h F hF => ?_, h2, h3, fun g => ?_, h5, h6, fun g => ?_, ⟨by omega, by omega, h8.2.2⟩, fun g hgm => ?_, h10⟩, ⟨?_, ?_⟩, hz⟩
  · have hp := h9 h ((h6 h).mp ⟨F, hF⟩)
    show okR (up1 s.1 told n) (up1 s.1 told n h) F
    rw [hpa h hp]
    exact okR_pa hpa (h1 h F hF)
  · show up1 s.1 told n g ≤ 4
    have := h4 g
    unfold up1
    split <;> omega
  · show 0 ≤ up1 s.1 told n g ↔ (0 ≤ g ∧ g < told + 1 ∨ 24 ≤ g ∧ g < 24 + s.2.2.2)
    by_cases c : g = told
    · rw [c, up1_same]; omega
    · rw [up1_ne c, h7 g]; omega
  · show 0 ≤ up1 s.1 told n g
    rw [hpa g (h9 g hgm)]
    exact h9 g hgm
  · show pot (up1 s.1 told n) s.2.1 + s.2.2.2 ≤ _
    omega
  · show 2 * pot (up1 s.1 told n) s.2.1 + s.2.2.1.length ≤ _
    omega
theorem gSl_more {O : Op} {pa : Int → Int} {told t2 : Int} {l : Sl} (h : told ≤ t2) (k : gSl O pa told l) : gSl O pa t2 l := by
  obtain ⟨k1, k2, k3, k4, k5, k6, k7, k8⟩ := k
  exact ⟨k1, k2, k3, k4, k5, fun e he => ⟨(k6 e he).1, (k6 e he).2.1, fun c => by have := (k6 e he).2.2 c; omega⟩, k7, k8⟩
def dkT (d : Dk) (n : Int) : Dk := if d.2.2.1 < 24 then (d.1, d.2.1, d.2.2.1 + 1, sT d.2.2.1 n d.2.2.2.1, d.2.2.2.2) else d
theorem gD_T {R : Nat} {d : Dk} {n : Int} (hn : 0 ≤ n ∧ n ≤ 4) (hg : gD R d) : gD R (dkT d n) := by
  unfold dkT
  split
  · rename_i c
    exact ⟨hg.1, sT_ok c hn hg.2.1, fun i hi => gSl_more (by show d.2.2.1 ≤ d.2.2.1 + 1; omega) (gSl_told (fun g h0 h1 => by show up1 d.2.2.2.1.1 d.2.2.1 n g = _; exact up1_ne (by omega)) (hg.2.2.1 i hi)), hg.2.2.2⟩
  · exact hg
/-- what lies beyond: the class's rows for operations that are not told are empty -/
def cUn (σ : SS) (no : Int) : Prop := ∀ f, no ≤ f → f < 16 → gA σ 5 16 f = 0
theorem s_hole {R : Nat} {σ : SS} {d : Dk} {x : Int} (hg : gD R d) (hn : nth σ) (hc : cD σ d) :
    Wp (f_H_hole x σ) (fun z τ => fx XH σ τ ∧ (∀ i, gA τ 5 16 i = gA σ 5 16 i) ∧ tho σ τ ∧ ((0 ≤ x ∧ x ≤ 4 ∧ z = .inl (if d.2.2.1 < 24 then d.2.2.1 else -1) ∧ cD τ (dkT d x)) ∨ (¬ (0 ≤ x ∧ x ≤ 4) ∧ z = .inr (exn 1) ∧ cD τ d))) := by
  unfold f_H_hole
  by_cases c0 : x < 0
  · rw [if_pos c0]
    exact w_thr hg hn hc (fun τ a b e => ⟨XK_XH b, fun i => fx_g b (by unfold XK; omega), e, Or.inr ⟨by omega, rfl, a⟩⟩)
  · rw [if_neg c0]
    by_cases c1 : 4 < x
    · rw [if_pos c1]
      exact w_thr hg hn hc (fun τ a b e => ⟨XK_XH b, fun i => fx_g b (by unfold XK; omega), e, Or.inr ⟨by omega, rfl, a⟩⟩)
    · rw [if_neg c1]
      have ht := hc.1.2.2.1
      have h8 := hg.2.1.1.2.2.2.2.2.2.2.1
      unfold f_G_tell dkT
      rw [ht]
      by_cases ct : d.2.2.1 < 24
      · rw [if_pos ct, if_pos ct, if_pos ct]
        refine wp_sq (R := fun z τ => z = d.2.2.1 ∧ τ = sF (gS σ 8 324 d.2.2.1 x) 7 6 (d.2.2.1 + 1)) (wp_lb (fun σ3 e3 => ?_)) ?_
        · have f3 : σ3.1 7 6 = d.2.2.1 := by rw [e3, gS_f']; exact ht
          rw [f3]
          refine wp_ck (by omega) (wp_lb (fun σ8 e8 => ?_))
          have f8 : σ8.1 7 6 = d.2.2.1 + 1 := by rw [e8]; exact sF_same _ _ _ _
          rw [f8]
          exact wp_ck (by omega) (wp_some ⟨by omega, by rw [e8, e3]⟩)
        · rintro z τ ⟨rfl, hτ⟩
          have xt' : fx (fun a => a = 7 ∨ a = 8) σ τ := by rw [hτ]; exact fx_F (fx_S fx_rf (Or.inr rfl)) (Or.inl rfl)
          have nx : ∀ a, a ≠ 7 → a ≠ 8 → ¬ (a = 7 ∨ a = 8) := fun a h1 h2 z => z.elim h1 h2
          have f7 : ∀ b, b ≠ 6 → τ.1 7 b = σ.1 7 b := fun b hb => by rw [hτ, sF_f (fun z => hb z.2), gS_f']
          obtain ⟨⟨k1, k2, k3, k4, k5, k6, k7, k8⟩, k9, k10, k11, k12, k13, k14⟩ := hc
          have hno : ¬ 0 ≤ d.2.2.2.1.1 d.2.2.1 := fun z => by have := (hg.2.1.1.2.2.2.2.2.2.1 _).mp z; omega
          have g8 : ∀ g, g ≠ d.2.2.1 → gA τ 8 324 g = gA σ 8 324 g := fun g hgn => by rw [hτ, gA_F, gA_S_ne (fun z => hgn z.2)]
          have g8' : gA τ 8 324 d.2.2.1 = x := by rw [hτ, gA_F]; exact gA_S_same (by omega) (by omega)
          refine wp_some ⟨fx_mono xt' (fun a z => by unfold XH; omega), fun i => fx_g xt' (nx 5 (by omega) (by omega)), tho_eq (fx_f xt' (nx 0 (by omega) (by omega))), Or.inl ⟨by omega, by omega, rfl, ⟨fun h hh => ?_, ?_, ?_, ?_, ?_, fun k v hk => ?_, lay_fx xt' (nx 1 (by omega) (by omega)) (nx 9 (by omega) (by omega)) (nx 10 (by omega) (by omega)) k7, fun h hh => ?_⟩, cOp_fx xt' (nx 5 (by omega) (by omega)) (nx 6 (by omega) (by omega)) k9, ?_, fun i hi => cSl_fx xt' (nx _ (by omega) (by omega)) (nx _ (by omega) (by omega)) (fun j _ => ⟨fx_cA xt' (nx 1 (by omega) (by omega)) (nx 2 (by omega) (by omega)) j, fx_cB xt' (nx 1 (by omega) (by omega)) (nx 3 (by omega) (by omega)) j⟩) hi (il_30 hg.2.1.1.2.2.2.1 (hg.2.2.1 i hi)).1 (k11 i hi), cRd_fx xt' (nx 51 (by omega) (by omega)) (nx 52 (by omega) (by omega)) k12, ?_, ?_⟩⟩
          · rw [fx_g xt' (nx 9 (by omega) (by omega)), fx_g xt' (nx 10 (by omega) (by omega)), fx_f xt' (nx 1 (by omega) (by omega))]
            by_cases c : h = d.2.2.1
            · have hΦ : d.2.2.2.1.2.1 d.2.2.1 = none := by
                cases hq : d.2.2.2.1.2.1 d.2.2.1 with
                | none => rfl
                | some F => exact absurd (hg.2.1.1.2.2.2.2.2.2.2.2.1 _ ((hg.2.1.1.2.2.2.2.2.1 _).mp ⟨F, hq⟩)) hno
              rw [c]
              refine ⟨by omega, by omega, by rw [g8']; exact (up1_same _ _ _).symm, fun _ => k8 _ hΦ, fun F hF => ?_⟩
              have hF' : d.2.2.2.1.2.1 d.2.2.1 = some F := hF
              rw [hΦ] at hF'
              cases hF'
            · have hh' : 0 ≤ d.2.2.2.1.1 h := by have h9 : 0 ≤ up1 d.2.2.2.1.1 d.2.2.1 x h := hh; rw [up1_ne c] at h9; exact h9
              obtain ⟨a, b, e, f, g⟩ := k1 h hh'
              refine ⟨a, b, by rw [g8 h c, e]; exact (up1_ne c).symm, f, fun F hF => ⟨(g F hF).1, cseg_fx xt' (nx 1 (by omega) (by omega)) (nx 2 (by omega) (by omega)) (nx 3 (by omega) (by omega)) (g F hF).2.1, (g F hF).2.2⟩⟩
          · unfold cCel; rw [fx_f xt' (nx 1 (by omega) (by omega)), fx_f xt' (nx 1 (by omega) (by omega))]; exact k2
          · rw [hτ]; exact sF_same _ _ _ _
          · rw [f7 7 (by omega)]; exact k4
          · rw [f7 8 (by omega)]; exact k5
          · rw [fx_g xt' (nx 12 (by omega) (by omega))]; exact k6 k v hk
          · rw [fx_g xt' (nx 9 (by omega) (by omega))]; exact k8 h hh
          · rw [fx_f xt' (nx 4 (by omega) (by omega))]; exact k10
          · rw [fx_f xt' (nx 0 (by omega) (by omega))]; exact k13
          · rw [fx_f xt' (nx 0 (by omega) (by omega))]; exact k14
      · rw [if_neg ct, if_neg ct, if_neg ct]
        exact wp_e rfl (wp_some ⟨fx_rf, fun _ => rfl, tho_eq rfl, Or.inl ⟨by omega, by omega, rfl, hc⟩⟩)
/-! a slot is begun -/
def upS (f : Nat → Sl) (i : Nat) (l : Sl) : Nat → Sl := fun j => if j = i then l else f j
theorem upS_same (f : Nat → Sl) (i : Nat) (l : Sl) : upS f i l i = l := if_pos rfl
theorem upS_ne {f : Nat → Sl} {i j : Nat} {l : Sl} (h : j ≠ i) : upS f i l j = f j := if_neg h
def dkS (d : Dk) (i : Nat) (l : Sl) : Dk := (d.1, d.2.1, d.2.2.1, d.2.2.2.1, upS d.2.2.2.2.1 i l, d.2.2.2.2.2)
theorem gD_S {R : Nat} {d : Dk} {i : Nat} {l : Sl} (hg : gD R d) (hl : gSl d.1 d.2.2.2.1.1 d.2.2.1 l) : gD R (dkS d i l) := by
  refine ⟨hg.1, hg.2.1, fun j hj => ?_, hg.2.2.2⟩
  show gSl d.1 d.2.2.2.1.1 d.2.2.1 (upS d.2.2.2.2.1 i l j)
  by_cases c : j = i
  · rw [c, upS_same]; exact hl
  · rw [upS_ne c]; exact hg.2.2.1 j hj
/-- a slot of the class changes, and cells of its own alone -/
theorem cD_S {R : Nat} {σ τ : SS} {d : Dk} {i : Nat} {l : Sl} (hg : gD R d) (hi : i < 8) (hx : fx (fun a => a = 2 ∨ a = 3 ∨ a = 14 + 2 * i ∨ a = 15 + 2 * i) σ τ) (hcell : ∀ k : Int, (k < 150 * i ∨ 150 * i + 150 ≤ k) → cA τ k = cA σ k ∧ cB τ k = cB σ k) (hl : cSl τ i l) (hc : cD σ d) : cD τ (dkS d i l) := by
  obtain ⟨⟨k1, k2, k3, k4, k5, k6, k7, k8⟩, k9, k10, k11, k12, k13, k14⟩ := hc
  have hi16 : i < 8 := hi
  have nx : ∀ a, a ≠ 2 → a ≠ 3 → a ≠ 14 + 2 * i → a ≠ 15 + 2 * i → ¬ (a = 2 ∨ a = 3 ∨ a = 14 + 2 * i ∨ a = 15 + 2 * i) := fun a h1 h2 h3 h4 z => by omega
  have n : ∀ a, a ≠ 2 → a ≠ 3 → (a < 14 ∨ 29 < a) → ¬ (a = 2 ∨ a = 3 ∨ a = 14 + 2 * i ∨ a = 15 + 2 * i) := fun a h1 h2 h3 z => by omega
  have segHi : ∀ {r : Row} {a b : Int}, 1200 ≤ a → cseg σ a r b → cseg τ a r b := by
    intro r
    induction r with
    | nil => intro a b _ h; exact h
    | cons e r ih =>
      intro a b ha h
      obtain ⟨p1, p2, p3, p4⟩ := h
      exact ⟨by rw [(hcell a (by omega)).1]; exact p1, by rw [(hcell a (by omega)).2]; exact p2, fun k v hk => by rw [(hcell _ (by omega)).1]; exact p3 k v hk, ih (by omega) p4⟩
  have segLo : ∀ {r : Row} {a b : Int}, (b ≤ 150 * i ∨ 150 * (i : Int) + 150 ≤ a) → cseg σ a r b → cseg τ a r b := by
    intro r
    induction r with
    | nil => intro a b _ h; exact h
    | cons e r ih =>
      intro a b ha h
      have hle := cseg_le h
      rw [il_cons] at hle
      obtain ⟨p1, p2, p3, p4⟩ := h
      refine ⟨by rw [(hcell a (by omega)).1]; exact p1, by rw [(hcell a (by omega)).2]; exact p2, fun k v hk => ?_, ih (by omega) p4⟩
      have := (List.getElem?_eq_some_iff.mp hk).1
      rw [(hcell _ (by omega)).1]; exact p3 k v hk
  have from1200 : ∀ h F, d.2.2.2.1.2.1 h = some F → 1200 ≤ gA σ 9 324 h := by
    intro h F hF
    have hm := (hg.2.1.1.2.2.2.2.2.1 h).mp ⟨F, hF⟩
    have key : ∀ {l : List Int} {b : Int}, lay σ l b → ∀ h ∈ l, b ≤ gA σ 9 324 h := by
      intro l
      induction l with
      | nil => intro b _ h hh; cases hh
      | cons a l ih =>
        intro b hl h hh
        obtain ⟨q1, q2, q3⟩ := hl
        rcases List.mem_cons.mp hh with z | z
        · rw [z]; omega
        · have := ih q3 h z; omega
    exact key k7 h hm
  refine ⟨⟨fun h hh => ?_, ?_, ?_, ?_, ?_, fun k v hk => ?_, lay_fx hx (n 1 (by omega) (by omega) (by omega)) (n 9 (by omega) (by omega) (by omega)) (n 10 (by omega) (by omega) (by omega)) k7, fun h hh => ?_⟩, cOp_fx hx (n 5 (by omega) (by omega) (by omega)) (n 6 (by omega) (by omega) (by omega)) k9, ?_, fun j hj => ?_, cRd_fx hx (n 51 (by omega) (by omega) (by omega)) (n 52 (by omega) (by omega) (by omega)) k12, ?_, ?_⟩
  · obtain ⟨a, b, e, f, g⟩ := k1 h hh
    rw [fx_g hx (n 8 (by omega) (by omega) (by omega)), fx_g hx (n 9 (by omega) (by omega) (by omega)), fx_g hx (n 10 (by omega) (by omega) (by omega)), fx_f hx (n 1 (by omega) (by omega) (by omega))]
    exact ⟨a, b, e, f, fun F hF => ⟨(g F hF).1, segHi (from1200 h F hF) (g F hF).2.1, (g F hF).2.2⟩⟩
  · unfold cCel; rw [fx_f hx (n 1 (by omega) (by omega) (by omega)), fx_f hx (n 1 (by omega) (by omega) (by omega))]; exact k2
  · rw [fx_f hx (n 7 (by omega) (by omega) (by omega))]; exact k3
  · rw [fx_f hx (n 7 (by omega) (by omega) (by omega))]; exact k4
  · rw [fx_f hx (n 7 (by omega) (by omega) (by omega))]; exact k5
  · rw [fx_g hx (n 12 (by omega) (by omega) (by omega))]; exact k6 k v hk
  · rw [fx_g hx (n 9 (by omega) (by omega) (by omega))]; exact k8 h hh
  · rw [fx_f hx (n 4 (by omega) (by omega) (by omega))]; exact k10
  · show cSl τ j (upS d.2.2.2.2.1 i l j)
    by_cases c : j = i
    · rw [c, upS_same]; exact hl
    · rw [upS_ne c]
      obtain ⟨q1, q2, q3, q4, q5, q6, q7, q8, q9⟩ := k11 j hj
      have f : ∀ b, τ.1 (14 + 2 * j) b = σ.1 (14 + 2 * j) b := fun b => fx_f hx (nx _ (by omega) (by omega) (by omega) (by omega))
      have hil := (il_30 hg.2.1.1.2.2.2.1 (hg.2.2.1 j hj)).1
      refine ⟨by rw [f]; exact q1, by rw [f]; exact q2, by rw [f]; exact q3, by rw [f]; exact q4, by rw [f]; exact q5, by rw [f]; exact q6, fun h => by rw [f, f]; exact q7 h, stk_eq (fun k _ => fx_g hx (nx _ (by omega) (by omega) (by omega) (by omega))) q8, segLo (by omega) q9⟩
  · rw [fx_f hx (n 0 (by omega) (by omega) (by omega))]; exact k13
  · rw [fx_f hx (n 0 (by omega) (by omega) (by omega))]; exact k14
def slB (depth : Int) : Sl := (true, depth, [], 0, [0])
theorem gSl_B {O : Op} {pa : Int → Int} {told x : Int} (hx : 0 ≤ x ∧ x ≤ 6) : gSl O pa told (slB x) := ⟨fun z => (by cases z), hx, fun _ => rfl, Nat.zero_le _, fun z hz => by cases List.mem_singleton.mp hz; exact ⟨by omega, by show x + 0 ≤ 12; omega⟩, fun e he => absurd he List.not_mem_nil, fun _ e he => absurd he List.not_mem_nil, fun z => absurd z (Nat.lt_irrefl 0)⟩
theorem s_begin {R : Nat} {σ : SS} {d : Dk} {x y : Int} (hg : gD R d) (hn : nth σ) (hc : cD σ d) :
    Wp (f_H_begin x y σ) (fun z τ => fx XH σ τ ∧ (∀ i, gA τ 5 16 i = gA σ 5 16 i) ∧ tho σ τ ∧ ((0 ≤ x ∧ x < 8 ∧ 0 ≤ y ∧ y ≤ 6 ∧ z = .inl 1 ∧ cD τ (dkS d x.toNat (slB y))) ∨ (¬ (0 ≤ x ∧ x < 8 ∧ 0 ≤ y ∧ y ≤ 6) ∧ z = .inr (exn 1) ∧ cD τ d))) := by
  unfold f_H_begin
  refine s_slotAt hg hn hc (fun i hi hxi => ?_) (fun hx τ a b e => ⟨XK_XH b, fun i => fx_g b (by unfold XK; omega), e, Or.inr ⟨by omega, rfl, a⟩⟩)
  by_cases c0 : y < 0
  · rw [if_pos c0]
    exact w_thr hg hn hc (fun τ a b e => ⟨XK_XH b, fun i => fx_g b (by unfold XK; omega), e, Or.inr ⟨by omega, rfl, a⟩⟩)
  rw [if_neg c0]
  by_cases c1 : 6 < y
  · rw [if_pos c1]
    exact w_thr hg hn hc (fun τ a b e => ⟨XK_XH b, fun i => fx_g b (by unfold XK; omega), e, Or.inr ⟨by omega, rfl, a⟩⟩)
  rw [if_neg c1]
  have ex : x.toNat = i := by omega
  have q1 := (hc.2.2.2.1 i hi).1
  unfold f_S_restart
  refine wp_sq (R := fun _ τ => τ = sF (gS (sF (sF (sF (sF σ (14 + 2 * i) 4 y) (14 + 2 * i) 5 0) (14 + 2 * i) 6 0) (14 + 2 * i) 7 0) (14 + 2 * i + 1) 91 0 0) (14 + 2 * i) 3 1) (wp_lx (wp_lx (wp_lx (wp_lx (wp_lx (wp_lx (wp_some rfl))))))) ?_
  intro u τ hτ
  have f3 : τ.1 (14 + 2 * i) 3 = 1 := by rw [hτ]; exact sF_same _ _ _ _
  have f4 : τ.1 (14 + 2 * i) 4 = y := by rw [hτ, sF_f (by omega), gS_f', sF_f (by omega), sF_f (by omega), sF_f (by omega)]; exact sF_same _ _ _ _
  have f5 : τ.1 (14 + 2 * i) 5 = 0 := by rw [hτ, sF_f (by omega), gS_f', sF_f (by omega), sF_f (by omega)]; exact sF_same _ _ _ _
  have f6 : τ.1 (14 + 2 * i) 6 = 0 := by rw [hτ, sF_f (by omega), gS_f', sF_f (by omega)]; exact sF_same _ _ _ _
  have f7 : τ.1 (14 + 2 * i) 7 = 0 := by rw [hτ, sF_f (by omega), gS_f']; exact sF_same _ _ _ _
  have f1 : τ.1 (14 + 2 * i) 1 = 150 * i := by rw [hτ, sF_f (by omega), gS_f', sF_f (by omega), sF_f (by omega), sF_f (by omega), sF_f (by omega)]; exact q1
  have x1 : fx (fun a => a = 2 ∨ a = 3 ∨ a = 14 + 2 * i ∨ a = 15 + 2 * i) σ τ := by rw [hτ]; exact fx_F (fx_S (fx_F (fx_F (fx_F (fx_F fx_rf (by omega)) (by omega)) (by omega)) (by omega)) (by omega)) (by omega)
  have x2 : fx (fun a => a = 14 + 2 * i ∨ a = 15 + 2 * i) σ τ := by rw [hτ]; exact fx_F (fx_S (fx_F (fx_F (fx_F (fx_F fx_rf (by omega)) (by omega)) (by omega)) (by omega)) (by omega)) (by omega)
  unfold f_S_itemsDue
  rw [f3, f7]
  refine wp_sq (R := fun z υ => z = 1 ∧ υ = τ) (wp_ck (by decide) (wp_some ⟨rfl, rfl⟩)) ?_
  rintro z υ ⟨rfl, rfl⟩
  refine wp_some ⟨fx_mono x1 (fun a z => by unfold XH; omega), fun j => fx_g x2 (by omega), tho_eq (fx_f x2 (by omega)), Or.inl ⟨by omega, by omega, by omega, by omega, rfl, ?_⟩⟩
  rw [ex]
  refine cD_S hg hi x1 (fun k _ => ⟨fx_cA x2 (by omega) (by omega) k, fx_cB x2 (by omega) (by omega) k⟩) ⟨f1, f3, f4, f5, f6, f7, fun z => absurd z (Nat.lt_irrefl 0), ⟨?_, True.intro⟩, ?_⟩ hc
  · rw [hτ, gA_F]
    exact gA_S_same (by show (0 : Int) ≤ ((0 : Nat) : Int); omega) (by show ((0 : Nat) : Int) < 91; omega)
  · show 150 * (i : Int) = 150 * i + ((0 : Nat) : Int)
    omega
