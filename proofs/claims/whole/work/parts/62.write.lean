/-! THE REFERENCE: WRITE, FIND, SIZES -/
theorem sq_some {α : Type} (m : Option (α × SS)) : sq m (fun a σ => some (a, σ)) = m := by
  cases m with
  | none => rfl
  | some x => rfl
theorem il_ge (r : Row) : r.length ≤ il r := by
  induction r with
  | nil => exact Nat.le_refl _
  | cons e r ih => rw [il_cons, List.length_cons]; omega
theorem s_again {O : Op} {fu q : Nat} {told N : Int} {s : St} {r : Row} {σ : SS} (hq : q = 71 ∨ q = 72) (hfu : 20000 ≤ fu) (hb2 : bd2 O) (hs : sOk O told s) (hlen : il r ≤ 16384) (hr : rseg σ q 0 r (il r)) (ho : rOp σ O) (hH : rHol σ s.1 s.2.1) (hp : rpa σ r) (hok : okR s.1 N r) (hcap : il (tE s.2.1 r) ≤ 16384) :
    Wp (f_D_again fu q (il r) σ) (fun a τ => fx XG σ τ ∧ ((nof s.2.1 r ∧ a = -1) ∨ (¬ nof s.2.1 r ∧ a = (il (tE s.2.1 r) : Int) ∧ rseg τ 73 0 (tE s.2.1 r) (il (tE s.2.1 r))))) := by
  have hg := il_ge r
  unfold f_D_again
  refine wp_sq (s_ag8 (O := O) (told := told) (N := N) (s := s) hq (by omega) hb2 hs (by omega) r fu [] 0 0 σ hr (Int.le_refl _) (by omega) ho hH hp hok rfl (by rw [List.nil_append]; omega)) ?_
  rintro z σ2 ⟨z1, z2, z3, z4⟩
  rw [List.nil_append] at z2 z3
  rcases z4 with ⟨c1, c2⟩ | ⟨c1, c2⟩
  · exact wp_t c2 (wp_some ⟨z1, Or.inl ⟨c1, rfl⟩⟩)
  · exact wp_f (by rw [c2]; decide) (wp_some ⟨z1, Or.inr ⟨c1, z2, z3⟩⟩)
theorem s_wr18 {fu q : Nat} {len : Int} (hq : q = 71 ∨ q = 72) (hl : len ≤ 16384) : ∀ (m j n : Nat) (σ : SS), (m : Int) + j = len → m < n → (∀ k : Int, 0 ≤ k → k < j → σ.2.1 q k = σ.2.1 73 k) →
    Wp (l_D_write_18 fu q n len j σ) (fun _ τ => fx (jst q) σ τ ∧ ∀ k : Int, 0 ≤ k → k < len → τ.2.1 q k = σ.2.1 73 k) := by
  intro m
  induction m with
  | zero =>
    intro j n σ h1 h2 h3
    cases n with
    | zero => omega
    | succ n =>
      rw [l_D_write_18]
      exact wp_f (by omega) (wp_some ⟨fx_rf, fun k h4 h5 => h3 k h4 (by omega)⟩)
  | succ m ih =>
    intro j n σ h1 h2 h3
    cases n with
    | zero => omega
    | succ n =>
      rw [l_D_write_18]
      refine wp_t (by omega) (wp_ck ⟨by omega, by omega⟩ (wp_ck ⟨by omega, by omega⟩ (wp_lb (fun σ5 e5 => wp_ck (by omega) ?_))))
      have hx : fx (jst q) σ σ5 := by rw [e5]; exact fx_A fx_rf rfl
      have n73 : ¬ jst q 73 := fun z => by have : 73 = q := z; omega
      rw [show (j : Int) + 1 = ((j + 1 : Nat) : Int) by omega]
      have h9 := ih (j + 1) n σ5 (by omega) (by omega) (fun k h4 h5 => by
        rw [fx_a hx n73]
        by_cases c : k = j
        · rw [e5, c]; exact sA_same _ _ _ _
        · rw [e5, sA_other (by omega)]
          exact h3 k h4 (by omega))
      exact wp_mono h9 (fun _ τ k => ⟨fx_tr hx k.1, fun m h4 h5 => by rw [k.2 m h4 h5, fx_a hx n73]⟩)
def XQ (q : Nat) : Nat → Prop := fun a => a = q ∨ (73 ≤ a ∧ a ≤ 75)
theorem XQ_lo {q a : Nat} (h : a ≠ q) (h2 : a < 73 ∨ 75 < a) : ¬ XQ q a := fun z => by unfold XQ at z; omega
/-- room for a row and for all that stand before it -/
def capr (O : Op) (r : Row) : Prop := 5 * r.length ≤ 16384 + 4 * nA O r
theorem capr_il {O : Op} {pa : Int → Int} {Φ : Fl} {n : Int} {k : Nat} {r : Row} (hw : wfF O Φ) (hp4 : pa4 pa) (hr : okR pa n r) (h : capr O (tN Φ k r)) : il r ≤ 16384 := by
  have h1 := il_le (O := O) hp4 hr
  have h2 := cnt_N (O := O) hw k r
  unfold capr at h
  omega
theorem s_write10 {O : Op} {fu q : Nat} {told N : Int} {s : St} {rk : Int → Nat} (hq : q = 71 ∨ q = 72) (hfu : 20000 ≤ fu) (hb2 : bd2 O) (hs : sOk O told s) (hrk : rkd s.2.1 rk) (hN : 0 ≤ N) (hN2 : N ≤ 1000) :
    ∀ (k n : Nat) (r : Row) (S : List Int) (σ : SS), lw s.2.1 rk k r → k < n → rseg σ q 0 r (il r) → tR O r S = some [] → (∀ e ∈ tN s.2.1 k r, e.1 ≤ 10000) → rOp σ O → rHol σ s.1 s.2.1 → okR s.1 N r → capr O (tN s.2.1 k r) →
    Wp (sq (f_D_again fu q (il r) σ) fun a σ2 => l_D_write_10 fu q n (il r) a σ2) (fun z τ => fx (XQ q) σ τ ∧ z = (il (tN s.2.1 k r) : Int) ∧ rseg τ q 0 (tN s.2.1 k r) (il (tN s.2.1 k r))) := by
  intro k
  induction k with
  | zero =>
    intro n r S σ hl hn hr ht hB ho hH hok hcap
    have hno := lw_nof hl
    have hil := capr_il (k := 0) hs.2.1 hs.2.2.2.1 hok hcap
    have hp : rpa σ r := rpa_of hN2 ho hH hs.2.2.2.1 hok (tR_opks ht) hB
    refine wp_sq (s_again (O := O) (told := told) hq hfu hb2 hs hil hr ho hH hp hok (by rw [tE_nof hno]; exact hil)) ?_
    rintro a σ2 ⟨z1, z2⟩
    rcases z2 with ⟨-, rfl⟩ | ⟨c, -⟩
    · cases n with
      | zero => omega
      | succ n =>
        rw [l_D_write_10]
        exact wp_t (by decide) (wp_some ⟨fx_mono z1 (fun a z => Or.inr z), rfl, rseg_fx z1 (fun z => by unfold XG at z; omega) hr⟩)
    · exact absurd hno c
  | succ k ih =>
    intro n r S σ hl hn hr ht hB ho hH hok hcap
    have hil := capr_il (k := k + 1) hs.2.1 hs.2.2.2.1 hok hcap
    have hokE := okR_E hN hs.1 hok
    have hilE : il (tE s.2.1 r) ≤ 16384 := capr_il (k := k) hs.2.1 hs.2.2.2.1 hokE hcap
    have hp : rpa σ r := rpa_of hN2 ho hH hs.2.2.2.1 hok (tR_opks ht) (fun e he => by obtain ⟨x, hx, h1⟩ := bnd_N hs.2.1 (k + 1) he; rw [← h1]; exact hB x hx)
    refine wp_sq (s_again (O := O) (told := told) hq hfu hb2 hs hil hr ho hH hp hok hilE) ?_
    rintro a σ2 ⟨z1, z2⟩
    cases n with
    | zero => omega
    | succ n =>
      rw [l_D_write_10]
      rcases z2 with ⟨hno, rfl⟩ | ⟨c, rfl, z3⟩
      · rw [tN_nof (k + 1) hno]
        exact wp_t (by decide) (wp_some ⟨fx_mono z1 (fun a z => Or.inr z), rfl, rseg_fx z1 (fun z => by unfold XG at z; omega) hr⟩)
      · refine wp_f (by omega) (wp_sq (s_wr18 (fu := fu) hq (by omega) (il (tE s.2.1 r)) 0 fu σ2 (by omega) (by omega) (fun k h1 h2 => by omega)) ?_)
        rintro - σ3 ⟨y1, y2⟩
        have nq : ∀ a, a ≠ q → ¬ jst q a := fun a h z => h z
        have nG : ∀ a, (a < 73 ∨ 75 < a) → ¬ XG a := fun a ha z => by unfold XG at z; omega
        have x3 : fx (XQ q) σ σ3 := fx_tr (fx_mono z1 (fun a z => Or.inr z)) (fx_mono y1 (fun a z => Or.inl z))
        have hr3 : rseg σ3 q 0 (tE s.2.1 r) (il (tE s.2.1 r)) := rseg_eq (σ := σ2) (q := 73) (fun k h1 h2 => by rw [Int.zero_add]; exact y2 k h1 (by omega)) rfl z3
        have h9 := ih n (tE s.2.1 r) S σ3 (lw_E hrk hl) (by omega) hr3 (tR_E hs.2.1 ht) hB (rOp_fx x3 (XQ_lo (by omega) (by omega)) (XQ_lo (by omega) (by omega)) ho) (rHol_fx x3 (fun a h1 h2 => XQ_lo (by omega) (by omega)) hH) hokE hcap
        exact wp_mono h9 (fun z τ k => ⟨fx_tr x3 k.1, k.2⟩)
theorem s_write {O : Op} {fu q R : Nat} {told N : Int} {s : St} {r : Row} {S : List Int} {σ : SS} (hq : q = 71 ∨ q = 72) (hfu : 20000 ≤ fu) (hR : 300 < R) (hRf : R < fu) (hb2 : bd2 O) (hs : sOk O told s) (hm : mOk told s) (hN : 0 ≤ N) (hN2 : N ≤ 1000) (hr : rseg σ q 0 r (il r)) (ht : tR O r S = some []) (hB : ∀ e ∈ tN s.2.1 R r, e.1 ≤ 10000) (ho : rOp σ O) (hH : rHol σ s.1 s.2.1) (hok : okR s.1 N r) (hcap : capr O (tN s.2.1 R r)) :
    Wp (f_D_write fu q (il r) σ) (fun z τ => fx (XQ q) σ τ ∧ z = (il (tN s.2.1 R r) : Int) ∧ rseg τ q 0 (tN s.2.1 R r) (il (tN s.2.1 R r))) := by
  obtain ⟨rk, h1, h2⟩ := sOk_rk hR hs hm
  unfold f_D_write
  simp only [sq_some]
  exact s_write10 hq hfu hb2 hs h1 hN hN2 R fu r S σ (fun e _ _ => h2 _) hRf hr ht hB ho hH hok hcap
/-- where a variable stands in a row's part -/
theorem s_findl {fu q : Nat} {vs : List Int} {v fr : Int} (hfr : 0 ≤ fr) (hl : fr + vs.length ≤ 16384) : ∀ (m j n : Nat) (σ : SS), m + j = vs.length → m < n → (∀ (k : Nat) (w : Int), vs[k]? = some w → σ.2.1 q (fr + k) = 4 * w) → (∀ k : Nat, k < j → vs[k]? ≠ some v) →
    l_D_find_3 fu q n fr vs.length (4 * v) j σ = some ((if 0 ≤ fnd vs v then .inl (fnd vs v) else .inr ()), σ) := by
  intro m
  induction m with
  | zero =>
    intro j n σ h1 h2 h3 h4
    cases n with
    | zero => omega
    | succ n =>
      have hno : fnd vs v = -1 := fnd_no (fun k => by
        by_cases c : k < j
        · exact h4 k c
        · rw [List.getElem?_eq_none (by omega)]; exact fun z => by cases z)
      rw [l_D_find_3, if_neg (by omega), hno, if_neg (by decide)]
  | succ m ih =>
    intro j n σ h1 h2 h3 h4
    cases n with
    | zero => omega
    | succ n =>
      have hj : j < vs.length := by omega
      have hvj : vs[j]? = some vs[j] := List.getElem?_eq_getElem hj
      rw [l_D_find_3, if_pos (by omega), ck_t (by omega), ck_t ⟨by omega, by omega⟩, h3 j _ hvj]
      by_cases c : vs[j] = v
      · have hat : fnd vs v = j := fnd_at h4 (by rw [hvj, c])
        rw [if_pos (by omega), hat, if_pos (by omega)]
      · rw [if_neg (by omega), ck_t (by omega), show (j : Int) + 1 = ((j + 1 : Nat) : Int) by omega]
        refine ih (j + 1) n σ (by omega) (by omega) h3 (fun k hk => ?_)
        by_cases c2 : k = j
        · rw [c2, hvj]; exact fun z => c (Option.some.inj z)
        · exact h4 k (by omega)
theorem s_find {fu q : Nat} {vs : List Int} {v fr : Int} {σ : SS} (hfu : 20 ≤ fu) (hl4 : vs.length ≤ 4) (hfr : 0 ≤ fr) (hl : fr + vs.length ≤ 16384) (h3 : ∀ (k : Nat) (w : Int), vs[k]? = some w → σ.2.1 q (fr + k) = 4 * w) : f_D_find fu q fr vs.length (4 * v) σ = some (fnd vs v, σ) := by
  have hlo := fnd_lo vs v
  unfold f_D_find
  have h := s_findl (fu := fu) (v := v) hfr hl vs.length 0 fu σ (by omega) (by omega) h3 (fun k hk => by omega)
  have h' : l_D_find_3 fu q fu fr vs.length (4 * v) 0 σ = some ((if 0 ≤ fnd vs v then .inl (fnd vs v) else .inr ()), σ) := h
  rw [h']
  by_cases c : 0 ≤ fnd vs v
  · rw [if_pos c]; rfl
  · rw [if_neg c]
    show some ((-1 : Int), σ) = _
    rw [show fnd vs v = -1 by omega]
/-- how many groups -/
theorem s_sizel {fu q : Nat} {len : Int} (hlen : len ≤ 16384) : ∀ (r : Row) (n : Nat) (i acc : Int) (σ : SS), rseg σ q i r len → 0 ≤ i → rpa σ r → r.length < n → 0 ≤ acc → acc + r.length ≤ 100000 →
    l_D_sizeOf_5 fu q n len acc i σ = some (acc + r.length, σ) := by
  intro r
  induction r with
  | nil =>
    intro n i acc σ hr hi hp hn ha hb
    cases n with
    | zero => omega
    | succ n =>
      have : i = len := hr
      rw [l_D_sizeOf_5, if_neg (by omega)]
      show some (acc, σ) = some (acc + ((0 : Nat) : Int), σ)
      rw [show acc + ((0 : Nat) : Int) = acc from Int.add_zero acc]
  | cons e r ih =>
    intro n i acc σ hr hi hp hn ha hb
    cases n with
    | zero => omega
    | succ n =>
      have hle := rseg_le hr
      rw [il_cons] at hle
      obtain ⟨r1, r2, r3⟩ := hr
      obtain ⟨p1, p2, -⟩ := hp e List.mem_cons_self
      rw [List.length_cons] at hn hb
      have key : ck (rng (i + (e.2.2.length : Int) + 1)) (l_D_sizeOf_5 fu q n len (acc + 1) (i + (e.2.2.length : Int) + 1) σ) = some (acc + ((e :: r).length : Nat), σ) := by
        rw [ck_t (by omega), show i + (e.2.2.length : Int) + 1 = i + 1 + e.2.2.length by omega, ih n _ _ σ r3 (by omega) (rpa_tl hp) (by omega) (by omega) (by omega), List.length_cons]
        rw [show acc + 1 + (r.length : Int) = acc + ((r.length + 1 : Nat) : Int) by omega]
      rw [l_D_sizeOf_5, if_pos (by omega), ck_t (by omega), ck_t ⟨by omega, by omega⟩, r1]
      by_cases c : e.2.1 % 4 = 2
      · obtain ⟨q1, q2, q3⟩ := p1 c
        rw [if_pos c, ck_t ⟨by omega, by omega⟩, ck_t ⟨q1, q2⟩, q3, ck_t (by omega), lb_e]
        exact key
      · rw [if_neg c]
        rw [p2 c] at key
        rw [show i + (([] : List Int).length : Int) + 1 = i + 1 by show i + ((0 : Nat) : Int) + 1 = i + 1; omega] at key
        exact key
theorem s_sizeOf {fu q : Nat} {r : Row} {σ : SS} (hfu : 20000 ≤ fu) (hlen : il r ≤ 16384) (hr : rseg σ q 0 r (il r)) (hp : rpa σ r) : f_D_sizeOf fu q (il r) σ = some ((r.length : Int), σ) := by
  have hg := il_ge r
  unfold f_D_sizeOf
  simp only [sq_some]
  rw [s_sizel (by omega) r fu 0 0 σ hr (Int.le_refl _) hp (by omega) (Int.le_refl _) (by omega), Int.zero_add]
/-! the reference holds a state of holes -/
def rSt (σ : SS) (told : Int) (s : St) : Prop := rHol σ s.1 s.2.1 ∧ σ.1 55 2 = told ∧ σ.1 55 3 = s.2.2.2 ∧ ∀ h, 0 ≤ h → h < 324 → σ.2.1 61 h = if (s.2.1 h).isSome = true then 1 else 0
theorem rSt_fx {X : Nat → Prop} {σ τ : SS} {told : Int} {s : St} (h : fx X σ τ) (h0 : ¬ X 55) (h1 : ∀ a, 58 ≤ a → a ≤ 61 → ¬ X a) (k : rSt σ told s) : rSt τ told s := by
  obtain ⟨k1, k2, k3, k4⟩ := k
  exact ⟨rHol_fx h h1 k1, by rw [fx_f h h0]; exact k2, by rw [fx_f h h0]; exact k3, fun g a b => by rw [fx_a h (h1 61 (by omega) (by omega))]; exact k4 g a b⟩
def X5 : Nat → Prop := fun a => a = 55 ∨ (58 ≤ a ∧ a ≤ 61)
/-- of the reference's own fields only the number of new holes is changed -/
def fy (X : Nat → Prop) (σ τ : SS) : Prop := fx X σ τ ∧ ∀ b, b ≠ 3 → τ.1 55 b = σ.1 55 b
theorem fy_tr {X : Nat → Prop} {σ τ υ : SS} (h : fy X σ τ) (k : fy X τ υ) : fy X σ υ := ⟨fx_tr h.1 k.1, fun b hb => by rw [k.2 b hb, h.2 b hb]⟩
theorem fy_mono {X Y : Nat → Prop} {σ τ : SS} (h : fy X σ τ) (k : ∀ a, X a → Y a) : fy Y σ τ := ⟨fx_mono h.1 k, h.2⟩
theorem fy_rf {X : Nat → Prop} {σ : SS} : fy X σ σ := ⟨fx_rf, fun _ _ => rfl⟩
theorem fy_of {X Y : Nat → Prop} {σ τ : SS} (h : fx X σ τ) (h5 : ¬ X 55) (k : ∀ a, X a → Y a) : fy Y σ τ := ⟨fx_mono h k, fun b _ => fx_f h h5⟩
theorem s_make {O : Op} {told n : Int} {s : St} {σ : SS} (hs : sOk O told s) (hm : s.2.2.2 < 290) (hc : rSt σ told s) : Wp (f_D_make n σ) (fun a τ => a = 24 + s.2.2.2 ∧ fy X5 σ τ ∧ rSt τ told (sNew s n)) := by
  obtain ⟨k1, k2, k3, k4⟩ := hc
  have h8 := hs.2.2.2.2.2.2.2.1
  obtain ⟨n1, n2⟩ := sNew_g hs
  unfold f_D_make
  rw [k3]
  refine wp_ck (by omega) (wp_lx (wp_ck (by omega) (wp_lb (fun σ6 e6 => wp_ck ⟨by omega, by omega⟩ (wp_lb (fun σ11 e11 => wp_ck ⟨by omega, by omega⟩ (wp_lb (fun σ16 e16 => wp_some ⟨rfl, ?_, ?_⟩))))))))
  · exact ⟨by rw [e16, e11, e6]; exact fx_A (fx_A (fx_F fx_rf (by unfold X5; omega)) (by unfold X5; omega)) (by unfold X5; omega), fun b hb => by rw [e16, e11, e6]; exact sF_f (fun z => hb z.2)⟩
  · have a58 : ∀ g, g ≠ 24 + s.2.2.2 → σ16.2.1 58 g = σ.2.1 58 g := fun g hg => by rw [e16, sA_other (by omega), e11, sA_other (by omega), e6]; rfl
    have a58' : σ16.2.1 58 (24 + s.2.2.2) = n := by rw [e16, sA_other (by omega), e11]; exact sA_same _ _ _ _
    have a61 : ∀ g, g ≠ 24 + s.2.2.2 → σ16.2.1 61 g = σ.2.1 61 g := fun g hg => by rw [e16, sA_other (by omega), e11, sA_other (by omega), e6]; rfl
    have a61' : σ16.2.1 61 (24 + s.2.2.2) = 0 := by rw [e16]; exact sA_same _ _ _ _
    have ar : ∀ a i, a ≠ 58 → a ≠ 61 → σ16.2.1 a i = σ.2.1 a i := fun a i h1 h2 => by rw [e16, sA_other (by omega), e11, sA_other (by omega), e6]; rfl
    have fl : ∀ a b, ¬ (a = 55 ∧ b = 3) → σ16.1 a b = σ.1 a b := fun a b h => by rw [e16, e11, e6]; exact sF_f h
    refine ⟨fun g hg => ?_, by rw [fl 55 2 (by decide)]; exact k2, ?_, fun g h1 h2 => ?_⟩
    · by_cases c : g = 24 + s.2.2.2
      · rw [c]
        refine ⟨by omega, by omega, by rw [a58']; exact (up1_same _ _ _).symm, fun _ => a61', fun F hF => ?_⟩
        have hF' : s.2.1 (24 + s.2.2.2) = some F := hF
        rw [n2] at hF'
        cases hF'
      · have hg' : 0 ≤ s.1 g := by have h9 : 0 ≤ up1 s.1 (24 + s.2.2.2) n g := hg; rw [up1_ne c] at h9; exact h9
        obtain ⟨a, b, d, e, f⟩ := k1 g hg'
        rw [a58 g c, a61 g c, ar 59 g (by omega) (by omega)]
        refine ⟨a, b, by rw [d]; exact (up1_ne c).symm, e, fun F hF => ⟨(f F hF).1, (f F hF).2.1, rseg_eq (fun k _ _ => ar 60 _ (by omega) (by omega)) rfl (f F hF).2.2⟩⟩
    · rw [e16, e11, e6]
      show (sF σ 55 3 (s.2.2.2 + 1)).1 55 3 = s.2.2.2 + 1
      exact sF_same _ _ _ _
    · by_cases c : g = 24 + s.2.2.2
      · rw [c, a61']
        show (0 : Int) = if (s.2.1 (24 + s.2.2.2)).isSome = true then 1 else 0
        rw [n2]
        rfl
      · rw [a61 g c]; exact k4 g h1 h2
theorem rSt_fil {O : Op} {told h : Int} {s : St} {F : Row} {σ τ : SS} (hs : sOk O told s) (hc : rSt σ told s) (hp : 0 ≤ s.1 h) (f55 : ∀ b, τ.1 55 b = σ.1 55 b) (a58 : ∀ g, τ.2.1 58 g = σ.2.1 58 g) (a61 : ∀ g, g ≠ h → τ.2.1 61 g = σ.2.1 61 g) (a61' : τ.2.1 61 h = 1) (a59 : ∀ g, g ≠ h → τ.2.1 59 g = σ.2.1 59 g) (a59' : τ.2.1 59 h = (il F : Int)) (a60 : ∀ k : Int, (k < 400 * h ∨ 400 * h + 400 ≤ k) → τ.2.1 60 k = σ.2.1 60 k) (hF : rseg τ 60 (400 * h) F (400 * h + il F)) : rSt τ told (sFil s h F) := by
  obtain ⟨k1, k2, k3, k4⟩ := hc
  refine ⟨fun g hg => ?_, by rw [f55]; exact k2, by rw [f55]; exact k3, fun g h1 h2 => ?_⟩
  · have hg' : 0 ≤ s.1 g := hg
    obtain ⟨a, b, d, e, f⟩ := k1 g hg'
    rw [a58]
    refine ⟨a, b, d, fun hn => ?_, fun G hG => ?_⟩
    · have hn' : up1 s.2.1 h (some F) g = none := hn
      have c : g ≠ h := fun z => by rw [z, up1_same] at hn'; cases hn'
      rw [up1_ne c] at hn'
      rw [a61 g c]
      exact e hn'
    · have hG' : up1 s.2.1 h (some F) g = some G := hG
      by_cases c : g = h
      · rw [c, up1_same] at hG'
        cases hG'
        rw [c]
        exact ⟨by rw [a61']; decide, a59', hF⟩
      · rw [up1_ne c] at hG'
        obtain ⟨f1, f2, f3⟩ := f G hG'
        rw [a61 g c, a59 g c]
        have h5 := il_le (O := O) hs.2.2.2.1 (hs.1 g G hG')
        have h6 := hs.2.2.2.2.2.2.2.2.2 g G hG'
        exact ⟨f1, f2, rseg_eq (fun k h1 h2 => a60 _ (by omega)) rfl f3⟩
  · show τ.2.1 61 g = if (up1 s.2.1 h (some F) g).isSome = true then 1 else 0
    by_cases c : g = h
    · rw [c, up1_same, a61']
      rfl
    · rw [up1_ne c, a61 g c]
      exact k4 g h1 h2
theorem s_passl {fu : Nat} {K : List Int} {h : Int} (hh : 0 ≤ h ∧ h < 324) (h4 : K.length ≤ 4) (hK : ∀ v ∈ K, 0 ≤ v ∧ v ≤ 10) : ∀ (m j n : Nat) (σ : SS), m + j = K.length → m < n → (∀ (k : Nat) (v : Int), K[k]? = some v → σ.2.1 81 k = v) → (∀ (k : Nat) (v : Int), k < j → K[k]? = some v → σ.2.1 60 (400 * h + 1 + k) = 4 * v) →
    Wp (l_D_pass_25 fu n h K.length j σ) (fun _ τ => fx (jst 60) σ τ ∧ (∀ k : Int, (k < 400 * h + 1 ∨ 400 * h + 400 ≤ k) → τ.2.1 60 k = σ.2.1 60 k) ∧ ∀ (k : Nat) (v : Int), K[k]? = some v → τ.2.1 60 (400 * h + 1 + k) = 4 * v) := by
  intro m
  induction m with
  | zero =>
    intro j n σ h1 h2 h3 h5
    cases n with
    | zero => omega
    | succ n =>
      rw [l_D_pass_25]
      exact wp_f (by omega) (wp_some ⟨fx_rf, fun _ _ => rfl, fun k v hk => h5 k v (by have := (List.getElem?_eq_some_iff.mp hk).1; omega) hk⟩)
  | succ m ih =>
    intro j n σ h1 h2 h3 h5
    cases n with
    | zero => omega
    | succ n =>
      rw [l_D_pass_25]
      have hj : j < K.length := by omega
      have hKj : K[j]? = some K[j] := List.getElem?_eq_getElem hj
      have hKb := hK K[j] (List.getElem_mem hj)
      refine wp_t (by omega) (wp_ck (by omega) (wp_ck (by omega) (wp_ck (by omega) (wp_ck ⟨by omega, by omega⟩ ?_))))
      rw [h3 j _ hKj]
      refine wp_ck (by omega) (wp_ck ⟨by omega, by omega⟩ (wp_lb (fun σ9 e9 => wp_ck (by omega) ?_)))
      have hx : fx (jst 60) σ σ9 := by rw [e9]; exact fx_A fx_rf rfl
      rw [show (j : Int) + 1 = ((j + 1 : Nat) : Int) by omega]
      have h9 := ih (j + 1) n σ9 (by omega) (by omega) (fun k v hk => by rw [fx_a hx (by unfold jst; omega)]; exact h3 k v hk) (fun k v hk hk2 => by
        rw [e9]
        by_cases c : k = j
        · subst c
          rw [hKj] at hk2
          cases hk2
          exact sA_same _ _ _ _
        · rw [sA_other (by omega)]; exact h5 k v (by omega) hk2)
      refine wp_mono h9 (fun _ τ k => ⟨fx_tr hx k.1, fun m hm => ?_, k.2.2⟩)
      rw [k.2.1 m hm, e9]
      exact sA_other (by omega)
theorem s_pass {O : Op} {fu : Nat} {told h g : Int} {s : St} {K : List Int} {σ : SS} (hfu : 20 ≤ fu) (hs : sOk O told s) (hc : rSt σ told s) (hΦ : s.2.1 h = none) (hp : 0 ≤ s.1 h) (hg : 0 ≤ g ∧ g < 324) (h4 : K.length ≤ 4) (hK : ∀ v ∈ K, 0 ≤ v ∧ v ≤ 10) (hk : ∀ (k : Nat) (v : Int), K[k]? = some v → σ.2.1 81 k = v) :
    Wp (f_D_pass fu h g K.length σ) (fun _ τ => fy X5 σ τ ∧ rSt τ told (sFil s h (hRow g K))) := by
  obtain ⟨i1, i2, i3, i4, -⟩ := hc.1 h hp
  unfold f_D_pass
  refine wp_ck ⟨i1, i2⟩ (wp_lb (fun σ3 e3 => wp_ck (by omega) (wp_ck (by omega) (wp_ck (by omega) (wp_ck ⟨by omega, by omega⟩ (wp_lb (fun σ11 e11 => ?_)))))))
  have x11 : fx (fun a => a = 60 ∨ a = 61) σ σ11 := by rw [e11, e3]; exact fx_A (fx_A fx_rf (Or.inr rfl)) (Or.inl rfl)
  refine wp_sq (s_passl (fu := fu) (h := h) ⟨i1, i2⟩ h4 hK K.length 0 fu σ11 (by omega) (by omega) (fun k v hv => by rw [fx_a x11 (by omega)]; exact hk k v hv) (fun k v hk => by omega)) ?_
  rintro - σ15 ⟨y1, y2, y3⟩
  refine wp_ck (by omega) (wp_ck ⟨i1, i2⟩ (wp_lb (fun σ22 e22 => wp_some ?_)))
  have n60 : ∀ a, a ≠ 60 → ¬ jst 60 a := fun a h z => h z
  have f22 : ∀ b, σ22.1 55 b = σ.1 55 b := fun b => by
    rw [e22]
    show σ15.1 55 b = _
    rw [fx_f y1 (n60 55 (by omega)), fx_f x11 (by omega)]
  have ot : ∀ a i, a ≠ 59 → a ≠ 60 → a ≠ 61 → σ22.2.1 a i = σ.2.1 a i := fun a i h1 h2 h3 => by rw [e22, sA_other (by omega), fx_a y1 (n60 a h2), fx_a x11 (by omega)]
  have ot60 : ∀ i, σ22.2.1 60 i = σ15.2.1 60 i := fun i => by rw [e22]; exact sA_other (by omega)
  refine ⟨?_, rSt_fil hs hc hp f22 (fun g => ot 58 g (by omega) (by omega) (by omega)) (fun g hg => ?_) ?_ (fun g hg => ?_) ?_ (fun k hk => ?_) ?_⟩
  · refine ⟨?_, fun b _ => f22 b⟩
    rw [e22]
    exact fx_A (fx_tr (fx_mono x11 (fun a z => by unfold X5; omega)) (fx_mono y1 (fun a z => by have : a = 60 := z; unfold X5; omega))) (by unfold X5; omega)
  · rw [e22, sA_other (by omega), fx_a y1 (n60 61 (by omega)), e11, sA_other (by omega), e3]
    exact sA_other (by omega)
  · rw [e22, sA_other (by omega), fx_a y1 (n60 61 (by omega)), e11, sA_other (by omega), e3, sA_same]
  · rw [e22, sA_other (by omega), fx_a y1 (n60 59 (by omega)), fx_a x11 (by omega)]
  · rw [e22, sA_same]
    show 1 + (K.length : Int) = ((1 + K.length + 0 : Nat) : Int)
    omega
  · rw [ot60, y2 k (by omega), e11, sA_other (by omega), e3]
    exact sA_other (by omega)
  · refine ⟨?_, fun k v hk => ?_, ?_⟩
    · rw [ot60, y2 _ (by omega), e11]
      exact sA_same _ _ _ _
    · rw [ot60]
      exact y3 k v hk
    · show 400 * h + 1 + (K.length : Int) = 400 * h + ((1 + K.length + 0 : Nat) : Int)
      omega
