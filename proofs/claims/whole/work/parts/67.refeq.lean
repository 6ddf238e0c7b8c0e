/-! THE REFERENCE: PARTS AND EQUATIONS -/
theorem s_pe {O : Op} {fu q : Nat} {σ : SS} (ho : rOp σ O) : ∀ (r : Row) (n : Nat) (i j : Int) (S : List Int), rseg σ q i r j → tR O r S = some [] → 0 ≤ i → j ≤ 16384 → r.length < n → rpa σ r → S.length ≤ 10000 → r.length ≤ 10000 →
    l_D_partEnd_5 fu q n S.length i σ = some (j, σ) := by
  intro r
  induction r with
  | nil =>
    intro n i j S hr ht hi hj hn hp _ _
    cases n with
    | zero => omega
    | succ n =>
      have h0 : i = j := hr
      have hS : S = [] := Option.some.inj ht
      rw [l_D_partEnd_5, hS, if_neg (by decide), h0]
  | cons e r ih =>
    intro n i j S hr ht hi hj hn hp hS hl
    cases n with
    | zero => omega
    | succ n =>
      have hle := rseg_le hr
      rw [il_cons] at hle
      obtain ⟨r1, r2, r3⟩ := hr
      obtain ⟨S', rfl, ht2⟩ := tR_inv ht
      have hsl := tR_slen ht2
      rw [List.length_cons] at hn hS hl
      obtain ⟨p1, p2, p3, p4, p5, p6⟩ := hp e List.mem_cons_self
      have hap : (tP O e ++ S').length = (tP O e).length + S'.length := List.length_append
      have hih := ih n (i + 1 + e.2.2.length) j (tP O e ++ S') r3 ht2 (by omega) hj (by omega) (rpa_tl hp) (by omega) (by omega)
      rw [l_D_partEnd_5, List.length_cons, if_pos (by omega), ck_t ⟨by omega, by omega⟩, r1, lb_e, ck_t ⟨by omega, by omega⟩]
      have hd : (((S'.length + 1 : Nat) : Int) + ((tP O e).length : Int)) - 1 = ((tP O e ++ S').length : Int) := by rw [hap]; omega
      have cont : ∀ z : Int, z = ((tP O e).length : Int) - 1 → ck (rng (((S'.length + 1 : Nat) : Int) + z)) (lb (((S'.length + 1 : Nat) : Int) + z) fun y15 => ck (inb 16384 i) (sq (if ((σ.2.1 q i) % 4) = 2 then (ck (inb 324 (e.2.1 / 4)) (ck (rng (1 + (σ.2.1 58 (e.2.1 / 4)))) (some ((1 + (σ.2.1 58 (e.2.1 / 4))), σ)))) else (some (1, σ))) fun (z21 : Int) σ22 => ck (rng (i + z21)) (lb (i + z21) fun y27 => l_D_partEnd_5 fu q n y15 y27 σ22))) = some (j, σ) := by
        intro z hz
        have ez : ((S'.length + 1 : Nat) : Int) + z = ((tP O e ++ S').length : Int) := by omega
        rw [ez, ck_t (by omega), lb_e, ck_t ⟨by omega, by omega⟩, r1]
        by_cases c : e.2.1 % 4 = 2
        · obtain ⟨q1, q2, q3⟩ := p1 c
          rw [if_pos c, q3, ck_t ⟨q1, q2⟩, ck_t (by omega)]
          show ck (rng (i + (1 + (e.2.2.length : Int)))) (lb (i + (1 + (e.2.2.length : Int))) fun y27 => l_D_partEnd_5 fu q n ((tP O e ++ S').length : Int) y27 σ) = _
          rw [ck_t (by omega), lb_e, show i + (1 + (e.2.2.length : Int)) = i + 1 + e.2.2.length by omega]
          exact hih
        · rw [if_neg c]
          show ck (rng (i + 1)) (lb (i + 1) fun y27 => l_D_partEnd_5 fu q n ((tP O e ++ S').length : Int) y27 σ) = _
          rw [ck_t (by omega), lb_e]
          rw [p2 c, show i + 1 + (([] : List Int).length : Int) = i + 1 from Int.add_zero _] at hih
          exact hih
      by_cases c1 : e.2.1 % 4 = 1
      · have h9 : 0 ≤ O.1 (e.2.1 / 4) := (tR_opk ht).elim (fun z => absurd c1 z) id
        obtain ⟨o1, o2, o3, o4, -⟩ := ho _ h9
        have hln := tP_ln (O := O) c1
        rw [if_pos c1, ck_t ⟨o3, o4⟩, o1, ck_t (by omega)]
        exact cont (O.1 (e.2.1 / 4) - 1) (by omega)
      · rw [if_neg c1]
        exact cont (-1) (by rw [tP_hole c1]; rfl)
theorem s_partEnd {O : Op} {fu q : Nat} {σ : SS} {r : Row} {i j b : Int} (hfu : 20000 ≤ fu) (ho : rOp σ O) (hr : rseg σ q i r j) (ht : tR O r [b] = some []) (hi : 0 ≤ i) (hj : j ≤ 16384) (hp : rpa σ r) (hl : r.length ≤ 10000) : f_D_partEnd fu q i σ = some (j, σ) := by
  unfold f_D_partEnd
  simp only [sq_some]
  exact s_pe ho r fu i j [b] hr ht hi hj (by omega) hp (by show 1 ≤ 10000; omega) hl
/-! equations, the next first -/
abbrev Eqs : Type := List (Row × Row)
def eqs (σ : SS) : Eqs → Int → Prop
  | [], p => p = 0
  | z :: E, p => ∃ p0 m, eqs σ E p0 ∧ σ.2.1 78 E.length = p0 ∧ σ.2.1 79 E.length = m ∧ σ.2.1 80 E.length = p ∧ rseg σ 77 p0 z.1 m ∧ rseg σ 77 m z.2 p
def ct1 : Eqs → Row
  | [] => []
  | z :: E => z.1 ++ ct1 E
def ct2 : Eqs → Row
  | [] => []
  | z :: E => z.2 ++ ct2 E
theorem ct1_app : ∀ (E F : Eqs), ct1 (E ++ F) = ct1 E ++ ct1 F := by
  intro E F
  induction E with
  | nil => rfl
  | cons z E ih => show z.1 ++ ct1 (E ++ F) = z.1 ++ ct1 E ++ ct1 F; rw [ih, List.append_assoc]
theorem ct2_app : ∀ (E F : Eqs), ct2 (E ++ F) = ct2 E ++ ct2 F := by
  intro E F
  induction E with
  | nil => rfl
  | cons z E ih => show z.2 ++ ct2 (E ++ F) = z.2 ++ ct2 E ++ ct2 F; rw [ih, List.append_assoc]
theorem eqs_len {σ : SS} : ∀ {E : Eqs} {p : Int}, eqs σ E p → p = il (ct1 E) + il (ct2 E) := by
  intro E
  induction E with
  | nil => intro p h; have : p = 0 := h; rw [this]; rfl
  | cons z E ih =>
    intro p h
    obtain ⟨p0, m, h1, -, -, -, h5, h6⟩ := h
    have h7 := ih h1
    have h8 := rseg_le h5
    have h9 := rseg_le h6
    show p = ((il (z.1 ++ ct1 E) : Nat) : Int) + ((il (z.2 ++ ct2 E) : Nat) : Int)
    rw [il_append, il_append]
    omega
theorem eqs_eq {σ τ : SS} : ∀ {E : Eqs} {p : Int}, (∀ k : Int, 0 ≤ k → k < p → τ.2.1 77 k = σ.2.1 77 k) → (∀ k : Int, k < E.length → τ.2.1 78 k = σ.2.1 78 k ∧ τ.2.1 79 k = σ.2.1 79 k ∧ τ.2.1 80 k = σ.2.1 80 k) → eqs σ E p → eqs τ E p := by
  intro E
  induction E with
  | nil => intro p _ _ h; exact h
  | cons z E ih =>
    intro p h1 h2 h
    obtain ⟨p0, m, k1, k2, k3, k4, k5, k6⟩ := h
    have l0 := eqs_len k1
    have l1 := rseg_le k5
    have l2 := rseg_le k6
    rw [List.length_cons] at h2
    have h3 := h2 E.length (by omega)
    refine ⟨p0, m, ih (fun k a b => h1 k a (by omega)) (fun k hk => h2 k (by omega)) k1, by rw [h3.1]; exact k2, by rw [h3.2.1]; exact k3, by rw [h3.2.2]; exact k4, rseg_eq (fun k a b => h1 _ (by omega) (by omega)) rfl k5, rseg_eq (fun k a b => h1 _ (by omega) (by omega)) rfl k6⟩
theorem eqs_fx {X : Nat → Prop} {σ τ : SS} (h : fx X σ τ) (hX : ∀ a, 77 ≤ a → a ≤ 80 → ¬ X a) {E : Eqs} {p : Int} (k : eqs σ E p) : eqs τ E p := eqs_eq (fun k _ _ => fx_a h (hX 77 (by omega) (by omega))) (fun k _ => ⟨fx_a h (hX 78 (by omega) (by omega)), fx_a h (hX 79 (by omega) (by omega)), fx_a h (hX 80 (by omega) (by omega))⟩) k
theorem s_eq38 {fu : Nat} {fa ea fb eb p : Int} (hfa : 0 ≤ fa) (hea : ea ≤ 16384) (hp : 0 ≤ p) (hp2 : p + (ea - fa) ≤ 131072) : ∀ (m n : Nat) (i : Int) (σ : SS), i + m = ea → fa ≤ i → m < n → (∀ k : Int, fa ≤ k → k < i → σ.2.1 77 (p + k - fa) = σ.2.1 71 k) →
    Wp (l_D_equation_38 fu n fa ea fb eb p i σ) (fun _ τ => fx (jst 77) σ τ ∧ (∀ k : Int, k < p → τ.2.1 77 k = σ.2.1 77 k) ∧ ∀ k : Int, fa ≤ k → k < ea → τ.2.1 77 (p + k - fa) = σ.2.1 71 k) := by
  intro m
  induction m with
  | zero =>
    intro n i σ h1 h2 h3 h4
    cases n with
    | zero => omega
    | succ n =>
      rw [l_D_equation_38]
      exact wp_f (by omega) (wp_some ⟨fx_rf, fun _ _ => rfl, fun k a b => h4 k a (by omega)⟩)
  | succ m ih =>
    intro n i σ h1 h2 h3 h4
    cases n with
    | zero => omega
    | succ n =>
      rw [l_D_equation_38]
      refine wp_t (by omega) (wp_ck (by omega) (wp_ck (by omega) (wp_ck ⟨by omega, by omega⟩ (wp_ck ⟨by omega, by omega⟩ (wp_lb (fun σ7 e7 => wp_ck (by omega) ?_))))))
      have hx : fx (jst 77) σ σ7 := by rw [e7]; exact fx_A fx_rf rfl
      have n77 : ∀ a, a ≠ 77 → ¬ jst 77 a := fun a h z => h z
      have h9 := ih n (i + 1) σ7 (by omega) (by omega) (by omega) (fun k a b => by
        rw [fx_a hx (n77 71 (by omega)), e7]
        by_cases c : k = i
        · rw [c]; exact sA_same _ _ _ _
        · rw [sA_other (by omega)]; exact h4 k a (by omega))
      refine wp_mono h9 (fun _ τ k => ⟨fx_tr hx k.1, fun m hm => ?_, fun m a b => by rw [k.2.2 m a b, fx_a hx (n77 71 (by omega))]⟩)
      rw [k.2.1 m hm, e7]
      exact sA_other (by omega)
theorem s_eq89 {fu : Nat} {fb eb p : Int} (hfb : 0 ≤ fb) (heb : eb ≤ 16384) (hp : 0 ≤ p) (hp2 : p + (eb - fb) ≤ 131072) : ∀ (m n : Nat) (i : Int) (σ : SS), i + m = eb → fb ≤ i → m < n → (∀ k : Int, fb ≤ k → k < i → σ.2.1 77 (p + k - fb) = σ.2.1 72 k) →
    Wp (l_D_equation_89 fu n fb eb p i σ) (fun _ τ => fx (jst 77) σ τ ∧ (∀ k : Int, k < p → τ.2.1 77 k = σ.2.1 77 k) ∧ ∀ k : Int, fb ≤ k → k < eb → τ.2.1 77 (p + k - fb) = σ.2.1 72 k) := by
  intro m
  induction m with
  | zero =>
    intro n i σ h1 h2 h3 h4
    cases n with
    | zero => omega
    | succ n =>
      rw [l_D_equation_89]
      exact wp_f (by omega) (wp_some ⟨fx_rf, fun _ _ => rfl, fun k a b => h4 k a (by omega)⟩)
  | succ m ih =>
    intro n i σ h1 h2 h3 h4
    cases n with
    | zero => omega
    | succ n =>
      rw [l_D_equation_89]
      refine wp_t (by omega) (wp_ck (by omega) (wp_ck (by omega) (wp_ck ⟨by omega, by omega⟩ (wp_ck ⟨by omega, by omega⟩ (wp_lb (fun σ7 e7 => wp_ck (by omega) ?_))))))
      have hx : fx (jst 77) σ σ7 := by rw [e7]; exact fx_A fx_rf rfl
      have n77 : ∀ a, a ≠ 77 → ¬ jst 77 a := fun a h z => h z
      have h9 := ih n (i + 1) σ7 (by omega) (by omega) (by omega) (fun k a b => by
        rw [fx_a hx (n77 72 (by omega)), e7]
        by_cases c : k = i
        · rw [c]; exact sA_same _ _ _ _
        · rw [sA_other (by omega)]; exact h4 k a (by omega))
      refine wp_mono h9 (fun _ τ k => ⟨fx_tr hx k.1, fun m hm => ?_, fun m a b => by rw [k.2.2 m a b, fx_a hx (n77 72 (by omega))]⟩)
      rw [k.2.1 m hm, e7]
      exact sA_other (by omega)
def XE : Nat → Prop := fun a => a = 55 ∨ (77 ≤ a ∧ a ≤ 80)
/-- what an equation's laying changes of the reference's fields: their number alone -/
def f31 (σ τ : SS) : Prop := ∀ b, b ≠ 31 → τ.1 55 b = σ.1 55 b
theorem s_eqn {fu : Nat} {A B : Row} {E : Eqs} {p fa ea fb eb : Int} {σ : SS} (hfu : 20000 ≤ fu) (hE : eqs σ E p) (h31 : σ.1 55 31 = E.length) (hl : E.length < 4000) (hA : rseg σ 71 fa A ea) (hB : rseg σ 72 fb B eb) (hfa : 0 ≤ fa) (hea : ea ≤ 16384) (hfb : 0 ≤ fb) (heb : eb ≤ 16384) (hcap : p ≤ 60000) :
    Wp (f_D_equation fu fa ea fb eb σ) (fun _ τ => fx XE σ τ ∧ f31 σ τ ∧ τ.1 55 31 = E.length + 1 ∧ eqs τ ((A, B) :: E) (p + il A + il B)) := by
  have lA := rseg_le hA
  have lB := rseg_le hB
  have lp := eqs_len hE
  unfold f_D_equation
  rw [h31]
  refine wp_sq (R := fun z τ => z = p ∧ τ = σ) ?_ ?_
  · cases E with
    | nil =>
      have : p = 0 := hE
      exact wp_t rfl (wp_some ⟨this.symm, rfl⟩)
    | cons z E =>
      obtain ⟨p0, m, -, -, -, k4, -, -⟩ := hE
      rw [List.length_cons] at hl ⊢
      refine wp_f (by omega) (wp_ck (by omega) (wp_ck ⟨by omega, by omega⟩ (wp_some ⟨?_, rfl⟩)))
      rw [show ((E.length + 1 : Nat) : Int) - 1 = (E.length : Int) by omega]
      exact k4
  · rintro z τ ⟨rfl, rfl⟩
    rw [h31]
    refine wp_ck ⟨by omega, by omega⟩ (wp_lb (fun σ11 e11 => ?_))
    have x11 : fx (jst 78) τ σ11 := by rw [e11]; exact fx_A fx_rf rfl
    have n78 : ∀ a, a ≠ 78 → ¬ jst 78 a := fun a h z => h z
    refine wp_sq (s_eq38 (fu := fu) (fa := fa) (ea := ea) (fb := fb) (eb := eb) (p := z) hfa hea (by omega) (by omega) (il A) fu fa σ11 (by omega) (Int.le_refl _) (by omega) (fun k a b => by omega)) ?_
    rintro - σ15 ⟨x15, y1, y2⟩
    have n77 : ∀ a, a ≠ 77 → ¬ jst 77 a := fun a h z => h z
    have f15 : ∀ b, σ15.1 55 b = τ.1 55 b := fun b => by rw [fx_f x15 (n77 55 (by omega)), fx_f x11 (n78 55 (by omega))]
    refine wp_ck (by omega) (wp_ck (by omega) (wp_lx ?_))
    rw [f15 31, h31]
    refine wp_ck ⟨by omega, by omega⟩ (wp_lb (fun σ25 e25 => ?_))
    have x25 : fx (jst 79) σ15 σ25 := by rw [e25]; exact fx_A fx_rf rfl
    have n79 : ∀ a, a ≠ 79 → ¬ jst 79 a := fun a h z => h z
    refine wp_sq (s_eq89 (fu := fu) (fb := fb) (eb := eb) (p := z + (ea - fa)) hfb heb (by omega) (by omega) (il B) fu fb σ25 (by omega) (Int.le_refl _) (by omega) (fun k a b => by omega)) ?_
    rintro - σ29 ⟨x29, y3, y4⟩
    have f29 : ∀ b, σ29.1 55 b = τ.1 55 b := fun b => by rw [fx_f x29 (n77 55 (by omega)), fx_f x25 (n79 55 (by omega)), f15 b]
    refine wp_ck (by omega) (wp_ck (by omega) ?_)
    rw [f29 31, h31]
    refine wp_ck ⟨by omega, by omega⟩ (wp_lb (fun σ37 e37 => ?_))
    have f37 : ∀ b, σ37.1 55 b = τ.1 55 b := fun b => by rw [e37]; exact f29 b
    rw [f37 31, h31]
    refine wp_ck (by omega) (wp_lb (fun σ42 e42 => wp_some ⟨?_, ?_, ?_, ?_⟩))
    · rw [e42, e37]
      exact fx_F (fx_A (fx_tr (fx_tr (fx_tr (fx_mono x11 (fun a z => by have : a = 78 := z; unfold XE; omega)) (fx_mono x15 (fun a z => by have : a = 77 := z; unfold XE; omega))) (fx_mono x25 (fun a z => by have : a = 79 := z; unfold XE; omega))) (fx_mono x29 (fun a z => by have : a = 77 := z; unfold XE; omega))) (by unfold XE; omega)) (by unfold XE; omega)
    · intro b hb
      rw [e42, sF_f (fun z => hb z.2)]
      exact f37 b
    · rw [e42]
      exact sF_same _ _ _ _
    · have a77 : ∀ i, σ42.2.1 77 i = σ29.2.1 77 i := fun i => by rw [e42, e37]; exact sA_other (by omega)
      have lo : ∀ k : Int, k < z → σ42.2.1 77 k = τ.2.1 77 k := fun k hk => by rw [a77, y3 k (by omega), fx_a x25 (n79 77 (by omega)), y1 k hk, fx_a x11 (n78 77 (by omega))]
      refine ⟨z, z + (ea - fa), eqs_eq (σ := τ) (fun k _ b => lo k b) (fun k hk => ⟨?_, ?_, ?_⟩) hE, ?_, ?_, ?_, ?_, ?_⟩
      · rw [e42, e37]
        show (sA σ29 80 _ _).2.1 78 k = _
        rw [sA_other (by omega), fx_a x29 (n77 78 (by omega)), fx_a x25 (n79 78 (by omega)), fx_a x15 (n77 78 (by omega)), e11, sA_other (by omega)]
      · rw [e42, e37]
        show (sA σ29 80 _ _).2.1 79 k = _
        rw [sA_other (by omega), fx_a x29 (n77 79 (by omega)), e25, sA_other (by omega), fx_a x15 (n77 79 (by omega)), fx_a x11 (n78 79 (by omega))]
      · rw [e42, e37]
        show (sA σ29 80 _ _).2.1 80 k = _
        rw [sA_other (by omega), fx_a x29 (n77 80 (by omega)), fx_a x25 (n79 80 (by omega)), fx_a x15 (n77 80 (by omega)), fx_a x11 (n78 80 (by omega))]
      · rw [e42, e37]
        show (sA σ29 80 _ _).2.1 78 _ = _
        rw [sA_other (by omega), fx_a x29 (n77 78 (by omega)), fx_a x25 (n79 78 (by omega)), fx_a x15 (n77 78 (by omega)), e11]
        exact sA_same _ _ _ _
      · rw [e42, e37]
        show (sA σ29 80 _ _).2.1 79 _ = _
        rw [sA_other (by omega), fx_a x29 (n77 79 (by omega)), e25]
        exact sA_same _ _ _ _
      · rw [e42, e37]
        show (sA σ29 80 _ _).2.1 80 _ = _
        rw [sA_same]
        omega
      · refine rseg_eq (σ := τ) (q := 71) (i := fa) (j := ea) (fun k a b => ?_) (by omega) hA
        have b' : k < (il A : Int) := b
        have := y2 (fa + k) (by omega) (by omega)
        rw [a77, y3 _ (by omega), fx_a x25 (n79 77 (by omega)), show z + k = z + (fa + k) - fa by omega, this, fx_a x11 (n78 71 (by omega))]
      · refine rseg_eq (σ := τ) (q := 72) (i := fb) (j := eb) (fun k a b => ?_) (by omega) hB
        have b' : k < (il B : Int) := b
        have := y4 (fb + k) (by omega) (by omega)
        rw [a77, show z + (ea - fa) + k = z + (ea - fa) + (fb + k) - fb by omega, this, fx_a x25 (n79 72 (by omega)), fx_a x15 (n77 72 (by omega)), fx_a x11 (n78 72 (by omega))]
/-- equations whose sides are terms with these bounds -/
def trz (O : Op) : Eqs → List Int → Prop
  | [], [] => True
  | z :: E, b :: S => tR O z.1 [b] = some [] ∧ tR O z.2 [b] = some [] ∧ trz O E S
  | _, _ => False
theorem trz_len {O : Op} : ∀ {E : Eqs} {S : List Int}, trz O E S → E.length = S.length := by
  intro E
  induction E with
  | nil => intro S h; cases S with | nil => rfl | cons b S => exact h.elim
  | cons z E ih => intro S h; cases S with | nil => exact h.elim | cons b S => rw [List.length_cons, List.length_cons, ih h.2.2]
theorem trz_app {O : Op} : ∀ {E F : Eqs} {S T : List Int}, trz O E S → trz O F T → trz O (E ++ F) (S ++ T) := by
  intro E
  induction E with
  | nil => intro F S T h k; cases S with | nil => exact k | cons b S => exact h.elim
  | cons z E ih => intro F S T h k; cases S with | nil => exact h.elim | cons b S => exact ⟨h.1, h.2.1, ih h.2.2 k⟩
theorem trz_tR {O : Op} : ∀ {E : Eqs} {S : List Int}, trz O E S → tR O (ct1 E) S = some [] ∧ tR O (ct2 E) S = some [] := by
  intro E
  induction E with
  | nil => intro S h; cases S with | nil => exact ⟨rfl, rfl⟩ | cons b S => exact h.elim
  | cons z E ih =>
    intro S h
    cases S with
    | nil => exact h.elim
    | cons b S =>
      obtain ⟨h1, h2⟩ := ih h.2.2
      exact ⟨tR_both (S := [b]) h.1 h1, tR_both (S := [b]) h.2.1 h2⟩
/-- two rows through one stack are equations -/
theorem trz_of {O : Op} : ∀ (S : List Int) (L M : Row), tR O L S = some [] → tR O M S = some [] → ∃ Z : Eqs, ct1 Z = L ∧ ct2 Z = M ∧ trz O Z S := by
  intro S
  induction S with
  | nil => intro L M h1 h2; rw [tR_e h1, tR_e h2]; exact ⟨[], rfl, rfl, True.intro⟩
  | cons b S ih =>
    intro L M h1 h2
    obtain ⟨a1, a2, rfl, k1, k2⟩ := tR_split L [b] S h1
    obtain ⟨b1, b2, rfl, k3, k4⟩ := tR_split M [b] S h2
    obtain ⟨Z, z1, z2, z3⟩ := ih a2 b2 k2 k4
    exact ⟨(a1, b1) :: Z, by show a1 ++ ct1 Z = _; rw [z1], by show b1 ++ ct2 Z = _; rw [z2], k1, k3, z3⟩
/-- where the parts begin -/
theorem s_p22 {O : Op} {fu : Nat} {σ : SS} {last : Int} (hfu : 20000 ≤ fu) (ho : rOp σ O) : ∀ (Z : Eqs) (S : List Int) (n : Nat) (p q k e1 e2 : Int), trz O Z S → rseg σ 71 p (ct1 Z) e1 → rseg σ 72 q (ct2 Z) e2 → 0 ≤ p → 0 ≤ q → e1 ≤ 16384 → e2 ≤ 16384 → rpa σ (ct1 Z) → rpa σ (ct2 Z) → (ct1 Z).length ≤ 10000 → (ct2 Z).length ≤ 10000 → k + Z.length = last → 0 ≤ k → last ≤ 100 → Z.length < n →
    l_D_parts_22 fu n last p q k σ = some ((e1, e2), σ) := by
  intro Z
  induction Z with
  | nil =>
    intro S n p q k e1 e2 ht h1 h2 _ _ _ _ _ _ _ _ hk _ _ hn
    cases n with
    | zero => omega
    | succ n =>
      have g1 : p = e1 := h1
      have g2 : q = e2 := h2
      have hk' : k + ((0 : Nat) : Int) = last := hk
      rw [l_D_parts_22, if_neg (by omega), g1, g2]
  | cons z Z ih =>
    intro S n p q k e1 e2 ht h1 h2 hp hq he1 he2 hr1 hr2 hl1 hl2 hk hk0 hla hn
    cases n with
    | zero => omega
    | succ n =>
      cases S with
      | nil => exact ht.elim
      | cons b S =>
        obtain ⟨t1, t2, t3⟩ := ht
        have h1' : rseg σ 71 p (z.1 ++ ct1 Z) e1 := h1
        have h2' : rseg σ 72 q (z.2 ++ ct2 Z) e2 := h2
        have le1 := rseg_le h1'
        have le2 := rseg_le h2'
        rw [il_append] at le1 le2
        obtain ⟨a1, a2⟩ := rseg_split h1'
        obtain ⟨b1, b2⟩ := rseg_split h2'
        have ll1 : (z.1 ++ ct1 Z).length ≤ 10000 := hl1
        have ll2 : (z.2 ++ ct2 Z).length ≤ 10000 := hl2
        rw [List.length_append] at ll1 ll2
        rw [List.length_cons] at hk hn
        have r1 : rpa σ z.1 := fun e he => hr1 e (List.mem_append_left _ he)
        have r2 : rpa σ z.2 := fun e he => hr2 e (List.mem_append_left _ he)
        have p1 := s_partEnd (fu := fu) hfu ho a1 t1 hp (by omega) r1 (by omega)
        have p2 := s_partEnd (fu := fu) hfu ho b1 t2 hq (by omega) r2 (by omega)
        rw [l_D_parts_22, if_pos (by omega), p1]
        show sq (f_D_partEnd fu 72 q σ) _ = _
        rw [p2]
        show ck (rng (k + 1)) (l_D_parts_22 fu n last (p + il z.1) (q + il z.2) (k + 1) σ) = _
        rw [ck_t (by omega)]
        exact ih S n _ _ (k + 1) e1 e2 t3 a2 b2 (by omega) (by omega) he1 he2 (fun e he => hr1 e (List.mem_append_right _ he)) (fun e he => hr2 e (List.mem_append_right _ he)) (by omega) (by omega) (by omega) (by omega) hla (by omega)
