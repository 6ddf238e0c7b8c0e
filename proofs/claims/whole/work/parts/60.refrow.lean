/-! THE REFERENCE: ROWS AND MEASURES -/
def rseg (σ : SS) (q : Nat) : Int → Row → Int → Prop
  | i, [], j => i = j
  | i, e :: r, j => σ.2.1 q i = e.2.1 ∧ (∀ (k : Nat) (v : Int), e.2.2[k]? = some v → σ.2.1 q (i + 1 + k) = 4 * v) ∧ rseg σ q (i + 1 + e.2.2.length) r j
theorem rseg_le {σ : SS} {q : Nat} : ∀ {r : Row} {i j : Int}, rseg σ q i r j → j = i + il r := by
  intro r
  induction r with
  | nil => intro i j h; rw [show il [] = 0 from rfl]; have : i = j := h; omega
  | cons e r ih =>
    intro i j h
    have h1 := ih h.2.2
    rw [il_cons]
    omega
theorem rseg_eq {σ τ : SS} {q p : Nat} : ∀ {r : Row} {i j i' j' : Int}, (∀ k : Int, 0 ≤ k → k < il r → τ.2.1 p (i' + k) = σ.2.1 q (i + k)) → j' - i' = j - i → rseg σ q i r j → rseg τ p i' r j' := by
  intro r
  induction r with
  | nil => intro i j i' j' _ h2 h; have h' : i = j := h; show i' = j'; omega
  | cons e r ih =>
    intro i j i' j' h1 h2 h
    obtain ⟨a, b, c⟩ := h
    rw [il_cons] at h1
    refine ⟨?_, fun k v hk => ?_, ih (i := i + 1 + e.2.2.length) (j := j) (fun k h3 h4 => ?_) (by omega) c⟩
    · have := h1 0 (by omega) (by omega)
      rw [Int.add_zero, Int.add_zero] at this
      rw [this]; exact a
    · have hl := (List.getElem?_eq_some_iff.mp hk).1
      have := h1 (1 + k) (by omega) (by omega)
      rw [show i' + 1 + (k : Int) = i' + (1 + k) by omega, this, show i + (1 + (k : Int)) = i + 1 + k by omega]
      exact b k v hk
    · have := h1 (1 + e.2.2.length + k) (by omega) (by omega)
      rw [show i' + 1 + (e.2.2.length : Int) + k = i' + (1 + e.2.2.length + k) by omega, this, show i + (1 + (e.2.2.length : Int) + k) = i + 1 + e.2.2.length + k by omega]
theorem rseg_fx {X : Nat → Prop} {σ τ : SS} {q : Nat} (h : fx X σ τ) (hq : ¬ X q) {r : Row} {i j : Int} (k : rseg σ q i r j) : rseg τ q i r j := rseg_eq (fun m _ _ => fx_a h hq) rfl k
theorem rseg_append {σ : SS} {q : Nat} : ∀ {a b : Row} {i j k : Int}, rseg σ q i a j → rseg σ q j b k → rseg σ q i (a ++ b) k := by
  intro a
  induction a with
  | nil => intro b i j k h1 h2; have : i = j := h1; rw [this]; exact h2
  | cons e a ih =>
    intro b i j k h1 h2
    obtain ⟨p, q, s⟩ := h1
    exact ⟨p, q, ih s h2⟩
theorem rseg_split {σ : SS} {q : Nat} : ∀ {a b : Row} {i k : Int}, rseg σ q i (a ++ b) k → rseg σ q i a (i + il a) ∧ rseg σ q (i + il a) b k := by
  intro a
  induction a with
  | nil => intro b i k h; refine ⟨?_, ?_⟩ <;> (rw [show i + ((il [] : Nat) : Int) = i from Int.add_zero i]); exact rfl; exact h
  | cons e a ih =>
    intro b i k h
    obtain ⟨p, q, s⟩ := h
    have h1 := ih s
    have e1 : i + 1 + (e.2.2.length : Int) + (il a : Int) = i + (il (e :: a) : Nat) := by rw [il_cons]; omega
    rw [e1] at h1
    exact ⟨⟨p, q, h1.1⟩, h1.2⟩
/-- the stack of what is due -/
def lst (σ : SS) : List Int → Prop
  | [] => True
  | v :: S => σ.2.1 75 S.length = v ∧ lst σ S
theorem lst_eq {σ τ : SS} : ∀ {S : List Int}, (∀ k : Int, k < S.length → τ.2.1 75 k = σ.2.1 75 k) → lst σ S → lst τ S := by
  intro S
  induction S with
  | nil => intro _ _; exact True.intro
  | cons v S ih =>
    intro h k
    rw [List.length_cons] at h
    exact ⟨by rw [h _ (by omega)]; exact k.1, ih (fun j hj => h j (by omega)) k.2⟩
def dseg (σ : SS) : Int → Row → Prop
  | _, [] => True
  | i, e :: r => σ.2.1 74 i = e.1 ∧ (∀ k : Nat, k < e.2.2.length → σ.2.1 74 (i + 1 + k) = e.1) ∧ dseg σ (i + 1 + e.2.2.length) r
theorem dseg_eq {σ τ : SS} : ∀ {r : Row} {i : Int}, (∀ k : Int, i ≤ k → k < i + il r → τ.2.1 74 k = σ.2.1 74 k) → dseg σ i r → dseg τ i r := by
  intro r
  induction r with
  | nil => intro i _ _; exact True.intro
  | cons e r ih =>
    intro i h k
    rw [il_cons] at h
    exact ⟨by rw [h _ (by omega) (by omega)]; exact k.1, fun j hj => by rw [h _ (by omega) (by omega)]; exact k.2.1 j hj, ih (fun j h1 h2 => h j (by omega) (by omega)) k.2.2⟩
def rOp (σ : SS) (O : Op) : Prop := ∀ f, 0 ≤ O.1 f → σ.2.1 56 f = O.1 f ∧ O.1 f ≤ 3 ∧ 0 ≤ f ∧ f < 16 ∧ ∀ i, 0 ≤ i → i < O.1 f → σ.2.1 57 (3 * f + i) = O.2 f i
theorem rOp_fx {X : Nat → Prop} {σ τ : SS} {O : Op} (h : fx X σ τ) (h1 : ¬ X 56) (h2 : ¬ X 57) (k : rOp σ O) : rOp τ O := by
  intro f hf
  rw [fx_a h h1]
  obtain ⟨a, b, c, d, e⟩ := k f hf
  exact ⟨a, b, c, d, fun i h3 h4 => by rw [fx_a h h2]; exact e i h3 h4⟩
/-- the holes of a row have the parameters that the reference holds -/
def rpa (σ : SS) (r : Row) : Prop := ∀ e ∈ r, (e.2.1 % 4 = 2 → 0 ≤ e.2.1 / 4 ∧ e.2.1 / 4 < 324 ∧ σ.2.1 58 (e.2.1 / 4) = (e.2.2.length : Int)) ∧ (e.2.1 % 4 ≠ 2 → e.2.2 = []) ∧ 0 ≤ e.2.1 ∧ e.2.1 ≤ 1000000 ∧ e.2.2.length ≤ 4 ∧ ∀ v ∈ e.2.2, 0 ≤ v ∧ v ≤ 1000000
theorem rpa_fx {X : Nat → Prop} {σ τ : SS} {r : Row} (h : fx X σ τ) (h1 : ¬ X 58) (k : rpa σ r) : rpa τ r := by
  intro e he
  obtain ⟨a, b⟩ := k e he
  exact ⟨fun c => by rw [fx_a h h1]; exact a c, b⟩
theorem rpa_tl {σ : SS} {e : AG} {r : Row} (k : rpa σ (e :: r)) : rpa σ r := fun x hx => k x (List.mem_cons_of_mem _ hx)
theorem s_m74 {O : Op} {fu q nq : Nat} {e : AG} {S : List Int} {x2 x3 x5 x6 f : Int} (h3 : 0 ≤ O.1 f) (hf : e.2.1 % 4 = 1) (hfe : e.2.1 / 4 = f) (hb2 : bd2 O) (hb : 0 ≤ e.1 ∧ e.1 ≤ 10000) (hl : (tP O e ++ S).length ≤ 4000) :
    ∀ (m n : Nat) (σ : SS), m ≤ (tP O e).length → m < n → rOp σ O → lst σ ((tP O e).drop m ++ S) →
    Wp (l_D_measure_74 fu q nq n x2 x3 (((tP O e).drop m ++ S).length : Int) x5 x6 e.1 f ((m : Int) - 1) σ) (fun z τ => z = ((tP O e ++ S).length : Int) ∧ fx (jst 75) σ τ ∧ lst τ (tP O e ++ S)) := by
  intro m
  induction m with
  | zero =>
    intro n σ hm hn ho hs
    cases n with
    | zero => omega
    | succ n =>
      rw [l_D_measure_74]
      rw [List.drop_zero] at hs ⊢
      exact wp_t (by omega) (wp_some ⟨rfl, fx_rf, hs⟩)
  | succ m ih =>
    intro n σ hm hn ho hs
    cases n with
    | zero => omega
    | succ n =>
      rw [l_D_measure_74]
      have hlen := tP_ln (O := O) hf
      rw [hfe] at hlen
      obtain ⟨o1, o2, o3, o4, o5⟩ := ho f h3
      have hma : (m : Int) < O.1 f := by omega
      have ob := o5 m (by omega) hma
      have hbd := hb2 f m
      rw [show ((m + 1 : Nat) : Int) - 1 = (m : Int) by omega]
      have hdl : ((tP O e).drop (m + 1) ++ S).length + 1 ≤ 4000 := by
        rw [List.length_append] at hl ⊢
        rw [List.length_drop]
        omega
      have hget : (tP O e)[m]'(by omega) = e.1 + O.2 f m := by
        unfold tP
        simp only [if_pos hf, List.getElem_map, List.getElem_range, hfe]
      have hdr : (tP O e).drop m ++ S = (e.1 + O.2 f m) :: ((tP O e).drop (m + 1) ++ S) := by
        rw [List.drop_eq_getElem_cons (by omega : m < (tP O e).length), hget]
        rfl
      refine wp_f (by omega) (wp_ck (by omega) (wp_ck (by omega) (wp_ck ⟨by omega, by omega⟩ ?_)))
      rw [ob]
      refine wp_ck (by omega) (wp_ck ⟨by omega, by omega⟩ (wp_lb (fun σ8 e8 => wp_ck (by omega) (wp_ck (by omega) ?_))))
      have hx : fx (jst 75) σ σ8 := by rw [e8]; exact fx_A fx_rf rfl
      have hs8 : lst σ8 ((tP O e).drop m ++ S) := by
        rw [hdr]
        refine ⟨by rw [e8]; exact sA_same _ _ _ _, lst_eq (σ := σ) (fun k hk => ?_) hs⟩
        rw [e8]
        exact sA_other (by omega)
      have h9 := ih n σ8 (by omega) (by omega) (rOp_fx hx (by unfold jst; omega) (by unfold jst; omega) ho) hs8
      have e1 : (((tP O e).drop m ++ S).length : Int) = (((tP O e).drop (m + 1) ++ S).length : Int) + 1 := by rw [hdr, List.length_cons]; omega
      rw [e1] at h9
      rw [show (m : Int) + -1 = (m : Int) - 1 by omega]
      exact wp_mono h9 (fun z τ k => ⟨k.1, fx_tr hx k.2.1, k.2.2⟩)
theorem s_m125 {fu q nq : Nat} {L : Nat} {x2 x3 x4 x7 x8 : Int} {i : Int} (hi : 0 ≤ i) (hi2 : i + 1 + L ≤ 16384) (hx8 : 0 ≤ x8 ∧ x8 < 324) : ∀ (m j n : Nat) (σ : SS), m + j = L → m < n → σ.2.1 58 x8 = (L : Int) → (∀ k : Nat, k < j → σ.2.1 74 (i + 1 + k) = x7) →
    Wp (l_D_measure_125 fu q nq n x2 x3 x4 i x7 x8 j σ) (fun _ τ => fx (jst 74) σ τ ∧ (∀ a b, τ.1 a b = σ.1 a b) ∧ (∀ k : Int, k < i + 1 → τ.2.1 74 k = σ.2.1 74 k) ∧ ∀ k : Nat, k < L → τ.2.1 74 (i + 1 + k) = x7) := by
  intro m
  induction m with
  | zero =>
    intro j n σ h1 h2 h3 h4
    cases n with
    | zero => omega
    | succ n =>
      rw [l_D_measure_125]
      exact wp_ck ⟨by omega, by omega⟩ (wp_f (by omega) (wp_some ⟨fx_rf, fun _ _ => rfl, fun _ _ => rfl, fun k hk => h4 k (by omega)⟩))
  | succ m ih =>
    intro j n σ h1 h2 h3 h4
    cases n with
    | zero => omega
    | succ n =>
      rw [l_D_measure_125]
      refine wp_ck ⟨by omega, by omega⟩ (wp_t (by omega) (wp_ck (by omega) (wp_ck (by omega) (wp_ck ⟨by omega, by omega⟩ (wp_lb (fun σ7 e7 => wp_ck (by omega) ?_))))))
      have hx : fx (jst 74) σ σ7 := by rw [e7]; exact fx_A fx_rf rfl
      rw [show (j : Int) + 1 = ((j + 1 : Nat) : Int) by omega]
      have h9 := ih (j + 1) n σ7 (by omega) (by omega) (by rw [fx_a hx (by unfold jst; omega)]; exact h3) (fun k hk => by
        rw [e7]
        by_cases c : k = j
        · rw [c]; exact sA_same _ _ _ _
        · rw [sA_other (by omega)]; exact h4 k (by omega))
      refine wp_mono h9 (fun _ τ k => ⟨fx_tr hx k.1, fun a b => by rw [k.2.1, e7]; rfl, fun m hm => ?_, k.2.2.2⟩)
      rw [k.2.2.1 m hm, e7]
      exact sA_other (by omega)
def X74 : Nat → Prop := fun a => a = 74 ∨ a = 75
theorem s_m13 {O : Op} {fu q nq : Nat} {fr len : Int} (hq : q ≠ 74 ∧ q ≠ 75) (hfu : 10 ≤ fu) (hb2 : bd2 O) (hfr : 0 ≤ fr) (hlen : len ≤ 16384) (hnq : fr + len ≤ nq) (hnq2 : nq ≤ 200000) :
    ∀ (r : Row) (n : Nat) (i : Int) (S : List Int) (σ : SS), rseg σ q (fr + i) r (fr + len) → tR O r S = some [] → lst σ S → r.length < n → r.length ≤ 3000 → bok S r.length → 0 ≤ i → rOp σ O → rpa σ r →
    Wp (l_D_measure_13 fu q nq n fr len (S.length : Int) i σ) (fun _ τ => fx X74 σ τ ∧ dseg τ i r ∧ ∀ k : Int, k < i → τ.2.1 74 k = σ.2.1 74 k) := by
  intro r
  induction r with
  | nil =>
    intro n i S σ hs ht hl hn _ hb hi ho hp
    cases n with
    | zero => omega
    | succ n =>
      have : fr + i = fr + len := hs
      rw [l_D_measure_13]
      exact wp_f (by omega) (wp_some ⟨fx_rf, True.intro, fun _ _ => rfl⟩)
  | cons e r ih =>
    intro n i S σ hs ht hl hn h3 hb hi ho hp
    cases n with
    | zero => omega
    | succ n =>
      have hle := rseg_le hs
      rw [il_cons] at hle
      obtain ⟨s1, s2, s3⟩ := hs
      obtain ⟨S', rfl, ht2⟩ := tR_inv ht
      have hsl := tR_slen ht2
      have hsl0 := tR_slen ht
      rw [List.length_cons] at hn h3
      rw [List.length_cons, List.length_cons] at hsl0
      obtain ⟨p1, p2, p3, p4, p5, p6⟩ := hp e List.mem_cons_self
      have hbe := hb e.1 List.mem_cons_self
      have hbk2 : bok (tP O e ++ S') r.length := bok_next hb2 (by rw [List.length_cons] at hb; exact hb)
      rw [l_D_measure_13]
      have htop : ((e.1 :: S').length : Int) + -1 = (S'.length : Int) := by rw [List.length_cons]; omega
      rw [htop]
      refine wp_t (by omega) (wp_ck (by omega) (wp_ck ⟨by omega, by omega⟩ ?_))
      rw [s1]
      refine wp_lx (wp_ck (by omega) (wp_ck ⟨by omega, by omega⟩ ?_))
      rw [hl.1]
      refine wp_lx (wp_ck ⟨by omega, by omega⟩ (wp_lb (fun σ12 e12 => wp_lx ?_)))
      have x12 : fx (jst 74) σ σ12 := by rw [e12]; exact fx_A fx_rf rfl
      have n74 : ∀ a, a ≠ 74 → ¬ jst 74 a := fun a h z => h z
      have d12 : σ12.2.1 74 i = e.1 := by rw [e12]; exact sA_same _ _ _ _
      have d12' : ∀ k, k < i → σ12.2.1 74 k = σ.2.1 74 k := fun k hk => by rw [e12]; exact sA_other (by omega)
      have l12 : lst σ12 S' := lst_eq (σ := σ) (fun k _ => fx_a x12 (n74 75 (by omega))) hl.2
      have o12 := rOp_fx x12 (n74 56 (by omega)) (n74 57 (by omega)) ho
      -- the stack
      refine wp_sq (R := fun z τ => z = ((tP O e ++ S').length : Int) ∧ fx (jst 75) σ12 τ ∧ lst τ (tP O e ++ S')) ?_ ?_
      · by_cases c1 : e.2.1 % 4 = 1
        · have h9 : 0 ≤ O.1 (e.2.1 / 4) := (tR_opk ht).elim (fun z => absurd c1 z) id
          obtain ⟨o1, o2, o3, o4, o5⟩ := o12 _ h9
          have hln := tP_ln (O := O) c1
          have hap : (tP O e ++ S').length = (tP O e).length + S'.length := List.length_append
          refine wp_t c1 (wp_ck ⟨o3, o4⟩ ?_)
          rw [o1]
          refine wp_ck (by omega) (wp_lx ?_)
          have h10 := s_m74 (O := O) (fu := fu) (q := q) (nq := nq) (e := e) (S := S') (x2 := fr) (x3 := len) (x5 := i) (x6 := e.2.1) h9 c1 rfl hb2 (by omega) (by omega) (tP O e).length fu σ12 (Nat.le_refl _) (by omega) o12 (by rw [List.drop_length, List.nil_append]; exact l12)
          rw [List.drop_length, List.nil_append, hln, show ((O.1 (e.2.1 / 4)).toNat : Int) = O.1 (e.2.1 / 4) by omega] at h10
          exact wp_sq h10 (fun z τ k => wp_some k)
        · rw [tP_hole c1, List.nil_append]
          exact wp_f c1 (wp_some ⟨rfl, fx_rf, l12⟩)
      · rintro z σ28 ⟨rfl, x28, l28⟩
        have n75 : ∀ a, a ≠ 75 → ¬ jst 75 a := fun a h z => h z
        have d28 : ∀ k, σ28.2.1 74 k = σ12.2.1 74 k := fun k => fx_a x28 (n75 74 (by omega))
        -- the variables of a hole
        refine wp_sq (R := fun z τ => z = i + (e.2.2.length : Int) ∧ fx (jst 74) σ28 τ ∧ (∀ k : Int, k < i + 1 → τ.2.1 74 k = σ28.2.1 74 k) ∧ ∀ k : Nat, k < e.2.2.length → τ.2.1 74 (i + 1 + k) = e.1) ?_ ?_
        · by_cases c2 : e.2.1 % 4 = 2
          · obtain ⟨q1, q2, q3⟩ := p1 c2
            have h58 : σ28.2.1 58 (e.2.1 / 4) = (e.2.2.length : Int) := by rw [fx_a x28 (n75 58 (by omega)), fx_a x12 (n74 58 (by omega))]; exact q3
            refine wp_t c2 (wp_sq (s_m125 (fu := fu) (q := q) (nq := nq) (L := e.2.2.length) (x2 := fr) (x3 := len) (x4 := ((tP O e ++ S').length : Int)) (x7 := e.1) (x8 := e.2.1 / 4) (i := i) hi (by omega) ⟨q1, q2⟩ e.2.2.length 0 fu σ28 (by omega) (by omega) h58 (fun k hk => by omega)) ?_)
            rintro - σ34 ⟨y1, y2, y3, y4⟩
            have h34 : σ34.2.1 58 (e.2.1 / 4) = (e.2.2.length : Int) := by rw [fx_a y1 (n74 58 (by omega))]; exact h58
            refine wp_ck ⟨q1, q2⟩ ?_
            rw [h34]
            exact wp_ck (by omega) (wp_lx (wp_some ⟨rfl, y1, y3, y4⟩))
          · rw [p2 c2]
            exact wp_f c2 (wp_some ⟨by show i = i + ((0 : Nat) : Int); omega, fx_rf, fun _ _ => rfl, fun k hk => absurd hk (Nat.not_lt_zero _)⟩)
        · rintro z σ43 ⟨rfl, x43, y3, y4⟩
          refine wp_ck (by omega) ?_
          have x9 : fx X74 σ σ43 := fx_tr (fx_tr (fx_mono x12 (fun a z => Or.inl z)) (fx_mono x28 (fun a z => Or.inr z))) (fx_mono x43 (fun a z => Or.inl z))
          have n9 : ∀ a, a ≠ 74 → a ≠ 75 → ¬ X74 a := fun a h1 h2 z => z.elim h1 h2
          rw [show i + (e.2.2.length : Int) + 1 = i + 1 + e.2.2.length by omega]
          have l43 : lst σ43 (tP O e ++ S') := lst_eq (σ := σ28) (fun k _ => fx_a x43 (n74 75 (by omega))) l28
          have hs43 : rseg σ43 q (fr + (i + 1 + e.2.2.length)) r (fr + len) := by
            rw [show fr + (i + 1 + (e.2.2.length : Int)) = fr + i + 1 + e.2.2.length by omega]
            exact rseg_fx x9 (n9 q hq.1 hq.2) s3
          have h9 := ih n (i + 1 + e.2.2.length) (tP O e ++ S') σ43 hs43 ht2 l43 (by omega) (by omega) hbk2 (by omega) (rOp_fx x9 (n9 56 (by omega) (by omega)) (n9 57 (by omega) (by omega)) ho) (rpa_fx x9 (n9 58 (by omega) (by omega)) (rpa_tl hp))
          refine wp_mono h9 (fun _ τ k => ⟨fx_tr x9 k.1, ⟨?_, fun m hm => ?_, k.2.1⟩, fun m hm => ?_⟩)
          · rw [k.2.2 i (by omega), y3 i (by omega), d28, d12]
          · rw [k.2.2 _ (by omega), y4 m hm]
          · rw [k.2.2 m (by omega), y3 m (by omega), d28, d12' m hm]
theorem s_measr {O : Op} {fu q nq : Nat} {fr len : Int} {r : Row} {σ : SS} {b : Int} (hq : q ≠ 74 ∧ q ≠ 75) (hfu : 3100 ≤ fu) (hb2 : bd2 O) (hfr : 0 ≤ fr) (hlen : len ≤ 16384) (hnq : fr + len ≤ nq) (hnq2 : nq ≤ 200000) (hs : rseg σ q fr r (fr + len)) (ht : tR O r [0] = some []) (h3 : r.length ≤ 3000) (ho : rOp σ O) (hp : rpa σ r) :
    Wp (f_D_measure fu q nq fr len σ) (fun _ τ => fx X74 σ τ ∧ dseg τ 0 r) := by
  unfold f_D_measure
  refine wp_ck ⟨by omega, by omega⟩ (wp_lb (fun σ3 e3 => ?_))
  have x3 : fx X74 σ σ3 := by rw [e3]; exact fx_A fx_rf (Or.inr rfl)
  have n9 : ∀ a, a ≠ 74 → a ≠ 75 → ¬ X74 a := fun a h1 h2 z => z.elim h1 h2
  have h9 := s_m13 (O := O) (fu := fu) (q := q) (nq := nq) (fr := fr) (len := len) hq (by omega) hb2 hfr hlen hnq hnq2 r fu 0 [0] σ3 (by rw [Int.add_zero]; exact rseg_fx x3 (n9 q hq.1 hq.2) hs) ht ⟨by rw [e3]; exact sA_same _ _ _ _, True.intro⟩ (by omega) h3 (fun z hz => by cases List.mem_singleton.mp hz; omega) (Int.le_refl _) (rOp_fx x3 (n9 56 (by omega) (by omega)) (n9 57 (by omega) (by omega)) ho) (rpa_fx x3 (n9 58 (by omega) (by omega)) hp)
  exact wp_sq h9 (fun _ τ k => wp_some ⟨fx_tr x3 k.1, k.2.1⟩)
