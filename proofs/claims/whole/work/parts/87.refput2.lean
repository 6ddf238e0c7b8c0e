/-! THE REFERENCE: PUT, AS IT RUNS -/
theorem s_wait {σ : SS} {i : Nat} {n : Nat} {kd pl : Int} (hi : i < 8) (h67 : σ.2.1 67 i = (n : Int)) (hn : n < 150) :
    f_D_wait i kd pl σ = some ((), sA (sA (sA σ 68 (160 * i + n) kd) 69 (160 * i + n) pl) 67 i ((n : Int) + 1)) := by
  unfold f_D_wait
  rw [h67, ck_t (by omega), ck_t ⟨by omega, by omega⟩, ck_t (by omega), ck_t ⟨by omega, by omega⟩, lb_e]
  have e1 : (sA σ 68 (160 * i + n) kd).2.1 67 i = (n : Int) := by rw [sA_other (by omega)]; exact h67
  rw [e1, ck_t (by omega), ck_t ⟨by omega, by omega⟩, ck_t (by omega), ck_t ⟨by omega, by omega⟩, lb_e]
  have e2 : (sA (sA σ 68 (160 * i + n) kd) 69 (160 * i + n) pl).2.1 67 i = (n : Int) := by rw [sA_other (by omega)]; exact e1
  rw [e2, ck_t ⟨by omega, by omega⟩, ck_t (by omega), ck_t ⟨by omega, by omega⟩, lb_e]
/-- what the stack's work touches -/
def wt (i : Nat) (σ τ : SS) (n : Nat) : Prop := fx (fun a => 67 ≤ a ∧ a ≤ 69) σ τ ∧ (∀ j, j ≠ (i : Int) → τ.2.1 67 j = σ.2.1 67 j) ∧ (∀ j : Int, (j < 160 * i + n ∨ 160 * (i : Int) + 160 ≤ j) → τ.2.1 68 j = σ.2.1 68 j ∧ τ.2.1 69 j = σ.2.1 69 j)
theorem wt_rf {i n : Nat} {σ : SS} : wt i σ σ n := ⟨fx_rf, fun _ _ => rfl, fun _ _ => ⟨rfl, rfl⟩⟩
theorem wt_tr {i n m : Nat} {σ τ υ : SS} (h : wt i σ τ n) (k : wt i τ υ m) (hnm : n ≤ m) : wt i σ υ n := ⟨fx_tr h.1 k.1, fun j hj => by rw [k.2.1 j hj, h.2.1 j hj], fun j hj => ⟨by rw [(k.2.2 j (by omega)).1, (h.2.2 j hj).1], by rw [(k.2.2 j (by omega)).2, (h.2.2 j hj).2]⟩⟩
theorem wt_wait {σ : SS} {i n : Nat} {kd pl : Int} (hn : n < 150) : wt i σ (sA (sA (sA σ 68 (160 * i + n) kd) 69 (160 * i + n) pl) 67 i ((n : Int) + 1)) n := ⟨fx_A (fx_A (fx_A fx_rf (by omega)) (by omega)) (by omega), fun j hj => by rw [sA_other (by omega), sA_other (by omega), sA_other (by omega)], fun j hj => ⟨by rw [sA_other (by omega), sA_other (by omega), sA_other (by omega)], by rw [sA_other (by omega), sA_other (by omega), sA_other (by omega)]⟩⟩
theorem s_p188 {O : Op} {fu : Nat} {i : Nat} {e : AG} {x dep pl : Int} {S : List Int} (hi : i < 8) (he : e.2.1 % 4 = 1) (hex : e.2.1 / 4 = x) (h0 : 0 ≤ O.1 x) (hb2 : bd2 O) (hb : 0 ≤ e.1 ∧ e.1 ≤ 12) (hd : 0 ≤ dep ∧ dep ≤ 12) (hl : (tP O e ++ S).length ≤ 90) :
    ∀ (m n : Nat) (σ : SS), m ≤ 3 → m < n → rOp σ O → rstk σ (160 * i) dep ((tP O e).drop m ++ S) → σ.2.1 67 i = (((tP O e).drop m ++ S).length : Int) →
    Wp (l_D_put_188 fu n i 1 x (dep + e.1) pl ((m : Int) - 1) σ) (fun _ τ => wt i σ τ S.length ∧ rstk τ (160 * i) dep (tP O e ++ S) ∧ τ.2.1 67 i = ((tP O e ++ S).length : Int)) := by
  intro m
  induction m with
  | zero =>
    intro n σ hm hn ho hs h67
    cases n with
    | zero => omega
    | succ n =>
      rw [l_D_put_188]
      rw [List.drop_zero] at hs h67
      exact wp_t (by omega) (wp_some ⟨wt_rf, hs, h67⟩)
  | succ m ih =>
    intro n σ hm hn ho hs h67
    cases n with
    | zero => omega
    | succ n =>
      obtain ⟨o1, o2, o3, o4, o5⟩ := ho x h0
      have hlen := tP_ln (O := O) he
      rw [hex] at hlen
      rw [l_D_put_188, show ((m + 1 : Nat) : Int) - 1 = (m : Int) by omega]
      refine wp_f (by omega) (wp_t rfl (wp_ck ⟨o3, o4⟩ ?_))
      rw [o1]
      have hla : (tP O e ++ S).length = (tP O e).length + S.length := List.length_append
      by_cases c : (m : Int) < O.1 x
      · have o5' := o5 m (by omega) c
        have hbd := hb2 x m
        have hget : (tP O e)[m]'(by omega) = e.1 + O.2 x m := by
          unfold tP
          simp only [if_pos he, List.getElem_map, List.getElem_range, hex]
        have hdr : (tP O e).drop m ++ S = (e.1 + O.2 x m) :: ((tP O e).drop (m + 1) ++ S) := by
          rw [List.drop_eq_getElem_cons (by omega : m < (tP O e).length), hget]
          rfl
        have hdl : ((tP O e).drop (m + 1) ++ S).length = (tP O e).length - (m + 1) + S.length := by rw [List.length_append, List.length_drop]
        have hw := s_wait (σ := σ) (i := i) (n := ((tP O e).drop (m + 1) ++ S).length) (kd := dep + e.1 + O.2 x m) (pl := 0) hi h67 (by omega)
        refine wp_sq (R := fun _ τ => τ = sA (sA (sA σ 68 (160 * i + ((tP O e).drop (m + 1) ++ S).length) (dep + e.1 + O.2 x m)) 69 (160 * i + ((tP O e).drop (m + 1) ++ S).length) 0) 67 i ((((tP O e).drop (m + 1) ++ S).length : Int) + 1)) (wp_t c (wp_ck (by omega) (wp_ck (by omega) (wp_ck ⟨by omega, by omega⟩ ?_)))) ?_
        · rw [o5']
          refine wp_ck (by omega) ?_
          rw [hw, sq_e]
          exact wp_some rfl
        · intro u τ hτ
          have hwt : wt i σ τ ((tP O e).drop (m + 1) ++ S).length := by rw [hτ]; exact wt_wait (by omega)
          have hs' : rstk τ (160 * i) dep ((tP O e).drop m ++ S) := by
            rw [hdr]
            refine ⟨?_, rstk_eq (fun k h1 h2 => (hwt.2.2 k (by omega)).1) hs⟩
            rw [hτ, sA_other (by omega), sA_other (by omega), sA_same]
            omega
          have h67' : τ.2.1 67 i = (((tP O e).drop m ++ S).length : Int) := by
            rw [hτ, sA_same, hdr, List.length_cons]
            omega
          refine wp_ck (by omega) ?_
          rw [show (m : Int) + -1 = (m : Int) - 1 by omega]
          have h9 := ih n τ (by omega) (by omega) (rOp_fx hwt.1 (by omega) (by omega) ho) hs' h67'
          refine wp_mono h9 (fun _ υ k => ⟨?_, k.2⟩)
          have hwt' : wt i σ τ S.length := ⟨hwt.1, hwt.2.1, fun j hj => hwt.2.2 j (by omega)⟩
          exact wt_tr hwt' k.1 (Nat.le_refl _)
      · have hdr : (tP O e).drop (m + 1) = (tP O e).drop m := by rw [List.drop_of_length_le (by omega), List.drop_of_length_le (by omega)]
        rw [hdr] at hs h67
        refine wp_sq (R := fun _ τ => τ = σ) (wp_f c (wp_some rfl)) ?_
        rintro u τ rfl
        refine wp_ck (by omega) ?_
        rw [show (m : Int) + -1 = (m : Int) - 1 by omega]
        exact ih n τ (by omega) (by omega) ho hs h67
theorem s_p238 {fu : Nat} {i : Nat} {x kd pl : Int} {P n0 : Nat} (hi : i < 8) (hx : 0 ≤ x ∧ x < 324) (hP : P ≤ 4) (hn0 : n0 ≤ 100) (hkd : 0 ≤ kd ∧ kd ≤ 100) :
    ∀ (m j n : Nat) (σ : SS), m + j = P → m < n → σ.2.1 58 x = (P : Int) → σ.2.1 67 i = ((n0 + j : Nat) : Int) → (∀ t : Nat, t < j → σ.2.1 68 (160 * i + n0 + t) = 100 + kd ∧ σ.2.1 69 (160 * i + n0 + t) = pl) →
    Wp (l_D_put_238 fu n i 2 x kd pl j σ) (fun _ τ => wt i σ τ n0 ∧ τ.2.1 67 i = ((n0 + P : Nat) : Int) ∧ ∀ t : Nat, t < P → τ.2.1 68 (160 * i + n0 + t) = 100 + kd ∧ τ.2.1 69 (160 * i + n0 + t) = pl) := by
  intro m
  induction m with
  | zero =>
    intro j n σ h1 h2 h58 h67 hd
    cases n with
    | zero => omega
    | succ n =>
      rw [l_D_put_238]
      exact wp_t rfl (wp_ck ⟨hx.1, hx.2⟩ (wp_f (by omega) (wp_some ⟨wt_rf, by rw [h67]; omega, fun t ht => hd t (by omega)⟩)))
  | succ m ih =>
    intro j n σ h1 h2 h58 h67 hd
    cases n with
    | zero => omega
    | succ n =>
      rw [l_D_put_238]
      have hw := s_wait (σ := σ) (i := i) (n := n0 + j) (kd := 100 + kd) (pl := pl) hi h67 (by omega)
      refine wp_t rfl (wp_ck ⟨hx.1, hx.2⟩ (wp_t (by omega) (wp_ck (by omega) ?_)))
      refine wp_e hw (wp_ck (by omega) ?_)
      generalize hτ : sA (sA (sA σ 68 (160 * i + (n0 + j : Nat)) (100 + kd)) 69 (160 * i + (n0 + j : Nat)) pl) 67 i (((n0 + j : Nat) : Int) + 1) = τ
      have hwt : wt i σ τ (n0 + j) := by rw [← hτ]; exact wt_wait (by omega)
      rw [show (j : Int) + 1 = ((j + 1 : Nat) : Int) by omega]
      have h9 := ih (j + 1) n τ (by omega) (by omega) (by rw [fx_a hwt.1 (by omega)]; exact h58) (by rw [← hτ, sA_same]; omega) (fun t ht => by
        by_cases c : t = j
        · rw [c, show 160 * (i : Int) + (n0 : Int) + (j : Int) = 160 * i + ((n0 + j : Nat) : Int) by omega, ← hτ]
          exact ⟨by rw [sA_other (by omega), sA_other (by omega), sA_same], by rw [sA_other (by omega), sA_same]⟩
        · obtain ⟨g1, g2⟩ := hwt.2.2 (160 * i + n0 + t) (by omega)
          rw [g1, g2]
          exact hd t (by omega))
      refine wp_mono h9 (fun _ υ k => ⟨?_, k.2⟩)
      have hwt' : wt i σ τ n0 := ⟨hwt.1, hwt.2.1, fun j hj => hwt.2.2 j (by omega)⟩
      exact wt_tr hwt' k.1 (Nat.le_refl _)
theorem rseg_va {σ τ : SS} {q : Nat} {e : AG} {x : Int} : ∀ {r : Row} {a b : Int}, rseg σ q a (r ++ [e]) b → (∀ k : Int, a ≤ k → k < b → τ.2.1 q k = σ.2.1 q k) → τ.2.1 q b = 4 * x → rseg τ q a (r ++ [(e.1, e.2.1, e.2.2 ++ [x])]) (b + 1) := by
  intro r
  induction r with
  | nil =>
    intro a b h hlo h1
    obtain ⟨p1, p3, p4⟩ := h
    have p4' : a + 1 + (e.2.2.length : Int) = b := p4
    refine ⟨by rw [hlo a (by omega) (by omega)]; exact p1, fun k v hk => ?_, ?_⟩
    · have hk' : (e.2.2 ++ [x])[k]? = some v := hk
      by_cases c : k < e.2.2.length
      · rw [List.getElem?_append_left c] at hk'
        rw [hlo _ (by omega) (by omega)]
        exact p3 k v hk'
      · rw [List.getElem?_append_right (by omega)] at hk'
        have h0 : k - e.2.2.length = 0 := by
          have := (List.getElem?_eq_some_iff.mp hk').1
          simp at this
          omega
        rw [h0] at hk'
        have hxv : x = v := Option.some.inj hk'
        rw [show a + 1 + (k : Int) = b by omega, h1, hxv]
    · show a + 1 + ((e.2.2 ++ [x]).length : Int) = b + 1
      rw [List.length_append]
      show a + 1 + ((e.2.2.length + 1 : Nat) : Int) = b + 1
      omega
  | cons z r ih =>
    intro a b h hlo h1
    have hle := rseg_le h
    rw [List.cons_append, il_cons] at hle
    obtain ⟨p1, p3, p4⟩ := h
    refine ⟨by rw [hlo a (by omega) (by omega)]; exact p1, fun k v hk => ?_, ih p4 (fun k h2 h3 => hlo k (by omega) h3) h1⟩
    have := (List.getElem?_eq_some_iff.mp hk).1
    rw [hlo _ (by omega) (by omega)]
    exact p3 k v hk
theorem rseg_sn {σ τ : SS} {q : Nat} {r : Row} {a b c p : Int} (h : rseg σ q a r b) (hlo : ∀ k : Int, a ≤ k → k < b → τ.2.1 q k = σ.2.1 q k) (h1 : τ.2.1 q b = c) : rseg τ q a (r ++ [(p, c, [])]) (b + 1) := by
  have hle := rseg_le h
  exact rseg_append (rseg_eq (fun k h2 h3 => hlo _ (by omega) (by omega)) rfl h) ⟨h1, fun k v hk => (by cases hk), by show b + 1 + ((0 : Nat) : Int) = b + 1; omega⟩
