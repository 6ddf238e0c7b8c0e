/-! THE CLASS: PUT, AS IT RUNS -/
theorem s_behind {σ : SS} {i : Nat} {l : Sl} (hc : cSl σ i l) : f_S_isBehindHole (14 + 2 * i) σ = some ((if 0 < l.2.2.2.1 then 1 else 0), σ) := by
  unfold f_S_isBehindHole
  rw [hc.2.2.2.2.2.1]
  by_cases c : 0 < l.2.2.2.1
  · rw [if_pos (by omega), if_pos c]
  · rw [if_neg (by omega), if_neg c]
theorem s_bound {σ : SS} {i : Nat} {l : Sl} (hc : cSl σ i l) (hd : due l ≠ 0) (hl : l.2.2.2.2.length ≤ 61) : f_S_boundHere (14 + 2 * i) σ = some (hbl l, σ) := by
  unfold f_S_boundHere hbl
  rw [s_behind hc, sq_e]
  by_cases c : 0 < l.2.2.2.1
  · rw [if_pos c, if_pos c, if_neg (by decide), (hc.2.2.2.2.2.2.1 c).2]
  · rw [if_neg c, if_neg c, if_pos rfl, hc.2.1, ck_t (by omega)]
    have hs := hc.2.2.2.2.2.2.2.1
    cases hq : l.2.2.2.2 with
    | nil => unfold due at hd; rw [hq] at hd; have h0 : ([] : List Int).length = 0 := rfl; omega
    | cons b S =>
      rw [hq] at hs
      rw [List.length_cons, show ((S.length + 1 : Nat) : Int) - 1 = (S.length : Int) by omega, hs.1]
      rfl
theorem s_vhere {O : Op} {pa : Int → Int} {told : Int} {σ : SS} {i : Nat} {l : Sl} (hg : gSl O pa told l) (hc : cSl σ i l) (hd : due l ≠ 0) (hl : l.2.2.2.2.length ≤ 61) (hb : 0 ≤ hbl l ∧ hbl l ≤ 12) : f_S_variablesHere (14 + 2 * i) σ = some (l.2.1 + hbl l, σ) := by
  have h6 := hg.2.1
  unfold f_S_variablesHere
  rw [s_bound hc hd hl, sq_e, hc.2.2.1, ck_t (by omega)]
theorem hbl_b {O : Op} {pa : Int → Int} {told : Int} {l : Sl} (hg : gSl O pa told l) (hd : due l ≠ 0) : 0 ≤ hbl l ∧ l.2.1 + hbl l ≤ 12 := by
  unfold hbl
  by_cases c : 0 < l.2.2.2.1
  · rw [if_pos c]
    obtain ⟨r0, e, j1, -⟩ := hg.2.2.2.2.2.2.2 c
    have hl1 : lst1 l.2.2.1 = e := by rw [j1]; exact lst1_snoc r0 e
    have := hg.2.2.2.2.2.1 e (by rw [j1]; exact List.mem_append_right _ (List.mem_singleton.mpr rfl))
    rw [hl1]
    exact ⟨this.1, this.2.1⟩
  · rw [if_neg c]
    cases hq : l.2.2.2.2 with
    | nil => unfold due at hd; rw [hq] at hd; have h0 : ([] : List Int).length = 0 := rfl; omega
    | cons b S => exact hg.2.2.2.2.1 b (by rw [hq]; exact List.mem_cons_self)
theorem s_mtvl {fu : Nat} {σ : SS} {p : Nat} {fr n0 x : Int} {vs : List Int} (h1 : σ.1 p 1 = fr) (h5 : σ.1 p 5 = n0 + vs.length) (hfr : 0 ≤ fr ∧ fr ≤ 10000) (hn0 : 0 ≤ n0 ∧ n0 + vs.length ≤ 10000) (hv : ∀ (k : Nat) (v : Int), vs[k]? = some v → cA σ (fr + n0 + k) = 4 * v) :
    ∀ (m j n : Nat), m + j = vs.length → m < n → (∀ k : Nat, k < j → vs[k]? ≠ some x) → l_S_mayTakeVariable_28 fu p n x (n0 + j) σ = some ((if x ∈ vs then .inl 0 else .inr ()), σ) := by
  intro m
  induction m with
  | zero =>
    intro j n k1 k2 k3
    cases n with
    | zero => omega
    | succ n =>
      have hno : x ∉ vs := fun z => by
        obtain ⟨k, hk⟩ := List.mem_iff_getElem?.mp z
        have := (List.getElem?_eq_some_iff.mp hk).1
        exact k3 k (by omega) hk
      rw [l_S_mayTakeVariable_28, h5, if_neg (by omega), if_neg hno]
  | succ m ih =>
    intro j n k1 k2 k3
    cases n with
    | zero => omega
    | succ n =>
      have hj : j < vs.length := by omega
      have hvj : vs[j]? = some vs[j] := List.getElem?_eq_getElem hj
      rw [l_S_mayTakeVariable_28, h5, if_pos (by omega), h1, ck_t (by omega)]
      unfold f_C_codeAt
      rw [sq_e, show fr + (n0 + (j : Int)) = fr + n0 + j by omega, hv j _ hvj, show 4 * vs[j] / 4 = vs[j] by omega]
      by_cases c : vs[j] = x
      · rw [if_pos c, if_pos (by rw [← c]; exact List.getElem_mem hj)]
      · rw [if_neg c, ck_t (by omega), show n0 + (j : Int) + 1 = n0 + ((j + 1 : Nat) : Int) by omega]
        refine ih (j + 1) n (by omega) (by omega) (fun k hk => ?_)
        by_cases c2 : k = j
        · rw [c2, hvj]; exact fun z => c (Option.some.inj z)
        · exact k3 k (by omega)
theorem s_mtv {O : Op} {pa : Int → Int} {told : Int} {fu : Nat} {σ : SS} {i : Nat} {l : Sl} {x : Int} (hfu : 1000 ≤ fu) (hi : i < 8) (h3 : ar3 O) (hp4 : pa4 pa) (hg : gSl O pa told l) (hc : cSl σ i l) (hd : due l ≠ 0) :
    ∃ w, f_S_mayTakeVariable fu (14 + 2 * i) x σ = some (w, σ) ∧ ((w = 1 ∧ 0 ≤ x ∧ x < l.2.1 + hbl l ∧ (0 < l.2.2.2.1 → x ∉ (lst1 l.2.2.1).2.2)) ∨ (w = 0 ∧ ¬ (0 ≤ x ∧ x < l.2.1 + hbl l ∧ (0 < l.2.2.2.1 → x ∉ (lst1 l.2.2.1).2.2)))) := by
  have hb := hbl_b hg hd
  have hsb := sl_b h3 hp4 hg
  have h6 := hg.2.1
  unfold f_S_mayTakeVariable
  by_cases c0 : x < 0
  · rw [if_pos c0]
    exact ⟨0, rfl, Or.inr ⟨rfl, fun z => by omega⟩⟩
  rw [if_neg c0, s_vhere hg hc hd hsb.1 (by omega), sq_e]
  by_cases c1 : x < l.2.1 + hbl l
  · rw [if_pos c1, s_behind hc, sq_e]
    by_cases cp : 0 < l.2.2.2.1
    · rw [if_pos cp, if_neg (by decide), lb_e]
      obtain ⟨r0, e, j1, j2, j3, j4, j5, j6, j7⟩ := hg.2.2.2.2.2.2.2 cp
      have hl1 : lst1 l.2.2.1 = e := by rw [j1]; exact lst1_snoc r0 e
      have hil := (il_30 hp4 hg).1
      have hile : il l.2.2.1 = il r0 + (1 + e.2.2.length) := by rw [j1, il_append, il_cons]; rfl
      have f8 := (hc.2.2.2.2.2.2.1 cp).1
      rw [hl1] at f8 ⊢
      have hseg := hc.2.2.2.2.2.2.2.2
      rw [j1] at hseg
      have hsp : ∀ {a : Row} {b : Row} {p q : Int}, cseg σ p (a ++ b) q → cseg σ (p + il a) b q := by
        intro a
        induction a with
        | nil => intro b p q h; rw [show p + ((il [] : Nat) : Int) = p from Int.add_zero p]; exact h
        | cons z a ih =>
          intro b p q h
          have := ih h.2.2.2
          rw [il_cons]
          rw [show p + ((1 + z.2.2.length + il a : Nat) : Int) = p + 1 + z.2.2.length + il a by omega]
          exact this
      have hse := hsp hseg
      have hm := s_mtvl (fu := fu) (σ := σ) (p := 14 + 2 * i) (fr := 150 * i) (n0 := il r0 + 1) (x := x) (vs := e.2.2) hc.1 (by rw [hc.2.2.2.1, hile]; omega) (by omega) (by omega) (fun k v hk => by
        have := hse.2.2.1 k v hk
        rw [show 150 * (i : Int) + (il r0 + 1) + k = 150 * i + il r0 + 1 + k by omega]
        exact this) e.2.2.length 0 fu (by omega) (by omega) (fun k hk => by omega)
      rw [show (il r0 : Int) + 1 + ((0 : Nat) : Int) = il l.2.2.1 - e.2.2.length by rw [hile]; omega] at hm
      rw [f8, hm]
      by_cases cx : x ∈ e.2.2
      · rw [if_pos cx]
        exact ⟨0, rfl, Or.inr ⟨rfl, fun z => z.2.2 cp cx⟩⟩
      · rw [if_neg cx]
        exact ⟨1, rfl, Or.inl ⟨rfl, by omega, c1, fun _ => cx⟩⟩
    · rw [if_neg cp, if_pos rfl]
      exact ⟨1, rfl, Or.inl ⟨rfl, by omega, c1, fun z => absurd z cp⟩⟩
  · rw [if_neg c1]
    exact ⟨0, rfl, Or.inr ⟨rfl, fun z => c1 z.2.1⟩⟩
theorem s_mayStand {R : Nat} {fu : Nat} {σ : SS} {d : Dk} {i : Nat} {k x : Int} (hfu : 1000 ≤ fu) (hg : gD R d) (hc : cD σ d) (hi : i < 8) (hd : due (d.2.2.2.2.1 i) ≠ 0) :
    ∃ w, f_H_mayStand fu (14 + 2 * i) k x σ = some (w, σ) ∧ ((w = 1 ∧ fit d.2.1 d.2.2.1 (d.2.2.2.2.1 i) k x) ∨ (w = 0 ∧ ¬ fit d.2.1 d.2.2.1 (d.2.2.2.2.1 i) k x)) := by
  have hs := hg.2.2.1 i hi
  have hcs := hc.2.2.2.1 i hi
  have ht := hc.1.2.2.1
  have hno := hc.2.2.1
  generalize d.2.2.2.2.1 i = l at hd hs hcs
  unfold f_H_mayStand fit
  by_cases k0 : k = 0
  · rw [if_pos k0]
    obtain ⟨w, w1, w2⟩ := s_mtv (x := x) hfu hi hg.1.2.2.2.1 hg.2.1.1.2.2.2.1 hs hcs hd
    rw [w1, sq_e, ck_t (by rcases w2 with z | z <;> omega)]
    refine ⟨w, rfl, ?_⟩
    rcases w2 with ⟨z1, z2, z3, z4⟩ | ⟨z1, z2⟩
    · refine Or.inl ⟨z1, ?_⟩
      by_cases cp : 0 < l.2.2.2.1
      · rw [if_pos cp]; exact ⟨k0, z2, z3, z4 cp⟩
      · rw [if_neg cp]; exact Or.inl ⟨k0, z2, z3⟩
    · refine Or.inr ⟨z1, fun z => z2 ?_⟩
      by_cases cp : 0 < l.2.2.2.1
      · rw [if_pos cp] at z; exact ⟨z.2.1, z.2.2.1, fun _ => z.2.2.2⟩
      · rw [if_neg cp] at z
        rcases z with z | z | z
        · exact ⟨z.2.1, z.2.2, fun w => absurd w cp⟩
        · omega
        · omega
  rw [if_neg k0]
  by_cases k1 : k = 1
  · rw [if_pos k1, s_behind hcs, sq_e]
    by_cases cp : 0 < l.2.2.2.1
    · rw [if_pos cp, if_neg (by decide), if_pos cp]
      exact ⟨0, rfl, Or.inr ⟨rfl, fun z => k0 z.1⟩⟩
    · rw [if_neg cp, if_pos rfl, if_neg cp, hno]
      by_cases c0 : x < 0
      · rw [if_pos c0]
        exact ⟨0, rfl, Or.inr ⟨rfl, fun z => by omega⟩⟩
      · rw [if_neg c0]
        by_cases c1 : x < d.2.1
        · rw [if_pos c1]
          exact ⟨1, rfl, Or.inl ⟨rfl, Or.inr (Or.inl ⟨k1, by omega, c1⟩)⟩⟩
        · rw [if_neg c1]
          exact ⟨0, rfl, Or.inr ⟨rfl, fun z => by omega⟩⟩
  rw [if_neg k1]
  by_cases k2 : k = 2
  · rw [if_pos k2, s_behind hcs, sq_e]
    by_cases cp : 0 < l.2.2.2.1
    · rw [if_pos cp, if_neg (by decide), if_pos cp]
      exact ⟨0, rfl, Or.inr ⟨rfl, fun z => k0 z.1⟩⟩
    · rw [if_neg cp, if_pos rfl, if_neg cp, ht]
      by_cases c0 : x < 0
      · rw [if_pos c0]
        exact ⟨0, rfl, Or.inr ⟨rfl, fun z => by omega⟩⟩
      · rw [if_neg c0]
        by_cases c1 : x < d.2.2.1
        · rw [if_pos c1]
          exact ⟨1, rfl, Or.inl ⟨rfl, Or.inr (Or.inr ⟨k2, by omega, c1⟩)⟩⟩
        · rw [if_neg c1]
          exact ⟨0, rfl, Or.inr ⟨rfl, fun z => by omega⟩⟩
  rw [if_neg k2]
  refine ⟨0, rfl, Or.inr ⟨rfl, fun z => ?_⟩⟩
  by_cases cp : 0 < l.2.2.2.1
  · rw [if_pos cp] at z; exact k0 z.1
  · rw [if_neg cp] at z; omega
theorem s_mostl {O : Op} {fu : Nat} {σ : SS} {f b : Int} (hc : cOp σ O) (hb2 : bd2 O) (hf : 0 ≤ O.1 f) (hb : b ≤ 12) : ∀ (m j n : Nat) (acc : Int), ((m + j : Nat) : Int) = O.1 f → m < n → 0 ≤ acc ∧ acc ≤ 2 → (12 < b + acc ↔ ∃ i, 0 ≤ i ∧ i < (j : Int) ∧ 12 < b + O.2 f i) →
    ∃ w, l_O_mostBound_4 fu n f acc j σ = some (w, σ) ∧ 0 ≤ w ∧ w ≤ 2 ∧ (12 < b + w ↔ wide O b f) := by
  obtain ⟨a1, a2, a3, a4⟩ := hc.1 f hf
  intro m
  induction m with
  | zero =>
    intro j n acc h1 h2 h3 h4
    cases n with
    | zero => omega
    | succ n =>
      rw [l_O_mostBound_4]
      unfold f_O_arityOf
      rw [sq_e, a1, if_neg (by omega)]
      refine ⟨acc, rfl, h3.1, h3.2, h4.trans ?_⟩
      unfold wide
      rw [← h1, Nat.zero_add]
  | succ m ih =>
    intro j n acc h1 h2 h3 h4
    cases n with
    | zero => omega
    | succ n =>
      rw [l_O_mostBound_4]
      unfold f_O_arityOf f_O_boundBy
      have hbd := hb2 f j
      rw [sq_e, a1, if_pos (by omega), ck_t (by omega), ck_t (by omega), sq_e, lb_e, ck_t (by omega), hc.2.1, show (j : Int) + 1 = ((j + 1 : Nat) : Int) by omega]
      refine ih (j + 1) n (mx acc (O.2 f j)) (by omega) (by omega) (by unfold mx; split <;> omega) ?_
      have hmx : 12 < b + mx acc (O.2 f j) ↔ (12 < b + acc ∨ 12 < b + O.2 f j) := by unfold mx; split <;> omega
      rw [hmx, h4]
      constructor
      · rintro (⟨i, g1, g2, g3⟩ | g)
        · exact ⟨i, g1, by omega, g3⟩
        · exact ⟨j, by omega, by omega, g⟩
      · rintro ⟨i, g1, g2, g3⟩
        by_cases c : i = (j : Int)
        · rw [c] at g3; exact Or.inr g3
        · exact Or.inl ⟨i, g1, by omega, g3⟩
theorem s_hasRoom {R : Nat} {fu : Nat} {σ : SS} {d : Dk} {i : Nat} {k x : Int} (hfu : 1000 ≤ fu) (hg : gD R d) (hc : cD σ d) (hi : i < 8) (hd : due (d.2.2.2.2.1 i) ≠ 0) (hf : fit d.2.1 d.2.2.1 (d.2.2.2.2.1 i) k x) :
    ∃ w, f_H_hasRoom fu (14 + 2 * i) k x σ = some (w, σ) ∧ ((w = 1 ∧ room d.1 (d.2.2.2.2.1 i) k x) ∨ (w = 0 ∧ ¬ room d.1 (d.2.2.2.2.1 i) k x)) := by
  have hs := hg.2.2.1 i hi
  have hcs := hc.2.2.2.1 i hi
  have hsb := sl_b hg.1.2.2.2.1 hg.2.1.1.2.2.2.1 hs
  generalize d.2.2.2.2.1 i = l at hd hs hcs hf hsb
  have hb := hbl_b hs hd
  have h6 := hs.2.1
  unfold f_H_hasRoom room
  rw [s_behind hcs, sq_e]
  by_cases cp : 0 < l.2.2.2.1
  · rw [if_pos cp, if_neg (by decide)]
    exact ⟨1, rfl, Or.inl ⟨rfl, Or.inl cp⟩⟩
  · rw [if_neg cp, if_pos rfl, hcs.2.2.2.2.1]
    by_cases c30 : (l.2.2.1.length : Int) < 30
    · rw [if_pos c30]
      by_cases k1 : k = 1
      · have hx : 0 ≤ d.1.1 x := by
          unfold fit at hf
          rw [if_neg cp] at hf
          exact (hg.1.2.2.1 x).mpr (by omega)
        obtain ⟨a1, a2, a3, a4⟩ := hc.2.1.1 x hx
        obtain ⟨w, w1, w2, w3, w4⟩ := s_mostl (fu := fu) (b := l.2.1 + hbl l) hc.2.1 hg.1.2.2.2.2 hx (by omega) (d.1.1 x).toNat 0 fu 0 (by omega) (by omega) (by omega) ⟨fun z => (by omega), fun ⟨i, g1, g2, _⟩ => (by omega)⟩
        rw [if_pos k1, s_vhere hs hcs hd hsb.1 (by omega), sq_e]
        unfold f_O_mostBound
        have w1' : l_O_mostBound_4 fu fu x 0 0 σ = some (w, σ) := w1
        rw [w1', sq_e, sq_e, ck_t (by omega)]
        by_cases cw : 12 < l.2.1 + hbl l + w
        · rw [if_pos cw]
          exact ⟨0, rfl, Or.inr ⟨rfl, fun z => z.elim (fun y => cp y) (fun y => y.2 k1 (w4.mp cw))⟩⟩
        · rw [if_neg cw]
          exact ⟨1, rfl, Or.inl ⟨rfl, Or.inr ⟨by omega, fun _ z => cw (w4.mpr z)⟩⟩⟩
      · rw [if_neg k1]
        exact ⟨1, rfl, Or.inl ⟨rfl, Or.inr ⟨by omega, fun z => absurd z k1⟩⟩⟩
    · rw [if_neg c30]
      exact ⟨0, rfl, Or.inr ⟨rfl, fun z => by omega⟩⟩
