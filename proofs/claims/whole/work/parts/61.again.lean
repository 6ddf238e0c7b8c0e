/-! THE REFERENCE WRITES A ROW OUT -/
def itl (r : Row) : List (Int × Int) := r.flatMap (fun e => (e.2.1, e.1) :: e.2.2.map (fun v => (4 * v, e.1)))
theorem itl_cons (e : AG) (r : Row) : itl (e :: r) = ((e.2.1, e.1) :: e.2.2.map (fun v => (4 * v, e.1))) ++ itl r := List.flatMap_cons
theorem itl_len : ∀ r : Row, (itl r).length = il r := by
  intro r
  induction r with
  | nil => rfl
  | cons e r ih =>
    rw [itl_cons, List.length_append, List.length_cons, List.length_map, ih, il_cons]
    omega
theorem itl_append (a b : Row) : itl (a ++ b) = itl a ++ itl b := List.flatMap_append
theorem rseg_get {σ : SS} {q : Nat} : ∀ {r : Row} {i j : Int}, rseg σ q i r j → ∀ (k : Nat) (x : Int × Int), (itl r)[k]? = some x → σ.2.1 q (i + k) = x.1 := by
  intro r
  induction r with
  | nil => intro i j _ k x hk; cases hk
  | cons e r ih =>
    intro i j h k x hk
    obtain ⟨a, b, c⟩ := h
    rw [itl_cons] at hk
    by_cases c1 : k < 1 + e.2.2.length
    · rw [List.getElem?_append_left (by rw [List.length_cons, List.length_map]; omega)] at hk
      cases k with
      | zero =>
        have hk' : (e.2.1, e.1) = x := Option.some.inj hk
        rw [← hk', show i + ((0 : Nat) : Int) = i from Int.add_zero i]
        exact a
      | succ k =>
        rw [List.getElem?_cons_succ, List.getElem?_map] at hk
        cases hv : e.2.2[k]? with
        | none => rw [hv] at hk; cases hk
        | some v =>
          rw [hv] at hk
          have hk' : (4 * v, e.1) = x := Option.some.inj hk
          rw [← hk', show i + ((k + 1 : Nat) : Int) = i + 1 + k by omega]
          exact b k v hv
    · rw [List.getElem?_append_right (by rw [List.length_cons, List.length_map]; omega), List.length_cons, List.length_map] at hk
      have := ih c (k - (e.2.2.length + 1)) x hk
      rw [← this]
      rw [show i + 1 + (e.2.2.length : Int) + ((k - (e.2.2.length + 1) : Nat) : Int) = i + k by omega]
theorem dseg_get {σ : SS} : ∀ {r : Row} {i : Int}, dseg σ i r → ∀ (k : Nat) (x : Int × Int), (itl r)[k]? = some x → σ.2.1 74 (i + k) = x.2 := by
  intro r
  induction r with
  | nil => intro i _ k x hk; cases hk
  | cons e r ih =>
    intro i h k x hk
    obtain ⟨a, b, c⟩ := h
    rw [itl_cons] at hk
    by_cases c1 : k < 1 + e.2.2.length
    · rw [List.getElem?_append_left (by rw [List.length_cons, List.length_map]; omega)] at hk
      cases k with
      | zero =>
        have hk' : (e.2.1, e.1) = x := Option.some.inj hk
        rw [← hk', show i + ((0 : Nat) : Int) = i from Int.add_zero i]
        exact a
      | succ k =>
        rw [List.getElem?_cons_succ, List.getElem?_map] at hk
        cases hv : e.2.2[k]? with
        | none => rw [hv] at hk; cases hk
        | some v =>
          rw [hv] at hk
          have hk' : (4 * v, e.1) = x := Option.some.inj hk
          rw [← hk', show i + ((k + 1 : Nat) : Int) = i + 1 + k by omega]
          exact b k (List.getElem?_eq_some_iff.mp hv).1
    · rw [List.getElem?_append_right (by rw [List.length_cons, List.length_map]; omega), List.length_cons, List.length_map] at hk
      have := ih c (k - (e.2.2.length + 1)) x hk
      rw [← this]
      rw [show i + 1 + (e.2.2.length : Int) + ((k - (e.2.2.length + 1) : Nat) : Int) = i + k by omega]
theorem rseg_of {σ : SS} {q : Nat} : ∀ {r : Row} {i j : Int}, j = i + il r → (∀ (k : Nat) (x : Int × Int), (itl r)[k]? = some x → σ.2.1 q (i + k) = x.1) → rseg σ q i r j := by
  intro r
  induction r with
  | nil => intro i j h _; rw [show il [] = 0 from rfl] at h; show i = j; omega
  | cons e r ih =>
    intro i j hj h
    rw [il_cons] at hj
    rw [itl_cons] at h
    refine ⟨?_, fun k v hv => ?_, ih (by omega) (fun k x hk => ?_)⟩
    · have := h 0 (e.2.1, e.1) rfl
      rw [show i + ((0 : Nat) : Int) = i from Int.add_zero i] at this
      exact this
    · have hl := (List.getElem?_eq_some_iff.mp hv).1
      have := h (k + 1) (4 * v, e.1) (by rw [List.getElem?_append_left (by rw [List.length_cons, List.length_map]; omega), List.getElem?_cons_succ, List.getElem?_map, hv]; rfl)
      rw [show i + 1 + (k : Int) = i + ((k + 1 : Nat) : Int) by omega]
      exact this
    · have := h (e.2.2.length + 1 + k) x (by rw [List.getElem?_append_right (by rw [List.length_cons, List.length_map]; omega), List.length_cons, List.length_map, Nat.add_sub_cancel_left]; exact hk)
      rw [← this]
      rw [show i + 1 + (e.2.2.length : Int) + (k : Int) = i + ((e.2.2.length + 1 + k : Nat) : Int) by omega]
/-- an item of a filling as one of the row -/
def gI (φ : Int → Int) (x : Int × Int) : Int := if x.1 % 4 = 0 then 4 * tV φ x.2 (x.1 / 4) else x.1
theorem itl_sub {β : Int} {φ : Int → Int} : ∀ r : Row, itl (r.map (tS β φ)) = (itl r).map (fun x => (gI φ x, β + x.2)) := by
  intro r
  induction r with
  | nil => rfl
  | cons e r ih =>
    rw [List.map_cons, itl_cons, itl_cons, ih, List.map_append, List.map_cons, List.map_map]
    congr 1
    congr 1
    show (e.2.2.map (tV φ e.1)).map (fun v => (4 * v, β + e.1)) = _
    rw [List.map_map]
    refine List.map_congr_left (fun v _ => ?_)
    show (4 * tV φ e.1 v, β + e.1) = (gI φ (4 * v, e.1), β + e.1)
    unfold gI
    dsimp only
    rw [if_pos (by omega), show 4 * v / 4 = v by omega]
theorem itl_mem {r : Row} {x : Int × Int} (h : x ∈ itl r) : ∃ e ∈ r, x.2 = e.1 ∧ (x.1 = e.2.1 ∨ ∃ v ∈ e.2.2, x.1 = 4 * v) := by
  obtain ⟨e, he, hx⟩ := List.mem_flatMap.mp h
  rcases List.mem_cons.mp hx with z | z
  · exact ⟨e, he, by rw [z], Or.inl (by rw [z])⟩
  · obtain ⟨v, hv, rfl⟩ := List.mem_map.mp z
    exact ⟨e, he, rfl, Or.inr ⟨v, hv, rfl⟩⟩
/-- a filling is copied with the row's variables for its free ones -/
theorem s_ag188 {fu q : Nat} {l : List (Int × Int)} {vs : List Int} {x2 x4 k0 h out : Int} (hq : q = 71 ∨ q = 72) (hh : 0 ≤ h ∧ h < 324) (hk0 : 0 ≤ k0) (hk1 : k0 + 1 + vs.length ≤ 16384) (hl : l.length ≤ 400) (ho : 0 ≤ out) (ho2 : out + l.length ≤ 16384) (hlv : ∀ x ∈ l, 0 ≤ x.1 ∧ x.1 ≤ 1000000 ∧ 0 ≤ x.2 ∧ x.2 ≤ 10000 ∧ (x.1 % 4 = 0 → x.1 / 4 < x.2 + vs.length)) (hvs : ∀ v ∈ vs, 0 ≤ v ∧ v ≤ 1000000) :
    ∀ (m j n : Nat) (σ : SS), m + j = l.length → m < n → σ.2.1 59 h = (l.length : Int) → (∀ (k : Nat) (x : Int × Int), l[k]? = some x → σ.2.1 60 (400 * h + k) = x.1 ∧ σ.2.1 74 k = x.2) → (∀ (k : Nat) (v : Int), vs[k]? = some v → σ.2.1 q (k0 + 1 + k) = 4 * v) → (∀ (k : Nat) (x : Int × Int), k < j → l[k]? = some x → σ.2.1 73 (out + k) = gI (tI vs) x) →
    Wp (l_D_again_188 fu q n x2 (out + j) x4 k0 h j σ) (fun z τ => z = out + l.length ∧ fx (jst 73) σ τ ∧ (∀ k : Int, k < out → τ.2.1 73 k = σ.2.1 73 k) ∧ ∀ (k : Nat) (x : Int × Int), l[k]? = some x → τ.2.1 73 (out + k) = gI (tI vs) x) := by
  intro m
  induction m with
  | zero =>
    intro j n σ h1 h2 h3 h4 h5 h6
    cases n with
    | zero => omega
    | succ n =>
      rw [l_D_again_188]
      refine wp_ck ⟨hh.1, hh.2⟩ (wp_f (by omega) (wp_some ⟨by omega, fx_rf, fun _ _ => rfl, fun k x hk => h6 k x ?_ hk⟩))
      have := (List.getElem?_eq_some_iff.mp hk).1
      omega
  | succ m ih =>
    intro j n σ h1 h2 h3 h4 h5 h6
    cases n with
    | zero => omega
    | succ n =>
      rw [l_D_again_188]
      have hj : j < l.length := by omega
      have hlj : l[j]? = some l[j] := List.getElem?_eq_getElem hj
      obtain ⟨g1, g2⟩ := h4 j _ hlj
      obtain ⟨b1, b2, b3, b4, b5⟩ := hlv l[j] (List.getElem_mem hj)
      refine wp_ck ⟨hh.1, hh.2⟩ (wp_t (by omega) (wp_ck (by omega) (wp_ck (by omega) (wp_ck ⟨by omega, by omega⟩ ?_))))
      rw [g1, g2]
      refine wp_lx (wp_ck ⟨by omega, by omega⟩ (wp_ck (by omega) (wp_lx ?_)))
      refine wp_sq (R := fun z τ => z = gI (tI vs) l[j] ∧ τ = σ) ?_ ?_
      · by_cases c0 : l[j].1 % 4 = 0
        · have hgi : gI (tI vs) l[j] = 4 * tV (tI vs) l[j].2 (l[j].1 / 4) := if_pos c0
          rw [hgi]
          have b5' := b5 c0
          by_cases cn : l[j].1 / 4 - l[j].2 < 0
          · refine wp_t c0 (wp_t cn (wp_some ⟨?_, rfl⟩))
            rw [tV_lt (by omega)]
            omega
          · have hvl : (l[j].1 / 4 - l[j].2).toNat < vs.length := by omega
            have hvv := List.getElem?_eq_getElem hvl
            have hrd := h5 _ _ hvv
            have hvb := hvs _ (List.getElem_mem hvl)
            have hti : tI vs (l[j].1 / 4 - l[j].2) = vs[(l[j].1 / 4 - l[j].2).toNat] := by
              unfold tI
              rw [List.getD_eq_getElem?_getD, hvv]
              rfl
            rw [show k0 + 1 + (((l[j].1 / 4 - l[j].2).toNat : Nat) : Int) = k0 + 1 + (l[j].1 / 4 - l[j].2) by omega] at hrd
            refine wp_t c0 (wp_f cn (wp_ck (by omega) (wp_ck (by omega) (wp_ck ⟨by omega, by omega⟩ (wp_ck ⟨by omega, by omega⟩ ?_)))))
            rw [hrd, show 4 * vs[(l[j].1 / 4 - l[j].2).toNat] / 4 = vs[(l[j].1 / 4 - l[j].2).toNat] by omega]
            refine wp_ck (by omega) (wp_ck (by omega) (wp_some ⟨?_, rfl⟩))
            rw [tV_ge (by omega), hti]
        · exact wp_f c0 (wp_some ⟨(if_neg c0).symm, rfl⟩)
      · rintro z τ ⟨rfl, rfl⟩
        refine wp_ck ⟨by omega, by omega⟩ (wp_lb (fun σ27 e27 => wp_ck (by omega) (wp_ck (by omega) ?_)))
        have hx : fx (jst 73) τ σ27 := by rw [e27]; exact fx_A fx_rf rfl
        have n73 : ∀ a, a ≠ 73 → ¬ jst 73 a := fun a h z => h z
        rw [show (j : Int) + 1 = ((j + 1 : Nat) : Int) by omega, show out + (j : Int) + 1 = out + ((j + 1 : Nat) : Int) by omega]
        have h9 := ih (j + 1) n σ27 (by omega) (by omega) (by rw [fx_a hx (n73 59 (by omega))]; exact h3) (fun k x hk => by rw [fx_a hx (n73 60 (by omega)), fx_a hx (n73 74 (by omega))]; exact h4 k x hk) (fun k v hk => by rw [fx_a hx (n73 q (by omega))]; exact h5 k v hk) (fun k x hk hx2 => by
          rw [e27]
          by_cases c : k = j
          · subst c
            rw [hlj] at hx2
            cases hx2
            exact sA_same _ _ _ _
          · rw [sA_other (by omega)]
            exact h6 k x (by omega) hx2)
        refine wp_mono h9 (fun z υ k => ⟨k.1, fx_tr hx k.2.1, fun m hm => ?_, k.2.2.2⟩)
        rw [k.2.2.1 m hm, e27]
        exact sA_other (by omega)
/-- a group that stays is copied -/
theorem s_ag59 {fu q : Nat} {vs : List Int} {x2 x4 k0 out c h : Int} (hq : q = 71 ∨ q = 72) (hk0 : 0 ≤ k0) (hk1 : k0 + 1 + vs.length ≤ 16384) (ho : 0 ≤ out) (ho2 : out + vs.length ≤ 16384) (hc : c % 4 = 2 → 0 ≤ h ∧ h < 324) (hv0 : c % 4 ≠ 2 → vs = []) :
    ∀ (m j n : Nat) (σ : SS), m + j = vs.length → m < n → σ.2.1 q k0 = c → (c % 4 = 2 → σ.2.1 58 h = (vs.length : Int)) → (∀ (k : Nat) (v : Int), vs[k]? = some v → σ.2.1 q (k0 + 1 + k) = 4 * v) → (∀ (k : Nat) (v : Int), k < j → vs[k]? = some v → σ.2.1 73 (out + k) = 4 * v) →
    Wp (l_D_again_59 fu q n x2 out x4 k0 h j σ) (fun _ τ => fx (jst 73) σ τ ∧ (∀ k : Int, k < out → τ.2.1 73 k = σ.2.1 73 k) ∧ ∀ (k : Nat) (v : Int), vs[k]? = some v → τ.2.1 73 (out + k) = 4 * v) := by
  intro m
  induction m with
  | zero =>
    intro j n σ h1 h2 h3 h4 h5 h6
    cases n with
    | zero => omega
    | succ n =>
      rw [l_D_again_59]
      have done : ∀ (k : Nat) (v : Int), vs[k]? = some v → σ.2.1 73 (out + k) = 4 * v := fun k v hk => h6 k v (by have := (List.getElem?_eq_some_iff.mp hk).1; omega) hk
      refine wp_ck ⟨by omega, by omega⟩ ?_
      rw [h3]
      by_cases c2 : c % 4 = 2
      · have := h4 c2
        exact wp_t c2 (wp_ck ⟨(hc c2).1, (hc c2).2⟩ (wp_f (by omega) (wp_some ⟨fx_rf, fun _ _ => rfl, done⟩)))
      · exact wp_f c2 (wp_some ⟨fx_rf, fun _ _ => rfl, done⟩)
  | succ m ih =>
    intro j n σ h1 h2 h3 h4 h5 h6
    cases n with
    | zero => omega
    | succ n =>
      rw [l_D_again_59]
      have c2 : c % 4 = 2 := by
        apply Decidable.byContradiction
        intro z
        rw [hv0 z] at h1
        have : m + 1 + j = 0 := h1
        omega
      have h58 := h4 c2
      have hj : j < vs.length := by omega
      have hvj : vs[j]? = some vs[j] := List.getElem?_eq_getElem hj
      refine wp_ck ⟨by omega, by omega⟩ ?_
      rw [h3]
      refine wp_t c2 (wp_ck ⟨(hc c2).1, (hc c2).2⟩ (wp_t (by omega) (wp_ck (by omega) (wp_ck (by omega) (wp_ck (by omega) (wp_ck ⟨by omega, by omega⟩ (wp_ck ⟨by omega, by omega⟩ (wp_lb (fun σ11 e11 => wp_ck (by omega) ?_)))))))))
      rw [h5 j _ hvj] at e11
      have hx : fx (jst 73) σ σ11 := by rw [e11]; exact fx_A fx_rf rfl
      have n73 : ∀ a, a ≠ 73 → ¬ jst 73 a := fun a h z => h z
      rw [show (j : Int) + 1 = ((j + 1 : Nat) : Int) by omega]
      have h9 := ih (j + 1) n σ11 (by omega) (by omega) (by rw [fx_a hx (n73 q (by omega))]; exact h3) (fun c2 => by rw [fx_a hx (n73 58 (by omega))]; exact h4 c2) (fun k v hk => by rw [fx_a hx (n73 q (by omega))]; exact h5 k v hk) (fun k v hk hk2 => by
        rw [e11]
        by_cases c : k = j
        · subst c
          rw [hvj] at hk2
          cases hk2
          exact sA_same _ _ _ _
        · rw [sA_other (by omega)]
          exact h6 k v (by omega) hk2)
      refine wp_mono h9 (fun z υ k => ⟨fx_tr hx k.1, fun m hm => ?_, k.2.2⟩)
      rw [k.2.1 m hm, e11]
      exact sA_other (by omega)
/-- holes as the reference holds them -/
def rHol (σ : SS) (pa : Int → Int) (Φ : Fl) : Prop := ∀ h, 0 ≤ pa h → 0 ≤ h ∧ h < 324 ∧ σ.2.1 58 h = pa h ∧ (Φ h = none → σ.2.1 61 h = 0) ∧ ∀ F, Φ h = some F → σ.2.1 61 h ≠ 0 ∧ σ.2.1 59 h = (il F : Int) ∧ rseg σ 60 (400 * h) F (400 * h + il F)
theorem rHol_fx {X : Nat → Prop} {σ τ : SS} {pa : Int → Int} {Φ : Fl} (h : fx X σ τ) (h1 : ∀ a, 58 ≤ a → a ≤ 61 → ¬ X a) (k : rHol σ pa Φ) : rHol τ pa Φ := by
  intro g hg
  obtain ⟨a, b, c, d, e⟩ := k g hg
  rw [fx_a h (h1 58 (by omega) (by omega)), fx_a h (h1 61 (by omega) (by omega)), fx_a h (h1 59 (by omega) (by omega))]
  exact ⟨a, b, c, d, fun F hF => ⟨(e F hF).1, (e F hF).2.1, rseg_fx h (h1 60 (by omega) (by omega)) (e F hF).2.2⟩⟩
theorem tR_opks {O : Op} : ∀ {r : Row} {S S' : List Int}, tR O r S = some S' → ∀ e ∈ r, opk O e := by
  intro r
  induction r with
  | nil => intro S S' _ e he; cases he
  | cons a r ih =>
    intro S S' h e he
    rcases List.mem_cons.mp he with z | z
    · rw [z]; exact tR_opk h
    · obtain ⟨T, -, h2⟩ := tR_inv h
      exact ih h2 e z
theorem rpa_of {O : Op} {σ : SS} {pa : Int → Int} {Φ : Fl} {n : Int} {r : Row} (hn : n ≤ 1000) (ho : rOp σ O) (hH : rHol σ pa Φ) (hp4 : pa4 pa) (hr : okR pa n r) (hk : ∀ e ∈ r, opk O e) (hb : ∀ e ∈ r, e.1 ≤ 10000) : rpa σ r := by
  intro e he
  obtain ⟨k1, k2, k3, k4, k5, k6, k7, k8⟩ := hr e he
  have h1 := hb e he
  have hhole : e.2.1 % 4 = 2 → 0 ≤ e.2.1 / 4 ∧ e.2.1 / 4 < 324 ∧ σ.2.1 58 (e.2.1 / 4) = (e.2.2.length : Int) := by
    intro c
    have h2 := k6 c
    obtain ⟨a, b, d, -, -⟩ := hH (e.2.1 / 4) (by omega)
    exact ⟨a, b, by rw [d, h2]⟩
  refine ⟨hhole, k7, k2, ?_, ?_, fun v hv => by have := k5 v hv; omega⟩
  · by_cases c0 : e.2.1 % 4 = 0
    · have := k4 c0; omega
    · by_cases c1 : e.2.1 % 4 = 1
      · have h9 : 0 ≤ O.1 (e.2.1 / 4) := (hk e he).elim (fun z => absurd c1 z) id
        have := ho _ h9
        omega
      · have := hhole (by omega)
        omega
  · by_cases c : e.2.1 % 4 = 2
    · have := k6 c
      have := hp4 (e.2.1 / 4)
      omega
    · rw [k7 c]; exact Nat.zero_le _
def XG : Nat → Prop := fun a => 73 ≤ a ∧ a ≤ 75
theorem s_ag8 {O : Op} {fu q : Nat} {told N : Int} {s : St} {len : Int} (hq : q = 71 ∨ q = 72) (hfu : 3100 ≤ fu) (hb2 : bd2 O) (hs : sOk O told s) (hlen : len ≤ 16384) :
    ∀ (r : Row) (n : Nat) (D : Row) (x4 i : Int) (σ : SS), rseg σ q i r len → 0 ≤ i → r.length < n → rOp σ O → rHol σ s.1 s.2.1 → rpa σ r → okR s.1 N r → rseg σ 73 0 D (il D) → (il (D ++ tE s.2.1 r) : Int) ≤ 16384 →
    Wp (l_D_again_8 fu q n len (il D) x4 i σ) (fun z τ => fx XG σ τ ∧ z.1 = (il (D ++ tE s.2.1 r) : Int) ∧ rseg τ 73 0 (D ++ tE s.2.1 r) (il (D ++ tE s.2.1 r)) ∧ ((nof s.2.1 r ∧ z.2 = x4) ∨ (¬ nof s.2.1 r ∧ z.2 = 1))) := by
  intro r
  induction r with
  | nil =>
    intro n D x4 i σ hr hi hn ho hH hp hok hD hcap
    cases n with
    | zero => omega
    | succ n =>
      have h0 : i = len := hr
      rw [l_D_again_8]
      rw [show tE s.2.1 [] = [] from rfl, List.append_nil] at hcap ⊢
      exact wp_f (by omega) (wp_some ⟨fx_rf, rfl, hD, Or.inl ⟨fun e he => absurd he List.not_mem_nil, rfl⟩⟩)
  | cons e r ih =>
    intro n D x4 i σ hr hi hn ho hH hp hok hD hcap
    cases n with
    | zero => omega
    | succ n =>
      have hle := rseg_le hr
      rw [il_cons] at hle
      obtain ⟨r1, r2, r3⟩ := hr
      obtain ⟨p1, p2, p3, p4, p5, p6⟩ := hp e List.mem_cons_self
      have htE : tE s.2.1 (e :: r) = tX s.2.1 e ++ tE s.2.1 r := List.flatMap_cons
      rw [htE, ← List.append_assoc] at hcap ⊢
      have hcap1 : (il (D ++ tX s.2.1 e) : Int) ≤ 16384 := by rw [il_append] at hcap; omega
      rw [List.length_cons] at hn
      -- behind a group
      have cont : ∀ (x5 : Int) (σ94 : SS), fx XG σ σ94 → rseg σ94 73 0 (D ++ tX s.2.1 e) (il (D ++ tX s.2.1 e)) → ((¬ isF s.2.1 e ∧ x5 = x4) ∨ (isF s.2.1 e ∧ x5 = 1)) →
          Wp (ck (rng (i + (e.2.2.length : Int) + 1)) (l_D_again_8 fu q n len (il (D ++ tX s.2.1 e)) x5 (i + (e.2.2.length : Int) + 1) σ94)) (fun z τ => fx XG σ τ ∧ z.1 = (il (D ++ tX s.2.1 e ++ tE s.2.1 r) : Int) ∧ rseg τ 73 0 (D ++ tX s.2.1 e ++ tE s.2.1 r) (il (D ++ tX s.2.1 e ++ tE s.2.1 r)) ∧ ((nof s.2.1 (e :: r) ∧ z.2 = x4) ∨ (¬ nof s.2.1 (e :: r) ∧ z.2 = 1))) := by
        intro x5 σ94 hx hd h5
        have nG : ∀ a, (a < 73 ∨ 75 < a) → ¬ XG a := fun a ha z => by unfold XG at z; omega
        refine wp_ck (by omega) ?_
        rw [show i + (e.2.2.length : Int) + 1 = i + 1 + e.2.2.length by omega]
        have h9 := ih n (D ++ tX s.2.1 e) x5 (i + 1 + e.2.2.length) σ94 (rseg_fx hx (nG q (by omega)) r3) (by omega) (by omega) (rOp_fx hx (nG 56 (by omega)) (nG 57 (by omega)) ho) (rHol_fx hx (fun a h1 h2 => nG a (by omega)) hH) (rpa_fx hx (nG 58 (by omega)) (rpa_tl hp)) (fun x hx => hok x (List.mem_cons_of_mem _ hx)) hd hcap
        refine wp_mono h9 (fun z τ k => ⟨fx_tr hx k.1, k.2.1, k.2.2.1, ?_⟩)
        have hnc : nof s.2.1 (e :: r) ↔ ¬ isF s.2.1 e ∧ nof s.2.1 r := ⟨fun z => ⟨z e List.mem_cons_self, fun x hx => z x (List.mem_cons_of_mem _ hx)⟩, fun z x hx => (List.mem_cons.mp hx).elim (fun w => by rw [w]; exact z.1) (fun w => z.2 x w)⟩
        rcases h5 with ⟨c1, c2⟩ | ⟨c1, c2⟩
        · rcases k.2.2.2 with ⟨d1, d2⟩ | ⟨d1, d2⟩
          · exact Or.inl ⟨hnc.mpr ⟨c1, d1⟩, d2.trans c2⟩
          · exact Or.inr ⟨fun z => d1 (hnc.mp z).2, d2⟩
        · rcases k.2.2.2 with ⟨d1, d2⟩ | ⟨d1, d2⟩
          · exact Or.inr ⟨fun z => (hnc.mp z).1 c1, d2.trans c2⟩
          · exact Or.inr ⟨fun z => d1 (hnc.mp z).2, d2⟩
      rw [l_D_again_8]
      refine wp_t (by omega) (wp_ck ⟨by omega, by omega⟩ ?_)
      rw [r1]
      refine wp_lx (wp_ck ⟨by omega, by omega⟩ ?_)
      -- the group stays
      have stay : ¬ isF s.2.1 e → Wp (ck (inb 16384 i) (ck (inb 16384 (il D : Int)) (lb (sA σ 73 (il D) e.2.1) fun σ12 => ck (rng ((il D : Int) + 1)) (sq (l_D_again_59 fu q fu len ((il D : Int) + 1) x4 i (e.2.1 / 4) 0 σ12) fun (z16 : Unit) σ17 => ck (inb 16384 i) (sq (if ((σ17.2.1 q i) % 4) = 2 then (ck (inb 324 (e.2.1 / 4)) (some ((σ17.2.1 58 (e.2.1 / 4)), σ17))) else (some (0, σ17))) fun (z24 : Int) σ25 => ck (rng (((il D : Int) + 1) + z24)) (lb (((il D : Int) + 1) + z24) fun y30 => ck (inb 16384 i) (sq (if ((σ25.2.1 q i) % 4) = 2 then (ck (inb 324 (e.2.1 / 4)) (some ((σ25.2.1 58 (e.2.1 / 4)), σ25))) else (some (0, σ25))) fun (z35 : Int) σ36 => ck (rng (i + z35)) (lb (i + z35) fun y41 => some ((y30, x4, y41), σ36))))))))) (fun z τ => z = ((il (D ++ tX s.2.1 e) : Int), x4, i + (e.2.2.length : Int)) ∧ fx XG σ τ ∧ rseg τ 73 0 (D ++ tX s.2.1 e) (il (D ++ tX s.2.1 e))) := by
        intro hnf
        have htX : tX s.2.1 e = [e] := tX_nof hnf
        rw [htX] at hcap1 ⊢
        have hil : il (D ++ [e]) = il D + (1 + e.2.2.length) := by rw [il_append, il_cons]; rfl
        have n73 : ∀ a, a ≠ 73 → ¬ jst 73 a := fun a h z => h z
        refine wp_ck ⟨by omega, by omega⟩ (wp_ck ⟨by omega, by omega⟩ (wp_lb (fun σ12 e12 => wp_ck (by omega) ?_)))
        have x12 : fx (jst 73) σ σ12 := by rw [e12]; exact fx_A fx_rf rfl
        have h58 : ∀ τ, fx (jst 73) σ τ → e.2.1 % 4 = 2 → τ.2.1 58 (e.2.1 / 4) = (e.2.2.length : Int) := fun τ hx c => by rw [fx_a hx (n73 58 (by omega))]; exact (p1 c).2.2
        have h59 := s_ag59 (fu := fu) (q := q) (vs := e.2.2) (x2 := len) (x4 := x4) (k0 := i) (out := (il D : Int) + 1) (c := e.2.1) (h := e.2.1 / 4) hq hi (by omega) (by omega) (by omega) (fun c => ⟨(p1 c).1, (p1 c).2.1⟩) p2 e.2.2.length 0 fu σ12 (by omega) (by omega) (by rw [fx_a x12 (n73 q (by omega))]; exact r1) (h58 σ12 x12) (fun k v hk => by rw [fx_a x12 (n73 q (by omega))]; exact r2 k v hk) (fun k v hk => by omega)
        refine wp_sq h59 ?_
        rintro - σ17 ⟨y1, y2, y3⟩
        have x17 : fx (jst 73) σ σ17 := fx_tr x12 y1
        have hq17 : σ17.2.1 q i = e.2.1 := by rw [fx_a x17 (n73 q (by omega))]; exact r1
        have hln : Wp (if ((σ17.2.1 q i) % 4) = 2 then (ck (inb 324 (e.2.1 / 4)) (some ((σ17.2.1 58 (e.2.1 / 4)), σ17))) else (some (0, σ17))) (fun z τ => z = (e.2.2.length : Int) ∧ τ = σ17) := by
          rw [hq17]
          by_cases c : e.2.1 % 4 = 2
          · exact wp_t c (wp_ck ⟨(p1 c).1, (p1 c).2.1⟩ (wp_some ⟨h58 σ17 x17 c, rfl⟩))
          · exact wp_f c (wp_some ⟨by rw [p2 c]; rfl, rfl⟩)
        refine wp_ck ⟨by omega, by omega⟩ (wp_sq hln ?_)
        rintro z τ ⟨rfl, rfl⟩
        refine wp_ck (by omega) (wp_lx (wp_ck ⟨by omega, by omega⟩ (wp_sq hln ?_)))
        rintro z τ2 ⟨rfl, rfl⟩
        refine wp_ck (by omega) (wp_lx (wp_some ⟨?_, fx_mono x17 (fun a z => by have : a = 73 := z; unfold XG; omega), ?_⟩))
        · rw [hil]
          show ((il D : Int) + 1 + (e.2.2.length : Int), x4, i + (e.2.2.length : Int)) = _
          congr 1
          omega
        · refine rseg_append (j := (il D : Int)) (rseg_eq (σ := σ) (fun k h1 h2 => ?_) rfl hD) ⟨?_, fun k v hk => ?_, ?_⟩
          · rw [y2 _ (by omega), e12]
            exact sA_other (by omega)
          · rw [y2 _ (by omega), e12]
            exact sA_same _ _ _ _
          · exact y3 k v hk
          · show (il D : Int) + 1 + (e.2.2.length : Int) = _
            rw [hil]
            omega
      by_cases ch : e.2.1 % 4 = 2
      · obtain ⟨q1, q2, q3⟩ := p1 ch
        have hpl := (hok e List.mem_cons_self).2.2.2.2.2.1 ch
        have hpe : 0 ≤ s.1 (e.2.1 / 4) := by have := (hok e List.mem_cons_self).2.2.2.2.2.1 ch; omega
        cases hΦ : s.2.1 (e.2.1 / 4) with
        | none =>
          have hnf : ¬ isF s.2.1 e := fun z => by obtain ⟨-, F, hF⟩ := z; rw [hΦ] at hF; cases hF
          refine wp_sq (wp_t ch (wp_ck ⟨q1, q2⟩ (wp_t ((hH _ hpe).2.2.2.1 hΦ) (stay hnf)))) ?_
          rintro z σ94 ⟨rfl, x94, s94⟩
          exact cont x4 σ94 x94 s94 (Or.inl ⟨hnf, rfl⟩)
        | some F =>
          have hif : isF s.2.1 e := ⟨ch, F, hΦ⟩
          obtain ⟨g1, g2, g3⟩ := (hH _ hpe).2.2.2.2 F hΦ
          have hF80 := hs.2.2.2.2.2.2.2.2.2 _ F hΦ
          have hokF := hs.1 _ F hΦ
          have hwF := hs.2.1 _ F hΦ
          have h4p := hs.2.2.2.1 (e.2.1 / 4)
          have hFb := tR_bnd hb2 (lo := 0) (hi := 0) (fun z hz => by cases List.mem_singleton.mp hz; omega) hwF
          have hilF := il_le (O := O) hs.2.2.2.1 hokF
          have hpF : rpa σ F := rpa_of (n := s.1 (e.2.1 / 4)) (by omega) ho hH hs.2.2.2.1 hokF (tR_opks hwF) (fun f hf => by have := hFb f hf; omega)
          have htX : tX s.2.1 e = F.map (tS e.1 (tI e.2.2)) := by unfold tX; rw [if_pos ch, hΦ]
          have hitX : itl (tX s.2.1 e) = (itl F).map (fun x => (gI (tI e.2.2) x, e.1 + x.2)) := by rw [htX, itl_sub]
          have hilX : il (tX s.2.1 e) = il F := by rw [← itl_len, hitX, List.length_map, itl_len]
          have hilD : il (D ++ tX s.2.1 e) = il D + il F := by rw [il_append, hilX]
          refine wp_sq (R := fun z τ => z = ((il (D ++ tX s.2.1 e) : Int), (1 : Int), i + (e.2.2.length : Int)) ∧ fx XG σ τ ∧ rseg τ 73 0 (D ++ tX s.2.1 e) (il (D ++ tX s.2.1 e))) (wp_t ch (wp_ck ⟨q1, q2⟩ (wp_f g1 (wp_ck (by omega) (wp_ck ⟨q1, q2⟩ ?_))))) ?_
          · rw [g2]
            refine wp_sq (s_measr (O := O) (b := 0) (by decide) hfu hb2 (by omega) (by omega) (by omega) (by omega) g3 hwF (by omega) ho hpF) ?_
            rintro - σ46 ⟨m1, m2⟩
            have n74 : ∀ a, a ≠ 74 → a ≠ 75 → ¬ X74 a := fun a h1 h2 z => z.elim h1 h2
            have h188 := s_ag188 (fu := fu) (q := q) (l := itl F) (vs := e.2.2) (x2 := len) (x4 := 1) (k0 := i) (h := e.2.1 / 4) (out := (il D : Int)) hq ⟨q1, q2⟩ hi (by omega) (by rw [itl_len]; omega) (by omega) (by rw [itl_len]; omega) (fun x hx => by
              obtain ⟨f, hf, w1, w2⟩ := itl_mem hx
              have k1 := hFb f hf
              obtain ⟨-, -, k2, k3, -, k5⟩ := hpF f hf
              obtain ⟨-, -, -, k6, k7, -⟩ := hokF f hf
              rcases w2 with w2 | ⟨v, hv, w2⟩
              · refine ⟨by omega, by omega, by omega, by omega, fun c => ?_⟩
                rw [w2] at c ⊢
                have := k6 c
                omega
              · have k8 := k7 v hv
                refine ⟨by omega, by omega, by omega, by omega, fun c => ?_⟩
                omega) p6 (itl F).length 0 fu σ46 (by omega) (by rw [itl_len]; omega) (by rw [fx_a m1 (n74 59 (by omega) (by omega)), itl_len]; exact g2) (fun k x hk => ⟨by rw [fx_a m1 (n74 60 (by omega) (by omega))]; exact rseg_get g3 k x hk, by have := dseg_get m2 k x hk; rw [Int.zero_add] at this; exact this⟩) (fun k v hk => by rw [fx_a m1 (n74 q (by omega) (by omega))]; exact r2 k v hk) (fun k x hk => by omega)
            rw [show (il D : Int) + ((0 : Nat) : Int) = il D from Int.add_zero _] at h188
            refine wp_sq h188 ?_
            rintro z σ51 ⟨rfl, y1, y2, y3⟩
            have n73 : ∀ a, a ≠ 73 → ¬ jst 73 a := fun a h z => h z
            have h58 : σ51.2.1 58 (e.2.1 / 4) = (e.2.2.length : Int) := by rw [fx_a y1 (n73 58 (by omega)), fx_a m1 (n74 58 (by omega) (by omega))]; exact q3
            refine wp_ck ⟨q1, q2⟩ ?_
            rw [h58]
            refine wp_ck (by omega) (wp_lx (wp_some ⟨?_, ?_, ?_⟩))
            · rw [hilD, itl_len]
              show ((il D : Int) + (il F : Int), (1 : Int), i + (e.2.2.length : Int)) = _
              congr 1
            · exact fx_tr (fx_mono m1 (fun a z => by unfold X74 at z; unfold XG; omega)) (fx_mono y1 (fun a z => by have : a = 73 := z; unfold XG; omega))
            · refine rseg_append (j := (il D : Int)) (rseg_eq (σ := σ) (fun k h1 h2 => ?_) rfl hD) (rseg_of (by rw [hilD, hilX]; omega) (fun k x hk => ?_))
              · rw [y2 _ (by omega), fx_a m1 (n74 73 (by omega) (by omega))]
              · rw [hitX, List.getElem?_map] at hk
                cases hz : (itl F)[k]? with
                | none => rw [hz] at hk; cases hk
                | some y =>
                  rw [hz] at hk
                  have hk' : (gI (tI e.2.2) y, e.1 + y.2) = x := Option.some.inj hk
                  rw [← hk']
                  exact y3 k y hz
          · rintro z σ94 ⟨rfl, x94, s94⟩
            exact cont 1 σ94 x94 s94 (Or.inr ⟨hif, rfl⟩)
      · have hnf : ¬ isF s.2.1 e := fun z => ch z.1
        refine wp_sq (wp_f ch (stay hnf)) ?_
        rintro z σ94 ⟨rfl, x94, s94⟩
        exact cont x4 σ94 x94 s94 (Or.inl ⟨hnf, rfl⟩)
