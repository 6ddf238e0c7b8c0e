/-! THE REFERENCE ADMITS A TERM -/
def sh (β : Int) (e : AG) : AG := (e.1 - β, e.2.1, e.2.2)
theorem tP_sh (O : Op) (β : Int) (e : AG) : tP O (sh β e) = (tP O e).map (fun z => z - β) := by
  unfold tP sh
  dsimp only
  split
  · rw [List.map_map]
    refine List.map_congr_left (fun i _ => ?_)
    show e.1 - β + _ = (e.1 + _) - β
    omega
  · rfl
theorem tR_sh {O : Op} {β : Int} : ∀ {r : Row} {S S' : List Int}, tR O r S = some S' → tR O (r.map (sh β)) (S.map (fun z => z - β)) = some (S'.map (fun z => z - β)) := by
  intro r
  induction r with
  | nil => intro S S' h; cases h; rfl
  | cons e r ih =>
    intro S S' h
    obtain ⟨U, rfl, h2⟩ := tR_inv h
    show tR O (sh β e :: r.map (sh β)) ((sh β e).1 :: U.map (fun z => z - β)) = _
    rw [tR_cons (show opk O (sh β e) from tR_opk (e := e) h), tP_sh, ← List.map_append]
    exact ih h2
theorem il_sh {β : Int} : ∀ r : Row, il (r.map (sh β)) = il r := by
  intro r
  induction r with
  | nil => rfl
  | cons e r ih => rw [List.map_cons, il_cons, il_cons, ih]; rfl
theorem rseg_sh {σ : SS} {q : Nat} {β : Int} : ∀ {r : Row} {i j : Int}, rseg σ q i r j → rseg σ q i (r.map (sh β)) j := by
  intro r
  induction r with
  | nil => intro i j h; exact h
  | cons e r ih => intro i j h; exact ⟨h.1, h.2.1, ih h.2.2⟩
theorem rpa_sh {σ : SS} {β : Int} {r : Row} (h : rpa σ r) : rpa σ (r.map (sh β)) := by
  intro e he
  obtain ⟨f, hf, rfl⟩ := List.mem_map.mp he
  exact h f hf
theorem srr_r {α β γ : Type} (b : β) (σ : SS) (k : β → SS → Option ((α ⊕ γ) × SS)) : srr (some ((Sum.inr b : α ⊕ β), σ)) k = k b σ := rfl
theorem s_h110 {fu q r : Nat} {a e : AG} {b i h x3 : Int} {σ : SS} (hfu : 20 ≤ fu) (hh : 0 ≤ h ∧ h < 324) (hn : 0 ≤ e.2.1 / 4 ∧ e.2.1 / 4 < 324) (h4 : a.2.2.length ≤ 4) (hi : 0 ≤ i) (hi2 : i + 1 + e.2.2.length ≤ 16384) (hv : ∀ v ∈ e.2.2, 0 ≤ v ∧ v ≤ 1000000) (hb : 0 ≤ b ∧ b ≤ 10000) (ha : rho σ q a) (h58 : σ.2.1 58 h = (a.2.2.length : Int)) (h58e : σ.2.1 58 (e.2.1 / 4) = (e.2.2.length : Int)) (h74 : σ.2.1 74 i = b) (hr : ∀ (k : Nat) (v : Int), e.2.2[k]? = some v → σ.2.1 r (i + 1 + k) = 4 * v) :
    ∀ (m j n : Nat), m + j = e.2.2.length → m < n → l_D_hindrance_110 fu q r n x3 h i (e.2.1 / 4) j σ = some ((if (e.2.2.drop j).any (frn a.2.2 b) = true then .inl i else .inr ()), σ) := by
  intro m
  induction m with
  | zero =>
    intro j n h1 h2
    cases n with
    | zero => omega
    | succ n =>
      rw [l_D_hindrance_110, ck_t ⟨hn.1, hn.2⟩, if_neg (by omega), List.drop_of_length_le (by omega), List.any_nil, if_neg Bool.false_ne_true]
  | succ m ih =>
    intro j n h1 h2
    cases n with
    | zero => omega
    | succ n =>
      have hj : j < e.2.2.length := by omega
      have hvj : e.2.2[j]? = some e.2.2[j] := List.getElem?_eq_getElem hj
      have hvb := hv e.2.2[j] (List.getElem_mem hj)
      have hdr : e.2.2.drop j = e.2.2[j] :: e.2.2.drop (j + 1) := List.drop_eq_getElem_cons hj
      rw [l_D_hindrance_110, ck_t ⟨hn.1, hn.2⟩, if_pos (by omega), ck_t (by omega), ck_t (by omega), ck_t ⟨by omega, by omega⟩, ck_t ⟨by omega, by omega⟩, hr j _ hvj, h74, show 4 * e.2.2[j] / 4 = e.2.2[j] by omega, ck_t (by omega), lb_e, h58]
      have hnext : ck (rng ((j : Int) + 1)) (l_D_hindrance_110 fu q r n x3 h i (e.2.1 / 4) ((j : Int) + 1) σ) = some ((if (e.2.2.drop (j + 1)).any (frn a.2.2 b) = true then .inl i else .inr ()), σ) := by
        rw [ck_t (by omega), show (j : Int) + 1 = ((j + 1 : Nat) : Int) by omega]
        exact ih (j + 1) n (by omega) (by omega)
      have hfd : f_D_find fu q 1 (a.2.2.length : Int) (4 * (e.2.2[j] - b)) σ = some (fnd a.2.2 (e.2.2[j] - b), σ) := s_find (fr := 1) hfu h4 (by omega) (by omega) ha.2
      rw [hdr, List.any_cons]
      by_cases c : e.2.2[j] - b < 0
      · rw [if_pos c]
        have hf : frn a.2.2 b e.2.2[j] = false := by unfold frn; rw [decide_eq_false_iff_not]; omega
        rw [hf, Bool.false_or, srr_r]
        exact hnext
      · rw [if_neg c, ck_t ⟨hh.1, hh.2⟩, ck_t (by omega), hfd]
        show srr (if fnd a.2.2 (e.2.2[j] - b) < 0 then some (Sum.inl i, σ) else some (Sum.inr (), σ)) _ = _
        by_cases c2 : fnd a.2.2 (e.2.2[j] - b) < 0
        · have hf : frn a.2.2 b e.2.2[j] = true := by unfold frn; rw [decide_eq_true_eq]; omega
          rw [if_pos c2, hf, Bool.true_or, if_pos rfl]
          rfl
        · have hf : frn a.2.2 b e.2.2[j] = false := by unfold frn; rw [decide_eq_false_iff_not]; omega
          rw [if_neg c2, hf, Bool.false_or, srr_r]
          exact hnext
theorem s_h17 {fu q r : Nat} {a : AG} {β h len : Int} {σ : SS} (hfu : 20 ≤ fu) (hh : 0 ≤ h ∧ h < 324) (h4 : a.2.2.length ≤ 4) (hlen : len ≤ 16384) (ha : rho σ q a) (h58 : σ.2.1 58 h = (a.2.2.length : Int)) :
    ∀ (T : Row) (n : Nat) (i : Int), rseg σ r i T len → dseg σ i (T.map (sh β)) → rpa σ T → (∀ e ∈ T, 0 ≤ e.1 - β ∧ e.1 - β ≤ 10000) → 0 ≤ i → T.length < n →
    ∃ y, l_D_hindrance_17 fu q r n len h i σ = some (y, σ) ∧ ((y = .inr () ∧ ∀ e ∈ T, cln h β a.2.2 e) ∨ ∃ C e T2, T = C ++ e :: T2 ∧ (∀ c ∈ C, cln h β a.2.2 c) ∧ ¬ cln h β a.2.2 e ∧ y = .inl (i + il C)) := by
  intro T
  induction T with
  | nil =>
    intro n i hr hd hp hb hi hn
    cases n with
    | zero => omega
    | succ n =>
      have : i = len := hr
      exact ⟨.inr (), by rw [l_D_hindrance_17, if_neg (by omega)], Or.inl ⟨rfl, fun e he => absurd he List.not_mem_nil⟩⟩
  | cons e T ih =>
    intro n i hr hd hp hb hi hn
    cases n with
    | zero => omega
    | succ n =>
      have hle := rseg_le hr
      rw [il_cons] at hle
      obtain ⟨r1, r2, r3⟩ := hr
      obtain ⟨d1, d2, d3⟩ := hd
      have d1' : σ.2.1 74 i = e.1 - β := d1
      have d3' : dseg σ (i + 1 + e.2.2.length) (T.map (sh β)) := d3
      obtain ⟨p1, p2, p3, p4, p5, p6⟩ := hp e List.mem_cons_self
      have hbe := hb e List.mem_cons_self
      rw [List.length_cons] at hn
      -- a clean group: go on
      have goon : cln h β a.2.2 e → (∃ y, ck (rng (i + (e.2.2.length : Int) + 1)) (l_D_hindrance_17 fu q r n len h (i + (e.2.2.length : Int) + 1) σ) = some (y, σ) ∧ ((y = .inr () ∧ ∀ x ∈ e :: T, cln h β a.2.2 x) ∨ ∃ C x T2, e :: T = C ++ x :: T2 ∧ (∀ c ∈ C, cln h β a.2.2 c) ∧ ¬ cln h β a.2.2 x ∧ y = .inl (i + il C))) := by
        intro hc
        obtain ⟨y, y1, y2⟩ := ih n (i + 1 + e.2.2.length) r3 d3' (rpa_tl hp) (fun x hx => hb x (List.mem_cons_of_mem _ hx)) (by omega) (by omega)
        refine ⟨y, by rw [ck_t (by omega), show i + (e.2.2.length : Int) + 1 = i + 1 + e.2.2.length by omega]; exact y1, ?_⟩
        rcases y2 with ⟨z1, z2⟩ | ⟨C, x, T2, z1, z2, z3, z4⟩
        · exact Or.inl ⟨z1, fun x hx => (List.mem_cons.mp hx).elim (fun w => by rw [w]; exact hc) (fun w => z2 x w)⟩
        · refine Or.inr ⟨e :: C, x, T2, by rw [z1]; rfl, fun c hcm => (List.mem_cons.mp hcm).elim (fun w => by rw [w]; exact hc) (fun w => z2 c w), z3, ?_⟩
          rw [z4, il_cons]
          congr 1
          omega
      have stop : ¬ cln h β a.2.2 e → ((Sum.inl i : Int ⊕ Unit) = .inr () ∧ ∀ x ∈ e :: T, cln h β a.2.2 x) ∨ ∃ C x T2, e :: T = C ++ x :: T2 ∧ (∀ c ∈ C, cln h β a.2.2 c) ∧ ¬ cln h β a.2.2 x ∧ (Sum.inl i : Int ⊕ Unit) = .inl (i + il C) := fun hn => Or.inr ⟨[], e, T, rfl, fun c hc => absurd hc List.not_mem_nil, hn, by show Sum.inl i = Sum.inl (i + ((0 : Nat) : Int)); rw [show i + ((0 : Nat) : Int) = i from Int.add_zero i]⟩
      rw [l_D_hindrance_17, if_pos (by omega), ck_t ⟨by omega, by omega⟩, r1, lb_e, ck_t ⟨by omega, by omega⟩, d1']
      by_cases c0 : e.2.1 % 4 = 0
      · have hv0 := p2 (by omega)
        have gn2 : ∀ k : Int → SS → Option ((Int ⊕ Unit) × SS), srr (if e.2.1 % 4 = 2 then (if e.2.1 / 4 = h then (some (Sum.inl i, σ)) else (srr (l_D_hindrance_110 fu q r fu len h i (e.2.1 / 4) 0 σ) fun (z27 : Unit) σ28 => ck (inb 324 (e.2.1 / 4)) (ck (rng (i + (σ28.2.1 58 (e.2.1 / 4)))) (lb (i + (σ28.2.1 58 (e.2.1 / 4))) fun y34 => some (Sum.inr y34, σ28))))) else (some (Sum.inr i, σ))) k = k i σ := by
          intro k
          rw [if_neg (by omega)]
          rfl
        have hgo : ∀ hc : cln h β a.2.2 e, ∃ y, ck (rng (i + 1)) (l_D_hindrance_17 fu q r n len h (i + 1) σ) = some (y, σ) ∧ ((y = .inr () ∧ ∀ x ∈ e :: T, cln h β a.2.2 x) ∨ ∃ C x T2, e :: T = C ++ x :: T2 ∧ (∀ c ∈ C, cln h β a.2.2 c) ∧ ¬ cln h β a.2.2 x ∧ y = .inl (i + il C)) := by
          intro hc
          have := goon hc
          rw [hv0, show i + (([] : List Int).length : Int) + 1 = i + 1 by show i + ((0 : Nat) : Int) + 1 = i + 1; omega] at this
          exact this
        rw [if_pos c0, ck_t ⟨by omega, by omega⟩]
        by_cases c1 : e.2.1 / 4 < e.1 - β
        · rw [if_pos c1]
          have hc : cln h β a.2.2 e := ⟨fun _ => by unfold frn; rw [decide_eq_false_iff_not]; omega, fun z => by omega⟩
          show ∃ y, ck (inb 16384 i) (srr (if (σ.2.1 r i) % 4 = 2 then _ else _) _) = some (y, σ) ∧ _
          rw [ck_t ⟨by omega, by omega⟩, r1, gn2]
          exact hgo hc
        · have hfd : f_D_find fu q 1 (a.2.2.length : Int) (4 * (e.2.1 / 4 - (e.1 - β))) σ = some (fnd a.2.2 (e.2.1 / 4 - (e.1 - β)), σ) := s_find (fr := 1) hfu h4 (by omega) (by omega) ha.2
          rw [if_neg c1, ck_t ⟨hh.1, hh.2⟩, ck_t ⟨by omega, by omega⟩, ck_t (by omega), ck_t (by omega), h58, hfd]
          show ∃ y, srr (if fnd a.2.2 (e.2.1 / 4 - (e.1 - β)) < 0 then some (Sum.inl i, σ) else some (Sum.inr (), σ)) _ = some (y, σ) ∧ _
          by_cases c2 : fnd a.2.2 (e.2.1 / 4 - (e.1 - β)) < 0
          · rw [if_pos c2]
            exact ⟨.inl i, rfl, stop (fun z => by have := z.1 c0; unfold frn at this; rw [decide_eq_false_iff_not] at this; omega)⟩
          · rw [if_neg c2]
            have hc : cln h β a.2.2 e := ⟨fun _ => by unfold frn; rw [decide_eq_false_iff_not]; omega, fun z => by omega⟩
            show ∃ y, ck (inb 16384 i) (srr (if (σ.2.1 r i) % 4 = 2 then _ else _) _) = some (y, σ) ∧ _
            rw [ck_t ⟨by omega, by omega⟩, r1, gn2]
            exact hgo hc
      · rw [if_neg c0]
        show ∃ y, ck (inb 16384 i) (srr (if (σ.2.1 r i) % 4 = 2 then _ else _) _) = some (y, σ) ∧ _
        rw [ck_t ⟨by omega, by omega⟩, r1]
        by_cases c2 : e.2.1 % 4 = 2
        · obtain ⟨q1, q2, q3⟩ := p1 c2
          rw [if_pos c2]
          by_cases ch : e.2.1 / 4 = h
          · rw [if_pos ch]
            exact ⟨.inl i, rfl, stop (fun z => (z.2 c2).1 ch)⟩
          · have h110 := s_h110 (fu := fu) (q := q) (r := r) (a := a) (e := e) (b := e.1 - β) (i := i) (h := h) (x3 := len) (σ := σ) hfu hh ⟨q1, q2⟩ h4 hi (by omega) p6 hbe ha h58 q3 d1' r2 e.2.2.length 0 fu (by omega) (by omega)
            rw [List.drop_zero] at h110
            have h110' : l_D_hindrance_110 fu q r fu len h i (e.2.1 / 4) 0 σ = some ((if e.2.2.any (frn a.2.2 (e.1 - β)) = true then .inl i else .inr ()), σ) := h110
            rw [if_neg ch, h110']
            by_cases c3 : e.2.2.any (frn a.2.2 (e.1 - β)) = true
            · rw [if_pos c3]
              refine ⟨.inl i, rfl, stop (fun z => ?_)⟩
              obtain ⟨v, hv, hf⟩ := List.any_eq_true.mp c3
              rw [(z.2 c2).2 v hv] at hf
              cases hf
            · rw [if_neg c3]
              show ∃ y, srr (ck (inb 324 (e.2.1 / 4)) (ck (rng (i + (σ.2.1 58 (e.2.1 / 4)))) (lb (i + (σ.2.1 58 (e.2.1 / 4))) fun y34 => some (Sum.inr y34, σ)))) _ = some (y, σ) ∧ _
              rw [q3, ck_t ⟨q1, q2⟩, ck_t (by omega), lb_e]
              refine goon ⟨fun z => absurd z c0, fun _ => ⟨ch, fun v hv => ?_⟩⟩
              cases hz : frn a.2.2 (e.1 - β) v with
              | false => rfl
              | true => exact absurd (List.any_eq_true.mpr ⟨v, hv, hz⟩) c3
        · rw [if_neg c2]
          have hv0 := p2 c2
          have := goon ⟨fun z => absurd z c0, fun z => absurd z c2⟩
          rw [hv0, show i + (([] : List Int).length : Int) + 1 = i + 1 by show i + ((0 : Nat) : Int) + 1 = i + 1; omega] at this
          exact this
theorem s_hind {O : Op} {fu q r : Nat} {a : AG} {β : Int} {T : Row} {σ : SS} (hqr : q = 71 ∧ r = 72 ∨ q = 72 ∧ r = 71) (hfu : 20000 ≤ fu) (hb2 : bd2 O) (hh : 0 ≤ a.2.1 / 4 ∧ a.2.1 / 4 < 324) (h4 : a.2.2.length ≤ 4) (ha : rho σ q a) (h58 : σ.2.1 58 (a.2.1 / 4) = (a.2.2.length : Int)) (hr : rseg σ r 0 T (il T)) (ht : tR O T [β] = some []) (hl : T.length ≤ 2500) (hil : il T ≤ 16384) (ho : rOp σ O) (hp : rpa σ T) :
    Wp (f_D_hindrance fu q r (il T) σ) (fun y τ => fx X74 σ τ ∧ dseg τ 0 (T.map (sh β)) ∧ ((y = -1 ∧ ∀ e ∈ T, cln (a.2.1 / 4) β a.2.2 e) ∨ ∃ C e T2, T = C ++ e :: T2 ∧ (∀ c ∈ C, cln (a.2.1 / 4) β a.2.2 c) ∧ ¬ cln (a.2.1 / 4) β a.2.2 e ∧ y = (il C : Int))) := by
  unfold f_D_hindrance
  refine wp_ck ⟨by omega, by omega⟩ ?_
  rw [ha.1]
  have hts := tR_sh (β := β) ht
  rw [show List.map (fun z => z - β) [β] = [0] by show [β - β] = [0]; rw [Int.sub_self]] at hts
  refine wp_lx (wp_sq (s_measr (O := O) (b := 0) (r := T.map (sh β)) (by omega) (by omega) hb2 (Int.le_refl _) (by omega) (by omega) (by omega) (by rw [Int.zero_add]; exact rseg_sh hr) hts (by rw [List.length_map]; omega) ho (rpa_sh hp)) ?_)
  rintro - σ5 ⟨m1, m2⟩
  have n74 : ∀ a, a ≠ 74 → a ≠ 75 → ¬ X74 a := fun a h1 h2 z => z.elim h1 h2
  have hbn := tR_bnd hb2 (lo := β) (hi := β) (fun z hz => by cases List.mem_singleton.mp hz; omega) ht
  obtain ⟨y, y1, y2⟩ := s_h17 (fu := fu) (q := q) (r := r) (a := a) (β := β) (h := a.2.1 / 4) (len := il T) (σ := σ5) (by omega) hh h4 (by omega) (rho_fx m1 (n74 q (by omega) (by omega)) ha) (by rw [fx_a m1 (n74 58 (by omega) (by omega))]; exact h58) T fu 0 (rseg_fx m1 (n74 r (by omega) (by omega)) hr) m2 (rpa_fx m1 (n74 58 (by omega) (by omega)) hp) (fun e he => by have := hbn e he; omega) (Int.le_refl _) (by omega)
  rw [y1]
  rcases y2 with ⟨rfl, z2⟩ | ⟨C, e, T2, z1, z2, z3, rfl⟩
  · exact wp_some ⟨m1, m2, Or.inl ⟨rfl, z2⟩⟩
  · exact wp_some ⟨m1, m2, Or.inr ⟨C, e, T2, z1, z2, z3, Int.zero_add _⟩⟩
/-! admitting, from the beginning each time -/
theorem kix_all {n : Nat} {P : Nat → Bool} (h : ∀ i, i < n → P i = true) : (kix n P).length = n := by
  unfold kix
  rw [List.length_map, List.filter_eq_self.mpr (fun i hi => h i (List.mem_range.mp hi)), List.length_range]
theorem dr_id {s : St} {x : List Int} {b : Int} {e : AG} (h : ∀ v ∈ e.2.2, frn x b v = false) : dr s x b e = s := by
  unfold dr
  refine if_pos (kix_all (fun i hi => ?_))
  have hv : e.2.2[i]? = some e.2.2[i] := List.getElem?_eq_getElem hi
  have hg : e.2.2.getD i 0 = e.2.2[i] := by rw [List.getD_eq_getElem?_getD, hv]; rfl
  rw [hg, h _ (List.getElem_mem hi)]
  rfl
theorem adm_cln {R : Nat} {h β : Int} {x : List Int} {s : St} : ∀ (C T : Row) (k : Nat), (∀ e ∈ C, cln h β x e) → nof s.2.1 (C ++ T) → adm R h β x (C.length + k) s (C ++ T) = adm R h β x k s T := by
  intro C
  induction C with
  | nil => intro T k _ _; rw [List.nil_append]; show adm R h β x (0 + k) s T = _; rw [Nat.zero_add]
  | cons e C ih =>
    intro T k hc hno
    have hno' : nof s.2.1 (C ++ T) := fun z hz => hno z (List.mem_cons_of_mem _ hz)
    have h1 := ih T k (fun z hz => hc z (List.mem_cons_of_mem _ hz)) hno'
    have hce := hc e List.mem_cons_self
    rw [List.length_cons, show C.length + 1 + k = (C.length + k) + 1 by omega, List.cons_append]
    show (if e.2.1 % 4 = 0 then (if frn x (e.1 - β) (e.2.1 / 4) = true then (2, s) else adm R h β x (C.length + k) s (C ++ T)) else if e.2.1 % 4 = 2 then (if e.2.1 / 4 = h then (3, s) else adm R h β x (C.length + k) (dr s x (e.1 - β) e) (tN (dr s x (e.1 - β) e).2.1 R (C ++ T))) else adm R h β x (C.length + k) s (C ++ T)) = _
    by_cases c0 : e.2.1 % 4 = 0
    · rw [if_pos c0, if_neg (by rw [hce.1 c0]; decide)]
      exact h1
    · rw [if_neg c0]
      by_cases c2 : e.2.1 % 4 = 2
      · rw [if_pos c2, if_neg (hce.2 c2).1, dr_id (hce.2 c2).2, tN_nof R hno']
        exact h1
      · rw [if_neg c2]
        exact h1
