/-! THE REFERENCE: PUT ON DESKS -/
/-- the kind of what is due -/
theorem r_kind {R : Nat} {σ : SS} {d : Dk} {i : Nat} (hg : gD R d) (hi : i < 8) (hd : due (d.2.2.2.2.1 i) ≠ 0) (hc : rSl σ i (d.2.2.2.2.1 i)) : σ.2.1 68 (160 * i + (due (d.2.2.2.2.1 i) : Int) - 1) = (if 0 < (d.2.2.2.2.1 i).2.2.2.1 then 100 else 0) + (d.2.2.2.2.1 i).2.1 + hbl (d.2.2.2.2.1 i) := by
  generalize d.2.2.2.2.1 i = l at *
  obtain ⟨q1, q2, q3, q4, q5, q6, q7, q8⟩ := hc
  unfold due at hd ⊢
  unfold hbl
  by_cases cp : 0 < l.2.2.2.1
  · rw [if_pos cp, if_pos cp]
    have := (q7 (l.2.2.2.1 - 1) (by omega)).1
    rw [show 160 * (i : Int) + (l.2.2.2.2.length : Int) + ((l.2.2.2.1 - 1 : Nat) : Int) = 160 * i + ((l.2.2.2.2.length + l.2.2.2.1 : Nat) : Int) - 1 by omega] at this
    exact this
  · rw [if_neg cp, if_neg cp]
    cases hS : l.2.2.2.2 with
    | nil => rw [hS] at hd; have h0 : ([] : List Int).length = 0 := rfl; omega
    | cons b S =>
      rw [hS] at q6
      have h1 : (b :: S).length = S.length + 1 := rfl
      rw [h1, show 160 * (i : Int) + ((S.length + 1 + l.2.2.2.1 : Nat) : Int) - 1 = 160 * i + (S.length : Int) by omega, q6.1]
      show l.2.1 + b = 0 + l.2.1 + b
      omega
theorem s_f75 {fu : Nat} {σ : SS} {i : Nat} {n0 x : Int} {vs : List Int} (hi : i < 8) (hx : 0 ≤ x ∧ x ≤ 100000) (h64 : σ.2.1 64 i = n0 + vs.length) (hn0 : 0 ≤ n0 ∧ n0 + vs.length ≤ 160) (hv : ∀ (k : Nat) (v : Int), vs[k]? = some v → σ.2.1 63 (160 * i + n0 + k) = 4 * v) :
    ∀ (m j n : Nat) (acc : Int), m + j = vs.length → m < n → (acc = 0 ∨ acc = 1) → l_D_fits_75 fu n i x acc (n0 + j) σ = some ((if acc = 1 ∧ x ∉ vs.drop j then 1 else 0), σ) := by
  intro m
  induction m with
  | zero =>
    intro j n acc h1 h2 h3
    cases n with
    | zero => omega
    | succ n =>
      rw [l_D_fits_75, ck_t ⟨by omega, by omega⟩, h64, if_neg (by omega), List.drop_of_length_le (by omega)]
      rcases h3 with rfl | rfl
      · rw [if_neg (by omega)]
      · rw [if_pos ⟨rfl, List.not_mem_nil⟩]
  | succ m ih =>
    intro j n acc h1 h2 h3
    cases n with
    | zero => omega
    | succ n =>
      have hj : j < vs.length := by omega
      have hvj : vs[j]? = some vs[j] := List.getElem?_eq_getElem hj
      have hdr : vs.drop j = vs[j] :: vs.drop (j + 1) := List.drop_eq_getElem_cons hj
      rw [l_D_fits_75, ck_t ⟨by omega, by omega⟩, h64, if_pos (by omega), hdr]
      have go : ∀ w : Int, (w = 0 ∨ w = 1) → (w = 1 ↔ acc = 1 ∧ x ≠ vs[j]) → ck (rng (n0 + (j : Int) + 1)) (l_D_fits_75 fu n i x w (n0 + (j : Int) + 1) σ) = some ((if acc = 1 ∧ x ∉ vs[j] :: vs.drop (j + 1) then 1 else 0), σ) := by
        intro w hw hiff
        rw [ck_t (by omega), show n0 + (j : Int) + 1 = n0 + ((j + 1 : Nat) : Int) by omega, ih (j + 1) n w (by omega) (by omega) hw]
        by_cases c : acc = 1 ∧ x ∉ vs[j] :: vs.drop (j + 1)
        · rw [if_pos c, if_pos ⟨hiff.mpr ⟨c.1, fun z => c.2 (by rw [z]; exact List.mem_cons_self)⟩, fun z => c.2 (List.mem_cons_of_mem _ z)⟩]
        · rw [if_neg c, if_neg (fun z => c ⟨(hiff.mp z.1).1, fun y => (List.mem_cons.mp y).elim (hiff.mp z.1).2 z.2⟩)]
      rcases h3 with rfl | rfl
      · rw [if_pos rfl, sq_e]
        exact go 0 (Or.inl rfl) ⟨fun z => by omega, fun z => by omega⟩
      · rw [if_neg (by decide), ck_t (by omega), ck_t (by omega), ck_t ⟨by omega, by omega⟩, ck_t (by omega), show 160 * (i : Int) + (n0 + (j : Int)) = 160 * i + n0 + j by omega, hv j _ hvj]
        by_cases ce : 4 * vs[j] = 4 * x
        · rw [if_pos ce, sq_e]
          exact go 0 (Or.inl rfl) ⟨fun z => by omega, fun z => absurd (show x = vs[j] by omega) z.2⟩
        · rw [if_neg ce, sq_e]
          exact go 1 (Or.inr rfl) ⟨fun _ => ⟨rfl, fun z => ce (by rw [z])⟩, fun _ => rfl⟩
theorem s_fits {R fu : Nat} {σ : SS} {d : Dk} {i : Nat} {k x : Int} (hfu : 1000 ≤ fu) (hg : gD R d) (hc : rD σ d) (hi : i < 8) (hd : due (d.2.2.2.2.1 i) ≠ 0) :
    ∃ w, f_D_fits fu i k x σ = some (w, σ) ∧ ((w = 1 ∧ fit d.2.1 d.2.2.1 (d.2.2.2.2.1 i) k x) ∨ (w = 0 ∧ ¬ fit d.2.1 d.2.2.1 (d.2.2.2.2.1 i) k x)) := by
  have hs := hg.2.2.1 i hi
  have hcs := hc.2.2.2.1 i hi
  have hk := r_kind hg hi hd hcs
  have hno := hc.2.2.1
  have ht := hc.1.2.1
  have hsb := sl_b hg.1.2.2.2.1 hg.2.1.1.2.2.2.1 hs
  have hil := il_30 hg.2.1.1.2.2.2.1 hs
  have h8 := hg.2.1.1.2.2.2.2.2.2.2.1
  have hgo := hg.1.2.1
  generalize d.2.2.2.2.1 i = l at *
  have hb := hbl_b hs hd
  have h6 := hs.2.1
  obtain ⟨q1, q2, q3, q4, q5, q6, q7, q8⟩ := hcs
  have hdl : due l ≤ 65 := by unfold due; omega
  unfold f_D_fits fit
  rw [q5, ck_t (by omega), ck_t ⟨by omega, by omega⟩, ck_t (by omega), ck_t (by omega), ck_t ⟨by omega, by omega⟩, hk, lb_e]
  by_cases cp : 0 < l.2.2.2.1
  · rw [if_pos cp, if_neg (by omega)]
    obtain ⟨r0, e, j1, j2, j3, j4, j5, j6, j7⟩ := hs.2.2.2.2.2.2.2 cp
    have hl1 : lst1 l.2.2.1 = e := by rw [j1]; exact lst1_snoc r0 e
    have hile : il l.2.2.1 = il r0 + (1 + e.2.2.length) := by rw [j1, il_append, il_cons]; rfl
    have h69 := (q7 (l.2.2.2.1 - 1) (by omega)).2
    rw [show 160 * (i : Int) + (l.2.2.2.2.length : Int) + ((l.2.2.2.1 - 1 : Nat) : Int) = 160 * i + (due l : Int) - 1 by unfold due; omega, hl1] at h69
    rw [j1] at q8
    obtain ⟨-, q8b⟩ := rseg_split q8
    obtain ⟨-, v2, -⟩ := q8b
    have hx : (sq (if k = 0 then (if x < 0 then (some ((0 : Int), σ)) else (ck (rng (100 + l.2.1 + hbl l - 100)) (if x < (100 + l.2.1 + hbl l - 100) then (some (1, σ)) else (some (0, σ))))) else (some (0, σ))) fun (z30 : Int) σ31 => ck (rng (160 * (i : Int))) (ck (inb 8 i) (ck (rng ((160 * (i : Int)) + (σ31.2.1 67 i))) (ck (rng (((160 * (i : Int)) + (σ31.2.1 67 i)) - 1)) (ck (inb 1280 (((160 * (i : Int)) + (σ31.2.1 67 i)) - 1)) (ck (rng ((σ31.2.1 69 (((160 * (i : Int)) + (σ31.2.1 67 i)) - 1)) + 1)) (lb ((σ31.2.1 69 (((160 * (i : Int)) + (σ31.2.1 67 i)) - 1)) + 1) fun y41 => sq (l_D_fits_75 fu fu i x z30 y41 σ31) fun (z43 : Int) σ44 => ck (z43 = 0 ∨ z43 = 1) (some (z43, σ44))))))))) = some ((if (k = 0 ∧ 0 ≤ x ∧ x < l.2.1 + hbl l) ∧ x ∉ e.2.2 then 1 else 0), σ) := by
      have tail : ∀ z30 : Int, (z30 = 0 ∨ z30 = 1) → (z30 = 1 ↔ k = 0 ∧ 0 ≤ x ∧ x < l.2.1 + hbl l) → ck (rng (160 * (i : Int))) (ck (inb 8 i) (ck (rng ((160 * (i : Int)) + (σ.2.1 67 i))) (ck (rng (((160 * (i : Int)) + (σ.2.1 67 i)) - 1)) (ck (inb 1280 (((160 * (i : Int)) + (σ.2.1 67 i)) - 1)) (ck (rng ((σ.2.1 69 (((160 * (i : Int)) + (σ.2.1 67 i)) - 1)) + 1)) (lb ((σ.2.1 69 (((160 * (i : Int)) + (σ.2.1 67 i)) - 1)) + 1) fun y41 => sq (l_D_fits_75 fu fu i x z30 y41 σ) fun (z43 : Int) σ44 => ck (z43 = 0 ∨ z43 = 1) (some (z43, σ44)))))))) = some ((if (k = 0 ∧ 0 ≤ x ∧ x < l.2.1 + hbl l) ∧ x ∉ e.2.2 then 1 else 0), σ) := by
        intro z30 hz hiff
        rw [q5, ck_t (by omega), ck_t ⟨by omega, by omega⟩, ck_t (by omega), ck_t (by omega), ck_t ⟨by omega, by omega⟩, h69, ck_t (by omega), lb_e]
        have h75 : l_D_fits_75 fu fu i x z30 ((il r0 : Int) + 1 + ((0 : Nat) : Int)) σ = some ((if z30 = 1 ∧ x ∉ e.2.2 then 1 else 0), σ) := by
          rcases hz with rfl | rfl
          · -- nothing is looked at
            have hz0 : ∀ (m j n : Nat), m + j = e.2.2.length → m < n → l_D_fits_75 fu n i x 0 ((il r0 : Int) + 1 + (j : Int)) σ = some (0, σ) := by
              intro m
              induction m with
              | zero =>
                intro j n h1 h2
                cases n with
                | zero => omega
                | succ n => rw [l_D_fits_75, ck_t ⟨by omega, by omega⟩, q2, hile, if_neg (by omega)]
              | succ m ihm =>
                intro j n h1 h2
                cases n with
                | zero => omega
                | succ n =>
                  rw [l_D_fits_75, ck_t ⟨by omega, by omega⟩, q2, hile, if_pos (by omega), if_pos rfl, sq_e, ck_t (by omega), show (il r0 : Int) + 1 + (j : Int) + 1 = (il r0 : Int) + 1 + ((j + 1 : Nat) : Int) by omega]
                  exact ihm (j + 1) n (by omega) (by omega)
            rw [hz0 e.2.2.length 0 fu (by omega) (by omega), if_neg (by omega)]
          · have hxx := hiff.mp rfl
            have := s_f75 (fu := fu) (σ := σ) (i := i) (n0 := (il r0 : Int) + 1) (x := x) (vs := e.2.2) hi (by omega) (by rw [q2, hile]; omega) (by omega) (fun k v hkv => by rw [show 160 * (i : Int) + ((il r0 : Int) + 1) + k = 160 * i + (il r0 : Int) + 1 + k by omega]; exact v2 k v hkv) e.2.2.length 0 fu 1 (by omega) (by omega) (Or.inr rfl)
            rw [List.drop_zero] at this
            exact this
        rw [show (il l.2.2.1 : Int) - (e.2.2.length : Int) - 1 + 1 = (il r0 : Int) + 1 + ((0 : Nat) : Int) by rw [hile]; omega, h75, sq_e]
        by_cases c : (k = 0 ∧ 0 ≤ x ∧ x < l.2.1 + hbl l) ∧ x ∉ e.2.2
        · rw [if_pos c, if_pos ⟨hiff.mpr c.1, c.2⟩, ck_t (Or.inr rfl)]
        · rw [if_neg c, if_neg (fun z => c ⟨hiff.mp z.1, z.2⟩), ck_t (Or.inl rfl)]
      by_cases k0 : k = 0
      · rw [if_pos k0]
        by_cases x0 : x < 0
        · rw [if_pos x0, sq_e]; exact tail 0 (Or.inl rfl) ⟨fun z => by omega, fun z => by omega⟩
        · rw [if_neg x0, ck_t (by omega)]
          by_cases x1 : x < 100 + l.2.1 + hbl l - 100
          · rw [if_pos x1, sq_e]; exact tail 1 (Or.inr rfl) ⟨fun _ => ⟨k0, by omega, by omega⟩, fun _ => rfl⟩
          · rw [if_neg x1, sq_e]; exact tail 0 (Or.inl rfl) ⟨fun z => by omega, fun z => by omega⟩
      · rw [if_neg k0, sq_e]; exact tail 0 (Or.inl rfl) ⟨fun z => by omega, fun z => absurd z.1 k0⟩
    rw [hx, if_pos cp, hl1]
    by_cases c : (k = 0 ∧ 0 ≤ x ∧ x < l.2.1 + hbl l) ∧ x ∉ e.2.2
    · rw [if_pos c]; exact ⟨1, rfl, Or.inl ⟨rfl, c.1.1, c.1.2.1, c.1.2.2, c.2⟩⟩
    · rw [if_neg c]; exact ⟨0, rfl, Or.inr ⟨rfl, fun z => c ⟨⟨z.1, z.2.1, z.2.2.1⟩, z.2.2.2⟩⟩⟩
  · rw [if_neg cp, if_pos (by omega), if_neg cp]
    by_cases x0 : x < 0
    · rw [if_pos x0]; exact ⟨0, rfl, Or.inr ⟨rfl, fun z => by omega⟩⟩
    rw [if_neg x0]
    by_cases k0 : k = 0
    · rw [if_pos k0]
      by_cases x1 : x < 0 + l.2.1 + hbl l
      · rw [if_pos x1]; exact ⟨1, rfl, Or.inl ⟨rfl, by omega⟩⟩
      · rw [if_neg x1]
        show ∃ w, sr (if k = 1 then _ else some (Sum.inr (), σ)) _ = some (w, σ) ∧ _
        rw [if_neg (by omega)]
        show ∃ w, (if k = 2 then _ else some ((0 : Int), σ)) = some (w, σ) ∧ _
        rw [if_neg (by omega)]
        exact ⟨0, rfl, Or.inr ⟨rfl, fun z => by omega⟩⟩
    · rw [if_neg k0]
      show ∃ w, sr (if k = 1 then (if x < (σ.1 55 1) then (some (Sum.inl (1 : Int), σ)) else (some (Sum.inr (), σ))) else some (Sum.inr (), σ)) _ = some (w, σ) ∧ _
      rw [hno]
      by_cases k1 : k = 1
      · rw [if_pos k1]
        by_cases x1 : x < d.2.1
        · rw [if_pos x1]; exact ⟨1, rfl, Or.inl ⟨rfl, by omega⟩⟩
        · rw [if_neg x1]
          show ∃ w, (if k = 2 then _ else some ((0 : Int), σ)) = some (w, σ) ∧ _
          rw [if_neg (by omega)]
          exact ⟨0, rfl, Or.inr ⟨rfl, fun z => by omega⟩⟩
      · rw [if_neg k1]
        show ∃ w, (if k = 2 then (if x < (σ.1 55 2) then (some ((1 : Int), σ)) else (some (0, σ))) else some ((0 : Int), σ)) = some (w, σ) ∧ _
        rw [ht]
        by_cases k2 : k = 2
        · rw [if_pos k2]
          by_cases x1 : x < d.2.2.1
          · rw [if_pos x1]; exact ⟨1, rfl, Or.inl ⟨rfl, by omega⟩⟩
          · rw [if_neg x1]; exact ⟨0, rfl, Or.inr ⟨rfl, fun z => by omega⟩⟩
        · rw [if_neg k2]; exact ⟨0, rfl, Or.inr ⟨rfl, fun z => by omega⟩⟩
theorem s_widel {O : Op} {fu : Nat} {σ : SS} {x b : Int} (ho : rOp σ O) (hb2 : bd2 O) (hx : 0 ≤ O.1 x) (hb : 0 ≤ b ∧ b ≤ 12) : ∀ (m j n : Nat) (acc : Int), ((m + j : Nat) : Int) = O.1 x → m < n → (acc = 0 ∨ acc = 1) → (acc = 1 ↔ ∃ i, 0 ≤ i ∧ i < (j : Int) ∧ 12 < b + O.2 x i) →
    ∃ w, l_D_isTooWide_6 fu n 1 x b acc j σ = some (w, σ) ∧ (w = 0 ∨ w = 1) ∧ (w = 1 ↔ wide O b x) := by
  obtain ⟨o1, o2, o3, o4, o5⟩ := ho x hx
  intro m
  induction m with
  | zero =>
    intro j n acc h1 h2 h3 h4
    cases n with
    | zero => omega
    | succ n =>
      rw [l_D_isTooWide_6, if_pos rfl, ck_t ⟨o3, o4⟩, o1, if_neg (by omega)]
      refine ⟨acc, rfl, h3, h4.trans ?_⟩
      unfold wide
      rw [← h1, Nat.zero_add]
  | succ m ih =>
    intro j n acc h1 h2 h3 h4
    cases n with
    | zero => omega
    | succ n =>
      have hbd := hb2 x j
      have o5' := o5 j (by omega) (by omega)
      have go : ∀ w : Int, (w = 0 ∨ w = 1) → (w = 1 ↔ acc = 1 ∨ 12 < b + O.2 x j) → ∃ u, ck (rng ((j : Int) + 1)) (l_D_isTooWide_6 fu n 1 x b w ((j : Int) + 1) σ) = some (u, σ) ∧ (u = 0 ∨ u = 1) ∧ (u = 1 ↔ wide O b x) := by
        intro w hw hiff
        obtain ⟨u, u1, u2, u3⟩ := ih (j + 1) n w (by omega) (by omega) hw (by
          rw [hiff, h4]
          constructor
          · rintro (⟨i, g1, g2, g3⟩ | g)
            · exact ⟨i, g1, by omega, g3⟩
            · exact ⟨j, by omega, by omega, g⟩
          · rintro ⟨i, g1, g2, g3⟩
            by_cases c : i = (j : Int)
            · rw [c] at g3; exact Or.inr g3
            · exact Or.inl ⟨i, g1, by omega, g3⟩)
        exact ⟨u, by rw [ck_t (by omega), show (j : Int) + 1 = ((j + 1 : Nat) : Int) by omega]; exact u1, u2, u3⟩
      rw [l_D_isTooWide_6, if_pos rfl, ck_t ⟨o3, o4⟩, o1, if_pos (by omega)]
      rcases h3 with rfl | rfl
      · rw [if_pos rfl, ck_t (by omega), ck_t (by omega), ck_t ⟨by omega, by omega⟩, o5', ck_t (by omega)]
        by_cases c : 12 < b + O.2 x j
        · rw [if_pos c, sq_e]; exact go 1 (Or.inr rfl) ⟨fun _ => Or.inr c, fun _ => rfl⟩
        · rw [if_neg c, sq_e]; exact go 0 (Or.inl rfl) ⟨fun z => by omega, fun z => by omega⟩
      · rw [if_neg (by decide), sq_e]
        exact go 1 (Or.inr rfl) ⟨fun _ => Or.inl rfl, fun _ => rfl⟩
theorem s_isTooWide {O : Op} {fu : Nat} {σ : SS} {k x b : Int} (hfu : 20 ≤ fu) (ho : rOp σ O) (hb2 : bd2 O) (hx : k = 1 → 0 ≤ O.1 x) (hb : 0 ≤ b ∧ b ≤ 12) : ∃ w, f_D_isTooWide fu k x b σ = some (w, σ) ∧ ((w = 1 ∧ k = 1 ∧ wide O b x) ∨ (w = 0 ∧ ¬ (k = 1 ∧ wide O b x))) := by
  unfold f_D_isTooWide
  by_cases k1 : k = 1
  · have hx0 := hx k1
    obtain ⟨o1, o2, o3, o4, o5⟩ := ho x hx0
    obtain ⟨w, w1, w2, w3⟩ := s_widel (fu := fu) ho hb2 hx0 hb (O.1 x).toNat 0 fu 0 (by omega) (by omega) (Or.inl rfl) ⟨fun z => by omega, fun ⟨i, g1, g2, _⟩ => by omega⟩
    rw [k1]
    have w1' : l_D_isTooWide_6 fu fu 1 x b 0 0 σ = some (w, σ) := w1
    rw [w1', sq_e, ck_t w2]
    refine ⟨w, rfl, ?_⟩
    rcases w2 with z | z
    · exact Or.inr ⟨z, fun y => by have := w3.mpr y.2; omega⟩
    · exact Or.inl ⟨z, rfl, w3.mp z⟩
  · obtain ⟨n, rfl⟩ : ∃ n, fu = n + 1 := ⟨fu - 1, by omega⟩
    rw [l_D_isTooWide_6, if_neg k1, sq_e, ck_t (Or.inl rfl)]
    exact ⟨0, rfl, Or.inr ⟨rfl, fun z => k1 z.1⟩⟩
