/-! THE REFERENCE UNIFIES AS THE MACHINE DOES -/
theorem s_p9 {O : Op} {fu : Nat} (hfu : 20000 ≤ fu) : ∀ (len : Nat) (Z : Eqs) (S : List Int) (E : Eqs) (n : Nat) (p e1 e2 : Int) (σ : SS), Z.length = len → len ≤ 50 → len < n → trz O Z S → rOp σ O → rseg σ 71 1 (ct1 Z) e1 → rseg σ 72 1 (ct2 Z) e2 → e1 ≤ 16384 → e2 ≤ 16384 → rpa σ (ct1 Z) → rpa σ (ct2 Z) → (ct1 Z).length ≤ 10000 → (ct2 Z).length ≤ 10000 → eqs σ E p → σ.1 55 31 = E.length → (Z ++ E).length < 4000 → (il (ct1 (Z ++ E)) : Int) + il (ct2 (Z ++ E)) ≤ 60000 →
    Wp (l_D_parts_9 fu n len σ) (fun _ τ => fx XE σ τ ∧ f31 σ τ ∧ τ.1 55 31 = (Z ++ E).length ∧ ∃ p', eqs τ (Z ++ E) p') := by
  intro len
  induction len with
  | zero =>
    intro Z S E n p e1 e2 σ hZ _ hn ht ho h1 h2 _ _ _ _ _ _ hE h31 _ _
    have hZn : Z = [] := List.length_eq_zero_iff.mp hZ
    cases n with
    | zero => omega
    | succ n =>
      rw [l_D_parts_9, hZn, List.nil_append]
      exact wp_f (by decide) (wp_some ⟨fx_rf, fun _ _ => rfl, h31, p, hE⟩)
  | succ len ih =>
    intro Z S E n p e1 e2 σ hZ hl50 hn ht ho h1 h2 he1 he2 hr1 hr2 hl1 hl2 hE h31 hln hcap
    obtain ⟨Z', z, hz⟩ : ∃ Z' z, Z = Z' ++ [z] := by
      rcases List.eq_nil_or_concat Z with w | ⟨a, b, w⟩
      · rw [w] at hZ; cases hZ
      · exact ⟨a, b, by rw [w, List.concat_eq_append]⟩
    have hZ' : Z'.length = len := by rw [hz, List.length_append] at hZ; have : Z'.length + 1 = len + 1 := hZ; omega
    have c1 : ct1 Z = ct1 Z' ++ z.1 := by rw [hz, ct1_app]; show ct1 Z' ++ (z.1 ++ []) = _; rw [List.append_nil]
    have c2 : ct2 Z = ct2 Z' ++ z.2 := by rw [hz, ct2_app]; show ct2 Z' ++ (z.2 ++ []) = _; rw [List.append_nil]
    have hsp : ∃ S' b, S = S' ++ [b] ∧ trz O Z' S' ∧ tR O z.1 [b] = some [] ∧ tR O z.2 [b] = some [] := by
      have key : ∀ (W : Eqs) (S : List Int), trz O (W ++ [z]) S → ∃ S' b, S = S' ++ [b] ∧ trz O W S' ∧ tR O z.1 [b] = some [] ∧ tR O z.2 [b] = some [] := by
        intro W
        induction W with
        | nil =>
          intro S h
          cases S with
          | nil => exact h.elim
          | cons b S =>
            cases S with
            | nil => exact ⟨[], b, rfl, True.intro, h.1, h.2.1⟩
            | cons c S => exact h.2.2.elim
        | cons w W ihW =>
          intro S h
          cases S with
          | nil => exact h.elim
          | cons b S =>
            obtain ⟨S', c, k1, k2, k3, k4⟩ := ihW S h.2.2
            exact ⟨b :: S', c, by rw [k1]; rfl, ⟨h.1, h.2.1, k2⟩, k3, k4⟩
      rw [hz] at ht
      exact key Z' S ht
    obtain ⟨S', b, -, t1, t2, t3⟩ := hsp
    rw [c1] at h1 hr1 hl1
    rw [c2] at h2 hr2 hl2
    have le1 := rseg_le h1
    have le2 := rseg_le h2
    rw [il_append] at le1 le2
    obtain ⟨a1, a2⟩ := rseg_split h1
    obtain ⟨b1, b2⟩ := rseg_split h2
    rw [List.length_append] at hl1 hl2
    have hr1' : rpa σ (ct1 Z') := fun e he => hr1 e (List.mem_append_left _ he)
    have hr2' : rpa σ (ct2 Z') := fun e he => hr2 e (List.mem_append_left _ he)
    have hrz1 : rpa σ z.1 := fun e he => hr1 e (List.mem_append_right _ he)
    have hrz2 : rpa σ z.2 := fun e he => hr2 e (List.mem_append_right _ he)
    have hZE : Z ++ E = Z' ++ (z :: E) := by rw [hz, List.append_assoc]; rfl
    have lp := eqs_len hE
    have hcap' : (il (ct1 (Z' ++ (z :: E))) : Int) + il (ct2 (Z' ++ (z :: E))) ≤ 60000 := by rw [← hZE]; exact hcap
    have hcapE : p ≤ 60000 := by
      rw [ct1_app, ct2_app, il_append, il_append] at hcap
      omega
    have hlE : E.length < 4000 := by rw [List.length_append] at hln; omega
    cases n with
    | zero => omega
    | succ n =>
      rw [l_D_parts_9]
      have h22 := s_p22 (O := O) (fu := fu) (σ := σ) (last := ((len + 1 : Nat) : Int)) hfu ho Z' S' fu 1 1 1 _ _ t1 a1 b1 (by omega) (by omega) (by omega) (by omega) hr1' hr2' (by omega) (by omega) (by omega) (by omega) (by omega) (by omega)
      refine wp_t (by omega) (wp_e h22 ?_)
      refine wp_e (s_partEnd hfu ho a2 t2 (by omega) he1 hrz1 (by omega)) (wp_e (s_partEnd hfu ho b2 t3 (by omega) he2 hrz2 (by omega)) (wp_sq (s_eqn (E := E) hfu hE h31 hlE a2 b2 (by omega) he1 (by omega) he2 hcapE) ?_))
      rintro - σ18 ⟨x18, f18, g18, q18⟩
      have nE : ∀ a, a ≠ 55 → (a < 77 ∨ 80 < a) → ¬ XE a := fun a h1 h2 z => by unfold XE at z; omega
      refine wp_ck (by omega) ?_
      rw [show ((len + 1 : Nat) : Int) + -1 = (len : Int) by omega]
      have h9 := ih Z' S' (z :: E) n _ _ _ σ18 hZ' (by omega) (by omega) t1 (rOp_fx x18 (nE 56 (by omega) (by omega)) (nE 57 (by omega) (by omega)) ho) (rseg_fx x18 (nE 71 (by omega) (by omega)) a1) (rseg_fx x18 (nE 72 (by omega) (by omega)) b1) (by omega) (by omega) (rpa_fx x18 (nE 58 (by omega) (by omega)) hr1') (rpa_fx x18 (nE 58 (by omega) (by omega)) hr2') (by omega) (by omega) q18 (by rw [g18, List.length_cons]; omega) (by rw [← hZE]; exact hln) hcap'
      rw [hZE]
      exact wp_mono h9 (fun _ τ k => ⟨fx_tr x18 k.1, fun b hb => by rw [k.2.1 b hb, f18 b hb], k.2.2⟩)
theorem s_parts {O : Op} {fu : Nat} {a : AG} {Z E : Eqs} {p e1 e2 : Int} {σ : SS} (hfu : 20000 ≤ fu) (ha : e1 ≤ 16384) (hb : e2 ≤ 16384) (hc : a.2.1 % 4 = 1) (hk : 0 ≤ O.1 (a.2.1 / 4)) (ht : trz O Z (tP O a)) (ho : rOp σ O) (h1 : rseg σ 71 1 (ct1 Z) e1) (h2 : rseg σ 72 1 (ct2 Z) e2) (hr1 : rpa σ (ct1 Z)) (hr2 : rpa σ (ct2 Z)) (hl1 : (ct1 Z).length ≤ 10000) (hl2 : (ct2 Z).length ≤ 10000) (hE : eqs σ E p) (h31 : σ.1 55 31 = E.length) (hln : (Z ++ E).length < 4000) (hcap : (il (ct1 (Z ++ E)) : Int) + il (ct2 (Z ++ E)) ≤ 60000) :
    Wp (f_D_parts fu (a.2.1 / 4) σ) (fun z τ => z = 0 ∧ fx XE σ τ ∧ f31 σ τ ∧ τ.1 55 31 = (Z ++ E).length ∧ ∃ p', eqs τ (Z ++ E) p') := by
  obtain ⟨o1, o2, o3, o4, -⟩ := ho _ hk
  have hlen := trz_len ht
  rw [tP_ln hc] at hlen
  unfold f_D_parts
  refine wp_ck ⟨o3, o4⟩ ?_
  rw [o1, show O.1 (a.2.1 / 4) = (Z.length : Int) by omega]
  exact wp_lx (wp_sq (s_p9 (O := O) hfu Z.length Z (tP O a) E fu p e1 e2 σ rfl (by omega) (by omega) ht ho h1 h2 ha hb hr1 hr2 hl1 hl2 hE h31 hln hcap) (fun _ τ k => wp_some ⟨rfl, k⟩))
theorem s_st51 {fu : Nat} {L : Nat} {x1 b : Int} (hx : 0 ≤ x1 ∧ x1 < 4096) (hL : L ≤ 16384) (hb : 0 ≤ b ∧ b + L ≤ 131072) : ∀ (m j n : Nat) (σ : SS), m + j = L → m < n → σ.1 55 29 = L → σ.2.1 78 x1 = b → (∀ k : Int, 0 ≤ k → k < j → σ.2.1 71 k = σ.2.1 77 (b + k)) →
    Wp (l_D_step_51 fu n x1 j σ) (fun _ τ => fx (jst 71) σ τ ∧ ∀ k : Int, 0 ≤ k → k < L → τ.2.1 71 k = σ.2.1 77 (b + k)) := by
  intro m
  induction m with
  | zero =>
    intro j n σ h1 h2 h3 h4 h5
    cases n with
    | zero => omega
    | succ n =>
      rw [l_D_step_51]
      exact wp_f (by omega) (wp_some ⟨fx_rf, fun k a c => h5 k a (by omega)⟩)
  | succ m ih =>
    intro j n σ h1 h2 h3 h4 h5
    cases n with
    | zero => omega
    | succ n =>
      rw [l_D_step_51]
      rw [h4]
      refine wp_t (by omega) (wp_ck ⟨hx.1, hx.2⟩ (wp_ck (by omega) (wp_ck ⟨by omega, by omega⟩ (wp_ck ⟨by omega, by omega⟩ (wp_lb (fun σ7 e7 => wp_ck (by omega) ?_))))))
      have hx7 : fx (jst 71) σ σ7 := by rw [e7]; exact fx_A fx_rf rfl
      have n71 : ∀ a, a ≠ 71 → ¬ jst 71 a := fun a h z => h z
      rw [show (j : Int) + 1 = ((j + 1 : Nat) : Int) by omega]
      have h9 := ih (j + 1) n σ7 (by omega) (by omega) (by rw [fx_f hx7 (n71 55 (by omega))]; exact h3) (by rw [fx_a hx7 (n71 78 (by omega))]; exact h4) (fun k a c => by
        rw [fx_a hx7 (n71 77 (by omega)), e7]
        by_cases c2 : k = j
        · rw [c2]; exact sA_same _ _ _ _
        · rw [sA_other (by omega)]; exact h5 k a (by omega))
      exact wp_mono h9 (fun _ τ k => ⟨fx_tr hx7 k.1, fun m a c => by rw [k.2 m a c, fx_a hx7 (n71 77 (by omega))]⟩)
theorem s_st86 {fu : Nat} {L : Nat} {x1 b : Int} (hx : 0 ≤ x1 ∧ x1 < 4096) (hL : L ≤ 16384) (hb : 0 ≤ b ∧ b + L ≤ 131072) : ∀ (m j n : Nat) (σ : SS), m + j = L → m < n → σ.1 55 30 = L → σ.2.1 79 x1 = b → (∀ k : Int, 0 ≤ k → k < j → σ.2.1 72 k = σ.2.1 77 (b + k)) →
    Wp (l_D_step_86 fu n x1 j σ) (fun _ τ => fx (jst 72) σ τ ∧ ∀ k : Int, 0 ≤ k → k < L → τ.2.1 72 k = σ.2.1 77 (b + k)) := by
  intro m
  induction m with
  | zero =>
    intro j n σ h1 h2 h3 h4 h5
    cases n with
    | zero => omega
    | succ n =>
      rw [l_D_step_86]
      exact wp_f (by omega) (wp_some ⟨fx_rf, fun k a c => h5 k a (by omega)⟩)
  | succ m ih =>
    intro j n σ h1 h2 h3 h4 h5
    cases n with
    | zero => omega
    | succ n =>
      rw [l_D_step_86]
      rw [h4]
      refine wp_t (by omega) (wp_ck ⟨hx.1, hx.2⟩ (wp_ck (by omega) (wp_ck ⟨by omega, by omega⟩ (wp_ck ⟨by omega, by omega⟩ (wp_lb (fun σ7 e7 => wp_ck (by omega) ?_))))))
      have hx7 : fx (jst 72) σ σ7 := by rw [e7]; exact fx_A fx_rf rfl
      have n72 : ∀ a, a ≠ 72 → ¬ jst 72 a := fun a h z => h z
      rw [show (j : Int) + 1 = ((j + 1 : Nat) : Int) by omega]
      have h9 := ih (j + 1) n σ7 (by omega) (by omega) (by rw [fx_f hx7 (n72 55 (by omega))]; exact h3) (by rw [fx_a hx7 (n72 79 (by omega))]; exact h4) (fun k a c => by
        rw [fx_a hx7 (n72 77 (by omega)), e7]
        by_cases c2 : k = j
        · rw [c2]; exact sA_same _ _ _ _
        · rw [sA_other (by omega)]; exact h5 k a (by omega))
      exact wp_mono h9 (fun _ τ k => ⟨fx_tr hx7 k.1, fun m a c => by rw [k.2 m a c, fx_a hx7 (n72 77 (by omega))]⟩)
def XU : Nat → Prop := fun a => a = 55 ∨ (58 ≤ a ∧ a ≤ 61) ∨ (71 ≤ a ∧ a ≤ 75) ∨ (77 ≤ a ∧ a ≤ 81)
def f4 (σ τ : SS) : Prop := ∀ b, b ≠ 3 → b ≠ 29 → b ≠ 30 → b ≠ 31 → τ.1 55 b = σ.1 55 b
theorem f4_tr {σ τ υ : SS} (h : f4 σ τ) (k : f4 τ υ) : f4 σ υ := fun b a c d e => by rw [k b a c d e, h b a c d e]
/-- the two rows of the next equation, written out -/
theorem s_rows {O : Op} {fu R : Nat} {told N β : Int} {s : St} {A B : Row} {E : Eqs} {p : Int} {σ : SS} (hfu : 20000 ≤ fu) (hR : 300 < R) (hRf : R < fu) (hb2 : bd2 O) (hN : 0 ≤ N) (hN2 : N ≤ 1000) (hg : gOk O told R s) (hc : rSt σ told s) (ho : rOp σ O) (hE : eqs σ ((A, B) :: E) p) (h31 : σ.1 55 31 = (E.length : Int) + 1) (hlE : E.length < 4000) (hcap : p ≤ 60000) (htA : tR O A [β] = some []) (htB : tR O B [β] = some []) (hβ : 0 ≤ β ∧ β ≤ 5000) (hoA : okR s.1 N A) (hoB : okR s.1 N B) (hlA : (tN s.2.1 R A).length ≤ 2400) (hlB : (tN s.2.1 R B).length ≤ 2400) {P : Int → SS → Prop}
    (hk : ∀ τ, fx XU σ τ → f4 σ τ → rSt τ told s → rOp τ O → (∃ p0, eqs τ E p0 ∧ p0 ≤ p) → τ.1 55 31 = (E.length : Int) → τ.1 55 29 = (il (tN s.2.1 R A) : Int) → τ.1 55 30 = (il (tN s.2.1 R B) : Int) → rseg τ 71 0 (tN s.2.1 R A) (il (tN s.2.1 R A)) → rseg τ 72 0 (tN s.2.1 R B) (il (tN s.2.1 R B)) → rpa τ (tN s.2.1 R A) → rpa τ (tN s.2.1 R B) →
      Wp (ck (inb 16384 0) (sq (if ((τ.2.1 71 0) % 4) = 2 then (some (1, τ)) else (some (0, τ))) fun (z52 : Int) σ53 => ck (inb 16384 0) (sq (if ((σ53.2.1 72 0) % 4) = 2 then (some (1, σ53)) else (some (0, σ53))) fun (z59 : Int) σ60 => sr (if z52 = 0 then (some (.inr (), σ60)) else (if z59 = 0 then (some (.inr (), σ60)) else (ck (inb 16384 0) (ck (inb 16384 0) (if (σ60.2.1 71 0) = (σ60.2.1 72 0) then (sq (f_D_same fu σ60) fun (a69 : Int) σ70 => some (.inl a69, σ70)) else (sq (f_D_both fu σ60) fun (a74 : Int) σ75 => some (.inl a74, σ75))))))) fun (z79 : Unit) σ80 => if z52 = 0 then (if z59 = 0 then (ck (inb 16384 0) (ck (inb 16384 0) (if (σ80.2.1 71 0) = (σ80.2.1 72 0) then (ck (inb 16384 0) (if ((σ80.2.1 71 0) % 4) = 1 then (ck (inb 16384 0) (sq (f_D_parts fu ((σ80.2.1 71 0) / 4) σ80) fun (a92 : Int) σ93 => some (a92, σ93))) else (some (0, σ80)))) else (some (1, σ80))))) else (sq (f_D_fill fu 72 71 (σ80.1 55 29) σ80) fun (a97 : Int) σ98 => some (a97, σ98))) else (sq (f_D_fill fu 71 72 (σ80.1 55 30) σ80) fun (a102 : Int) σ103 => some (a102, σ103))))) P) :
    Wp (f_D_step fu σ) P := by
  obtain ⟨p0, m, q1, q2, q3, q4, q5, q6⟩ := hE
  have q5' : rseg σ 77 p0 A m := q5
  have q6' : rseg σ 77 m B p := q6
  have lp := eqs_len q1
  have lA := rseg_le q5'
  have lB := rseg_le q6'
  have ilA := il_le (O := O) hg.1.2.2.2.1 hoA
  have ilB := il_le (O := O) hg.1.2.2.2.1 hoB
  have lnA := len_N hg.1.2.1 R A
  have lnB := len_N hg.1.2.1 R B
  have htA' := tR_N hg.1.2.1 R htA
  have htB' := tR_N hg.1.2.1 R htB
  have bA := tR_bnd hb2 (lo := β) (hi := β) (fun z hz => by cases List.mem_singleton.mp hz; omega) htA'
  have bB := tR_bnd hb2 (lo := β) (hi := β) (fun z hz => by cases List.mem_singleton.mp hz; omega) htB'
  unfold f_D_step
  rw [h31]
  refine wp_ck (by omega) (wp_lb (fun σ3 e3 => ?_))
  have y6e : σ3.1 55 31 = (E.length : Int) := by rw [e3, sF_same]; omega
  have a3 : ∀ a i, σ3.2.1 a i = σ.2.1 a i := fun a i => by rw [e3]; rfl
  rw [y6e]
  refine wp_lx (wp_ck ⟨by omega, by omega⟩ (wp_ck ⟨by omega, by omega⟩ ?_))
  rw [a3, a3, q2, q3]
  refine wp_ck (by omega) (wp_lb (fun σ12 e12 => wp_ck ⟨by omega, by omega⟩ (wp_ck ⟨by omega, by omega⟩ ?_)))
  have a12 : ∀ a i, σ12.2.1 a i = σ.2.1 a i := fun a i => by rw [e12]; exact a3 a i
  rw [a12, a12, q3, q4]
  refine wp_ck (by omega) (wp_lb (fun σ19 e19 => ?_))
  have a19 : ∀ a i, σ19.2.1 a i = σ.2.1 a i := fun a i => by rw [e19]; exact a12 a i
  have f19 : ∀ b, b ≠ 29 → b ≠ 30 → b ≠ 31 → σ19.1 55 b = σ.1 55 b := fun b h1 h2 h3 => by rw [e19, sF_f (by omega), e12, sF_f (by omega), e3, sF_f (by omega)]
  have f19a : σ19.1 55 31 = (E.length : Int) := by rw [e19, sF_f (by omega), e12, sF_f (by omega)]; exact y6e
  have f19b : σ19.1 55 29 = (il A : Int) := by rw [e19, sF_f (by omega), e12, sF_same]; omega
  have f19c : σ19.1 55 30 = (il B : Int) := by rw [e19, sF_same]; omega
  have x19 : fx (jst 55) σ σ19 := by rw [e19, e12, e3]; exact fx_F (fx_F (fx_F fx_rf rfl) rfl) rfl
  refine wp_sq (s_st51 (fu := fu) (L := il A) (x1 := (E.length : Int)) (b := p0) (by omega) (by omega) (by omega) (il A) 0 fu σ19 (by omega) (by omega) f19b (by rw [a19]; exact q2) (fun k a c => by omega)) ?_
  rintro - σ23 ⟨x23, y23⟩
  have n71 : ∀ a, a ≠ 71 → ¬ jst 71 a := fun a h z => h z
  have n72 : ∀ a, a ≠ 72 → ¬ jst 72 a := fun a h z => h z
  refine wp_sq (s_st86 (fu := fu) (L := il B) (x1 := (E.length : Int)) (b := m) (by omega) (by omega) (by omega) (il B) 0 fu σ23 (by omega) (by omega) (by rw [fx_f x23 (n71 55 (by omega))]; exact f19c) (by rw [fx_a x23 (n71 79 (by omega)), a19]; exact q3) (fun k a c => by omega)) ?_
  rintro - σ28 ⟨x28, y28⟩
  have f28 : ∀ b, σ28.1 55 b = σ19.1 55 b := fun b => by rw [fx_f x28 (n72 55 (by omega)), fx_f x23 (n71 55 (by omega))]
  have a28 : ∀ a i, a ≠ 71 → a ≠ 72 → σ28.2.1 a i = σ.2.1 a i := fun a i h1 h2 => by rw [fx_a x28 (n72 a h2), fx_a x23 (n71 a h1), a19]
  have r28A : rseg σ28 71 0 A (il A) := rseg_eq (σ := σ) (q := 77) (i := p0) (j := m) (fun k h1 h2 => by rw [fx_a x28 (n72 71 (by omega)), Int.zero_add, y23 k h1 h2, a19]) (by omega) q5'
  have r28B : rseg σ28 72 0 B (il B) := rseg_eq (σ := σ) (q := 77) (i := m) (j := p) (fun k h1 h2 => by rw [Int.zero_add, y28 k h1 h2, fx_a x23 (n71 77 (by omega)), a19]) (by omega) q6'
  have x28U : fx (fun a => a = 55 ∨ a = 71 ∨ a = 72) σ σ28 := fx_tr (fx_tr (fx_mono x19 (fun a z => Or.inl z)) (fx_mono x23 (fun a z => Or.inr (Or.inl z)))) (fx_mono x28 (fun a z => Or.inr (Or.inr z)))
  have c28 : rSt σ28 told s := by
    obtain ⟨k1, k2, k3, k4⟩ := hc
    exact ⟨rHol_fx x28U (fun a h1 h2 => by omega) k1, by rw [f28, f19 2 (by omega) (by omega) (by omega)]; exact k2, by rw [f28, f19 3 (by omega) (by omega) (by omega)]; exact k3, fun g h1 h2 => by rw [a28 61 g (by omega) (by omega)]; exact k4 g h1 h2⟩
  have ho28 := rOp_fx x28U (by omega) (by omega) ho
  rw [f28 29, f19b]
  refine wp_sq (s_write (O := O) (told := told) (N := N) (s := s) (r := A) (S := [β]) (σ := σ28) (Or.inl rfl) hfu hR hRf hb2 hg.1 hg.2.1 hN hN2 r28A htA (fun e he => by have := bA e he; omega) ho28 c28.1 hoA (by unfold capr; omega)) ?_
  rintro z σ33 ⟨x33, rfl, r33⟩
  have nQ1 : ∀ a, a ≠ 71 → (a < 73 ∨ 75 < a) → ¬ XQ 71 a := fun a h1 h2 => XQ_lo h1 h2
  have nQ2 : ∀ a, a ≠ 72 → (a < 73 ∨ 75 < a) → ¬ XQ 72 a := fun a h1 h2 => XQ_lo h1 h2
  refine wp_lb (fun σ38 e38 => ?_)
  have a38 : ∀ a i, σ38.2.1 a i = σ33.2.1 a i := fun a i => by rw [e38]; rfl
  have f38 : ∀ b, b ≠ 29 → σ38.1 55 b = σ19.1 55 b := fun b hb => by rw [e38, sF_f (fun z => hb z.2), fx_f x33 (nQ1 55 (by omega) (by omega)), f28]
  have x38 : fx (fun a => a = 55 ∨ XQ 71 a) σ28 σ38 := by rw [e38]; exact fx_F (fx_mono x33 (fun a z => Or.inr z)) (Or.inl rfl)
  have nX : ∀ a, a ≠ 55 → a ≠ 71 → (a < 73 ∨ 75 < a) → ¬ (a = 55 ∨ XQ 71 a) := fun a h1 h2 h3 z => z.elim h1 (nQ1 a h2 h3)
  have c38 : rSt σ38 told s := by
    obtain ⟨k1, k2, k3, k4⟩ := c28
    exact ⟨rHol_fx x38 (fun a h1 h2 => nX a (by omega) (by omega) (by omega)) k1, by rw [f38 2 (by omega), ← f28]; exact k2, by rw [f38 3 (by omega), ← f28]; exact k3, fun g h1 h2 => by rw [fx_a x38 (nX 61 (by omega) (by omega) (by omega))]; exact k4 g h1 h2⟩
  have ho38 := rOp_fx x38 (nX 56 (by omega) (by omega) (by omega)) (nX 57 (by omega) (by omega) (by omega)) ho28
  rw [f38 30 (by omega), f19c]
  refine wp_sq (s_write (O := O) (told := told) (N := N) (s := s) (r := B) (S := [β]) (σ := σ38) (Or.inr rfl) hfu hR hRf hb2 hg.1 hg.2.1 hN hN2 (rseg_fx x38 (nX 72 (by omega) (by omega) (by omega)) r28B) htB (fun e he => by have := bB e he; omega) ho38 c38.1 hoB (by unfold capr; omega)) ?_
  rintro z σ42 ⟨x42, rfl, r42⟩
  refine wp_lb (fun σ47 e47 => ?_)
  have a47 : ∀ a i, σ47.2.1 a i = σ42.2.1 a i := fun a i => by rw [e47]; rfl
  have f47 : ∀ b, b ≠ 30 → σ47.1 55 b = σ38.1 55 b := fun b hb => by rw [e47, sF_f (fun z => hb z.2), fx_f x42 (nQ2 55 (by omega) (by omega))]
  have x47 : fx (fun a => a = 55 ∨ XQ 72 a) σ38 σ47 := by rw [e47]; exact fx_F (fx_mono x42 (fun a z => Or.inr z)) (Or.inl rfl)
  have nY : ∀ a, a ≠ 55 → a ≠ 72 → (a < 73 ∨ 75 < a) → ¬ (a = 55 ∨ XQ 72 a) := fun a h1 h2 h3 z => z.elim h1 (nQ2 a h2 h3)
  have c47 : rSt σ47 told s := by
    obtain ⟨k1, k2, k3, k4⟩ := c38
    exact ⟨rHol_fx x47 (fun a h1 h2 => nY a (by omega) (by omega) (by omega)) k1, by rw [f47 2 (by omega)]; exact k2, by rw [f47 3 (by omega)]; exact k3, fun g h1 h2 => by rw [fx_a x47 (nY 61 (by omega) (by omega) (by omega))]; exact k4 g h1 h2⟩
  have ho47 := rOp_fx x47 (nY 56 (by omega) (by omega) (by omega)) (nY 57 (by omega) (by omega) (by omega)) ho38
  have xAll : fx XU σ σ47 := fx_tr (fx_tr (fx_mono x28U (fun a z => by unfold XU; omega)) (fx_mono x38 (fun a z => by unfold XQ at z; unfold XU; omega))) (fx_mono x47 (fun a z => by unfold XQ at z; unfold XU; omega))
  refine hk σ47 xAll (fun b h1 h2 h3 h4 => ?_) c47 ho47 ⟨p0, eqs_fx x47 (fun a h1 h2 => nY a (by omega) (by omega) (by omega)) (eqs_fx x38 (fun a h1 h2 => nX a (by omega) (by omega) (by omega)) (eqs_fx x28U (fun a h1 h2 => by omega) q1)), by omega⟩ ?_ ?_ ?_ ?_ ?_ ?_ ?_
  · rw [f47 b h3, f38 b h2, f19 b h2 h3 h4]
  · rw [f47 31 (by omega), f38 31 (by omega)]; exact f19a
  · rw [f47 29 (by omega), e38]; exact sF_same _ _ _ _
  · rw [e47]; exact sF_same _ _ _ _
  · refine rseg_fx x47 (nY 71 (by omega) (by omega) (by omega)) (rseg_eq (σ := σ33) (fun k _ _ => a38 71 _) rfl r33)
  · exact rseg_eq (σ := σ42) (fun k _ _ => a47 72 _) rfl r42
  · exact rpa_of hN2 ho47 c47.1 hg.1.2.2.2.1 (okR_N hN hg.1.1 R hoA) (tR_opks htA') (fun e he => by have := bA e he; omega)
  · exact rpa_of hN2 ho47 c47.1 hg.1.2.2.2.1 (okR_N hN hg.1.1 R hoB) (tR_opks htB') (fun e he => by have := bB e he; omega)
