/-! THE REFERENCE'S LOOP OVER THE EQUATIONS -/
theorem rin_bnd {O : Op} {told : Int} {R j : Nat} {s : St} {A L : Row} (hb2 : bd2 O) (hR : 300 < R) (hg : gOk O told R s) (hl : A.length ≤ 30) (hA : tR O A [0] = some []) (h : rin R s A j L) : ∀ e ∈ L, 0 ≤ e.1 ∧ e.1 ≤ 4800 := by
  intro e he
  obtain ⟨P, h1, h2⟩ := h
  have h3 := tR_N hg.1.2.1 R hA
  have h4 := tR_bnd hb2 (lo := 0) (hi := 0) (fun z hz => by cases List.mem_singleton.mp hz; omega) h3 e (by rw [← h1]; exact List.mem_append_right _ he)
  have h5 := len80 hR hg A
  omega
def okE (pa : Int → Int) (N : Int) (E : Eqs) : Prop := ∀ z ∈ E, okR pa N z.1 ∧ okR pa N z.2
theorem okE_pa {pa pb : Int → Int} {N : Int} {E : Eqs} (h : ∀ g, 0 ≤ pa g → pb g = pa g) (k : okE pa N E) : okE pb N E := fun z hz => ⟨okR_pa h (k z hz).1, okR_pa h (k z hz).2⟩
theorem okE_ct {pa : Int → Int} {N : Int} : ∀ {E : Eqs}, okE pa N E → okR pa N (ct1 E) ∧ okR pa N (ct2 E) := by
  intro E
  induction E with
  | nil => intro _; exact ⟨fun e he => absurd he List.not_mem_nil, fun e he => absurd he List.not_mem_nil⟩
  | cons z E ih =>
    intro h
    obtain ⟨h1, h2⟩ := ih (fun w hw => h w (List.mem_cons_of_mem _ hw))
    obtain ⟨h3, h4⟩ := h z List.mem_cons_self
    exact ⟨fun e he => (List.mem_append.mp he).elim (h3 e) (h1 e), fun e he => (List.mem_append.mp he).elim (h4 e) (h2 e)⟩
theorem ct_mem : ∀ {E : Eqs} {z : Row × Row}, z ∈ E → (∀ e ∈ z.1, e ∈ ct1 E) ∧ ∀ e ∈ z.2, e ∈ ct2 E := by
  intro E
  induction E with
  | nil => intro z hz; cases hz
  | cons w E ih =>
    intro z hz
    rcases List.mem_cons.mp hz with c | c
    · rw [c]; exact ⟨fun e he => List.mem_append_left _ he, fun e he => List.mem_append_left _ he⟩
    · obtain ⟨h1, h2⟩ := ih c
      exact ⟨fun e he => List.mem_append_right _ (h1 e he), fun e he => List.mem_append_right _ (h2 e he)⟩
theorem X81_XU {σ τ : SS} (h : fy X81 σ τ) : fx XU σ τ ∧ f4 σ τ := ⟨fx_mono h.1 (fun a z => by unfold X81 at z; unfold XU; omega), fun b a _ _ _ => h.2 b a⟩
theorem XR_XU {σ τ : SS} (h : fy XR σ τ) : fx XU σ τ ∧ f4 σ τ := ⟨fx_mono h.1 (fun a z => by unfold XR at z; unfold XU; omega), fun b a _ _ _ => h.2 b a⟩
theorem s_unl {O : Op} {fu R : Nat} {told N x3 : Int} {A0 B0 : Row} (hfu : 20000 ≤ fu) (hR : 300 < R) (hRf : R < fu) (hb2 : bd2 O) (h3 : ar3 O) (hN : 0 ≤ N) (hN2 : N ≤ 1000) (hA : tR O A0 [0] = some []) (hAl : A0.length ≤ 30) (hB : tR O B0 [0] = some []) (hBl : B0.length ≤ 30) :
    ∀ (k n j : Nat) (s : St) (E : Eqs) (S : List Int) (p : Int) (σ : SS), 2400 < k + j → rin R s A0 j (tN s.2.1 R (ct1 E)) → rin R s B0 0 (tN s.2.1 R (ct2 E)) → k < n → gOk O told R s → rSt σ told s → rOp σ O → eqs σ E p → σ.1 55 31 = (E.length : Int) → trz O E S → okE s.1 N E →
    Wp (l_D_unify_99 fu n x3 0 σ) (fun z τ => z = (un O R k s (tN s.2.1 R (ct1 E)) (tN s.2.1 R (ct2 E))).1 ∧ fx XU σ τ ∧ f4 σ τ ∧ rSt τ told (un O R k s (tN s.2.1 R (ct1 E)) (tN s.2.1 R (ct2 E))).2) := by
  intro k
  induction k with
  | zero =>
    intro n j s E S p σ hkj hrA _ _ hg
    have := rin_len hR hg hAl hrA
    omega
  | succ k ih =>
    intro n j s E S p σ hkj hrA hrB hn hg hc ho hE h31 ht hok
    cases n with
    | zero => omega
    | succ n =>
      rw [l_D_unify_99]
      rw [h31]
      cases E with
      | nil =>
        have hun : un O R (k + 1) s (tN s.2.1 R (ct1 [])) (tN s.2.1 R (ct2 [])) = (0, s) := by
          show un O R (k + 1) s (tN s.2.1 R []) (tN s.2.1 R []) = _
          rw [tN_nil]
          rfl
        rw [hun]
        exact wp_f (by decide) (wp_some ⟨rfl, fx_rf, fun _ _ _ _ _ => rfl, hc⟩)
      | cons z E =>
        obtain ⟨A, B⟩ := z
        cases S with
        | nil => exact ht.elim
        | cons β S =>
          obtain ⟨htA, htB, htE⟩ := ht
          have htA0 : tR O A [β] = some [] := htA
          have htB0 : tR O B [β] = some [] := htB
          have hoA : okR s.1 N A := (hok (A, B) List.mem_cons_self).1
          have hoB : okR s.1 N B := (hok (A, B) List.mem_cons_self).2
          have hokE : okE s.1 N E := fun w hw => hok w (List.mem_cons_of_mem _ hw)
          have htAN := tR_N hg.1.2.1 R htA0
          have htBN := tR_N hg.1.2.1 R htB0
          have hL : tN s.2.1 R (ct1 ((A, B) :: E)) = tN s.2.1 R A ++ tN s.2.1 R (ct1 E) := tN_append _ _ _ _
          have hM : tN s.2.1 R (ct2 ((A, B) :: E)) = tN s.2.1 R B ++ tN s.2.1 R (ct2 E) := tN_append _ _ _ _
          rw [hL] at hrA ⊢
          rw [hM] at hrB ⊢
          have lL := rin_len hR hg hAl hrA
          have lM := rin_len hR hg hBl hrB
          rw [List.length_append] at lL lM
          obtain ⟨hc1, hc2⟩ := okE_ct hokE
          have tE := trz_tR htE
          have tL' := tR_N hg.1.2.1 R tE.1
          have tM' := tR_N hg.1.2.1 R tE.2
          have sl := tR_slen tL'
          have hEl := trz_len htE
          have lcE1 := len_N hg.1.2.1 R (ct1 E)
          have lcE2 := len_N hg.1.2.1 R (ct2 E)
          have lcA := len_N hg.1.2.1 R A
          have lcB := len_N hg.1.2.1 R B
          have ilE1 := il_le (O := O) hg.1.2.2.2.1 hc1
          have ilE2 := il_le (O := O) hg.1.2.2.2.1 hc2
          have ilA := il_le (O := O) hg.1.2.2.2.1 hoA
          have ilB := il_le (O := O) hg.1.2.2.2.1 hoB
          have lp := eqs_len hE
          have lp' : p = ((il (A ++ ct1 E) : Nat) : Int) + ((il (B ++ ct2 E) : Nat) : Int) := lp
          rw [il_append, il_append] at lp'
          cases hAe : tN s.2.1 R A with
          | nil => rw [hAe] at htAN; have hz : [β] = [] := Option.some.inj htAN; cases hz
          | cons a L1 =>
            cases hBe : tN s.2.1 R B with
            | nil => rw [hBe] at htBN; have hz : [β] = [] := Option.some.inj htBN; cases hz
            | cons b M1 =>
              rw [hAe] at htAN hrA lL
              rw [hBe] at htBN hrB lM
              obtain ⟨Sa, hSa, htL1⟩ := tR_inv htAN
              obtain ⟨hβa, hSa'⟩ := List.cons.inj hSa
              obtain ⟨Sb, hSb, htM1⟩ := tR_inv htBN
              obtain ⟨hβb, hSb'⟩ := List.cons.inj hSb
              rw [← hSa', List.append_nil] at htL1
              rw [← hSb', List.append_nil] at htM1
              have hab : a.1 = b.1 := by rw [← hβa, hβb]
              have hbA := rin_bnd hb2 hR hg hAl hA hrA
              have hba := hbA a (List.mem_append_left _ List.mem_cons_self)
              have hnoA : nof s.2.1 (a :: L1) := by rw [← hAe]; exact tN_nofg hR hg A
              have hnoB : nof s.2.1 (b :: M1) := by rw [← hBe]; exact tN_nofg hR hg B
              have hokA : okR s.1 N (a :: L1) := by rw [← hAe]; exact okR_N hN hg.1.1 R hoA
              have hokB : okR s.1 N (b :: M1) := by rw [← hBe]; exact okR_N hN hg.1.1 R hoB
              have hoka := hokA a List.mem_cons_self
              have hokb := hokB b List.mem_cons_self
              have hopen : ∀ e : AG, ¬ isF s.2.1 e → e.2.1 % 4 = 2 → s.2.1 (e.2.1 / 4) = none := by
                intro e he c
                cases hz : s.2.1 (e.2.1 / 4) with
                | none => rfl
                | some F => exact absurd ⟨c, F, hz⟩ he
              rw [List.length_cons] at lL lM
              have lAe : (tN s.2.1 R A).length = L1.length + 1 := by rw [hAe]; rfl
              have lBe : (tN s.2.1 R B).length = M1.length + 1 := by rw [hBe]; rfl
              refine wp_t (by rw [List.length_cons]; omega) (wp_t rfl ?_)
              refine wp_sq (R := fun w υ => Wp (l_D_unify_99 fu n x3 w υ) (fun z τ => z = (un O R (k + 1) s (a :: L1 ++ tN s.2.1 R (ct1 E)) (b :: M1 ++ tN s.2.1 R (ct2 E))).1 ∧ fx XU σ τ ∧ f4 σ τ ∧ rSt τ told (un O R (k + 1) s (a :: L1 ++ tN s.2.1 R (ct1 E)) (b :: M1 ++ tN s.2.1 R (ct2 E))).2)) ?_ (fun w υ h => h)
              refine s_rows (N := N) (β := β) hfu hR hRf hb2 hN hN2 hg hc ho hE (by rw [h31, List.length_cons]; omega) (by omega) (by omega) htA0 htB0 (by omega) hoA hoB (by rw [hAe, List.length_cons]; omega) (by rw [hBe, List.length_cons]; omega) ?_
              intro τ xτ fτ cτ oτ eτ g31 g29 g30 rA rB pA pB
              rw [hAe] at rA pA g29
              rw [hBe] at rB pB g30
              obtain ⟨p0, e0, lp0⟩ := eτ
              have hra := rho_of rA
              have hrb := rho_of rB
              -- behind a step
              have cont : ∀ (s' : St) (E2 : Eqs) (S2 : List Int) (p2 : Int) (υ : SS), gOk O told R s' → sx2 s s' → rSt υ told s' → fx XU τ υ → f4 τ υ → eqs υ E2 p2 → υ.1 55 31 = (E2.length : Int) → trz O E2 S2 → okE s'.1 N E2 → rin R s' A0 (j + 1) (tN s'.2.1 R (ct1 E2)) → rin R s' B0 0 (tN s'.2.1 R (ct2 E2)) → un O R (k + 1) s (a :: L1 ++ tN s.2.1 R (ct1 E)) (b :: M1 ++ tN s.2.1 R (ct2 E)) = un O R k s' (tN s'.2.1 R (ct1 E2)) (tN s'.2.1 R (ct2 E2)) →
                  Wp (l_D_unify_99 fu n x3 0 υ) (fun z τ => z = (un O R (k + 1) s (a :: L1 ++ tN s.2.1 R (ct1 E)) (b :: M1 ++ tN s.2.1 R (ct2 E))).1 ∧ fx XU σ τ ∧ f4 σ τ ∧ rSt τ told (un O R (k + 1) s (a :: L1 ++ tN s.2.1 R (ct1 E)) (b :: M1 ++ tN s.2.1 R (ct2 E))).2) := by
                intro s' E2 S2 p2 υ k1 k2 k3 k4 k5 k6 k7 k8 k9 k10 k11 k12
                rw [k12]
                have h9 := ih n (j + 1) s' E2 S2 p2 υ (by omega) k10 k11 (by omega) k1 k3 (rOp_fx k4 (by unfold XU; omega) (by unfold XU; omega) oτ) k6 k7 k8 k9
                exact wp_mono h9 (fun z ω w => ⟨w.1, fx_tr (fx_tr xτ k4) w.2.1, f4_tr (f4_tr fτ k5) w.2.2.1, w.2.2.2⟩)
              -- a fault
              have halt : ∀ (w : Int) (s' : St) (υ : SS), w ≠ 0 → rSt υ told s' → fx XU τ υ → f4 τ υ → un O R (k + 1) s (a :: L1 ++ tN s.2.1 R (ct1 E)) (b :: M1 ++ tN s.2.1 R (ct2 E)) = (w, s') →
                  Wp (l_D_unify_99 fu n x3 w υ) (fun z τ => z = (un O R (k + 1) s (a :: L1 ++ tN s.2.1 R (ct1 E)) (b :: M1 ++ tN s.2.1 R (ct2 E))).1 ∧ fx XU σ τ ∧ f4 σ τ ∧ rSt τ told (un O R (k + 1) s (a :: L1 ++ tN s.2.1 R (ct1 E)) (b :: M1 ++ tN s.2.1 R (ct2 E))).2) := by
                intro w s' υ hw k3 k4 k5 k12
                rw [k12]
                cases n with
                | zero => omega
                | succ n =>
                  rw [l_D_unify_99]
                  exact wp_if (fun _ => wp_f hw (wp_some ⟨rfl, fx_tr xτ k4, f4_tr fτ k5, k3⟩)) (fun _ => wp_some ⟨rfl, fx_tr xτ k4, f4_tr fτ k5, k3⟩)
              -- a step that takes the equation away
              have gone : ∀ (s' : St) (υ : SS), gOk O told R s' → sx2 s s' → rSt υ told s' → fx XU τ υ → f4 τ υ → eqs υ E p0 → υ.1 55 31 = (E.length : Int) → un O R (k + 1) s (a :: L1 ++ tN s.2.1 R (ct1 E)) (b :: M1 ++ tN s.2.1 R (ct2 E)) = un O R k s' (tN s'.2.1 R (tN s.2.1 R (ct1 E))) (tN s'.2.1 R (tN s.2.1 R (ct2 E))) →
                  Wp (l_D_unify_99 fu n x3 0 υ) (fun z τ => z = (un O R (k + 1) s (a :: L1 ++ tN s.2.1 R (ct1 E)) (b :: M1 ++ tN s.2.1 R (ct2 E))).1 ∧ fx XU σ τ ∧ f4 σ τ ∧ rSt τ told (un O R (k + 1) s (a :: L1 ++ tN s.2.1 R (ct1 E)) (b :: M1 ++ tN s.2.1 R (ct2 E))).2) := by
                intro s' υ k1 k2 k3 k4 k5 k6 k7 k8
                have r1 := rin_next (C := a :: L1) hR k1 k2 (by rw [List.length_cons]; omega) hrA
                have r2 := rin_next (C := b :: M1) hR k1 k2 (by rw [List.length_cons]; omega) hrB
                rw [tN_cmp hR k1 k2.1] at r1 r2
                rw [tN_cmp hR k1 k2.1, tN_cmp hR k1 k2.1] at k8
                exact cont s' E S p0 υ k1 k2 k3 k4 k5 k6 k7 htE (okE_pa k2.2.1 hokE) r1 (rin_mono r2 (Nat.zero_le _)) k8
              have u77 : ∀ a, 77 ≤ a → a ≤ 80 → ¬ X81 a := fun a h1 h2 z => by unfold X81 at z; omega
              have v77 : ∀ a, 77 ≤ a → a ≤ 80 → ¬ XR a := fun a h1 h2 z => by unfold XR at z; omega
              refine wp_ck ⟨by omega, by omega⟩ ?_
              rw [hra.1]
              have hdA : Wp (if a.2.1 % 4 = 2 then (some ((1 : Int), τ)) else (some (0, τ))) (fun z υ => z = (if a.2.1 % 4 = 2 then 1 else 0) ∧ υ = τ) := wp_if (fun c => wp_some ⟨by rw [if_pos c], rfl⟩) (fun c => wp_some ⟨by rw [if_neg c], rfl⟩)
              have hdB : Wp (if b.2.1 % 4 = 2 then (some ((1 : Int), τ)) else (some (0, τ))) (fun z υ => z = (if b.2.1 % 4 = 2 then 1 else 0) ∧ υ = τ) := wp_if (fun c => wp_some ⟨by rw [if_pos c], rfl⟩) (fun c => wp_some ⟨by rw [if_neg c], rfl⟩)
              refine wp_sq hdA ?_
              rintro z1 υ1 ⟨hz1, hυ1⟩
              rw [hυ1]
              refine wp_ck ⟨by omega, by omega⟩ ?_
              rw [hrb.1]
              refine wp_sq hdB ?_
              rintro z2 υ2 ⟨hz2, hυ2⟩
              rw [hυ2]
              rw [hra.1, hrb.1]
              by_cases va : a.2.1 % 4 = 2
              · rw [if_pos va] at hz1
                have hΦa := hopen a (hnoA a List.mem_cons_self) va
                have hpa := hoka.2.2.2.2.2.1 va
                have tpa : tP O a = [] := tP_hole (by omega)
                rw [tpa] at htL1
                have hL1 : L1 = [] := tR_e htL1
                by_cases vb : b.2.1 % 4 = 2
                · rw [if_pos vb] at hz2
                  have hΦb := hopen b (hnoB b List.mem_cons_self) vb
                  have hpb := hokb.2.2.2.2.2.1 vb
                  have tpb : tP O b = [] := tP_hole (by omega)
                  rw [tpb] at htM1
                  have hM1 : M1 = [] := tR_e htM1
                  by_cases ce : a.2.1 = b.2.1
                  · have ce' : a.2.1 / 4 = b.2.1 / 4 := by rw [ce]
                    have hun : un O R (k + 1) s (a :: L1 ++ tN s.2.1 R (ct1 E)) (b :: M1 ++ tN s.2.1 R (ct2 E)) = un O R k (nw s (a.2.1 / 4) a.2.2 b.2.2) (tN (nw s (a.2.1 / 4) a.2.2 b.2.2).2.1 R (tN s.2.1 R (ct1 E))) (tN (nw s (a.2.1 / 4) a.2.2 b.2.2).2.1 R (tN s.2.1 R (ct2 E))) := by
                      rw [hL1, hM1]
                      show (if a.2.1 % 4 = 2 then (if b.2.1 % 4 = 2 then (if a.2.1 / 4 = b.2.1 / 4 then _ else _) else _) else _) = _
                      rw [if_pos va, if_pos vb, if_pos ce']
                      rfl
                    refine wp_sr (R := fun z υ => ∃ w, z = .inl w ∧ w = 0 ∧ fy X81 τ υ ∧ rSt υ told (nw s (a.2.1 / 4) a.2.2 b.2.2)) (wp_f (by omega) (wp_f (by omega) (wp_ck ⟨by omega, by omega⟩ (wp_ck ⟨by omega, by omega⟩ (wp_t ce (wp_sq (s_same hR (by omega) hg cτ hra hrb hΦa hpa (by rw [ce'] at hpa; omega)) (fun z υ h => wp_some ⟨z, rfl, h⟩))))))) ?_ ?_
                    · rintro w υ ⟨w', hw, rfl, x9, c9⟩
                      cases hw
                      obtain ⟨y1, y2⟩ := X81_XU x9
                      exact gone _ υ (nw_ok hR hg hΦa hpa) (sx2_nw hg.1 hΦa) c9 y1 y2 (eqs_fx x9.1 u77 e0) (by rw [x9.2 31 (by decide)]; exact g31) hun
                    · rintro w υ ⟨w', hw, -⟩
                      cases hw
                  · have ce' : a.2.1 / 4 ≠ b.2.1 / 4 := by omega
                    have hun : un O R (k + 1) s (a :: L1 ++ tN s.2.1 R (ct1 E)) (b :: M1 ++ tN s.2.1 R (ct2 E)) = un O R k (jn s (a.2.1 / 4) a.2.2 (b.2.1 / 4) b.2.2) (tN (jn s (a.2.1 / 4) a.2.2 (b.2.1 / 4) b.2.2).2.1 R (tN s.2.1 R (ct1 E))) (tN (jn s (a.2.1 / 4) a.2.2 (b.2.1 / 4) b.2.2).2.1 R (tN s.2.1 R (ct2 E))) := by
                      rw [hL1, hM1]
                      show (if a.2.1 % 4 = 2 then (if b.2.1 % 4 = 2 then (if a.2.1 / 4 = b.2.1 / 4 then _ else _) else _) else _) = _
                      rw [if_pos va, if_pos vb, if_neg ce']
                      rfl
                    obtain ⟨j1, j2⟩ := jn_ok hR hg hΦa hpa hΦb hpb ce' hoka.2.2.2.2.2.2.2
                    refine wp_sr (R := fun z υ => ∃ w, z = .inl w ∧ w = 0 ∧ fy X81 τ υ ∧ rSt υ told (jn s (a.2.1 / 4) a.2.2 (b.2.1 / 4) b.2.2)) (wp_f (by omega) (wp_f (by omega) (wp_ck ⟨by omega, by omega⟩ (wp_ck ⟨by omega, by omega⟩ (wp_f ce (wp_sq (s_both hR (by omega) hg cτ hra hrb hΦa hpa hΦb hpb ce') (fun z υ h => wp_some ⟨z, rfl, h⟩))))))) ?_ ?_
                    · rintro w υ ⟨w', hw, rfl, x9, c9⟩
                      cases hw
                      obtain ⟨y1, y2⟩ := X81_XU x9
                      exact gone _ υ j1 j2 c9 y1 y2 (eqs_fx x9.1 u77 e0) (by rw [x9.2 31 (by decide)]; exact g31) hun
                    · rintro w υ ⟨w', hw, -⟩
                      cases hw
                · -- the left is a hole, the right a term
                  rw [if_neg vb] at hz2
                  have htk := tk_tR (O := O) (b :: M1 ++ tN s.2.1 R (ct2 E)) [b.1] S (tR_both (S := [b.1]) (by rw [← hβb]; exact htBN) tM')
                  rw [show ([b.1] : List Int).length = 1 from rfl] at htk
                  obtain ⟨u1, u2⟩ := tR_uniq (tk_app (O := O) (b :: M1 ++ tN s.2.1 R (ct2 E)) 1) htk.1 (show tR O (b :: M1) [b.1] = some [] by rw [← hβb]; exact htBN)
                  have hun : un O R (k + 1) s (a :: L1 ++ tN s.2.1 R (ct1 E)) (b :: M1 ++ tN s.2.1 R (ct2 E)) = if (flt R (a.2.1 / 4) a.1 a.2.2 s (b :: M1)).1 = 0 then un O R k (flt R (a.2.1 / 4) a.1 a.2.2 s (b :: M1)).2 (tN (flt R (a.2.1 / 4) a.1 a.2.2 s (b :: M1)).2.2.1 R (tN s.2.1 R (ct1 E))) (tN (flt R (a.2.1 / 4) a.1 a.2.2 s (b :: M1)).2.2.1 R (tN s.2.1 R (ct2 E))) else flt R (a.2.1 / 4) a.1 a.2.2 s (b :: M1) := by
                    have hstep : un O R (k + 1) s (a :: (L1 ++ tN s.2.1 R (ct1 E))) (b :: (M1 ++ tN s.2.1 R (ct2 E))) = if (flt R (a.2.1 / 4) a.1 a.2.2 s (tk O (b :: (M1 ++ tN s.2.1 R (ct2 E))) 1).1).1 = 0 then un O R k (flt R (a.2.1 / 4) a.1 a.2.2 s (tk O (b :: (M1 ++ tN s.2.1 R (ct2 E))) 1).1).2 (tN (flt R (a.2.1 / 4) a.1 a.2.2 s (tk O (b :: (M1 ++ tN s.2.1 R (ct2 E))) 1).1).2.2.1 R (L1 ++ tN s.2.1 R (ct1 E))) (tN (flt R (a.2.1 / 4) a.1 a.2.2 s (tk O (b :: (M1 ++ tN s.2.1 R (ct2 E))) 1).1).2.2.1 R (tk O (b :: (M1 ++ tN s.2.1 R (ct2 E))) 1).2) else flt R (a.2.1 / 4) a.1 a.2.2 s (tk O (b :: (M1 ++ tN s.2.1 R (ct2 E))) 1).1 := by
                      show (if a.2.1 % 4 = 2 then (if b.2.1 % 4 = 2 then _ else _) else _) = _
                      rw [if_pos va, if_neg vb]
                    have u1' : (tk O (b :: (M1 ++ tN s.2.1 R (ct2 E))) 1).1 = b :: M1 := u1
                    have u2' : (tk O (b :: (M1 ++ tN s.2.1 R (ct2 E))) 1).2 = tN s.2.1 R (ct2 E) := u2
                    rw [u1', u2', hL1, List.nil_append] at hstep
                    rw [hL1]
                    exact hstep
                  obtain ⟨f1, f2, f3, f4'⟩ := flt_ok (β := a.1) (x := a.2.2) (T := b :: M1) hR hN hb2 hg hΦa hpa hokB hnoB (by rw [hab, ← hβb]; exact htBN)
                  have hfr := s_fillr (q := 71) (r := 72) (N := N) (a := a) (T := b :: M1) (σ := τ) (Or.inl ⟨rfl, rfl⟩) hfu hR hRf hb2 h3 hN hN2 (by omega) va hg cτ oτ hΦa hpa hra rB hnoB hokB (by rw [hab, ← hβb]; exact htBN) (by rw [List.length_cons]; omega)
                  refine wp_sr (R := fun z υ => z = .inr () ∧ υ = τ) (wp_f (by omega) (wp_t hz2 (wp_some ⟨rfl, rfl⟩))) (fun a υ h => by cases h.1) ?_
                  rintro u υ ⟨-, hυ⟩
                  rw [hυ]
                  refine wp_f (by omega) ?_
                  rw [g30]
                  refine wp_sq hfr ?_
                  rintro w υ' ⟨x9, rfl, c9⟩
                  obtain ⟨y1, y2⟩ := XR_XU x9
                  refine wp_some ?_
                  by_cases cz : (flt R (a.2.1 / 4) a.1 a.2.2 s (b :: M1)).1 = 0
                  · rw [if_pos cz] at hun
                    rw [cz]
                    exact gone _ υ' ⟨f1, f2, f4' cz⟩ f3 c9 y1 y2 (eqs_fx x9.1 v77 e0) (by rw [x9.2 31 (by decide)]; exact g31) hun
                  · rw [if_neg cz] at hun
                    exact halt _ _ υ' cz c9 y1 y2 hun
              · rw [if_neg va] at hz1
                by_cases vb : b.2.1 % 4 = 2
                · -- the right is a hole, the left a term
                  rw [if_pos vb] at hz2
                  have hΦb := hopen b (hnoB b List.mem_cons_self) vb
                  have hpb := hokb.2.2.2.2.2.1 vb
                  have tpb : tP O b = [] := tP_hole (by omega)
                  rw [tpb] at htM1
                  have hM1 : M1 = [] := tR_e htM1
                  have htk := tk_tR (O := O) (a :: L1 ++ tN s.2.1 R (ct1 E)) [a.1] S (tR_both (S := [a.1]) (by rw [← hβa]; exact htAN) tL')
                  rw [show ([a.1] : List Int).length = 1 from rfl] at htk
                  obtain ⟨u1, u2⟩ := tR_uniq (tk_app (O := O) (a :: L1 ++ tN s.2.1 R (ct1 E)) 1) htk.1 (show tR O (a :: L1) [a.1] = some [] by rw [← hβa]; exact htAN)
                  have hun : un O R (k + 1) s (a :: L1 ++ tN s.2.1 R (ct1 E)) (b :: M1 ++ tN s.2.1 R (ct2 E)) = if (flt R (b.2.1 / 4) b.1 b.2.2 s (a :: L1)).1 = 0 then un O R k (flt R (b.2.1 / 4) b.1 b.2.2 s (a :: L1)).2 (tN (flt R (b.2.1 / 4) b.1 b.2.2 s (a :: L1)).2.2.1 R (tN s.2.1 R (ct1 E))) (tN (flt R (b.2.1 / 4) b.1 b.2.2 s (a :: L1)).2.2.1 R (tN s.2.1 R (ct2 E))) else flt R (b.2.1 / 4) b.1 b.2.2 s (a :: L1) := by
                    have hstep : un O R (k + 1) s (a :: (L1 ++ tN s.2.1 R (ct1 E))) (b :: (M1 ++ tN s.2.1 R (ct2 E))) = if (flt R (b.2.1 / 4) b.1 b.2.2 s (tk O (a :: (L1 ++ tN s.2.1 R (ct1 E))) 1).1).1 = 0 then un O R k (flt R (b.2.1 / 4) b.1 b.2.2 s (tk O (a :: (L1 ++ tN s.2.1 R (ct1 E))) 1).1).2 (tN (flt R (b.2.1 / 4) b.1 b.2.2 s (tk O (a :: (L1 ++ tN s.2.1 R (ct1 E))) 1).1).2.2.1 R (tk O (a :: (L1 ++ tN s.2.1 R (ct1 E))) 1).2) (tN (flt R (b.2.1 / 4) b.1 b.2.2 s (tk O (a :: (L1 ++ tN s.2.1 R (ct1 E))) 1).1).2.2.1 R (M1 ++ tN s.2.1 R (ct2 E))) else flt R (b.2.1 / 4) b.1 b.2.2 s (tk O (a :: (L1 ++ tN s.2.1 R (ct1 E))) 1).1 := by
                      show (if a.2.1 % 4 = 2 then _ else if b.2.1 % 4 = 2 then _ else _) = _
                      rw [if_neg va, if_pos vb]
                    have u1' : (tk O (a :: (L1 ++ tN s.2.1 R (ct1 E))) 1).1 = a :: L1 := u1
                    have u2' : (tk O (a :: (L1 ++ tN s.2.1 R (ct1 E))) 1).2 = tN s.2.1 R (ct1 E) := u2
                    rw [u1', u2', hM1, List.nil_append] at hstep
                    rw [hM1]
                    exact hstep
                  obtain ⟨f1, f2, f3, f4'⟩ := flt_ok (β := b.1) (x := b.2.2) (T := a :: L1) hR hN hb2 hg hΦb hpb hokA hnoA (by rw [← hab, ← hβa]; exact htAN)
                  have hfr := s_fillr (q := 72) (r := 71) (N := N) (a := b) (T := a :: L1) (σ := τ) (Or.inr ⟨rfl, rfl⟩) hfu hR hRf hb2 h3 hN hN2 (by omega) vb hg cτ oτ hΦb hpb hrb rA hnoA hokA (by rw [← hab, ← hβa]; exact htAN) (by rw [List.length_cons]; omega)
                  refine wp_sr (R := fun z υ => z = .inr () ∧ υ = τ) (wp_t hz1 (wp_some ⟨rfl, rfl⟩)) (fun a υ h => by cases h.1) ?_
                  rintro u υ ⟨-, hυ⟩
                  rw [hυ]
                  refine wp_t hz1 (wp_f (by omega) ?_)
                  rw [g29]
                  refine wp_sq hfr ?_
                  rintro w υ' ⟨x9, rfl, c9⟩
                  obtain ⟨y1, y2⟩ := XR_XU x9
                  refine wp_some ?_
                  by_cases cz : (flt R (b.2.1 / 4) b.1 b.2.2 s (a :: L1)).1 = 0
                  · rw [if_pos cz] at hun
                    rw [cz]
                    exact gone _ υ' ⟨f1, f2, f4' cz⟩ f3 c9 y1 y2 (eqs_fx x9.1 v77 e0) (by rw [x9.2 31 (by decide)]; exact g31) hun
                  · rw [if_neg cz] at hun
                    exact halt _ _ υ' cz c9 y1 y2 hun
                · -- two items
                  rw [if_neg vb] at hz2
                  refine wp_sr (R := fun z υ => z = .inr () ∧ υ = τ) (wp_t hz1 (wp_some ⟨rfl, rfl⟩)) (fun a υ h => by cases h.1) ?_
                  rintro u υ ⟨-, hυ⟩
                  rw [hυ, hra.1, hrb.1]
                  refine wp_t hz1 (wp_t hz2 (wp_ck ⟨by omega, by omega⟩ (wp_ck ⟨by omega, by omega⟩ ?_)))
                  by_cases ce : a.2.1 = b.2.1
                  · have hun : un O R (k + 1) s (a :: L1 ++ tN s.2.1 R (ct1 E)) (b :: M1 ++ tN s.2.1 R (ct2 E)) = un O R k s (L1 ++ tN s.2.1 R (ct1 E)) (M1 ++ tN s.2.1 R (ct2 E)) := by
                      show (if a.2.1 % 4 = 2 then _ else if b.2.1 % 4 = 2 then _ else if a.2.1 = b.2.1 then _ else _) = _
                      rw [if_neg va, if_neg vb, if_pos ce]
                      rfl
                    refine wp_t ce (wp_ck ⟨by omega, by omega⟩ ?_)
                    by_cases vo : a.2.1 % 4 = 1
                    · -- the parts of an operation
                      have hk9 : 0 ≤ O.1 (a.2.1 / 4) := (tR_opk htAN).elim (fun z => absurd vo z) id
                      rw [← tP_eq hab ce] at htM1
                      obtain ⟨Z, z1, z2, z3⟩ := trz_of (tP O a) L1 M1 htL1 htM1
                      have ea := hoka.2.2.2.2.2.2.1 va
                      have eb := hokb.2.2.2.2.2.2.1 vb
                      have rA1 : rseg τ 71 1 (ct1 Z) (il (a :: L1)) := by
                        have := rA.2.2
                        rw [ea, show (0 : Int) + 1 + (([] : List Int).length : Int) = 1 from rfl] at this
                        rw [z1]; exact this
                      have rB1 : rseg τ 72 1 (ct2 Z) (il (b :: M1)) := by
                        have := rB.2.2
                        rw [eb, show (0 : Int) + 1 + (([] : List Int).length : Int) = 1 from rfl] at this
                        rw [z2]; exact this
                      have ilA1 := il_le (O := O) hg.1.2.2.2.1 hokA
                      have ilB1 := il_le (O := O) hg.1.2.2.2.1 hokB
                      have ilAc : il (a :: L1) = 1 + a.2.2.length + il L1 := il_cons a L1
                      have ilBc : il (b :: M1) = 1 + b.2.2.length + il M1 := il_cons b M1
                      rw [List.length_cons] at ilA1 ilB1
                      have hZl := trz_len z3
                      have hsl1 := tR_slen htL1
                      have hln : (Z ++ E).length < 4000 := by rw [List.length_append]; omega
                      have hcap : (il (ct1 (Z ++ E)) : Int) + il (ct2 (Z ++ E)) ≤ 60000 := by
                        rw [ct1_app, ct2_app, il_append, il_append, z1, z2]
                        omega
                      refine wp_t vo (wp_ck ⟨by omega, by omega⟩ (wp_sq (s_parts (O := O) (Z := Z) (E := E) hfu (by omega) (by omega) vo hk9 z3 oτ rA1 rB1 (by rw [z1]; exact rpa_tl pA) (by rw [z2]; exact rpa_tl pB) (by rw [z1]; omega) (by rw [z2]; omega) e0 g31 hln hcap) ?_))
                      rintro w υ' ⟨rfl, x9, f9, g9, p', e9⟩
                      refine wp_some ?_
                      have hcr : rSt υ' told s := by
                        obtain ⟨k1, k2, k3, k4⟩ := cτ
                        have nE : ∀ a, a ≠ 55 → (a < 77 ∨ 80 < a) → ¬ XE a := fun a h1 h2 z => by unfold XE at z; omega
                        exact ⟨rHol_fx x9 (fun a h1 h2 => nE a (by omega) (by omega)) k1, by rw [f9 2 (by decide)]; exact k2, by rw [f9 3 (by decide)]; exact k3, fun g h1 h2 => by rw [fx_a x9 (nE 61 (by omega) (by omega))]; exact k4 g h1 h2⟩
                      have hnL1 : tN s.2.1 R L1 = L1 := tN_nof R (fun e he => hnoA e (List.mem_cons_of_mem _ he))
                      have hnM1 : tN s.2.1 R M1 = M1 := tN_nof R (fun e he => hnoB e (List.mem_cons_of_mem _ he))
                      have hct1 : tN s.2.1 R (ct1 (Z ++ E)) = L1 ++ tN s.2.1 R (ct1 E) := by rw [ct1_app, tN_append, z1, hnL1]
                      have hct2 : tN s.2.1 R (ct2 (Z ++ E)) = M1 ++ tN s.2.1 R (ct2 E) := by rw [ct2_app, tN_append, z2, hnM1]
                      have r1 := rin_next (C := [a]) (L := L1 ++ tN s.2.1 R (ct1 E)) hR hg sx2_rf (Nat.le_refl _) hrA
                      have r2 := rin_next (C := [b]) (L := M1 ++ tN s.2.1 R (ct2 E)) hR hg sx2_rf (Nat.le_refl _) hrB
                      rw [tN_append, hnL1, tN_cmp hR hg (fun _ _ z => z)] at r1
                      rw [tN_append, hnM1, tN_cmp hR hg (fun _ _ z => z)] at r2
                      refine cont s (Z ++ E) (tP O a ++ S) p' υ' hg sx2_rf hcr (fx_mono x9 (fun a z => by unfold XE at z; unfold XU; omega)) (fun b _ _ _ h => f9 b h) e9 g9 (trz_app z3 htE) (fun z hz => ?_) (by rw [hct1]; exact r1) (by rw [hct2]; exact rin_mono r2 (Nat.zero_le _)) (by rw [hct1, hct2]; exact hun)
                      rcases List.mem_append.mp hz with w | w
                      · obtain ⟨m1, m2⟩ := ct_mem w
                        rw [z1] at m1
                        rw [z2] at m2
                        exact ⟨fun e he => hokA e (List.mem_cons_of_mem _ (m1 e he)), fun e he => hokB e (List.mem_cons_of_mem _ (m2 e he))⟩
                      · exact hokE z w
                    · -- a variable
                      rw [tP_hole vo] at htL1
                      rw [tP_hole (by omega)] at htM1
                      have hL1 : L1 = [] := tR_e htL1
                      have hM1 : M1 = [] := tR_e htM1
                      refine wp_f vo (wp_some ?_)
                      refine gone s τ hg sx2_rf cτ fx_rf (fun _ _ _ _ _ => rfl) e0 g31 ?_
                      rw [hun, hL1, hM1, List.nil_append, List.nil_append, tN_cmp hR hg (fun _ _ z => z), tN_cmp hR hg (fun _ _ z => z)]
                  · have hun : un O R (k + 1) s (a :: L1 ++ tN s.2.1 R (ct1 E)) (b :: M1 ++ tN s.2.1 R (ct2 E)) = (1, s) := by
                      show (if a.2.1 % 4 = 2 then _ else if b.2.1 % 4 = 2 then _ else if a.2.1 = b.2.1 then _ else _) = _
                      rw [if_neg va, if_neg vb, if_neg ce]
                    exact wp_f ce (wp_some (halt 1 s τ (by decide) cτ fx_rf (fun _ _ _ _ _ => rfl) hun))
