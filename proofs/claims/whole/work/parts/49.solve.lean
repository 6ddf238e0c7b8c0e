/-! THE CLASS UNIFIES AS THE MACHINE DOES -/
theorem len80 {O : Op} {told : Int} {R : Nat} {s : St} (hR : 300 < R) (hg : gOk O told R s) : ∀ r : Row, (tN s.2.1 R r).length ≤ 80 * r.length := by
  intro r
  induction r with
  | nil => rw [tN_nil]; exact Nat.le_refl _
  | cons e r ih =>
    have h1 : (tN s.2.1 R [e]).length ≤ 80 := by
      by_cases c : isF s.2.1 e
      · obtain ⟨c1, F, hF⟩ := c
        rw [tN_hole2 hR hg.1 hg.2.1 c1 hF, List.length_map]
        exact hg.2.2 _ F hF
      · rw [tN_open c]
        show 1 ≤ 80
        omega
    rw [tN_cons, List.length_append, List.length_cons]
    omega
theorem tR_all {O : Op} : ∀ {r : Row} {S : List Int}, tR O r S = some [] → ∀ z ∈ S, ∃ e ∈ r, e.1 = z := by
  intro r
  induction r with
  | nil => intro S h z hz; have : S = [] := Option.some.inj h; rw [this] at hz; cases hz
  | cons e r ih =>
    intro S h z hz
    obtain ⟨T, rfl, h2⟩ := tR_inv h
    rcases List.mem_cons.mp hz with c | c
    · exact ⟨e, List.mem_cons_self, c.symm⟩
    · obtain ⟨x, hx, h3⟩ := ih h2 z (List.mem_append_right _ c)
      exact ⟨x, List.mem_cons_of_mem _ hx, h3⟩
/-- what is left of a term of which j groups are gone -/
def rin (R : Nat) (s : St) (A : Row) (j : Nat) (L : Row) : Prop := ∃ P : Row, tN s.2.1 R P ++ L = tN s.2.1 R A ∧ j ≤ P.length
theorem rin_len {O : Op} {told : Int} {R j : Nat} {s : St} {A L : Row} (hR : 300 < R) (hg : gOk O told R s) (hl : A.length ≤ 30) (h : rin R s A j L) : j + L.length ≤ 2400 := by
  obtain ⟨P, h1, h2⟩ := h
  have h3 := len80 hR hg A
  have h4 := len_N hg.1.2.1 R P
  have h5 : (tN s.2.1 R P ++ L).length = (tN s.2.1 R A).length := by rw [h1]
  rw [List.length_append] at h5
  omega
theorem rin_bok {O : Op} {told : Int} {R j : Nat} {s : St} {A L : Row} {S : List Int} (hb2 : bd2 O) (hR : 300 < R) (hg : gOk O told R s) (hl : A.length ≤ 30) (hA : tR O A [0] = some []) (h : rin R s A j L) (hS : tR O L S = some []) : bok S L.length := by
  have h0 := rin_len hR hg hl h
  obtain ⟨P, h1, h2⟩ := h
  intro z hz
  obtain ⟨e, he, rfl⟩ := tR_all hS z hz
  have h3 := tR_N hg.1.2.1 R hA
  have h4 := tR_bnd hb2 (lo := 0) (hi := 0) (fun z hz => by cases List.mem_singleton.mp hz; omega) h3 e (by rw [← h1]; exact List.mem_append_right _ he)
  have h5 := len80 hR hg A
  omega
theorem rin_next {O : Op} {told : Int} {R j : Nat} {s t : St} {A C L : Row} (hR : 300 < R) (ht : gOk O told R t) (hx : sx2 s t) (hC : 1 ≤ C.length) (h : rin R s A j (C ++ L)) : rin R t A (j + 1) (tN t.2.1 R L) := by
  obtain ⟨P, h1, h2⟩ := h
  refine ⟨P ++ C, ?_, by rw [List.length_append]; omega⟩
  rw [tN_append, ← tN_cmp hR ht hx.1 R P, List.append_assoc, ← tN_append, ← tN_append, h1]
  exact tN_cmp hR ht hx.1 R A
theorem rin_mono {R i j : Nat} {s : St} {A L : Row} (h : rin R s A j L) (hij : i ≤ j) : rin R s A i L := by
  obtain ⟨P, h1, h2⟩ := h
  exact ⟨P, h1, by omega⟩
def XS : Nat → Prop := fun a => (1 ≤ a ∧ a ≤ 3) ∨ (7 ≤ a ∧ a ≤ 12) ∨ (30 ≤ a ∧ a ≤ 50)
theorem XW_XS {σ τ : SS} (h : fx XW σ τ) : fx XS σ τ := fx_mono h (fun a z => by unfold XW at z; unfold XS; omega)
theorem cP_XS {σ τ : SS} {p : Nat} (hp : cur p) (h : fx (cP p) σ τ) : fx XS σ τ := by
  have := cur_ge hp
  exact fx_mono h (fun a z => by unfold cP at z; unfold XS; omega)
theorem XF_XS {σ τ : SS} {r : Nat} (hr : cur r) (h : fx (XF r) σ τ) : fx XS σ τ := by
  have := cur_ge hr
  exact fx_mono h (fun a z => by unfold XF XA XW cP at z; unfold XS; omega)
theorem tP_eq {O : Op} {a b : AG} (h1 : a.1 = b.1) (h2 : a.2.1 = b.2.1) : tP O a = tP O b := by
  unfold tP
  rw [h1, h2]
/-- what a run of the machine gives, and the class holds it -/
def solP (O : Op) (told : Int) (R : Nat) (s : St) (σ : SS) (u : Int × St) (τ : SS) : Prop := cSt τ told u.2 ∧ fx XS σ τ ∧ cle σ τ (σ.1 1 2) ∧ σ.1 1 2 ≤ τ.1 1 2 ∧ sOk O told u.2 ∧ mOk told u.2 ∧ sx2 s u.2 ∧ (u.1 = 0 → sz80 u.2.2.1 R)
theorem solP_tr {O : Op} {told : Int} {R : Nat} {s s' : St} {σ σ' τ : SS} {u : Int × St} (hx : fx XS σ σ') (hcl : cle σ σ' (σ.1 1 2)) (ht : σ.1 1 2 ≤ σ'.1 1 2) (hs : sx2 s s') (h : solP O told R s' σ' u τ) : solP O told R s σ u τ := by
  obtain ⟨h1, h2, h3, h4, h5, h6, h7, h8⟩ := h
  exact ⟨h1, fx_tr hx h2, cle_tr hcl h3 ht, by omega, h5, h6, sx2_tr hs h7, h8⟩
theorem s_solvel {O : Op} {fu R : Nat} {told N : Int} {A0 B0 : Row} (hR : 300 < R) (hRf : R < fu) (hR2 : R ≤ 1000) (hfu : 3000 ≤ fu) (hN : 0 ≤ N) (hN2 : N ≤ 1000) (hb2 : bd2 O) (hA : tR O A0 [0] = some []) (hAl : A0.length ≤ 30) (hB : tR O B0 [0] = some []) (hBl : B0.length ≤ 30) :
    ∀ (k n j : Nat) (x1 : Int) (s : St) (L M : Row) (S : List Int) (fl fr : List Fr) (σ : SS), 2400 < k + j → rin R s A0 j L → rin R s B0 0 M → k < n → 0 ≤ x1 → x1 + k < 1000000 → gOk O told R s → cSt σ told s → cOp σ O → cst σ 30 s.1 s.2.1 N fl → ahd s.2.1 R fl = L → cst σ 36 s.1 s.2.1 N fr → ahd s.2.1 R fr = M → tR O L S = some [] → tR O M S = some [] →
    Wp (l_N_solve_2 fu n x1 σ) (fun y τ => y = .inl (un O R k s L M).1 ∧ solP O told R s σ (un O R k s L M) τ) := by
  intro k
  induction k with
  | zero =>
    intro n j x1 s L M S fl fr σ hkj hrA _ _ _ _ hg
    have := rin_len hR hg hAl hrA
    omega
  | succ k ih =>
    intro n j x1 s L M S fl fr σ hkj hrA hrB hn hx0 hxk hg hc ho hcl hal hcr har htL htM
    cases n with
    | zero => omega
    | succ n =>
      rw [l_N_solve_2]
      have hHk := sOk_hOk hg.1 hg.2.1 hR hg.2.2
      have hbL := bok_row hb2 (rin_bok hb2 hR hg hAl hA hrA htL) htL
      have hbM := bok_row hb2 (rin_bok hb2 hR hg hBl hB hrB htM) htM
      have htop := top_le hg.1 hg.2.1 hc
      refine wp_t (by omega) (wp_sq (s_advance cur30 (by omega) hRf hR2 hHk hN hN2 hc.1 (by omega) hcl (by rw [hal]; exact fun e he => (hbL e he).2)) ?_)
      rintro a2 σ3 ⟨q1, q2⟩
      rw [hal] at q2
      have n30 : ∀ a, (a < 30 ∨ 35 < a) → ¬ cP 30 a := fun a ha z => by unfold cP at z; omega
      have n36 : ∀ a, (a < 36 ∨ 41 < a) → ¬ cP 36 a := fun a ha z => by unfold cP at z; omega
      have c3 := cSt_cP cur30 q1 hc
      have e3 : σ3.1 1 2 = σ.1 1 2 := fx_f q1 (n30 1 (by omega))
      cases L with
      | nil =>
        have hun : un O R (k + 1) s [] M = (0, s) := by cases M <;> rfl
        rw [hun]
        have q2' : a2 = 0 := q2
        exact wp_t q2' (wp_some ⟨rfl, c3, cP_XS cur30 q1, cle_cP cur30 q1, by omega, hg.1, hg.2.1, sx2_rf, fun _ => hg.2.2⟩)
      | cons a L =>
        obtain ⟨rfl, ga3, gl, cl3, al3⟩ := q2
        obtain ⟨S', rfl, htL2⟩ := tR_inv htL
        refine wp_f (by decide) ?_
        have cst36 : cst σ3 36 s.1 s.2.1 N fr := cst_go q1 (fun a ha => n30 a (by unfold cP at ha; omega)) (cle_cP cur30 q1) (by omega) (fun _ _ => rfl) (fun _ _ z => z) hcr
        refine wp_sq (s_advance cur36 (by omega) hRf hR2 hHk hN hN2 c3.1 (by omega) cst36 (by rw [har]; exact fun e he => (hbM e he).2)) ?_
        rintro a8 σ9 ⟨r1, r2⟩
        rw [har] at r2
        have c9 := cSt_cP cur36 r1 c3
        have e9 : σ9.1 1 2 = σ.1 1 2 := by rw [fx_f r1 (n36 1 (by omega)), e3]
        cases M with
        | nil => have hz : a.1 :: S' = [] := Option.some.inj htM; cases hz
        | cons b M =>
          obtain ⟨rfl, gb9, gr, cr9, ar9⟩ := r2
          obtain ⟨S'', hSS, htM2⟩ := tR_inv htM
          obtain ⟨hab, rfl⟩ := List.cons.inj hSS
          refine wp_f (by decide) ?_
          have ga9 : grp σ9 30 a := grp_go r1 (fun a ha => n36 a (by unfold cP at ha; omega)) ga3
          have cl9 : cst σ9 30 s.1 s.2.1 N gl := cst_go r1 (fun a ha => n36 a (by unfold cP at ha; omega)) (cle_cP cur36 r1) (by rw [e9, e3]; exact Int.le_refl _) (fun _ _ => rfl) (fun _ _ z => z) cl3
          have x9 : fx XS σ σ9 := fx_tr (cP_XS cur30 q1) (cP_XS cur36 r1)
          have cle9 : cle σ σ9 (σ.1 1 2) := cle_tr (cle_cP cur30 q1) (cle_cP (t := σ.1 1 2) cur36 r1) (Int.le_refl _)
          have ho9 : cOp σ9 O := cOp_fx x9 (by unfold XS; omega) (by unfold XS; omega) ho
          have hokL : okR s.1 N (a :: L) := by rw [← hal]; exact ahd_ok hg.1.1 hN hcl.2.2.2.2
          have hokM : okR s.1 N (b :: M) := by rw [← har]; exact ahd_ok hg.1.1 hN hcr.2.2.2.2
          have hnoL : nof s.2.1 (a :: L) := by rw [← hal]; exact ahd_nof hR hg
          have hnoM : nof s.2.1 (b :: M) := by rw [← har]; exact ahd_nof hR hg
          have hoka := hokL a List.mem_cons_self
          have hokb := hokM b List.mem_cons_self
          have hopen : ∀ e : AG, ¬ isF s.2.1 e → e.2.1 % 4 = 2 → s.2.1 (e.2.1 / 4) = none := by
            intro e he c
            cases hz : s.2.1 (e.2.1 / 4) with
            | none => rfl
            | some F => exact absurd ⟨c, F, hz⟩ he
          have hLl := rin_len hR hg hAl hrA
          have hMl := rin_len hR hg hBl hrB
          rw [List.length_cons] at hLl hMl
          -- what comes behind a step
          have cont : ∀ (s' : St) (L2 M2 : Row) (S2 : List Int) (gl2 gr2 : List Fr) (σ79 : SS), gOk O told R s' → sx2 s s' → cSt σ79 told s' → fx XS σ9 σ79 → cle σ9 σ79 (σ9.1 1 2) → σ9.1 1 2 ≤ σ79.1 1 2 → cst σ79 30 s'.1 s'.2.1 N gl2 → ahd s'.2.1 R gl2 = L2 → cst σ79 36 s'.1 s'.2.1 N gr2 → ahd s'.2.1 R gr2 = M2 → tR O L2 S2 = some [] → tR O M2 S2 = some [] → rin R s' A0 (j + 1) L2 → rin R s' B0 0 M2 → un O R (k + 1) s (a :: L) (b :: M) = un O R k s' L2 M2 →
              Wp (if (0 : Int) = 0 then ck (rng (x1 + 1)) (l_N_solve_2 fu n (x1 + 1) σ79) else some (Sum.inl (0 : Int), σ79)) (fun y τ => y = .inl (un O R (k + 1) s (a :: L) (b :: M)).1 ∧ solP O told R s σ (un O R (k + 1) s (a :: L) (b :: M)) τ) := by
            intro s' L2 M2 S2 gl2 gr2 σ79 k1 k2 k3 k4 k5 k6 k7 k8 k9 k10 k11 k12 k13 k14 k15
            rw [k15]
            refine wp_t rfl (wp_ck (by omega) ?_)
            have h9 := ih n (j + 1) (x1 + 1) s' L2 M2 S2 gl2 gr2 σ79 (by omega) k13 k14 (by omega) (by omega) (by omega) k1 k3 (cOp_fx k4 (by unfold XS; omega) (by unfold XS; omega) ho9) k7 k8 k9 k10 k11 k12
            refine wp_mono h9 (fun y τ z => ⟨z.1, solP_tr (fx_tr x9 k4) (cle_tr cle9 (by rw [← e9]; exact k5) (Int.le_refl _)) (by omega) k2 z.2⟩)
          -- a step of the unifier that leaves both cursors where they are
          have stay : ∀ (s' : St) (σ79 : SS), gOk O told R s' → sx2 s s' → stp told σ9 σ79 s' → tP O a = [] → tP O b = [] → un O R (k + 1) s (a :: L) (b :: M) = un O R k s' (tN s'.2.1 R L) (tN s'.2.1 R M) →
              Wp (if (0 : Int) = 0 then ck (rng (x1 + 1)) (l_N_solve_2 fu n (x1 + 1) σ79) else some (Sum.inl (0 : Int), σ79)) (fun y τ => y = .inl (un O R (k + 1) s (a :: L) (b :: M)).1 ∧ solP O told R s σ (un O R (k + 1) s (a :: L) (b :: M)) τ) := by
            intro s' σ79 k1 k2 k3 ta tb k4
            obtain ⟨t1, t2, t3, t4⟩ := k3
            rw [ta, List.nil_append] at htL2
            rw [tb, List.nil_append] at htM2
            exact cont s' _ _ S' gl gr σ79 k1 k2 t1 (XW_XS t2) t3 t4 (cst_go t2 (fun a ha => XW_cur cur30 ha) t3 t4 k2.2.1 k2.1 cl9) (by rw [ahd_go hR hN hg k1 k2 cl9.2.2.2.2, al3]) (cst_go t2 (fun a ha => XW_cur cur36 ha) t3 t4 k2.2.1 k2.1 cr9) (by rw [ahd_go hR hN hg k1 k2 cr9.2.2.2.2, ar9]) (tR_N k1.1.2.1 R htL2) (tR_N k1.1.2.1 R htM2) (rin_next (C := [a]) hR k1 k2 (Nat.le_refl _) hrA) (rin_mono (rin_next (C := [b]) hR k1 k2 (Nat.le_refl _) hrB) (Nat.zero_le _)) k4
          have hbkL : bok (a.1 :: S') (L.length + 1) := rin_bok hb2 hR hg hAl hA hrA htL
          have hbkM : bok (b.1 :: S') (M.length + 1) := by rw [← hab]; exact rin_bok hb2 hR hg hBl hB hrB htM
          rw [ga9.1, gb9.1, ga9.2.1, gb9.2.1]
          by_cases va : a.2.1 % 4 = 2
          · have hΦa := hopen a (hnoL a List.mem_cons_self) va
            have hpa := hoka.2.2.2.2.2.1 va
            have tpa : tP O a = [] := tP_hole (by omega)
            by_cases vb : b.2.1 % 4 = 2
            · have hΦb := hopen b (hnoM b List.mem_cons_self) vb
              have hpb := hokb.2.2.2.2.2.1 vb
              have tpb : tP O b = [] := tP_hole (by omega)
              by_cases ce : a.2.1 / 4 = b.2.1 / 4
              · have hun : un O R (k + 1) s (a :: L) (b :: M) = un O R k (nw s (a.2.1 / 4) a.2.2 b.2.2) (tN (nw s (a.2.1 / 4) a.2.2 b.2.2).2.1 R L) (tN (nw s (a.2.1 / 4) a.2.2 b.2.2).2.1 R M) := by
                  show (if a.2.1 % 4 = 2 then (if b.2.1 % 4 = 2 then (if a.2.1 / 4 = b.2.1 / 4 then _ else _) else _) else _) = _
                  rw [if_pos va, if_pos vb, if_pos ce]
                refine wp_sq (R := fun z τ => z = 0 ∧ stp told σ9 τ (nw s (a.2.1 / 4) a.2.2 b.2.2)) (wp_t va (wp_t vb (wp_sq (R := fun z τ => z = 0 ∧ stp told σ9 τ (nw s (a.2.1 / 4) a.2.2 b.2.2)) (wp_t ce (wp_sq (s_narrow hR (by omega) hg c9 ga9 gb9 hΦa hpa (by rw [ce] at hpa; omega)) (fun z τ h => wp_some h))) (fun z τ h => wp_some h)))) ?_
                rintro z τ ⟨rfl, hst⟩
                exact stay _ τ (nw_ok hR hg hΦa hpa) (sx2_nw hg.1 hΦa) hst tpa tpb hun
              · have hun : un O R (k + 1) s (a :: L) (b :: M) = un O R k (jn s (a.2.1 / 4) a.2.2 (b.2.1 / 4) b.2.2) (tN (jn s (a.2.1 / 4) a.2.2 (b.2.1 / 4) b.2.2).2.1 R L) (tN (jn s (a.2.1 / 4) a.2.2 (b.2.1 / 4) b.2.2).2.1 R M) := by
                  show (if a.2.1 % 4 = 2 then (if b.2.1 % 4 = 2 then (if a.2.1 / 4 = b.2.1 / 4 then _ else _) else _) else _) = _
                  rw [if_pos va, if_pos vb, if_neg ce]
                obtain ⟨j1, j2⟩ := jn_ok hR hg hΦa hpa hΦb hpb ce hoka.2.2.2.2.2.2.2
                refine wp_sq (R := fun z τ => z = 0 ∧ stp told σ9 τ (jn s (a.2.1 / 4) a.2.2 (b.2.1 / 4) b.2.2)) (wp_t va (wp_t vb (wp_sq (R := fun z τ => z = 0 ∧ stp told σ9 τ (jn s (a.2.1 / 4) a.2.2 (b.2.1 / 4) b.2.2)) (wp_f ce (wp_sq (s_join hR (by omega) hg c9 ga9 gb9 hΦa hpa hΦb hpb ce) (fun z τ h => wp_some h))) (fun z τ h => wp_some h)))) ?_
                rintro z τ ⟨rfl, hst⟩
                exact stay _ τ j1 j2 hst tpa tpb hun
            · -- the left is a hole, the right a term
              rw [tpa, List.nil_append] at htL2
              have htk := tk_tR (O := O) (b :: M) [b.1] S' (by rw [← hab]; exact htM)
              rw [show ([b.1] : List Int).length = 1 from rfl] at htk
              have hun : un O R (k + 1) s (a :: L) (b :: M) = if (flt R (a.2.1 / 4) a.1 a.2.2 s (tk O (b :: M) 1).1).1 = 0 then un O R k (flt R (a.2.1 / 4) a.1 a.2.2 s (tk O (b :: M) 1).1).2 (tN (flt R (a.2.1 / 4) a.1 a.2.2 s (tk O (b :: M) 1).1).2.2.1 R L) (tN (flt R (a.2.1 / 4) a.1 a.2.2 s (tk O (b :: M) 1).1).2.2.1 R (tk O (b :: M) 1).2) else flt R (a.2.1 / 4) a.1 a.2.2 s (tk O (b :: M) 1).1 := by
                show (if a.2.1 % 4 = 2 then (if b.2.1 % 4 = 2 then _ else _) else _) = _
                rw [if_pos va, if_neg vb]
              have htkr : (tk O (b :: M) 1).1 ++ (tk O (b :: M) 1).2 = b :: M := tk_app _ _
              have htk1 : 1 ≤ (tk O (b :: M) 1).1.length := by
                show 1 ≤ (b :: _).length
                rw [List.length_cons]; omega
              obtain ⟨f1, f2, f3, f4⟩ := flt_ok (β := a.1) (x := a.2.2) (T := (tk O (b :: M) 1).1) hR hN hb2 hg hΦa hpa (fun e he => hokM e (by rw [← htkr]; exact List.mem_append_left _ he)) (fun e he => hnoM e (by rw [← htkr]; exact List.mem_append_left _ he)) (by rw [hab]; exact htk.1)
              have hft := s_fillTerm (fs := gr) (A := M) (S2 := S') (Or.inl rfl) (Or.inr rfl) (by decide) hR hRf hR2 hfu hN hN2 hb2 hg c9 ho9 ga9 gb9 hoka hokb va vb hΦa cr9 ar9 hab (by rw [← hab]; exact htM) hbkM (by omega)
              generalize hfl : flt R (a.2.1 / 4) a.1 a.2.2 s (tk O (b :: M) 1).1 = fl2 at hun f1 f2 f3 f4 hft
              refine wp_sq (R := fun z τ => z = fl2.1 ∧ cSt τ told fl2.2 ∧ fx (XF 36) σ9 τ ∧ cle σ9 τ (σ9.1 1 2) ∧ σ9.1 1 2 ≤ τ.1 1 2 ∧ (z = 0 → ∃ gs, cst τ 36 fl2.2.1 fl2.2.2.1 N gs ∧ ahd fl2.2.2.1 R gs = tN fl2.2.2.1 R (tk O (b :: M) 1).2)) (wp_t va (wp_f vb (wp_t va (wp_sq hft (fun z τ h => wp_some h))))) ?_
              rintro z τ ⟨rfl, g1, g2, g3, g4, g5⟩
              by_cases cz : fl2.1 = 0
              · rw [if_pos cz] at hun
                obtain ⟨gs, g6, g7⟩ := g5 cz
                have k1 : gOk O told R fl2.2 := ⟨f1, f2, f4 cz⟩
                have nF : ∀ a, cP 30 a → ¬ XF 36 a := fun a ha z => by unfold XF XA XW cP at z; unfold cP at ha; omega
                rw [cz]
                exact cont fl2.2 _ _ S' gl gs τ k1 f3 g1 (XF_XS cur36 g2) g3 g4 (cst_go g2 nF g3 g4 f3.2.1 f3.1 cl9) (by rw [ahd_go hR hN hg k1 f3 cl9.2.2.2.2, al3]) g6 g7 (tR_N k1.1.2.1 R htL2) (tR_N k1.1.2.1 R htk.2) (rin_next (C := [a]) hR k1 f3 (Nat.le_refl _) hrA) (rin_mono (rin_next (C := (tk O (b :: M) 1).1) hR k1 f3 htk1 (by rw [htkr]; exact hrB)) (Nat.zero_le _)) hun
              · rw [if_neg cz] at hun
                rw [hun]
                exact wp_f cz (wp_some ⟨rfl, g1, fx_tr x9 (XF_XS cur36 g2), cle_tr cle9 (by rw [← e9]; exact g3) (Int.le_refl _), by omega, f1, f2, f3, f4⟩)
          · by_cases vb : b.2.1 % 4 = 2
            · -- the right is a hole, the left a term
              have hΦb := hopen b (hnoM b List.mem_cons_self) vb
              have hpb := hokb.2.2.2.2.2.1 vb
              have tpb : tP O b = [] := tP_hole (by omega)
              rw [tpb, List.nil_append] at htM2
              have htk := tk_tR (O := O) (a :: L) [a.1] S' htL
              rw [show ([a.1] : List Int).length = 1 from rfl] at htk
              have hun : un O R (k + 1) s (a :: L) (b :: M) = if (flt R (b.2.1 / 4) b.1 b.2.2 s (tk O (a :: L) 1).1).1 = 0 then un O R k (flt R (b.2.1 / 4) b.1 b.2.2 s (tk O (a :: L) 1).1).2 (tN (flt R (b.2.1 / 4) b.1 b.2.2 s (tk O (a :: L) 1).1).2.2.1 R (tk O (a :: L) 1).2) (tN (flt R (b.2.1 / 4) b.1 b.2.2 s (tk O (a :: L) 1).1).2.2.1 R M) else flt R (b.2.1 / 4) b.1 b.2.2 s (tk O (a :: L) 1).1 := by
                show (if a.2.1 % 4 = 2 then _ else if b.2.1 % 4 = 2 then _ else _) = _
                rw [if_neg va, if_pos vb]
              have htkr : (tk O (a :: L) 1).1 ++ (tk O (a :: L) 1).2 = a :: L := tk_app _ _
              have htk1 : 1 ≤ (tk O (a :: L) 1).1.length := by
                show 1 ≤ (a :: _).length
                rw [List.length_cons]; omega
              obtain ⟨f1, f2, f3, f4⟩ := flt_ok (β := b.1) (x := b.2.2) (T := (tk O (a :: L) 1).1) hR hN hb2 hg hΦb hpb (fun e he => hokL e (by rw [← htkr]; exact List.mem_append_left _ he)) (fun e he => hnoL e (by rw [← htkr]; exact List.mem_append_left _ he)) (by rw [← hab]; exact htk.1)
              have hft := s_fillTerm (fs := gl) (A := L) (S2 := S') (Or.inr rfl) (Or.inl rfl) (by decide) hR hRf hR2 hfu hN hN2 hb2 hg c9 ho9 gb9 ga9 hokb hoka vb va hΦb cl9 al3 hab.symm htL hbkL (by omega)
              generalize hfl : flt R (b.2.1 / 4) b.1 b.2.2 s (tk O (a :: L) 1).1 = fl2 at hun f1 f2 f3 f4 hft
              refine wp_sq (R := fun z τ => z = fl2.1 ∧ cSt τ told fl2.2 ∧ fx (XF 30) σ9 τ ∧ cle σ9 τ (σ9.1 1 2) ∧ σ9.1 1 2 ≤ τ.1 1 2 ∧ (z = 0 → ∃ gs, cst τ 30 fl2.2.1 fl2.2.2.1 N gs ∧ ahd fl2.2.2.1 R gs = tN fl2.2.2.1 R (tk O (a :: L) 1).2)) (wp_f va (wp_f va (wp_t vb (wp_sq hft (fun z τ h => wp_some h))))) ?_
              rintro z τ ⟨rfl, g1, g2, g3, g4, g5⟩
              by_cases cz : fl2.1 = 0
              · rw [if_pos cz] at hun
                obtain ⟨gs, g6, g7⟩ := g5 cz
                have k1 : gOk O told R fl2.2 := ⟨f1, f2, f4 cz⟩
                have nF : ∀ a, cP 36 a → ¬ XF 30 a := fun a ha z => by unfold XF XA XW cP at z; unfold cP at ha; omega
                rw [cz]
                exact cont fl2.2 _ _ S' gs gr τ k1 f3 g1 (XF_XS cur30 g2) g3 g4 g6 g7 (cst_go g2 nF g3 g4 f3.2.1 f3.1 cr9) (by rw [ahd_go hR hN hg k1 f3 cr9.2.2.2.2, ar9]) (tR_N k1.1.2.1 R htk.2) (tR_N k1.1.2.1 R htM2) (rin_next (C := (tk O (a :: L) 1).1) hR k1 f3 htk1 (by rw [htkr]; exact hrA)) (rin_mono (rin_next (C := [b]) hR k1 f3 (Nat.le_refl _) hrB) (Nat.zero_le _)) hun
              · rw [if_neg cz] at hun
                rw [hun]
                exact wp_f cz (wp_some ⟨rfl, g1, fx_tr x9 (XF_XS cur30 g2), cle_tr cle9 (by rw [← e9]; exact g3) (Int.le_refl _), by omega, f1, f2, f3, f4⟩)
            · -- two items
              have ea := hoka.2.2.2.2.2.2.1 va
              have eb := hokb.2.2.2.2.2.2.1 vb
              have hsa := s_standsAs (fu := fu) (p := 30) (q := 36) (by omega) (by rw [ea]; exact Nat.zero_le _) ga9 gb9 (fun _ => by rw [ea, eb])
              by_cases ce : a.2.1 = b.2.1
              · have hun : un O R (k + 1) s (a :: L) (b :: M) = un O R k s L M := by
                  show (if a.2.1 % 4 = 2 then _ else if b.2.1 % 4 = 2 then _ else if a.2.1 = b.2.1 then _ else _) = _
                  rw [if_neg va, if_neg vb, if_pos ce]
                rw [if_pos ⟨ce, by rw [ea, eb]⟩] at hsa
                refine wp_sq (R := fun z τ => z = 0 ∧ τ = σ9) (wp_f va (wp_f va (wp_f vb (wp_e hsa (wp_sq (R := fun z τ => z = 0 ∧ τ = σ9) (wp_f (by decide) (wp_some ⟨rfl, rfl⟩)) (fun z τ h => wp_some h)))))) ?_
                rintro z τ ⟨rfl, rfl⟩
                have hLn : tN s.2.1 R L = L := tN_nof R (fun e he => hnoL e (List.mem_cons_of_mem _ he))
                have hMn : tN s.2.1 R M = M := tN_nof R (fun e he => hnoM e (List.mem_cons_of_mem _ he))
                have r1' := rin_next (C := [a]) (L := L) hR hg sx2_rf (Nat.le_refl _) hrA
                have r2' := rin_next (C := [b]) (L := M) hR hg sx2_rf (Nat.le_refl _) hrB
                rw [hLn] at r1'
                rw [hMn] at r2'
                exact cont s L M _ gl gr τ hg sx2_rf c9 fx_rf cle_rf (Int.le_refl _) cl9 al3 cr9 ar9 htL2 (by rw [tP_eq hab ce]; exact htM2) r1' (rin_mono r2' (Nat.zero_le _)) hun
              · have hun : un O R (k + 1) s (a :: L) (b :: M) = (1, s) := by
                  show (if a.2.1 % 4 = 2 then _ else if b.2.1 % 4 = 2 then _ else if a.2.1 = b.2.1 then _ else _) = _
                  rw [if_neg va, if_neg vb, if_neg ce]
                rw [if_neg (fun z => ce z.1)] at hsa
                rw [hun]
                refine wp_sq (R := fun z τ => z = 1 ∧ τ = σ9) (wp_f va (wp_f va (wp_f vb (wp_e hsa (wp_sq (R := fun z τ => z = 1 ∧ τ = σ9) (wp_t rfl (wp_some ⟨rfl, rfl⟩)) (fun z τ h => wp_some h)))))) ?_
                rintro z τ ⟨rfl, rfl⟩
                exact wp_f (by decide) (wp_some ⟨rfl, c9, x9, cle9, by omega, hg.1, hg.2.1, sx2_rf, fun z => absurd (show (1 : Int) = 0 from z) (by decide)⟩)
