/-! THE SCOUT GOES THROUGH A TERM -/
theorem tR_e {O : Op} {r : Row} {S : List Int} (h : tR O r [] = some S) : r = [] := by
  cases r with
  | nil => rfl
  | cons e r => obtain ⟨T, h1, -⟩ := tR_inv h; cases h1
theorem tR_slen {O : Op} : ∀ {r : Row} {S : List Int}, tR O r S = some [] → S.length ≤ r.length := by
  intro r
  induction r with
  | nil => intro S h; have : S = [] := Option.some.inj h; rw [this]; exact Nat.le_refl _
  | cons e r ih =>
    intro S h
    obtain ⟨T, rfl, h2⟩ := tR_inv h
    have := ih h2
    rw [List.length_append] at this
    rw [List.length_cons, List.length_cons]
    omega
theorem tR_both {O : Op} {a b : Row} {S T : List Int} (h1 : tR O a S = some []) (h2 : tR O b T = some []) : tR O (a ++ b) (S ++ T) = some [] := tR_join (tR_frame T h1) h2
theorem dr_len {O : Op} {told : Int} {R : Nat} {s : St} {x : List Int} {b : Int} {e : AG} {T : Row} (hR : 300 < R) (hg : gOk O told R s) (hp : 0 ≤ s.1 (e.2.1 / 4)) (hno : nof s.2.1 T) : (tN (dr s x b e).2.1 R T).length = T.length := by
  unfold dr
  split
  · rw [tN_nof R hno]
  · obtain ⟨R', rfl⟩ : ∃ R', R = R' + 1 := ⟨R - 1, by omega⟩
    obtain ⟨n1, n2⟩ := sNew_g hg.1
    have hne : 24 + s.2.2.2 ≠ e.2.1 / 4 := fun z => by rw [z] at n1; omega
    exact len_pass (Φ := s.2.1) (h := e.2.1 / 4) (g := 24 + s.2.2.2) (R := R') (by rw [up1_ne hne]; exact n2) hno
theorem dr_phi {s : St} {x : List Int} {b h : Int} {e : AG} (hh : s.2.1 h = none) (hne : e.2.1 / 4 ≠ h) : (dr s x b e).2.1 h = none := by
  unfold dr
  split
  · exact hh
  · rw [pas_phi (fun z => hne z.symm)]; exact hh
def XA : Nat → Prop := fun a => XW a ∨ cP 45 a
/-- a cursor at a hole -/
def hcu (σ : SS) (q : Nat) (h β : Int) (x : List Int) : Prop := σ.1 q 8 = h ∧ σ.1 q 9 = β ∧ σ.1 q 11 = (x.length : Int) ∧ ∀ (k : Nat) (v : Int), x[k]? = some v → gA σ (q + 5) 4 k = v
theorem hcu_fx {X : Nat → Prop} {σ τ : SS} {q : Nat} {h β : Int} {x : List Int} (hx : fx X σ τ) (h1 : ¬ X q) (h2 : ¬ X (q + 5)) (k : hcu σ q h β x) : hcu τ q h β x := by
  obtain ⟨a, b, c, d⟩ := k
  exact ⟨by rw [fx_f hx h1]; exact a, by rw [fx_f hx h1]; exact b, by rw [fx_f hx h1]; exact c, fun k v hk => by rw [fx_g hx h2]; exact d k v hk⟩
theorem cSt_cP {σ τ : SS} {p : Nat} {told : Int} {s : St} (hp : cur p) (h : fx (cP p) σ τ) (k : cSt σ told s) : cSt τ told s := by
  have := cur_ge hp
  exact cSt_fx h (fun a _ _ z => by unfold cP at z; omega) (fun a _ _ _ z => by unfold cP at z; omega) k
theorem cle_cP {σ τ : SS} {p : Nat} {t : Int} (hp : cur p) (h : fx (cP p) σ τ) : cle σ τ t := by
  have := cur_ge hp
  exact fun i _ => ⟨fx_cA h (fun z => by unfold cP at z; omega) (fun z => by unfold cP at z; omega) i, fx_cB h (fun z => by unfold cP at z; omega) (fun z => by unfold cP at z; omega) i⟩
/-- the bounds of what lies ahead -/
def bok (S : List Int) (n : Nat) : Prop := ∀ z ∈ S, 0 ≤ z ∧ z + 2 * (n : Int) ≤ 10000
theorem bok_row {O : Op} (hb2 : bd2 O) {r : Row} {S : List Int} (h : bok S r.length) (hr : tR O r S = some []) : ∀ e ∈ r, 0 ≤ e.1 ∧ e.1 ≤ 10000 := by
  intro e he
  have := tR_bnd hb2 (lo := 0) (hi := 10000 - 2 * (r.length : Int)) (fun z hz => by have := h z hz; omega) hr e he
  omega
theorem bok_next {O : Op} (hb2 : bd2 O) {e : AG} {S : List Int} {n : Nat} (h : bok (e.1 :: S) (n + 1)) : bok (tP O e ++ S) n := by
  intro z hz
  rcases List.mem_append.mp hz with c | c
  · have h1 := tP_lo hb2 c
    have h2 := h e.1 List.mem_cons_self
    omega
  · have := h z (List.mem_cons_of_mem _ c)
    omega
theorem adm_nil {R : Nat} {h β : Int} {x : List Int} {s : St} : ∀ k, adm R h β x k s [] = (0, s) := by
  intro k
  cases k <;> rfl
theorem s_adml {O : Op} {fu R q : Nat} {told β N h : Int} {x : List Int} (hq : q = 30 ∨ q = 36) (hR : 300 < R) (hRf : R < fu) (hR2 : R ≤ 1000) (hN : 0 ≤ N) (hN2 : N ≤ 1000) (h4 : x.length ≤ 4) (hβ : 0 ≤ β ∧ β ≤ 10000) (hb2 : bd2 O) :
    ∀ (k n d : Nat) (x3 : Int) (s : St) (e : AG) (T M : Row) (S1 S2 : List Int) (fs : List Fr) (σ : SS), (e :: T).length ≤ k → k < n → 0 ≤ x3 → x3 + k < 1000000 → gOk O told R s → cSt σ told s → cOp σ O → s.2.1 h = none → 0 ≤ s.1 h → hcu σ q h β x → grp σ 45 e → cst σ 45 s.1 s.2.1 N fs → ahd s.2.1 R fs = T ++ M → okG s.1 N e → ¬ isF s.2.1 e → tR O (e :: T) S1 = some [] → S1.length = d → tR O M S2 = some [] → bok (S1 ++ S2) (T.length + 1 + M.length) → 0 ≤ σ.1 42 8 → σ.1 42 8 + k < 1000000 →
    Wp (l_N_admitTerm_9 fu q n d x3 σ) (fun y τ => y = .inl (adm R h β x k s (e :: T)).1 ∧ cSt τ told (adm R h β x k s (e :: T)).2 ∧ fx XA σ τ ∧ cle σ τ (σ.1 1 2) ∧ σ.1 1 2 ≤ τ.1 1 2 ∧ ((adm R h β x k s (e :: T)).1 = 0 → τ.1 42 8 = σ.1 42 8 + (T.length + 1 : Nat))) := by
  intro k
  induction k with
  | zero => intro n d x3 s e T M S1 S2 fs σ h1; rw [List.length_cons] at h1; omega
  | succ k ih =>
    intro n d x3 s e T M S1 S2 fs σ hk hn hx0 hxk hg hc ho hh hph hcuq hge hcst hahd hok hnf htr hd htm hbk h42 h42k
    have hpe : e.2.1 % 4 = 2 → (e.2.2.length : Int) = s.1 (e.2.1 / 4) := hok.2.2.2.2.2.1
    have hok0 := hok.1
    have hokT : okR s.1 N (T ++ M) := by rw [← hahd]; exact ahd_ok hg.1.1 hN hcst.2.2.2.2
    have hnoT : nof s.2.1 (T ++ M) := by rw [← hahd]; exact ahd_nof hR hg
    obtain ⟨S1', rfl, htr2⟩ := tR_inv htr
    have hsl := tR_slen htr
    have hbe : 0 ≤ e.1 ∧ e.1 ≤ 10000 := by
      have := hbk e.1 (List.mem_append.mpr (Or.inl List.mem_cons_self))
      omega
    have hve : ∀ v ∈ e.2.2, 0 ≤ v ∧ v ≤ 1000000 := fun v hv => by have := hok.2.2.2.2.1 v hv; omega
    cases n with
    | zero => omega
    | succ n =>
      rw [List.length_cons] at hk hd
      rw [List.length_cons, List.length_cons] at hsl
      rw [l_N_admitTerm_9]
      refine wp_t (by omega) (wp_ck (by omega) (wp_lb (fun σ4 e4 => ?_)))
      have x4 : fx XW σ σ4 := by rw [e4]; exact fx_F fx_rf (by unfold XW; omega)
      have f4 : ∀ a b, ¬ (a = 42 ∧ b = 8) → σ4.1 a b = σ.1 a b := fun a b hab => by rw [e4]; exact sF_f hab
      have f48 : σ4.1 42 8 = σ.1 42 8 + 1 := by rw [e4]; exact sF_same _ _ _ _
      have g4 : ∀ a n i, gA σ4 a n i = gA σ a n i := fun a n i => by rw [e4]; exact gA_F _ _ _ _ _ _ _
      have x4' : fx (jst 42) σ σ4 := by rw [e4]; exact fx_F fx_rf rfl
      have c4 : cSt σ4 told s := cSt_fx x4' (fun a _ _ z => by have : a = 42 := z; omega) (fun a _ _ _ z => by have : a = 42 := z; omega) hc
      have ge4 : grp σ4 45 e := grp_go x4' (fun a ha z => by have : a = 42 := z; unfold cP at ha; omega) hge
      have hcu4 : hcu σ4 q h β x := hcu_fx x4' (fun z => by have : q = 42 := z; omega) (fun z => by have : q + 5 = 42 := z; omega) hcuq
      have cl4 : cle σ σ4 (σ.1 1 2) := fun i _ => ⟨fx_cA x4' (fun z => by have : 1 = 42 := z; omega) (fun z => by have : 2 = 42 := z; omega) i, fx_cB x4' (fun z => by have : 1 = 42 := z; omega) (fun z => by have : 3 = 42 := z; omega) i⟩
      -- what comes behind a group that is no fault
      have cont : ∀ (s' : St) (σ32 : SS), gOk O told R s' → sx2 s s' → s'.2.1 h = none → (∀ r, nof s.2.1 r → (tN s'.2.1 R r).length = r.length) → adm R h β x (k + 1) s (e :: T) = adm R h β x k s' (tN s'.2.1 R T) → stp told σ4 σ32 s' → σ32.1 42 8 = σ4.1 42 8 →
          Wp (sq (f_N_dueAfter 45 (d : Int) σ32) fun (a36 : Int) σ37 => if (0 : Int) = 0 then (if a36 = 0 then (some (Sum.inl (0 : Int), σ37)) else (sq (f_U_advance fu 45 σ37) fun (a43 : Int) σ44 => if a43 = 0 then (some (.inl 0, σ44)) else (ck (rng (x3 + 1)) (l_N_admitTerm_9 fu q n a36 (x3 + 1) σ44)))) else (some (.inl 0, σ37))) (fun y τ => y = .inl (adm R h β x (k + 1) s (e :: T)).1 ∧ cSt τ told (adm R h β x (k + 1) s (e :: T)).2 ∧ fx XA σ τ ∧ cle σ τ (σ.1 1 2) ∧ σ.1 1 2 ≤ τ.1 1 2 ∧ ((adm R h β x (k + 1) s (e :: T)).1 = 0 → τ.1 42 8 = σ.1 42 8 + (T.length + 1 : Nat))) := by
        intro s' σ32 hg' hsx hh' hlen hadm hst h328
        obtain ⟨s1, s2, s3, s4⟩ := hst
        have x32 : fx XW σ σ32 := fx_tr x4 s2
        have e124 : σ4.1 1 2 = σ.1 1 2 := f4 1 2 (by omega)
        have cl32 : cle σ σ32 (σ.1 1 2) := cle_tr cl4 s3 (by omega)
        have ge32 : grp σ32 45 e := grp_go x32 (fun a ha => XW_cur cur45 ha) hge
        have ho32 : cOp σ32 O := cOp_fx x32 (by unfold XW; omega) (by unfold XW; omega) ho
        have hxa : fx XA σ σ32 := fx_mono x32 (fun a z => Or.inl z)
        refine wp_e (s_dueAfter ho32 (tR_opk htr) ge32 (by omega)) (wp_t rfl ?_)
        rw [hadm]
        have htT := tR_N hg'.1.2.1 R htr2
        have htM := tR_N hg'.1.2.1 R htm
        have hlT := hlen T (fun z hz => hnoT z (List.mem_append.mpr (Or.inl hz)))
        have hlM := hlen M (fun z hz => hnoT z (List.mem_append.mpr (Or.inr hz)))
        have hdl : (d : Int) - 1 + ((tP O e).length : Int) = ((tP O e ++ S1').length : Nat) := by rw [List.length_append]; omega
        rw [hdl]
        by_cases c0 : ((tP O e ++ S1').length : Int) = 0
        · have hnil : tP O e ++ S1' = [] := List.length_eq_zero_iff.mp (by omega)
          rw [hnil] at htT
          have hTn := tR_e htT
          rw [hTn, adm_nil]
          have hT0 : T.length = 0 := by rw [← hlT, hTn]; rfl
          refine wp_t c0 (wp_some ⟨rfl, s1, hxa, cl32, by omega, fun _ => ?_⟩)
          rw [h328, f48, hT0]
          rfl
        · refine wp_f c0 ?_
          have cst32 : cst σ32 45 s'.1 s'.2.1 N fs := cst_go x32 (fun a ha => XW_cur cur45 ha) cl32 (by omega) hsx.2.1 hsx.1 hcst
          have hah : ahd s'.2.1 R fs = tN s'.2.1 R T ++ tN s'.2.1 R M := by rw [ahd_go hR hN hg hg' hsx hcst.2.2.2.2, hahd, tN_append]
          have hbk2 : bok ((tP O e ++ S1') ++ S2) (T.length + M.length) := by
            rw [List.append_assoc]
            refine bok_next hb2 ?_
            rw [show T.length + M.length + 1 = T.length + 1 + M.length by omega]
            exact hbk
          have hj := tR_both htT htM
          have hB := bok_row hb2 (r := tN s'.2.1 R T ++ tN s'.2.1 R M) (S := (tP O e ++ S1') ++ S2) (by rw [List.length_append, hlT, hlM]; exact hbk2) hj
          have hHk := sOk_hOk hg'.1 hg'.2.1 hR hg'.2.2
          refine wp_sq (s_advance cur45 (by omega) hRf hR2 hHk hN hN2 s1.1 (by have := top_le hg'.1 hg'.2.1 s1; omega) cst32 (by rw [hah]; exact fun e he => (hB e he).2)) ?_
          rintro a43 σ44 ⟨q1, q2⟩
          rw [hah] at q2
          cases hTc : tN s'.2.1 R T with
          | nil =>
            rw [hTc] at htT
            have : tP O e ++ S1' = [] := Option.some.inj htT
            rw [this] at c0
            exact absurd rfl c0
          | cons e' T' =>
            rw [hTc, List.cons_append] at q2
            obtain ⟨rfl, q3, gs, q4, q5⟩ := q2
            have n45 : ∀ a, a < 45 → ¬ cP 45 a := fun a ha z => by unfold cP at z; omega
            have hkl : (e' :: T').length = T.length := by rw [← hTc]; exact hlT
            rw [List.length_cons] at hkl
            have c44 := cSt_cP cur45 q1 s1
            have e444 : σ44.1 1 2 = σ32.1 1 2 := fx_f q1 (n45 1 (by omega))
            have hoR : okR s'.1 N (tN s'.2.1 R T ++ tN s'.2.1 R M) := by rw [← hah]; exact ahd_ok hg'.1.1 hN cst32.2.2.2.2
            have hnR : nof s'.2.1 (tN s'.2.1 R T ++ tN s'.2.1 R M) := by rw [← hah]; exact ahd_nof hR hg'
            rw [hTc] at hoR hnR htT
            have h428 : σ44.1 42 8 = σ.1 42 8 + 1 := by rw [fx_f q1 (n45 42 (by omega)), h328, f48]
            refine wp_f (by decide) (wp_ck (by omega) ?_)
            have hcu44 : hcu σ44 q h β x := hcu_fx q1 (n45 q (by omega)) (n45 (q + 5) (by omega)) (hcu_fx s2 (fun z => by unfold XW at z; omega) (fun z => by unfold XW at z; omega) hcu4)
            have h9 := ih n (tP O e ++ S1').length (x3 + 1) s' e' T' (tN s'.2.1 R M) (tP O e ++ S1') S2 gs σ44 (by rw [List.length_cons]; omega) (by omega) (by omega) (by omega) hg' c44 (cOp_fx q1 (n45 5 (by omega)) (n45 6 (by omega)) ho32) hh' (by rw [hsx.2.1 h hph]; exact hph) hcu44 q3 q4 q5 (hoR e' List.mem_cons_self) (hnR e' List.mem_cons_self) htT rfl htM (by rw [hlM, hkl]; exact hbk2) (by omega) (by omega)
            refine wp_mono h9 (fun y τ z => ⟨z.1, z.2.1, fx_tr (fx_tr hxa (fx_mono q1 (fun a w => Or.inr w))) z.2.2.1, cle_tr (cle_tr cl32 (cle_cP cur45 q1) (Int.le_refl _)) z.2.2.2.1 (by omega), by omega, fun w => ?_⟩)
            rw [z.2.2.2.2.2 w, h428, ← hkl]
            omega
      have hxa4 : fx XA σ σ4 := fx_mono x4 (fun a z => Or.inl z)
      have e124 : σ4.1 1 2 = σ.1 1 2 := f4 1 2 (by omega)
      have stp4 : stp told σ4 σ4 s := ⟨c4, fx_rf, cle_rf, Int.le_refl _⟩
      have same : ∀ r, nof s.2.1 r → (tN s.2.1 R r).length = r.length := fun r hr => by rw [tN_nof R hr]
      have hTs : tN s.2.1 R T = T := tN_nof R (fun z hz => hnoT z (List.mem_append.mpr (Or.inl hz)))
      have ho4 : cOp σ4 O := cOp_fx x4 (by unfold XW; omega) (by unfold XW; omega) ho
      have due4 : f_N_dueAfter 45 (d : Int) σ4 = some ((d : Int) - 1 + ((tP O e).length : Int), σ4) := s_dueAfter ho4 (tR_opk htr) ge4 (by omega)
      rw [ge4.1, ge4.2.1]
      by_cases v0 : e.2.1 % 4 = 0
      · have hif := s_isForeign (fu := fu) (q := q) (σ := σ4) (v := e.2.1 / 4) (eb := e.1) (β := β) (by omega) h4 hcu4.2.2.1 hcu4.2.2.2 ge4.2.2.1 hcu4.2.1 (by omega) (by omega) (by have := hok.2.2.2.1 v0; have := hok.2.1; omega)
        by_cases cf : frn x (e.1 - β) (e.2.1 / 4) = true
        · rw [if_pos cf] at hif
          have hadm : adm R h β x (k + 1) s (e :: T) = (2, s) := by
            show (if e.2.1 % 4 = 0 then (if frn x (e.1 - β) (e.2.1 / 4) = true then (2, s) else adm R h β x k s T) else _) = _
            rw [if_pos v0, if_pos cf]
          rw [hadm]
          refine wp_sq (R := fun z τ => z = 2 ∧ τ = σ4) (wp_t v0 (wp_e hif (wp_sq (R := fun z τ => z = 2 ∧ τ = σ4) (wp_f (by decide) (wp_some ⟨rfl, rfl⟩)) (fun z τ hz => wp_some hz)))) ?_
          rintro z τ ⟨rfl, rfl⟩
          exact wp_e due4 (wp_f (by decide) (wp_some ⟨rfl, c4, hxa4, cl4, by omega, fun z => absurd (show (2 : Int) = 0 from z) (by decide)⟩))
        · rw [if_neg cf] at hif
          have hadm : adm R h β x (k + 1) s (e :: T) = adm R h β x k s (tN s.2.1 R T) := by
            rw [hTs]
            show (if e.2.1 % 4 = 0 then (if frn x (e.1 - β) (e.2.1 / 4) = true then (2, s) else adm R h β x k s T) else _) = _
            rw [if_pos v0, if_neg cf]
          refine wp_sq (R := fun z τ => z = 0 ∧ τ = σ4) (wp_t v0 (wp_e hif (wp_sq (R := fun z τ => z = 0 ∧ τ = σ4) (wp_t rfl (wp_some ⟨rfl, rfl⟩)) (fun z τ hz => wp_some hz)))) ?_
          rintro z τ ⟨rfl, rfl⟩
          exact cont s _ hg sx2_rf hh same hadm stp4 rfl
      · by_cases v2 : e.2.1 % 4 = 2
        · rw [hcu4.1]
          by_cases ch : e.2.1 / 4 = h
          · have hadm : adm R h β x (k + 1) s (e :: T) = (3, s) := by
              show (if e.2.1 % 4 = 0 then _ else if e.2.1 % 4 = 2 then (if e.2.1 / 4 = h then (3, s) else _) else _) = _
              rw [if_neg v0, if_pos v2, if_pos ch]
            rw [hadm]
            refine wp_sq (R := fun z τ => z = 3 ∧ τ = σ4) (wp_f v0 (wp_t v2 (wp_sq (R := fun z τ => z = 3 ∧ τ = σ4) (wp_t ch (wp_some ⟨rfl, rfl⟩)) (fun z τ hz => wp_some hz)))) ?_
            rintro z τ ⟨rfl, rfl⟩
            exact wp_e due4 (wp_f (by decide) (wp_some ⟨rfl, c4, hxa4, cl4, by omega, fun z => absurd (show (3 : Int) = 0 from z) (by decide)⟩))
          · have hadm : adm R h β x (k + 1) s (e :: T) = adm R h β x k (dr s x (e.1 - β) e) (tN (dr s x (e.1 - β) e).2.1 R T) := by
              show (if e.2.1 % 4 = 0 then _ else if e.2.1 % 4 = 2 then (if e.2.1 / 4 = h then (3, s) else _) else _) = _
              rw [if_neg v0, if_pos v2, if_neg ch]
            have hΦe : s.2.1 (e.2.1 / 4) = none := by
              cases hz : s.2.1 (e.2.1 / 4) with
              | none => rfl
              | some F => exact absurd ⟨v2, F, hz⟩ hnf
            have hpp := hpe v2
            refine wp_sq (R := fun z τ => z = 0 ∧ stp told σ4 τ (dr s x (e.1 - β) e) ∧ ∀ b, τ.1 42 b = σ4.1 42 b) (wp_f v0 (wp_t v2 (wp_sq (R := fun z τ => z = 0 ∧ stp told σ4 τ (dr s x (e.1 - β) e) ∧ ∀ b, τ.1 42 b = σ4.1 42 b) (wp_f ch (wp_sq (s_drop hq hR (by omega) hg c4 ge4 hcu4.2.1 hcu4.2.2.1 hcu4.2.2.2 h4 (by omega) (by omega) hve hΦe hpp) (fun z τ hz => wp_some hz))) (fun z τ hz => wp_some hz)))) ?_
            rintro z τ ⟨rfl, hst, h42b⟩
            exact cont _ τ (dr_ok hR hg hΦe hpp) (sx2_dr hg.1 hΦe) (dr_phi hh ch) (fun r hr => dr_len hR hg (by omega) hr) hadm hst (h42b 8)
        · have hadm : adm R h β x (k + 1) s (e :: T) = adm R h β x k s (tN s.2.1 R T) := by
            rw [hTs]
            show (if e.2.1 % 4 = 0 then _ else if e.2.1 % 4 = 2 then _ else adm R h β x k s T) = _
            rw [if_neg v0, if_neg v2]
          refine wp_sq (R := fun z τ => z = 0 ∧ τ = σ4) (wp_f v0 (wp_f v2 (wp_some ⟨rfl, rfl⟩))) ?_
          rintro z τ ⟨rfl, rfl⟩
          exact cont s _ hg sx2_rf hh same hadm stp4 rfl
