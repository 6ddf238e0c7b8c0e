/-! A TERM IS COPIED INTO A FILLING -/
theorem s_inside {fu q : Nat} {σ : SS} {x : List Int} {h β b v : Int} (hfu : 10 ≤ fu) (h4 : x.length ≤ 4) (hc : hcu σ q h β x) (hb : 0 ≤ b ∧ b ≤ 100000) (hv : 0 ≤ v ∧ v ≤ 1000000) : f_N_inside fu q v b σ = some (vin x b v, σ) := by
  unfold f_N_inside vin
  by_cases c : v < b
  · rw [if_pos c, if_pos c]
  · have hlo := fnd_lo x (v - b)
    rw [if_neg c, if_neg c, ck_t (by omega), s_paramFor hfu h4 hc.2.2.1 hc.2.2.2]
    show ck _ (some (fnd x (v - b) + b, σ)) = _
    rw [ck_t (by omega)]
theorem vin_b {x : List Int} {b v : Int} (h4 : x.length ≤ 4) (hb : 0 ≤ b ∧ b ≤ 100000) (hv : 0 ≤ v ∧ v ≤ 1000000) : -10 ≤ vin x b v ∧ vin x b v ≤ 2000000 := by
  unfold vin
  have hlo := fnd_lo x (v - b)
  split <;> omega
theorem grp_X3 {σ τ : SS} {p : Nat} {e : AG} (hp : cur p) (hx : fx X3 σ τ) (h : grp σ p e) : grp τ p e := by
  have := cur_ge hp
  exact grp_go hx (fun a ha z => by unfold cP at ha; unfold X3 at z; omega) h
theorem hcu_X3 {σ τ : SS} {p : Nat} {h β : Int} {x : List Int} (hp : cur p) (hx : fx X3 σ τ) (k : hcu σ p h β x) : hcu τ p h β x := by
  have := cur_ge hp
  exact hcu_fx hx (fun z => by unfold X3 at z; omega) (fun z => by unfold X3 at z; omega) k
theorem s_chl {fu q r : Nat} {e : AG} {h β b : Int} {x : List Int} (hq : cur q) (hr : cur r) (hfu : 10 ≤ fu) (h4 : x.length ≤ 4) (h4e : e.2.2.length ≤ 4) (hb : 0 ≤ b ∧ b ≤ 100000) (hv : ∀ v ∈ e.2.2, 0 ≤ v ∧ v ≤ 1000000) : ∀ (m i n : Nat) (σ : SS), m + i = e.2.2.length → m < n → cCel σ → σ.1 1 2 + 10 < 130800 + i → grp σ r e → hcu σ q h β x → vseg σ (σ.1 1 2 - i) ((e.2.2.map (vin x b)).take i) →
    Wp (l_N_copyHere_56 fu q r n b i σ) (fun _ τ => fx X3 σ τ ∧ cCel τ ∧ τ.1 1 2 = σ.1 1 2 + m ∧ cle σ τ (σ.1 1 2) ∧ vseg τ (σ.1 1 2 - i) (e.2.2.map (vin x b))) := by
  intro m
  induction m with
  | zero =>
    intro i n σ h1 h2 hC hbd hg hcuq hs
    cases n with
    | zero => omega
    | succ n =>
      rw [l_N_copyHere_56]
      refine wp_f (by rw [hg.2.2.2.1]; omega) (wp_some ⟨fx_rf, hC, by omega, cle_rf, ?_⟩)
      rw [List.take_of_length_le (by rw [List.length_map]; omega)] at hs
      exact hs
  | succ m ih =>
    intro i n σ h1 h2 hC hbd hg hcuq hs
    cases n with
    | zero => omega
    | succ n =>
      rw [l_N_copyHere_56]
      have hi : i < e.2.2.length := by omega
      have hvi : e.2.2[i]? = some e.2.2[i] := List.getElem?_eq_getElem hi
      have hvb := hv e.2.2[i] (List.getElem_mem hi)
      have hvn := vin_b h4 hb hvb
      refine wp_t (by rw [hg.2.2.2.1]; omega) ?_
      rw [hg.2.2.2.2 i _ hvi]
      refine wp_e (s_inside hfu h4 hcuq hb hvb) (wp_ck (by omega) (wp_sq (s_append hC (by omega)) ?_))
      rintro - τ ⟨a1, a2, a3, a4, a5, a6⟩
      refine wp_ck (by omega) ?_
      rw [show (i : Int) + 1 = ((i + 1 : Nat) : Int) by omega]
      have hmi : (e.2.2.map (vin x b))[i]? = some (vin x b e.2.2[i]) := by rw [List.getElem?_map, hvi]; rfl
      have h5 := ih (i + 1) n τ (by omega) (by omega) a2 (by omega) (grp_X3 hr a1 hg) (hcu_X3 hq a1 hcuq) (by
        intro k v hkv
        rw [a3, show σ.1 1 2 + 1 - ((i + 1 : Nat) : Int) + k = σ.1 1 2 - i + k by omega]
        have hk2 := (List.getElem?_eq_some_iff.mp hkv).1
        rw [List.length_take] at hk2
        rw [List.getElem?_take_of_lt (by omega)] at hkv
        by_cases c : k = i
        · subst c
          rw [hmi] at hkv
          cases hkv
          rw [show σ.1 1 2 - (k : Int) + k = σ.1 1 2 by omega, a5]
          omega
        · rw [(a4 _ (by omega)).1]
          exact hs k v (by rw [List.getElem?_take_of_lt (by omega)]; exact hkv))
      refine wp_mono h5 (fun _ υ k => ⟨fx_tr a1 k.1, k.2.1, by rw [k.2.2.1, a3]; omega, cle_tr a4 k.2.2.2.1 (by omega), ?_⟩)
      have h6 := k.2.2.2.2
      rw [a3, show σ.1 1 2 + 1 - ((i + 1 : Nat) : Int) = σ.1 1 2 - i by omega] at h6
      exact h6
theorem s_copyHere {fu q r : Nat} {e : AG} {h β : Int} {x : List Int} {σ : SS} (hq : cur q) (hr : cur r) (hfu : 10 ≤ fu) (h4 : x.length ≤ 4) (h4e : e.2.2.length ≤ 4) (hβ : 0 ≤ β ∧ β ≤ e.1) (hb : e.1 ≤ 100000) (hv : ∀ v ∈ e.2.2, 0 ≤ v ∧ v ≤ 1000000) (hc0 : 0 ≤ e.2.1 ∧ e.2.1 ≤ 1000000) (hC : cCel σ) (ht : σ.1 1 2 + 20 < 130800) (hg : grp σ r e) (hcuq : hcu σ q h β x) :
    Wp (f_N_copyHere fu q r σ) (fun _ τ => fx X3 σ τ ∧ cCel τ ∧ τ.1 1 2 = σ.1 1 2 + 1 + (e.2.2.length : Int) ∧ cle σ τ (σ.1 1 2) ∧ cseg τ (σ.1 1 2) [ins β x e] (τ.1 1 2)) := by
  unfold f_N_copyHere
  rw [hg.2.2.1, hcuq.2.1, hg.1, hg.2.1]
  refine wp_ck (by omega) (wp_lx ?_)
  have hvn := vin_b (v := e.2.1 / 4) h4 (b := e.1 - β) (by omega) (by omega)
  refine wp_sq (R := fun z τ => τ = σ ∧ 4 * z + e.2.1 % 4 = (ins β x e).2.1 ∧ -100 ≤ z ∧ z ≤ 3000000) ?_ ?_
  · unfold ins
    dsimp only
    by_cases c : e.2.1 % 4 = 0
    · refine wp_t c (wp_e (s_inside hfu h4 hcuq (by omega) (by omega)) (wp_some ⟨rfl, ?_, by omega, by omega⟩))
      rw [if_pos c]
      omega
    · refine wp_f c (wp_some ⟨rfl, ?_, by omega, by omega⟩)
      rw [if_neg c]
      omega
  · rintro z τ ⟨rfl, hz, hz1, hz2⟩
    rw [hg.1, hz]
    refine wp_ck (by omega) (wp_sq (s_append hC (by omega)) ?_)
    rintro - σ17 ⟨a1, a2, a3, a4, a5, a6⟩
    refine wp_sq (s_chl (e := e) (b := e.1 - β) hq hr hfu h4 h4e (by omega) hv e.2.2.length 0 fu σ17 (by omega) (by omega) a2 (by omega) (grp_X3 hr a1 hg) (hcu_X3 hq a1 hcuq) (fun k v hk => by rw [List.take_zero] at hk; cases hk)) ?_
    rintro - σ22 ⟨b1, b2, b3, b4, b5⟩
    refine wp_some ⟨fx_tr a1 b1, b2, by omega, cle_tr a4 b4 (by omega), ?_, ?_, fun k v hk => ?_, ?_⟩
    · rw [(b4 _ (by omega)).1, a5]
    · rw [(b4 _ (by omega)).2, a6]
      rfl
    · have := b5 k v hk
      rw [a3] at this
      rw [show τ.1 1 2 + 1 + (k : Int) = τ.1 1 2 + 1 - ((0 : Nat) : Int) + k by omega]
      exact this
    · show τ.1 1 2 + 1 + ((e.2.2.map _).length : Int) = σ22.1 1 2
      rw [List.length_map]
      omega
theorem cHol_app {σ τ : SS} {pa : Int → Int} {Φ : Fl} (hx : fx X3 σ τ) (hcl : cle σ τ (σ.1 1 2)) (ht : σ.1 1 2 ≤ τ.1 1 2) (k : cHol σ pa Φ) : cHol τ pa Φ := by
  have n3 : ∀ a, 4 ≤ a → ¬ X3 a := fun a ha z => by unfold X3 at z; omega
  intro q hq
  obtain ⟨a, b, c, d, e⟩ := k q hq
  rw [fx_g hx (n3 8 (by omega)), fx_g hx (n3 9 (by omega)), fx_g hx (n3 10 (by omega))]
  exact ⟨a, b, c, d, fun F hF => ⟨(e F hF).1, cseg_cle hcl (e F hF).2.1 (e F hF).2.2, Int.le_trans (e F hF).2.2 ht⟩⟩
def XC (r : Nat) : Nat → Prop := fun a => X3 a ∨ cP r a
theorem s_cptl {O : Op} {fu R q r : Nat} {told β N h : Int} {x : List Int} {s : St} (hq : cur q) (hr : cur r) (hqr : q ≠ r) (hR : 300 < R) (hRf : R < fu) (hR2 : R ≤ 1000) (hN : 0 ≤ N) (hN2 : N ≤ 1000) (h4 : x.length ≤ 4) (hβ : 0 ≤ β) (hb2 : bd2 O) (hg : gOk O told R s) :
    ∀ (k n d : Nat) (x4 start : Int) (e : AG) (D T M : Row) (S1 S2 : List Int) (fs : List Fr) (σ : SS), T.length < k → k < n → 0 ≤ x4 → x4 + k < 1000000 → cHol σ s.1 s.2.1 → cCel σ → σ.1 1 2 + 5 * (T.length + 1) < 130000 → cOp σ O → hcu σ q h β x → grp σ r e → cst σ r s.1 s.2.1 N fs → ahd s.2.1 R fs = T ++ M → okG s.1 N e → tR O (e :: T) S1 = some [] → S1.length = d → tR O M S2 = some [] → bok (S1 ++ S2) (T.length + 1 + M.length) → (∀ z ∈ S1, β ≤ z) → cseg σ start D (σ.1 1 2) → start ≤ σ.1 1 2 →
    Wp (l_N_copyTerm_5 fu q r n d x4 σ) (fun y τ => y = .inl () ∧ fx (XC r) σ τ ∧ cHol τ s.1 s.2.1 ∧ cCel τ ∧ cle σ τ (σ.1 1 2) ∧ σ.1 1 2 ≤ τ.1 1 2 ∧ cseg τ start (D ++ (e :: T).map (ins β x)) (τ.1 1 2) ∧ ∃ gs, cst τ r s.1 s.2.1 N gs ∧ ahd s.2.1 R gs = M) := by
  intro k
  induction k with
  | zero => intro n d x4 start e D T M S1 S2 fs σ h1; omega
  | succ k ih =>
    intro n d x4 start e D T M S1 S2 fs σ hk hn hx0 hxk hH hC htop ho hcuq hge hcst hahd hok htr hd htm hbk hlo hsg hst
    obtain ⟨S1', rfl, htr2⟩ := tR_inv htr
    have hsl := tR_slen htr
    have hbe := hbk e.1 (List.mem_append.mpr (Or.inl List.mem_cons_self))
    have hle := hlo e.1 List.mem_cons_self
    have hve : ∀ v ∈ e.2.2, 0 ≤ v ∧ v ≤ 1000000 := fun v hv => by have := hok.2.2.2.2.1 v hv; omega
    have h4e : e.2.2.length ≤ 4 := by
      by_cases c : e.2.1 % 4 = 2
      · have := hok.2.2.2.2.2.1 c
        have := hg.1.2.2.2.1 (e.2.1 / 4)
        omega
      · rw [hok.2.2.2.2.2.2.1 c]; exact Nat.zero_le _
    have hcode : 0 ≤ e.2.1 ∧ e.2.1 ≤ 1000000 := by
      refine ⟨hok.2.1, ?_⟩
      by_cases c0 : e.2.1 % 4 = 0
      · have := hok.2.2.2.1 c0
        omega
      · by_cases c1 : e.2.1 % 4 = 1
        · have h9 : 0 ≤ O.1 (e.2.1 / 4) := (tR_opk htr).elim (fun z => absurd c1 z) id
          have := ho.1 _ h9
          omega
        · have c2 : e.2.1 % 4 = 2 := by have := hok.2.2.1; omega
          have h9 := hok.2.2.2.2.2.1 c2
          have := sOk_h hg.1 (g := e.2.1 / 4) (by omega) (by have := mOk_b hg.1.2.2.2.2.2.2.2.1 hg.2.1; omega)
          omega
    have hrr := cur_ge hr
    have hqq := cur_ge hq
    cases n with
    | zero => omega
    | succ n =>
      rw [List.length_cons] at hd hsl
      rw [List.length_cons] at hsl
      rw [l_N_copyTerm_5]
      refine wp_t (by omega) (wp_sq (s_copyHere hq hr (by omega) h4 h4e ⟨hβ, hle⟩ (by omega) hve hcode hC (by omega) hge hcuq) ?_)
      rintro - σ3 ⟨a1, a2, a3, a4, a5⟩
      have n3 : ∀ a, 4 ≤ a → ¬ X3 a := fun a ha z => by unfold X3 at z; omega
      have ho3 := cOp_fx a1 (n3 5 (by omega)) (n3 6 (by omega)) ho
      have hge3 := grp_X3 hr a1 hge
      have hH3 := cHol_app a1 a4 (by omega) hH
      have cst3 : cst σ3 r s.1 s.2.1 N fs := cst_go a1 (fun a ha => n3 a (by unfold cP at ha; omega)) a4 (by omega) (fun _ _ => rfl) (fun _ _ z => z) hcst
      have sg3 : cseg σ3 start (D ++ [ins β x e]) (σ3.1 1 2) := cseg_append (cseg_cle a4 hsg (Int.le_refl _)) a5
      refine wp_e (s_dueAfter ho3 (tR_opk htr) hge3 (by omega)) ?_
      have hdl : (d : Int) - 1 + ((tP O e).length : Int) = ((tP O e ++ S1').length : Nat) := by rw [List.length_append]; omega
      rw [hdl]
      have hxc : fx (XC r) σ σ3 := fx_mono a1 (fun a z => Or.inl z)
      by_cases c0 : ((tP O e ++ S1').length : Int) = 0
      · have hnil : tP O e ++ S1' = [] := List.length_eq_zero_iff.mp (by omega)
        rw [hnil] at htr2
        have hTn := tR_e htr2
        rw [hTn] at hahd ⊢
        exact wp_t c0 (wp_some ⟨rfl, hxc, hH3, a2, a4, by omega, sg3, fs, cst3, hahd⟩)
      · refine wp_f c0 ?_
        have hbk2 : bok ((tP O e ++ S1') ++ S2) (T.length + M.length) := by
          rw [List.append_assoc]
          refine bok_next hb2 ?_
          rw [show T.length + M.length + 1 = T.length + 1 + M.length by omega]
          exact hbk
        have hB := bok_row hb2 (r := T ++ M) (S := (tP O e ++ S1') ++ S2) (by rw [List.length_append]; exact hbk2) (tR_both htr2 htm)
        have hHk := sOk_hOk hg.1 hg.2.1 hR hg.2.2
        have hoR : okR s.1 N (T ++ M) := by rw [← hahd]; exact ahd_ok hg.1.1 hN hcst.2.2.2.2
        refine wp_sq (s_advance hr (by omega) hRf hR2 hHk hN hN2 hH3 (by omega) cst3 (by rw [hahd]; exact fun e he => (hB e he).2)) ?_
        rintro a13 σ14 ⟨q1, q2⟩
        rw [hahd] at q2
        cases T with
        | nil =>
          have : tP O e ++ S1' = [] := Option.some.inj htr2
          rw [this] at c0
          exact absurd rfl c0
        | cons e' T' =>
          rw [List.cons_append] at q2
          obtain ⟨rfl, q3, gs, q4, q5⟩ := q2
          have nr : ∀ a, a < 30 → ¬ cP r a := fun a ha z => by unfold cP at z; omega
          have e14 : σ14.1 1 2 = σ3.1 1 2 := fx_f q1 (nr 1 (by omega))
          have cl14 : ∀ t, cle σ3 σ14 t := fun t => cle_cP hr q1
          rw [List.length_cons] at hk htop hbk2
          refine wp_f (by decide) (wp_ck (by omega) ?_)
          have hqr2 := cur_ne hq hr hqr
          have hcu14 : hcu σ14 q h β x := hcu_fx q1 (fun z => by unfold cP at z; omega) (fun z => by unfold cP at z; omega) (hcu_X3 hq a1 hcuq)
          have hH14 : cHol σ14 s.1 s.2.1 := cHol_fx q1 (nr 1 (by omega)) (nr 2 (by omega)) (nr 3 (by omega)) (nr 8 (by omega)) (nr 9 (by omega)) (nr 10 (by omega)) hH3
          have hC14 : cCel σ14 := by unfold cCel; rw [fx_f q1 (nr 1 (by omega)), fx_f q1 (nr 1 (by omega))]; exact a2
          have h9 := ih n (tP O e ++ S1').length (x4 + 1) start e' (D ++ [ins β x e]) T' M (tP O e ++ S1') S2 gs σ14 (by omega) (by omega) (by omega) (by omega) hH14 hC14 (by omega) (cOp_fx q1 (nr 5 (by omega)) (nr 6 (by omega)) ho3) hcu14 q3 q4 q5 (hoR e' List.mem_cons_self) htr2 rfl htm hbk2 (fun z hz => by
            rcases List.mem_append.mp hz with w | w
            · have := tP_lo hb2 w
              omega
            · exact hlo z (List.mem_cons_of_mem _ w)) (by rw [e14]; exact cseg_cle (cl14 (σ3.1 1 2)) sg3 (Int.le_refl _)) (by omega)
          refine wp_mono h9 (fun y τ z => ⟨z.1, fx_tr (fx_tr hxc (fx_mono q1 (fun a w => Or.inr w))) z.2.1, z.2.2.1, z.2.2.2.1, cle_tr (cle_tr a4 (cl14 (σ3.1 1 2)) (by omega)) z.2.2.2.2.1 (by omega), by omega, ?_, z.2.2.2.2.2.2.2⟩)
          have h7 := z.2.2.2.2.2.2.1
          rw [List.append_assoc] at h7
          exact h7
