/-! THE CLASS: READ, AS IT RUNS -/
theorem s_ro17 {fu q : Nat} {e : AG} {σ : SS} {x1 : Int} {i : Nat} (h4 : e.2.2.length ≤ 4) (hg : grp σ q e) (hi : i < e.2.2.length) : ∀ (m j n : Nat), m + j = e.2.2.length → m < n → l_R_risingOrder_17 fu q n x1 i ((((List.range j).filter (fun t => decide (e.2.2.getD t 0 < e.2.2.getD i 0))).length : Nat) : Int) j σ = some ((bef e.2.2 i : Int), σ) := by
  have gd : ∀ t : Nat, t < e.2.2.length → gA σ (q + 5) 4 t = e.2.2.getD t 0 := by
    intro t ht
    have hv : e.2.2[t]? = some e.2.2[t] := List.getElem?_eq_getElem ht
    rw [hg.2.2.2.2 t _ hv, List.getD_eq_getElem?_getD, hv]
    rfl
  intro m
  induction m with
  | zero =>
    intro j n h1 h2
    cases n with
    | zero => omega
    | succ n =>
      rw [l_R_risingOrder_17, hg.2.2.2.1, if_neg (by omega)]
      unfold bef
      rw [show j = e.2.2.length by omega]
  | succ m ih =>
    intro j n h1 h2
    cases n with
    | zero => omega
    | succ n =>
      have hle := List.length_filter_le (fun t => decide (e.2.2.getD t 0 < e.2.2.getD i 0)) (List.range j)
      rw [List.length_range] at hle
      have hst : ((List.range (j + 1)).filter (fun t => decide (e.2.2.getD t 0 < e.2.2.getD i 0))).length = ((List.range j).filter (fun t => decide (e.2.2.getD t 0 < e.2.2.getD i 0))).length + (if e.2.2.getD j 0 < e.2.2.getD i 0 then 1 else 0) := by
        rw [List.range_succ, List.filter_append, List.length_append, List.filter_cons]
        split
        · rename_i c; rw [decide_eq_true_eq] at c; rw [if_pos c]; rfl
        · rename_i c; rw [decide_eq_true_eq] at c; rw [if_neg c]; rfl
      have hih := ih (j + 1) n (by omega) (by omega)
      rw [hst] at hih
      rw [l_R_risingOrder_17, hg.2.2.2.1, if_pos (by omega), gd j (by omega), gd i hi]
      by_cases c : e.2.2.getD j 0 < e.2.2.getD i 0
      · rw [if_pos c] at hih
        rw [if_pos c, ck_t (by omega), sq_e, ck_t (by omega), show (j : Int) + 1 = ((j + 1 : Nat) : Int) by omega]
        exact hih
      · rw [if_neg c] at hih
        rw [if_neg c, sq_e, ck_t (by omega), show (j : Int) + 1 = ((j + 1 : Nat) : Int) by omega]
        exact hih
theorem s_ro4 {fu q : Nat} {e : AG} {σ : SS} (hfu : 20 ≤ fu) (h4 : e.2.2.length ≤ 4) (hg : grp σ q e) : ∀ (m j n : Nat), m + j = e.2.2.length → m < n → l_R_risingOrder_4 fu q n (pk e.2.2 j) j σ = some (pk e.2.2 e.2.2.length, σ) := by
  intro m
  induction m with
  | zero =>
    intro j n h1 h2
    cases n with
    | zero => omega
    | succ n => rw [l_R_risingOrder_4, hg.2.2.2.1, if_neg (by omega), show j = e.2.2.length by omega]
  | succ m ih =>
    intro j n h1 h2
    cases n with
    | zero => omega
    | succ n =>
      have hb := bef_lt (vs := e.2.2) (k := j) (by omega)
      have h17 := s_ro17 (fu := fu) (x1 := pk e.2.2 j) (i := j) h4 hg (by omega) e.2.2.length 0 fu (by omega) (by omega)
      have h17' : l_R_risingOrder_17 fu q fu (pk e.2.2 j) (j : Int) 0 0 σ = some ((bef e.2.2 j : Int), σ) := h17
      rw [l_R_risingOrder_4, hg.2.2.2.1, if_pos (by omega), h17', sq_e, ck_t (by omega), lb_e, ck_t (by omega), show (j : Int) + 1 = ((j + 1 : Nat) : Int) by omega]
      exact ih (j + 1) n (by omega) (by omega)
theorem s_rising {fu q : Nat} {e : AG} {σ : SS} (hfu : 20 ≤ fu) (h4 : e.2.2.length ≤ 4) (hg : grp σ q e) : f_R_risingOrder fu q σ = some (pk e.2.2 e.2.2.length, σ) := by
  unfold f_R_risingOrder
  have h := s_ro4 (fu := fu) hfu h4 hg e.2.2.length 0 fu (by omega) (by omega)
  have h' : l_R_risingOrder_4 fu q fu 0 0 σ = some (pk e.2.2 e.2.2.length, σ) := h
  rw [h', sq_e]
def X51 : Nat → Prop := fun a => a = 51 ∨ a = 52
theorem s_rapp {σ : SS} {ri : List Int} {ro x : Int} (hc : cRd σ ri ro) (hl : ri.length < 12000) : Wp (f_R_append x σ) (fun _ τ => fx X51 σ τ ∧ cRd τ (ri ++ [x]) ro) := by
  obtain ⟨k1, k2, k3, k4, k5⟩ := hc
  have hpos : 128 ≤ σ.1 51 99 ∧ σ.1 51 99 ≤ 16384 := by unfold lenR at k1; omega
  unfold f_R_append
  refine wp_ck ⟨by omega, by omega⟩ (wp_lb (fun σ1 e1 => ?_))
  have main : lenR (σ1.1 51 99) ∧ σ1.1 51 1 = (ri.length : Int) ∧ σ1.1 51 2 = ro ∧ (ri.length : Int) < σ1.1 51 99 ∧ (∀ (k : Nat) (v : Int), ri[k]? = some v → gA σ1 52 (σ1.1 51 99).toNat k = v) ∧ fx X51 σ σ1 := by
    by_cases c : σ.1 51 99 ≤ σ.1 51 1 ∧ σ.1 51 99 < 12000
    · rw [if_pos c] at e1
      have f99 : σ1.1 51 99 = 2 * σ.1 51 99 := by rw [e1]; rfl
      have f1 : σ1.1 51 1 = σ.1 51 1 := by rw [e1]; rfl
      have f2 : σ1.1 51 2 = σ.1 51 2 := by rw [e1]; rfl
      refine ⟨?_, by rw [f1]; exact k2, by rw [f2]; exact k3, by omega, fun k v hk => ?_, ?_⟩
      · rw [f99]
        unfold lenR at k1 ⊢
        omega
      · have hk2 := (List.getElem?_eq_some_iff.mp hk).1
        have := k5 k v hk
        rw [f99]
        unfold gA at this ⊢
        rw [if_pos ⟨by omega, by omega⟩] at this
        rw [if_pos ⟨by omega, by omega⟩, e1]
        show (if 52 = 52 ∧ ¬ (0 ≤ (k : Int) ∧ (k : Int) < σ.1 51 99) then 0 else σ.2.1 52 k) = v
        rw [if_neg (by omega)]
        exact this
      · rw [e1]
        refine ⟨fun a ha => ⟨fun b => ?_, fun i => ?_⟩, rfl⟩
        · show (if a = 51 ∧ b = 99 then 2 * σ.1 51 99 else σ.1 a b) = σ.1 a b
          rw [if_neg (fun z => ha (Or.inl z.1))]
        · show (if a = 52 ∧ ¬ (0 ≤ i ∧ i < σ.1 51 99) then 0 else σ.2.1 a i) = σ.2.1 a i
          rw [if_neg (fun z => ha (Or.inr z.1))]
    · rw [if_neg c] at e1
      rw [e1]
      refine ⟨k1, k2, k3, ?_, k5, fx_rf⟩
      unfold lenR at k1
      omega
  obtain ⟨m1, m2, m3, m4, m5, m6⟩ := main
  have hpos1 : 128 ≤ σ1.1 51 99 ∧ σ1.1 51 99 ≤ 16384 := by unfold lenR at m1; omega
  rw [m2]
  refine wp_ck (by omega) (wp_some ⟨fx_F (fx_S m6 (Or.inr rfl)) (Or.inl rfl), ?_⟩)
  have f : ∀ b, b ≠ 1 → (sF (gS σ1 52 (σ1.1 51 99).toNat (ri.length : Int) x) 51 1 ((ri.length : Int) + 1)).1 51 b = σ1.1 51 b := fun b hb => by rw [sF_f (fun z => hb z.2), gS_f']
  refine ⟨by rw [f 99 (by decide)]; exact m1, ?_, by rw [f 2 (by decide)]; exact m3, ?_, fun k v hk => ?_⟩
  · rw [sF_same, List.length_append]
    show (ri.length : Int) + 1 = ((ri.length + 1 : Nat) : Int)
    omega
  · rw [f 99 (by decide), List.length_append]
    show ((ri.length + 1 : Nat) : Int) ≤ _
    omega
  · rw [f 99 (by decide), gA_F]
    by_cases c : k < ri.length
    · rw [List.getElem?_append_left c] at hk
      rw [gA_S_ne (by omega)]
      exact m5 k v hk
    · rw [List.getElem?_append_right (by omega)] at hk
      have h0 : k - ri.length = 0 := by
        have := (List.getElem?_eq_some_iff.mp hk).1
        simp at this
        omega
      rw [h0] at hk
      have hxv : x = v := Option.some.inj hk
      rw [show (k : Int) = (ri.length : Int) by omega, gA_S_same (by omega) (by omega)]
      exact hxv
/-- names and orders as the class holds them -/
def cNm (σ : SS) (z : Rs) : Prop := ∀ h, 0 ≤ h → h < 324 → gA σ 53 324 h = z.1 h ∧ (z.1 h ≠ 0 → ∀ (i k : Nat), (z.2.1 h)[i]? = some k → bh (gA σ 54 324 h) (2 * (i : Int)) % 4 = (k : Int))
theorem cNm_fx {X : Nat → Prop} {σ τ : SS} {z : Rs} (h : fx X σ τ) (h1 : ¬ X 53) (h2 : ¬ X 54) (k : cNm σ z) : cNm τ z := fun g g0 g1 => by rw [fx_g h h1, fx_g h h2]; exact k g g0 g1
theorem s_th80 {fu q : Nat} {e : AG} {od : List Nat} {P ro : Int} (hq : cur q) (h4 : e.2.2.length ≤ 4) (hv : ∀ v ∈ e.2.2, 0 ≤ v ∧ v ≤ 1000000) (hod : od.length = e.2.2.length) (hol : ∀ k ∈ od, k < e.2.2.length) (hP : ∀ (i k : Nat), od[i]? = some k → bh P (2 * (i : Int)) % 4 = (k : Int)) :
    ∀ (m j n : Nat) (ri : List Int) (σ : SS), m + j = e.2.2.length → m < n → ri.length + m ≤ 12000 → grp σ q e → cRd σ ri ro →
    Wp (l_R_takeHole_80 fu q n P j σ) (fun _ τ => fx X51 σ τ ∧ cRd τ (ri ++ (od.drop j).map (fun k => 4 * e.2.2.getD k 0)) ro) := by
  have hqq := cur_ge hq
  intro m
  induction m with
  | zero =>
    intro j n ri σ h1 h2 h3 hg hc
    cases n with
    | zero => omega
    | succ n =>
      rw [l_R_takeHole_80]
      refine wp_f (by rw [hg.2.2.2.1]; omega) (wp_some ⟨fx_rf, ?_⟩)
      rw [List.drop_of_length_le (by omega), List.map_nil, List.append_nil]
      exact hc
  | succ m ih =>
    intro j n ri σ h1 h2 h3 hg hc
    cases n with
    | zero => omega
    | succ n =>
      have hj : j < od.length := by omega
      have hoj : od[j]? = some od[j] := List.getElem?_eq_getElem hj
      have hk := hol od[j] (List.getElem_mem hj)
      have hvk : e.2.2[od[j]]? = some e.2.2[od[j]] := List.getElem?_eq_getElem hk
      have hgd : e.2.2.getD od[j] 0 = e.2.2[od[j]] := by rw [List.getD_eq_getElem?_getD, hvk]; rfl
      have hvb := hv e.2.2[od[j]] (List.getElem_mem hk)
      rw [l_R_takeHole_80]
      refine wp_t (by rw [hg.2.2.2.1]; omega) (wp_ck (by omega) ?_)
      rw [hP j _ hoj]
      refine wp_lx ?_
      rw [hg.2.2.2.2 _ _ hvk]
      refine wp_ck (by omega) (wp_sq (s_rapp hc (by omega)) ?_)
      rintro - τ ⟨t1, t2⟩
      refine wp_ck (by omega) ?_
      rw [show (j : Int) + 1 = ((j + 1 : Nat) : Int) by omega]
      have h9 := ih (j + 1) n _ τ (by omega) (by omega) (by rw [List.length_append]; show ri.length + 1 + m ≤ 12000; omega) (grp_go t1 (fun a ha z => by unfold cP at ha; unfold X51 at z; omega) hg) t2
      refine wp_mono h9 (fun _ υ k => ⟨fx_tr t1 k.1, ?_⟩)
      have h10 := k.2
      rw [List.append_assoc] at h10
      rw [List.drop_eq_getElem_cons hj, List.map_cons, hgd]
      rw [show 4 * e.2.2[od[j]] + 0 = 4 * e.2.2[od[j]] from Int.add_zero _] at h10
      exact h10
def X54 : Nat → Prop := fun a => 51 ≤ a ∧ a ≤ 54
theorem X51_X54 {σ τ : SS} (h : fx X51 σ τ) : fx X54 σ τ := fx_mono h (fun a z => by unfold X51 at z; unfold X54; omega)
theorem s_takeHole {pa : Int → Int} {fu q : Nat} {e : AG} {z : Rs} {σ : SS} (hfu : 20 ≤ fu) (hq : cur q) (hc2 : e.2.1 % 4 = 2) (hh : 0 ≤ e.2.1 / 4 ∧ e.2.1 / 4 < 324) (hnd : e.2.2.Nodup) (h4 : e.2.2.length ≤ 4) (hl : (e.2.2.length : Int) = pa (e.2.1 / 4)) (hv : ∀ v ∈ e.2.2, 0 ≤ v ∧ v ≤ 1000000) (hk : rsk pa z) (hcnt : z.2.2.1 ≤ 100000) (hlen : z.2.2.2.length + (1 + e.2.2.length) ≤ 12000) (hg : grp σ q e) (hc : cRd σ z.2.2.2 z.2.2.1) (hm : cNm σ z) :
    Wp (f_R_takeHole fu q σ) (fun _ τ => fx X54 σ τ ∧ cRd τ (rst z e).2.2.2 (rst z e).2.2.1 ∧ cNm τ (rst z e)) := by
  have hqq := cur_ge hq
  obtain ⟨k1, k2⟩ := rsN_ok hnd h4 hl hk
  unfold f_R_takeHole
  rw [hg.2.1]
  refine wp_lx ?_
  obtain ⟨hm1, hm2⟩ := hm _ hh.1 hh.2
  rw [hm1]
  have hout : (rsN z (e.2.1 / 4) e.2.2).2.2.2 = z.2.2.2 := by unfold rsN; split <;> rfl
  refine wp_sq (R := fun _ τ => fx X54 σ τ ∧ cRd τ z.2.2.2 (rsN z (e.2.1 / 4) e.2.2).2.2.1 ∧ cNm τ (rsN z (e.2.1 / 4) e.2.2)) ?_ ?_
  · unfold rsN
    by_cases c : z.1 (e.2.1 / 4) = 0
    · rw [if_pos c, if_pos c]
      obtain ⟨c1, c2, c3, c4, c5⟩ := hc
      have hk0 := hk.1
      rw [c3]
      refine wp_ck (by omega) (wp_lb (fun σ6 e6 => ?_))
      have f62 : σ6.1 51 2 = z.2.2.1 + 1 := by rw [e6]; exact sF_same _ _ _ _
      rw [f62]
      refine wp_lb (fun σ10 e10 => ?_)
      have x10 : fx X54 σ σ10 := by rw [e10, e6]; exact fx_S (fx_F fx_rf (by unfold X54; omega)) (by unfold X54; omega)
      have g10 : grp σ10 q e := grp_go x10 (fun a ha z => by unfold cP at ha; unfold X54 at z; omega) hg
      refine wp_e (s_rising hfu h4 g10) (wp_lb (fun σ19 e19 => wp_some ?_))
      have f19 : ∀ a b, ¬ (a = 51 ∧ b = 2) → σ19.1 a b = σ.1 a b := fun a b hab => by rw [e19, gS_f', e10, gS_f', e6, sF_f hab]
      have f192 : σ19.1 51 2 = z.2.2.1 + 1 := by rw [e19, gS_f', e10, gS_f']; exact f62
      have g52 : ∀ n i, gA σ19 52 n i = gA σ 52 n i := fun n i => by rw [e19, gA_S_ne (by omega), e10, gA_S_ne (by omega), e6, gA_F]
      refine ⟨by rw [e19]; exact fx_S x10 (by unfold X54; omega), ⟨by rw [f19 51 99 (by decide)]; exact c1, by rw [f19 51 1 (by decide)]; exact c2, f192, by rw [f19 51 99 (by decide)]; exact c4, fun k v hkv => by rw [f19 51 99 (by decide), g52]; exact c5 k v hkv⟩, fun g g0 g1 => ?_⟩
      show gA σ19 53 324 g = up1 z.1 (e.2.1 / 4) (z.2.2.1 + 1) g ∧ (up1 z.1 (e.2.1 / 4) (z.2.2.1 + 1) g ≠ 0 → ∀ (i k : Nat), (up1 z.2.1 (e.2.1 / 4) (ordL e.2.2) g)[i]? = some k → bh (gA σ19 54 324 g) (2 * (i : Int)) % 4 = (k : Int))
      by_cases cg : g = e.2.1 / 4
      · rw [cg, up1_same, up1_same]
        refine ⟨by rw [e19, gA_S_ne (by omega), e10]; exact gA_S_same hh.1 hh.2, fun _ i k hik => ?_⟩
        obtain ⟨i1, i2⟩ := ordL_get hik
        rw [e19, gA_S_same hh.1 hh.2, i2]
        exact (pk_at hnd h4 i1).2
      · rw [up1_ne cg, up1_ne cg]
        obtain ⟨m1, m2⟩ := hm g g0 g1
        rw [show gA σ19 53 324 g = gA σ 53 324 g by rw [e19, gA_S_ne (by omega), e10, gA_S_ne (fun w => cg w.2), e6, gA_F], show gA σ19 54 324 g = gA σ 54 324 g by rw [e19, gA_S_ne (fun w => cg w.2), e10, gA_S_ne (by omega), e6, gA_F]]
        exact ⟨m1, m2⟩
    · rw [if_neg c, if_neg c]
      exact wp_some ⟨fx_rf, hc, hm⟩
  · rintro - σ23 ⟨x23, c23, m23⟩
    obtain ⟨n1, n2⟩ := m23 _ hh.1 hh.2
    have hb := k1.2.1 (e.2.1 / 4)
    have hb2 : (rsN z (e.2.1 / 4) e.2.2).2.2.1 ≤ 100001 := by unfold rsN; split <;> (try show z.2.2.1 + 1 ≤ 100001) <;> omega
    have hg23 : grp σ23 q e := grp_go x23 (fun a ha z => by unfold cP at ha; unfold X54 at z; omega) hg
    rw [n1]
    refine wp_ck (by omega) (wp_ck (by omega) (wp_sq (s_rapp c23 (by omega)) ?_))
    rintro - σ30 ⟨x30, c30⟩
    have n54 : gA σ30 54 324 (e.2.1 / 4) = gA σ23 54 324 (e.2.1 / 4) := fx_g x30 (fun z => by unfold X51 at z; omega)
    rw [n54]
    refine wp_lx ?_
    obtain ⟨o1, o2⟩ := k1.2.2 _ k2
    have h80 := s_th80 (fu := fu) (q := q) (e := e) (od := (rsN z (e.2.1 / 4) e.2.2).2.1 (e.2.1 / 4)) (P := gA σ23 54 324 (e.2.1 / 4)) (ro := (rsN z (e.2.1 / 4) e.2.2).2.2.1) hq h4 hv (by omega) (fun k hk => by have := o2 k hk; omega) (n2 k2) e.2.2.length 0 fu (z.2.2.2 ++ [4 * ((rsN z (e.2.1 / 4) e.2.2).1 (e.2.1 / 4) - 1) + 2]) σ30 (by omega) (by omega) (by rw [List.length_append]; show z.2.2.2.length + 1 + e.2.2.length ≤ 12000; omega) (grp_go x30 (fun a ha z => by unfold cP at ha; unfold X51 at z; omega) hg23) c30
    refine wp_sq h80 ?_
    rintro - σ37 ⟨x37, c37⟩
    rw [List.drop_zero, List.append_assoc] at c37
    unfold rst
    rw [if_pos hc2]
    refine wp_some ⟨fx_tr (fx_tr x23 (X51_X54 x30)) (X51_X54 x37), ?_, ?_⟩
    · show cRd σ37 ((rsN z (e.2.1 / 4) e.2.2).2.2.2 ++ _ :: _) _
      rw [hout]
      exact c37
    · exact cNm_fx x37 (by unfold X51; omega) (by unfold X51; omega) (cNm_fx x30 (by unfold X51; omega) (by unfold X51; omega) m23)
theorem rsR_cons (z : Rs) (e : AG) (r : Row) : rsR z (e :: r) = rsR (rst z e) r := rfl
theorem rst_cnt {z : Rs} {e : AG} : z.2.2.1 ≤ (rst z e).2.2.1 ∧ (rst z e).2.2.1 ≤ z.2.2.1 + 1 := by
  unfold rst
  split
  · show z.2.2.1 ≤ (rsN z (e.2.1 / 4) e.2.2).2.2.1 ∧ (rsN z (e.2.1 / 4) e.2.2).2.2.1 ≤ z.2.2.1 + 1
    unfold rsN
    split
    · show z.2.2.1 ≤ z.2.2.1 + 1 ∧ z.2.2.1 + 1 ≤ z.2.2.1 + 1; omega
    · omega
  · show z.2.2.1 ≤ z.2.2.1 ∧ z.2.2.1 ≤ z.2.2.1 + 1; omega
theorem s_takel {O : Op} {fu R : Nat} {told N : Int} {s : St} (hR : 300 < R) (hRf : R < fu) (hR2 : R ≤ 1000) (hfu : 3000 ≤ fu) (hN : 0 ≤ N) (hN2 : N ≤ 1000) (hg : gOk O told R s) :
    ∀ (L : Row) (n : Nat) (z : Rs) (x2 : Int) (fl : List Fr) (σ : SS), L.length < n → 0 ≤ x2 → x2 + L.length < 1000000 → z.2.2.1 + L.length ≤ 100000 → z.2.2.2.length + il L ≤ 12000 → rsk s.1 z → cSt σ told s → cst σ 30 s.1 s.2.1 N fl → ahd s.2.1 R fl = L → (∀ e ∈ L, 0 ≤ e.1 ∧ e.1 ≤ 10000) → (∀ e ∈ L, e.2.1 ≤ 1000000) → cRd σ z.2.2.2 z.2.2.1 → cNm σ z →
    Wp (l_R_takeAll_20 fu 30 n x2 σ) (fun _ τ => fx (fun a => cP 30 a ∨ X54 a) σ τ ∧ cRd τ (rsR z L).2.2.2 (rsR z L).2.2.1) := by
  have hHk := sOk_hOk hg.1 hg.2.1 hR hg.2.2
  intro L
  induction L with
  | nil =>
    intro n z x2 fl σ hn hx hx2 hcn hlen hk hc hcl hal hbL hcL hcr hnm
    cases n with
    | zero => omega
    | succ n =>
      rw [l_R_takeAll_20]
      have ht := top_le hg.1 hg.2.1 hc
      refine wp_t (by omega) (wp_sq (s_advance cur30 (by omega) hRf hR2 hHk hN hN2 hc.1 (by omega) hcl (by rw [hal]; exact fun e he => (hbL e he).2)) ?_)
      rintro a2 σ3 ⟨q1, q2⟩
      rw [hal] at q2
      have q2' : a2 = 0 := q2
      exact wp_t q2' (wp_some ⟨fx_mono q1 (fun a z => Or.inl z), cRd_fx q1 (by unfold cP; omega) (by unfold cP; omega) hcr⟩)
  | cons e L ih =>
    intro n z x2 fl σ hn hx hx2 hcn hlen hk hc hcl hal hbL hcL hcr hnm
    cases n with
    | zero => omega
    | succ n =>
      rw [l_R_takeAll_20]
      have ht := top_le hg.1 hg.2.1 hc
      rw [List.length_cons] at hn hx2 hcn
      rw [il_cons] at hlen
      refine wp_t (by omega) (wp_sq (s_advance cur30 (by omega) hRf hR2 hHk hN hN2 hc.1 (by omega) hcl (by rw [hal]; exact fun e he => (hbL e he).2)) ?_)
      rintro a2 σ3 ⟨q1, q2⟩
      rw [hal] at q2
      obtain ⟨rfl, ge3, gl, cl3, al3⟩ := q2
      have hokL : okR s.1 N (e :: L) := by rw [← hal]; exact ahd_ok hg.1.1 hN hcl.2.2.2.2
      have hoke := hokL e List.mem_cons_self
      have hbe := hbL e List.mem_cons_self
      have hce := hcL e List.mem_cons_self
      have h4 : e.2.2.length ≤ 4 := by
        by_cases c : e.2.1 % 4 = 2
        · have := hoke.2.2.2.2.2.1 c
          have := hg.1.2.2.2.1 (e.2.1 / 4)
          omega
        · rw [hoke.2.2.2.2.2.2.1 c]; exact Nat.zero_le _
      have n30 : ∀ a, 36 ≤ a → ¬ cP 30 a := fun a ha z => by unfold cP at z; omega
      have c3 := cSt_cP cur30 q1 hc
      have cr3 := cRd_fx q1 (n30 51 (by omega)) (n30 52 (by omega)) hcr
      have nm3 := cNm_fx q1 (n30 53 (by omega)) (n30 54 (by omega)) hnm
      obtain ⟨r1, r2⟩ := rst_ok hoke.2.2.2.2.2.2.2 h4 hoke.2.2.2.2.2.1 hoke.2.2.2.2.2.2.1 hk
      have rc := rst_cnt (z := z) (e := e)
      refine wp_f (by decide) ?_
      rw [ge3.1, ge3.2.1]
      refine wp_sq (R := fun _ τ => fx X54 σ3 τ ∧ cRd τ (rst z e).2.2.2 (rst z e).2.2.1 ∧ cNm τ (rst z e)) ?_ ?_
      · by_cases c : e.2.1 % 4 = 2
        · have hp := hoke.2.2.2.2.2.1 c
          have hhr := sOk_h hg.1 (g := e.2.1 / 4) (by omega) (by have := mOk_b hg.1.2.2.2.2.2.2.2.1 hg.2.1; omega)
          exact wp_t c (wp_sq (s_takeHole (pa := s.1) (by omega) cur30 c hhr hoke.2.2.2.2.2.2.2 h4 hp (fun v hv => by have := hoke.2.2.2.2.1 v hv; omega) hk (by omega) (by omega) ge3 cr3 nm3) (fun _ τ h => wp_some h))
        · have hce0 := hoke.2.1
          refine wp_f c (wp_ck (by omega) (wp_sq (s_rapp cr3 (by omega)) ?_))
          rintro - τ ⟨t1, t2⟩
          unfold rst
          rw [if_neg c]
          refine wp_some ⟨X51_X54 t1, ?_, cNm_fx t1 (by unfold X51; omega) (by unfold X51; omega) nm3⟩
          rw [show 4 * (e.2.1 / 4) + e.2.1 % 4 = e.2.1 by omega] at t2
          exact t2
      · rintro - σ21 ⟨t1, t2, t3⟩
        refine wp_ck (by omega) ?_
        have t54 : ∀ a, a < 51 → ¬ X54 a := fun a ha z => by unfold X54 at z; omega
        have cl21 : cst σ21 30 s.1 s.2.1 N gl := cst_go t1 (fun a ha => t54 a (by unfold cP at ha; omega)) (fun i _ => ⟨fx_cA t1 (t54 1 (by omega)) (t54 2 (by omega)) i, fx_cB t1 (t54 1 (by omega)) (t54 3 (by omega)) i⟩) (by rw [fx_f t1 (t54 1 (by omega))]; exact Int.le_refl _) (fun _ _ => rfl) (fun _ _ z => z) cl3
        have c21 : cSt σ21 told s := cSt_fx t1 (fun a h1 h2 => t54 a (by omega)) (fun a h1 h2 h3 => t54 a (by omega)) c3
        have h9 := ih n (rst z e) (x2 + 1) gl σ21 (by omega) (by omega) (by omega) (by omega) (by omega) r1 c21 cl21 al3 (fun e he => hbL e (List.mem_cons_of_mem _ he)) (fun e he => hcL e (List.mem_cons_of_mem _ he)) t2 t3
        exact wp_mono h9 (fun _ τ k => ⟨fx_tr (fx_tr (fx_mono q1 (fun a z => Or.inl z)) (fx_mono t1 (fun a z => Or.inr z))) k.1, k.2⟩)
/-- the desk behind a reading -/
def rdD (R : Nat) (d : Dk) (x : Int) : Rs := rsR rs0 (tN d.2.2.2.1.2.1 R (d.2.2.2.2.1 x.toNat).2.2.1)
def dkR (R : Nat) (d : Dk) (x : Int) : Dk := (d.1, d.2.1, d.2.2.1, d.2.2.2.1, d.2.2.2.2.1, (rdD R d x).2.2.2, (rdD R d x).2.2.1, d.2.2.2.2.2.2.2)
theorem rsR_len {pa : Int → Int} {N : Int} (hp4 : pa4 pa) : ∀ {L : Row} {z : Rs}, okR pa N L → rsk pa z → rsk pa (rsR z L) ∧ (rsR z L).2.2.2.length = z.2.2.2.length + il L := by
  intro L
  induction L with
  | nil => intro z _ k; exact ⟨k, rfl⟩
  | cons e L ih =>
    intro z hok k
    have hoke := hok e List.mem_cons_self
    have h4 : e.2.2.length ≤ 4 := by
      by_cases c : e.2.1 % 4 = 2
      · have := hoke.2.2.2.2.2.1 c
        have := hp4 (e.2.1 / 4)
        omega
      · rw [hoke.2.2.2.2.2.2.1 c]; exact Nat.zero_le _
    obtain ⟨r1, r2⟩ := rst_ok hoke.2.2.2.2.2.2.2 h4 hoke.2.2.2.2.2.1 hoke.2.2.2.2.2.2.1 k
    obtain ⟨i1, i2⟩ := ih (z := rst z e) (fun x hx => hok x (List.mem_cons_of_mem _ hx)) r1
    rw [rsR_cons]
    exact ⟨i1, by rw [i2, r2, il_cons]; omega⟩
theorem rs0_ok (pa : Int → Int) : rsk pa rs0 := ⟨Int.le_refl _, fun h => ⟨Int.le_refl _, Int.le_refl _⟩, fun h hn => absurd rfl hn⟩
theorem gD_R {R : Nat} {d : Dk} {x : Int} (hR : 300 < R) (hg : gD R d) (h : rfs d x x = 0) : gD R (dkR R d x) := by
  obtain ⟨x1, x2, -, -, wx, -, -⟩ := rfs_ok h
  have gx := whl_row (hg.2.2.1 x.toNat (by omega)) wx
  have bx := slot_bnd hR hg.1.2.2.2.2 hg.2.1 gx.1 gx.2.2.1
  have hokN := okR_N gx.2.2.2.1 hg.2.1.1.1 R gx.2.1
  have hil := il_le (O := d.1) hg.2.1.1.2.2.2.1 hokN
  refine ⟨hg.1, hg.2.1, hg.2.2.1, ?_⟩
  show (rdD R d x).2.2.2.length ≤ 12000
  have := (rsR_len hg.2.1.1.2.2.2.1 hokN (rs0_ok d.2.2.2.1.1)).2
  unfold rdD
  rw [this]
  show 0 + _ ≤ 12000
  omega
theorem s_read {fu R : Nat} {σ : SS} {d : Dk} {x : Int} (hR : 300 < R) (hRf : R < fu) (hR2 : R ≤ 1000) (hfu : 3000 ≤ fu) (hg : gD R d) (hn : nth σ) (hc : cD σ d) :
    Wp (f_H_read fu x σ) (fun z τ => fx XH σ τ ∧ tho σ τ ∧ ((rfs d x x = 0 ∧ z = .inl ((rdD R d x).2.2.2.length : Int) ∧ cD τ (dkR R d x)) ∨ (rfs d x x ≠ 0 ∧ z = .inr (exn (rfs d x x)) ∧ cD τ d))) := by
  unfold f_H_read
  refine wp_sx (s_startBoth hg hn hc) ?_ ?_
  · rintro E τ ⟨a1, a2, a3⟩
    rcases a3 with ⟨-, a4, -⟩ | ⟨a4, a5, a6⟩
    · cases a4
    · exact ⟨XK_XH a1, a6, Or.inr ⟨a4, by rw [Sum.inr.inj a5], a2⟩⟩
  · rintro u σ2 ⟨a1, a2, a3⟩
    rcases a3 with ⟨a4, -, a5, a6, a7⟩ | ⟨-, a5, -⟩
    · obtain ⟨x1, x2, -, -, wx, -, -⟩ := rfs_ok a4
      have gx := whl_row (hg.2.2.1 x.toNat (by omega)) wx
      have bx := slot_bnd hR hg.1.2.2.2.2 hg.2.1 gx.1 gx.2.2.1
      have hokN := okR_N gx.2.2.2.1 hg.2.1.1.1 R gx.2.1
      have htN := tR_N hg.2.1.1.2.1 R gx.1
      have hil := il_le (O := d.1) hg.2.1.1.2.2.2.1 hokN
      have hcb := code_b (N := (d.2.2.2.2.1 x.toNat).2.1) (by omega) hg.2.1 hokN (tR_opks htN) (fun f hf => by have := (hg.1.2.2.1 f).mp hf; have := hg.1.2.1; omega) (fun e he => by have := bx.2 e he; omega)
      unfold f_R_takeAll
      refine wp_sq (R := fun _ τ => fx (fun a => cP 30 a ∨ X54 a) σ2 τ ∧ cRd τ (rdD R d x).2.2.2 (rdD R d x).2.2.1) (wp_lb (fun σ3 e3 => wp_lb (fun σ6 e6 => wp_sq (s_Arfill (nq := 324) (by decide) (by omega)) ?_))) ?_
      · rintro - σ10 ⟨b1, b2, b3⟩
        have f10 : ∀ a b, a ≠ 51 → σ10.1 a b = σ2.1 a b := fun a b ha => by rw [b2, e6, sF_f (fun z => ha z.1), e3, sF_f (fun z => ha z.1)]
        have x10 : fx X54 σ2 σ10 := by
          refine fx_tr (τ := σ6) ?_ (fx_mono b1 (fun a z => by have : a = 53 := z; unfold X54; omega))
          rw [e6, e3]
          exact fx_F (fx_F fx_rf (by unfold X54; omega)) (by unfold X54; omega)
        have f51 : σ10.1 51 1 = 0 ∧ σ10.1 51 2 = 0 ∧ σ10.1 51 99 = σ2.1 51 99 := by
          refine ⟨?_, ?_, ?_⟩
          · rw [b2, e6, sF_f (by decide), e3]; exact sF_same _ _ _ _
          · rw [b2, e6]; exact sF_same _ _ _ _
          · rw [b2, e6, sF_f (by decide), e3, sF_f (by decide)]
        obtain ⟨l1, l2, l3, l4, l5⟩ := a2.2.2.2.2.1
        have cr10 : cRd σ10 rs0.2.2.2 rs0.2.2.1 := by
          refine ⟨by rw [f51.2.2]; exact l1, f51.1, f51.2.1, ?_, fun k v hk => by cases hk⟩
          rw [f51.2.2]
          show ((0 : Nat) : Int) ≤ _
          unfold lenR at l1
          omega
        have nm10 : cNm σ10 rs0 := fun h h0 h1 => ⟨b3 h h0 h1, fun z => absurd rfl z⟩
        have t54 : ∀ a, a < 51 → ¬ X54 a := fun a ha z => by unfold X54 at z; omega
        have c10 : cSt σ10 d.2.2.1 d.2.2.2.1 := cSt_fx x10 (fun a h1 h2 => t54 a (by omega)) (fun a h1 h2 h3 => t54 a (by omega)) a2.1
        have cl10 := cst_go (pb := d.2.2.2.1.1) (Ψ := d.2.2.2.1.2.1) x10 (fun a ha => t54 a (by unfold cP at ha; omega)) (fun i _ => ⟨fx_cA x10 (t54 1 (by omega)) (t54 2 (by omega)) i, fx_cB x10 (t54 1 (by omega)) (t54 3 (by omega)) i⟩) (by rw [fx_f x10 (t54 1 (by omega))]; exact Int.le_refl _) (fun _ _ => rfl) (fun _ _ z => z) a6
        refine wp_sq (s_takel (O := d.1) (told := d.2.2.1) hR hRf hR2 hfu gx.2.2.2.1 (by omega) hg.2.1 _ fu rs0 0 _ σ10 (by omega) (Int.le_refl _) (by omega) (by show (0 : Int) + _ ≤ 100000; omega) (by show 0 + _ ≤ 12000; omega) (rs0_ok _) c10 cl10 (ahd_one d.2.2.2.1.2.1 R _ (-1)) (fun e he => by have := bx.2 e he; omega) hcb cr10 nm10) ?_
        rintro - τ ⟨t1, t2⟩
        exact wp_some ⟨fx_tr (fx_mono x10 (fun a z => Or.inr z)) t1, t2⟩
      · rintro - τ ⟨t1, t2⟩
        have nx : ∀ a, (a < 30 ∨ (35 < a ∧ a < 51)) → ¬ (cP 30 a ∨ X54 a) := fun a ha z => by unfold cP X54 at z; omega
        have f0 : ∀ b, τ.1 0 b = σ2.1 0 b := fun b => fx_f t1 (nx 0 (by omega))
        obtain ⟨k1, k2, k3, k4, k5, k6, k7⟩ := a2
        refine wp_some ⟨fx_tr (XK_XH a1) (fx_mono t1 (fun a z => by unfold cP X54 at z; unfold XH; omega)), tho_eq (by rw [f0]; exact a5), Or.inl ⟨a4, by rw [t2.2.1], cSt_fx t1 (fun a h1 h2 => nx a (by omega)) (fun a h1 h2 h3 => nx a (by omega)) k1, cOp_fx t1 (nx 5 (by omega)) (nx 6 (by omega)) k2, by rw [fx_f t1 (nx 4 (by omega))]; exact k3, fun i hi => cSl_fx t1 (nx _ (by omega)) (nx _ (by omega)) (fun j _ => ⟨fx_cA t1 (nx 1 (by omega)) (nx 2 (by omega)) j, fx_cB t1 (nx 1 (by omega)) (nx 3 (by omega)) j⟩) hi (il_30 hg.2.1.1.2.2.2.1 (hg.2.2.1 i hi)).1 (k4 i hi), t2, by rw [f0]; exact k6, by rw [f0]; exact k7⟩⟩
    · cases a5
