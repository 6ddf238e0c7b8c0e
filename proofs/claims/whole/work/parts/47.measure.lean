/-! SIZES -/
def szo (Φ : Fl) (R : Nat) (h : Int) : Int := match Φ h with | some F => ((tN Φ R F).length : Int) | none => 1
theorem szo_s {Φ : Fl} {R : Nat} {h : Int} {F : Row} (hF : Φ h = some F) : szo Φ R h = ((tN Φ R F).length : Int) := by unfold szo; rw [hF]
theorem szo_n {Φ : Fl} {R : Nat} {h : Int} (hF : Φ h = none) : szo Φ R h = 1 := by unfold szo; rw [hF]
theorem sOk_rk {O : Op} {told : Int} {R : Nat} {s : St} (hR : 300 < R) (hs : sOk O told s) (hm : mOk told s) : ∃ rk, rkd s.2.1 rk ∧ ∀ h, rk h < R := by
  obtain ⟨rk, h1, h2⟩ := hs.2.2.1
  have hb := mOk_b hs.2.2.2.2.2.2.2.1 hm
  exact ⟨rk, h1, fun h => by have := h2 h; omega⟩
theorem tN_hole2 {O : Op} {told : Int} {R : Nat} {s : St} {e : AG} {F : Row} (hR : 300 < R) (hs : sOk O told s) (hm : mOk told s) (hc : e.2.1 % 4 = 2) (hF : s.2.1 (e.2.1 / 4) = some F) : tN s.2.1 R [e] = (tN s.2.1 R F).map (tS e.1 (tI e.2.2)) := by
  obtain ⟨rk, h3, h4⟩ := sOk_rk hR hs hm
  obtain ⟨R', rfl⟩ : ∃ R', R = R' + 1 := ⟨R - 1, by omega⟩
  have e1 : tN s.2.1 (R' + 1) [e] = tN s.2.1 R' (F.map (tS e.1 (tI e.2.2))) := by
    show tN s.2.1 R' (tE s.2.1 [e]) = _
    congr 1
    unfold tE tX
    rw [List.flatMap_cons, List.flatMap_nil, List.append_nil, if_pos hc, hF]
  have e2 : lw s.2.1 rk R' F := lw_mono (h3 _ _ hF) (by have := h4 (e.2.1 / 4); omega)
  have hp : 0 ≤ s.1 (e.2.1 / 4) := hs.2.2.2.2.2.2.2.2.1 _ ((hs.2.2.2.2.2.1 _).mp ⟨F, hF⟩)
  rw [e1, tN_sub hp hs.1 R' (hs.1 _ _ hF), tN_stab h3 R' (R' + 1) e2 (Nat.le_succ _)]
/-- the size of a group -/
def wgt (w : Int → Int) (e : AG) : Int := if e.2.1 % 4 = 2 then w (e.2.1 / 4) else 1
def wsum (w : Int → Int) : Row → Int
  | [] => 0
  | e :: r => wgt w e + wsum w r
theorem szo_e {O : Op} {told : Int} {R : Nat} {s : St} {e : AG} (hR : 300 < R) (hs : sOk O told s) (hm : mOk told s) : ((tN s.2.1 R [e]).length : Int) = wgt (szo s.2.1 R) e := by
  unfold wgt
  by_cases c : e.2.1 % 4 = 2
  · rw [if_pos c]
    cases hF : s.2.1 (e.2.1 / 4) with
    | some F => rw [tN_hole2 hR hs hm c hF, List.length_map, szo_s hF]
    | none =>
      rw [szo_n hF, tN_open (fun z => by obtain ⟨-, E, hE⟩ := z; rw [hF] at hE; cases hE)]
      rfl
  · rw [if_neg c, tN_open (fun z => c z.1)]
    rfl
theorem szo_r {O : Op} {told : Int} {R : Nat} {s : St} (hR : 300 < R) (hs : sOk O told s) (hm : mOk told s) : ∀ r : Row, ((tN s.2.1 R r).length : Int) = wsum (szo s.2.1 R) r := by
  intro r
  induction r with
  | nil => rw [tN_nil]; rfl
  | cons e r ih =>
    rw [tN_cons, List.length_append]
    show _ = wgt (szo s.2.1 R) e + wsum (szo s.2.1 R) r
    rw [← ih, ← szo_e hR hs hm]
    omega
theorem wsum_congr {w v : Int → Int} : ∀ {r : Row}, (∀ e ∈ r, e.2.1 % 4 = 2 → w (e.2.1 / 4) = v (e.2.1 / 4)) → wsum w r = wsum v r := by
  intro r
  induction r with
  | nil => intro _; rfl
  | cons e r ih =>
    intro h
    show wgt w e + wsum w r = wgt v e + wsum v r
    rw [ih (fun x hx => h x (List.mem_cons_of_mem _ hx))]
    congr 1
    unfold wgt
    split
    · rename_i c; exact h e List.mem_cons_self c
    · rfl
theorem wsum_nn {w : Int → Int} : ∀ {r : Row}, (∀ e ∈ r, e.2.1 % 4 = 2 → 0 ≤ w (e.2.1 / 4)) → 0 ≤ wsum w r := by
  intro r
  induction r with
  | nil => intro _; exact Int.le_refl _
  | cons e r ih =>
    intro h
    show 0 ≤ wgt w e + wsum w r
    have h1 := ih (fun x hx => h x (List.mem_cons_of_mem _ hx))
    have h2 : 0 ≤ wgt w e := by
      unfold wgt
      split
      · rename_i c; exact h e List.mem_cons_self c
      · omega
    omega
theorem s_sum {fu : Nat} {σ : SS} {j : Int} (hj : j ≤ 1000000) : ∀ (r : Row) (n : Nat) (i acc : Int), cseg σ i r j → 0 ≤ i → (∀ e ∈ r, e.2.1 % 4 = 2 → gA σ 8 324 (e.2.1 / 4) = (e.2.2.length : Int) ∧ 0 ≤ gA σ 11 324 (e.2.1 / 4)) → (∀ e ∈ r, e.2.1 % 4 ≠ 2 → e.2.2 = []) → r.length < n → 0 ≤ acc → acc + wsum (gA σ 11 324) r ≤ 1000000 →
    l_G_sumFrom_5 fu n j acc i σ = some (acc + wsum (gA σ 11 324) r, σ) := by
  intro r
  induction r with
  | nil =>
    intro n i acc hs _ _ _ hn _ _
    cases n with
    | zero => omega
    | succ n =>
      have : i = j := hs
      rw [l_G_sumFrom_5, if_neg (by omega)]
      show some (acc, σ) = some (acc + 0, σ)
      rw [Int.add_zero]
  | cons e r ih =>
    intro n i acc hs hi hp hv hn ha hb
    cases n with
    | zero => omega
    | succ n =>
      have hle := cseg_le hs
      rw [il_cons] at hle
      obtain ⟨s1, s2, s3, s4⟩ := hs
      have hnn := wsum_nn (w := gA σ 11 324) (r := r) (fun x hx c => (hp x (List.mem_cons_of_mem _ hx) c).2)
      have hb' : acc + (wgt (gA σ 11 324) e + wsum (gA σ 11 324) r) ≤ 1000000 := hb
      rw [List.length_cons] at hn
      rw [l_G_sumFrom_5, if_pos (by omega)]
      have key : ∀ z : Int × Int, z.1 = acc + wgt (gA σ 11 324) e → z.2 + 1 = i + 1 + (e.2.2.length : Int) → ck (rng (z.2 + 1)) (l_G_sumFrom_5 fu n j z.1 (z.2 + 1) σ) = some (acc + wsum (gA σ 11 324) (e :: r), σ) := by
        intro z h1 h2
        have hw : 0 ≤ wgt (gA σ 11 324) e := by
          unfold wgt
          split
          · rename_i c; exact (hp e List.mem_cons_self c).2
          · omega
        rw [h2, ck_t (by omega), h1, ih n _ _ s4 (by omega) (fun x hx c => hp x (List.mem_cons_of_mem _ hx) c) (fun x hx c => hv x (List.mem_cons_of_mem _ hx) c) (by omega) (by omega) (by omega)]
        show some (acc + wgt (gA σ 11 324) e + wsum (gA σ 11 324) r, σ) = some (acc + (wgt (gA σ 11 324) e + wsum (gA σ 11 324) r), σ)
        rw [Int.add_assoc]
      unfold f_C_codeAt
      show sq (if (cA σ i % 4) = 2 then _ else _) _ = _
      rw [s1]
      by_cases c : e.2.1 % 4 = 2
      · obtain ⟨p1, p2⟩ := hp e List.mem_cons_self c
        have hw : wgt (gA σ 11 324) e = gA σ 11 324 (e.2.1 / 4) := if_pos c
        rw [if_pos c, lb_e, ck_t (by omega), lb_e]
        unfold f_G_parametersOf
        show sq (ck (rng (i + gA σ 8 324 (e.2.1 / 4))) (lb (i + gA σ 8 324 (e.2.1 / 4)) fun y19 => some ((acc + gA σ 11 324 (e.2.1 / 4), y19), σ))) _ = _
        rw [p1, ck_t (by omega), lb_e]
        exact key _ (by rw [hw]) (by show i + (e.2.2.length : Int) + 1 = _; omega)
      · have hw : wgt (gA σ 11 324) e = 1 := if_neg c
        have hv0 := hv e List.mem_cons_self c
        rw [if_neg c, ck_t (by omega)]
        exact key _ (by rw [hw]) (by rw [hv0]; show i + 1 = i + 1 + ((0 : Nat) : Int); omega)
/-- all elements of an array become one number -/
theorem s_fill {fu q nq : Nat} {v : Int} (hn : nq ≤ 100000) : ∀ (m i n : Nat) (σ : SS), m + i = nq → m < n → (∀ j : Int, 0 ≤ j → j < i → gA σ q nq j = v) →
    Wp (l_Ar_fill_5 fu q nq n v i nq σ) (fun _ τ => fx (jst q) σ τ ∧ (∀ a b, τ.1 a b = σ.1 a b) ∧ ∀ j : Int, 0 ≤ j → j < nq → gA τ q nq j = v) := by
  intro m
  induction m with
  | zero =>
    intro i n σ h1 h2 h3
    cases n with
    | zero => omega
    | succ n =>
      rw [l_Ar_fill_5]
      exact wp_f (by omega) (wp_some ⟨fx_rf, fun _ _ => rfl, fun j a b => h3 j a (by omega)⟩)
  | succ m ih =>
    intro i n σ h1 h2 h3
    cases n with
    | zero => omega
    | succ n =>
      rw [l_Ar_fill_5]
      refine wp_t (by omega) (wp_ck ⟨by omega, by omega⟩ (wp_lx (wp_ck (by omega) ?_)))
      have hfx : fx (jst q) σ (sA σ q i v) := fx_A fx_rf rfl
      rw [show (i : Int) + 1 = ((i + 1 : Nat) : Int) by omega]
      have h4 := ih (i + 1) n (sA σ q i v) (by omega) (by omega) (fun j a b => by
        rw [gA_in a (by omega)]
        by_cases c : j = i
        · rw [c]; exact sA_same _ _ _ _
        · rw [sA_other (by omega), ← gA_in (σ := σ) (p := q) (n := nq) a (by omega)]
          exact h3 j a (by omega))
      exact wp_mono h4 (fun _ τ k => ⟨fx_tr hfx k.1, fun a b => by rw [k.2.1]; rfl, k.2.2⟩)
theorem s_Arfill {fu q nq : Nat} {v : Int} {σ : SS} (hn : nq ≤ 100000) (hf : nq < fu) : Wp (f_Ar_fill fu q nq v σ) (fun _ τ => fx (jst q) σ τ ∧ (∀ a b, τ.1 a b = σ.1 a b) ∧ ∀ j : Int, 0 ≤ j → j < nq → gA τ q nq j = v) := by
  unfold f_Ar_fill
  exact wp_lx (wp_sq (s_fill hn nq 0 fu σ (by omega) hf (fun j a b => by omega)) (fun _ τ k => wp_some k))
/-- the largest of some sizes -/
def mxs (w : Int → Int) : List Int → Int
  | [] => 1
  | h :: l => mx (mxs w l) (w h)
theorem mxs_big {w : Int → Int} : ∀ {l : List Int}, 80 < mxs w l ↔ ∃ h ∈ l, 80 < w h := by
  intro l
  induction l with
  | nil => exact ⟨fun z => absurd (show (80 : Int) < 1 from z) (by decide), fun ⟨_, z, _⟩ => by cases z⟩
  | cons h l ih =>
    show 80 < mx (mxs w l) (w h) ↔ _
    unfold mx
    constructor
    · intro z
      split at z
      · exact ⟨h, List.mem_cons_self, z⟩
      · obtain ⟨g, g1, g2⟩ := ih.mp z; exact ⟨g, List.mem_cons_of_mem _ g1, g2⟩
    · rintro ⟨g, g1, g2⟩
      rcases List.mem_cons.mp g1 with z | z
      · subst z
        split <;> omega
      · have := ih.mpr ⟨g, z, g2⟩
        split <;> omega
theorem mxs_b {w : Int → Int} {B : Int} (hB : 1 ≤ B) : ∀ {l : List Int}, (∀ h ∈ l, w h ≤ B) → 1 ≤ mxs w l ∧ mxs w l ≤ B := by
  intro l
  induction l with
  | nil => intro _; exact ⟨Int.le_refl _, hB⟩
  | cons h l ih =>
    intro k
    have h1 := ih (fun g hg => k g (List.mem_cons_of_mem _ hg))
    have h2 := k h List.mem_cons_self
    show 1 ≤ mx (mxs w l) (w h) ∧ mx (mxs w l) (w h) ≤ B
    unfold mx
    split <;> omega
theorem s_meal {O : Op} {fu R : Nat} {told : Int} {s : St} (hR : 300 < R) (hfu : 100 ≤ fu) (hs : sOk O told s) (hm : mOk told s) (hbd : ∀ h F, s.2.1 h = some F → (tN s.2.1 R F).length ≤ 100000) :
    ∀ (pre post : List Int) (n : Nat) (σ : SS), s.2.2.1 = pre ++ post → pre.length < n → cSt σ told s → (∀ h, 0 ≤ h → h < 324 → gA σ 11 324 h = if h ∈ post then szo s.2.1 R h else 1) →
    Wp (l_G_measureAll_17 fu n (mxs (szo s.2.1 R) post) ((pre.length : Int) - 1) σ) (fun z τ => z = mxs (szo s.2.1 R) s.2.2.1 ∧ fx (jst 11) σ τ ∧ (∀ a b, τ.1 a b = σ.1 a b) ∧ ∀ h, 0 ≤ h → h < 324 → gA τ 11 324 h = szo s.2.1 R h) := by
  have hb := mOk_b hs.2.2.2.2.2.2.2.1 hm
  intro pre
  generalize hlen : pre.length = len
  induction len generalizing pre with
  | zero =>
    intro post n σ h1 h2 hc hz
    have hp0 : pre = [] := List.length_eq_zero_iff.mp hlen
    rw [hp0, List.nil_append] at h1
    cases n with
    | zero => omega
    | succ n =>
      rw [l_G_measureAll_17]
      refine wp_t (by omega) (wp_some ⟨by rw [h1], fx_rf, fun _ _ => rfl, fun h a b => ?_⟩)
      rw [hz h a b]
      split
      · rfl
      · rename_i c
        refine (szo_n ?_).symm
        cases hq : s.2.1 h with
        | none => rfl
        | some F => exact absurd (h1 ▸ (hs.2.2.2.2.2.1 h).mp ⟨F, hq⟩) c
  | succ len ih =>
    intro post n σ h1 h2 hc hz
    obtain ⟨pre', h, hph⟩ : ∃ pre' h, pre = pre' ++ [h] := by
      rcases List.eq_nil_or_concat pre with z | ⟨p, z, hz⟩
      · rw [z] at hlen; cases hlen
      · exact ⟨p, z, by rw [hz, List.concat_eq_append]⟩
    have hl' : pre'.length = len := by rw [hph, List.length_append] at hlen; have : pre'.length + 1 = len + 1 := hlen; omega
    have h1' : s.2.2.1 = pre' ++ h :: post := by rw [h1, hph, List.append_assoc]; rfl
    cases n with
    | zero => omega
    | succ n =>
      rw [l_G_measureAll_17]
      have hmem : h ∈ s.2.2.1 := by rw [h1']; exact List.mem_append_right _ List.mem_cons_self
      obtain ⟨F, hF⟩ := (hs.2.2.2.2.2.1 h).mpr hmem
      have hp := hs.2.2.2.2.2.2.2.2.1 h hmem
      have hr := sOk_h hs hp (by omega)
      have hord : gA σ 12 324 len = h := by
        refine hc.2.2.2.2.2.1 len h ?_
        rw [h1', List.getElem?_append_right (by omega), hl', Nat.sub_self]
        rfl
      rw [show ((len + 1 : Nat) : Int) - 1 = len by omega]
      obtain ⟨i1, i2, i3, i4, i5⟩ := hc.1 h hp
      obtain ⟨j1, j2, j3⟩ := i5 F hF
      have hoN := hs.2.2.2.2.1.2 pre' h post F h1' hF
      have hokF := hs.1 h F hF
      have htop := top_le hs hm hc
      have hwe : ∀ e ∈ F, e.2.1 % 4 = 2 → gA σ 11 324 (e.2.1 / 4) = szo s.2.1 R (e.2.1 / 4) ∧ gA σ 8 324 (e.2.1 / 4) = (e.2.2.length : Int) := by
        intro e he c
        have hpe := (hokF e he).2.2.2.2.2.1 c
        have hre := sOk_h hs (g := e.2.1 / 4) (by omega) (by omega)
        refine ⟨?_, by rw [(hc.1 _ (by omega)).2.2.1, hpe]⟩
        rw [hz _ hre.1 hre.2]
        split
        · rfl
        · rename_i cn
          refine (szo_n ?_).symm
          cases hq : s.2.1 (e.2.1 / 4) with
          | none => rfl
          | some E => exact absurd (hoN e he ⟨c, E, hq⟩) cn
      have hsum : wsum (gA σ 11 324) F = szo s.2.1 R h := by
        rw [szo_s hF, szo_r hR hs hm, wsum_congr (fun e he c => (hwe e he c).1)]
      have hszb : 0 ≤ szo s.2.1 R h ∧ szo s.2.1 R h ≤ 100000 := by
        rw [szo_s hF]
        have := hbd h F hF
        omega
      have hszn : ∀ g, 0 ≤ szo s.2.1 R g := by
        intro g
        unfold szo
        split <;> omega
      have hsf : f_G_sumFrom fu (gA σ 9 324 h) (gA σ 10 324 h) σ = some (szo s.2.1 R h, σ) := by
        unfold f_G_sumFrom
        rw [s_sum (by omega) F fu (gA σ 9 324 h) 0 j2 (by omega) (fun e he c => ⟨(hwe e he c).2, by rw [(hwe e he c).1]; exact hszn _⟩) (fun e he c => (hokF e he).2.2.2.2.2.2.1 c) (by have := hs.2.2.2.2.2.2.2.2.2 h F hF; omega) (Int.le_refl _) (by rw [hsum]; omega)]
        show some (0 + _, σ) = _
        rw [hsum, Int.zero_add]
      refine wp_f (by omega) (wp_lx ?_)
      rw [hord]
      have hplen : pre'.length + 1 + post.length = s.2.2.1.length := by rw [h1', List.length_append, List.length_cons]; omega
      refine wp_e hsf (wp_lb (fun σ10 e10 => wp_lx (wp_ck (by omega) ?_)))
      have hfx : fx (jst 11) σ σ10 := by rw [e10]; exact fx_S fx_rf rfl
      have hff : ∀ a b, σ10.1 a b = σ.1 a b := fun a b => by rw [e10, gS_f']
      have hc10 : cSt σ10 told s := cSt_fx hfx (fun a _ _ z => by have : a = 11 := z; omega) (fun a _ _ h z => h z) hc
      have h9 := ih pre' hl' (h :: post) n σ10 h1' (by omega) hc10 (fun g g1 g2 => by
        by_cases c : g = h
        · rw [if_pos (by rw [c]; exact List.mem_cons_self), e10, c, gA_S_same hr.1 hr.2]
        · rw [e10, gA_S_ne (fun z => c z.2), hz g g1 g2]
          by_cases d : g ∈ post
          · rw [if_pos d, if_pos (List.mem_cons_of_mem _ d)]
          · rw [if_neg d, if_neg (fun z => (List.mem_cons.mp z).elim c d)])
      rw [show (len : Int) + (-1) = (len : Int) - 1 by omega]
      exact wp_mono h9 (fun _ τ k => ⟨k.1, fx_tr hfx k.2.1, fun a b => by rw [k.2.2.1, hff], k.2.2.2⟩)
theorem s_measure {O : Op} {fu R : Nat} {told : Int} {s : St} {σ : SS} (hR : 300 < R) (hfu : 330 ≤ fu) (hs : sOk O told s) (hm : mOk told s) (hbd : ∀ h F, s.2.1 h = some F → (tN s.2.1 R F).length ≤ 100000) (hc : cSt σ told s) :
    Wp (f_G_measureAll fu σ) (fun z τ => z = mxs (szo s.2.1 R) s.2.2.1 ∧ fx (jst 11) σ τ ∧ (∀ a b, τ.1 a b = σ.1 a b) ∧ ∀ h, 0 ≤ h → h < 324 → gA τ 11 324 h = szo s.2.1 R h) := by
  have hb := mOk_b hs.2.2.2.2.2.2.2.1 hm
  unfold f_G_measureAll
  refine wp_sq (s_Arfill (nq := 324) (by decide) (by omega)) ?_
  rintro - σ2 ⟨a1, a2, a3⟩
  have c2 : cSt σ2 told s := cSt_fx a1 (fun a _ _ z => by have : a = 11 := z; omega) (fun a _ _ h z => h z) hc
  rw [a2 7 8, hc.2.2.2.2.1]
  refine wp_ck (by omega) (wp_lx ?_)
  refine wp_sq (s_meal (O := O) hR (by omega) hs hm hbd s.2.2.1 [] fu σ2 (by rw [List.append_nil]) (by omega) c2 (fun h h1 h2 => by rw [if_neg List.not_mem_nil]; exact a3 h h1 h2)) ?_
  rintro z σ10 ⟨rfl, b1, b2, b3⟩
  exact wp_some ⟨rfl, fx_tr a1 b1, fun a b => by rw [b2, a2], b3⟩
theorem big_mxs {R : Nat} {s : St} : (80 < mxs (szo s.2.1 R) s.2.2.1) ↔ big R s = true := by
  rw [mxs_big]
  unfold big
  rw [List.any_eq_true]
  constructor
  · rintro ⟨h, h1, h2⟩
    refine ⟨h, h1, ?_⟩
    unfold szo at h2
    cases hq : s.2.1 h with
    | none => rw [hq] at h2; exact absurd (show (80 : Int) < 1 from h2) (by decide)
    | some F =>
      rw [hq] at h2
      have h2' : (80 : Int) < ((tN s.2.1 R F).length : Int) := h2
      show decide (80 < (tN s.2.1 R F).length) = true
      rw [decide_eq_true_eq]
      omega
  · rintro ⟨h, h1, h2⟩
    refine ⟨h, h1, ?_⟩
    unfold szo
    cases hq : s.2.1 h with
    | none => rw [hq] at h2; cases h2
    | some F =>
      rw [hq] at h2
      have h2' : decide (80 < (tN s.2.1 R F).length) = true := h2
      rw [decide_eq_true_eq] at h2'
      show (80 : Int) < ((tN s.2.1 R F).length : Int)
      omega
/-- a filling makes sizes at most eighty times as large -/
theorem len_fil {Φ : Fl} {h : Int} {F : Row} (ho : opn Φ h F) (hl : F.length ≤ 80) {R : Nat} : ∀ {q : Row}, nof Φ q → (tN (up1 Φ h (some F)) (R + 1) q).length ≤ 80 * q.length := by
  intro q hq
  have hF : nof (up1 Φ h (some F)) F := by
    intro e he hf
    obtain ⟨f1, E, f2⟩ := hf
    obtain ⟨q1, q2⟩ := ho e he f1
    rw [up1_ne q2, q1] at f2
    cases f2
  have key : ∀ q : Row, nof Φ q → (tE (up1 Φ h (some F)) q).length ≤ 80 * q.length ∧ nof (up1 Φ h (some F)) (tE (up1 Φ h (some F)) q) := by
    intro q
    induction q with
    | nil => intro _; exact ⟨Nat.le_refl _, fun e he => by cases he⟩
    | cons e q ih =>
      intro hq
      obtain ⟨i1, i2⟩ := ih (fun x hx => hq x (List.mem_cons_of_mem _ hx))
      have hx : (tX (up1 Φ h (some F)) e).length ≤ 80 ∧ nof (up1 Φ h (some F)) (tX (up1 Φ h (some F)) e) := by
        by_cases c : isF (up1 Φ h (some F)) e
        · obtain ⟨c1, E, hE⟩ := c
          have c2 : e.2.1 / 4 = h := by
            apply Decidable.byContradiction
            intro z
            rw [up1_ne z] at hE
            exact hq e List.mem_cons_self ⟨c1, E, hE⟩
          unfold tX
          rw [if_pos c1, c2, up1_same]
          refine ⟨by show (F.map _).length ≤ 80; rw [List.length_map]; exact hl, fun x hx hf => ?_⟩
          obtain ⟨y, hy, rfl⟩ := List.mem_map.mp hx
          exact hF y hy (isF_sub hf).1
        · rw [tX_nof c]
          exact ⟨by show 1 ≤ 80; omega, fun x hx => by cases List.mem_singleton.mp hx; exact c⟩
      rw [show tE (up1 Φ h (some F)) (e :: q) = tX (up1 Φ h (some F)) e ++ tE (up1 Φ h (some F)) q from List.flatMap_cons, List.length_append, List.length_cons]
      exact ⟨by omega, fun x hx9 => (List.mem_append.mp hx9).elim (fun z => hx.2 x z) (fun z => i2 x z)⟩
  obtain ⟨k1, k2⟩ := key q hq
  show (tN (up1 Φ h (some F)) R (tE (up1 Φ h (some F)) q)).length ≤ _
  rw [tN_nof R k2]
  exact k1
