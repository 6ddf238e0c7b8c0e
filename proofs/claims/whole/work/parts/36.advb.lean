/-! ADVANCE -/
/-- a cursor's state: its frames -/
def cst (σ : SS) (p : Nat) (pa : Int → Int) (Φ : Fl) (N : Int) (fs : List Fr) : Prop := fs ≠ [] ∧ fs.length ≤ 61 ∧ σ.1 p 6 = (fs.length : Int) - 1 ∧ frs σ p pa fs ∧ fok pa Φ N fs
/-- behind an advance: at the first group of what lay ahead -/
def adP (p : Nat) (pa : Int → Int) (Φ : Fl) (R : Nat) (N : Int) (σ : SS) (A : Row) (x : Int) (τ : SS) : Prop := fx (cP p) σ τ ∧ match A with
  | [] => x = 0
  | e :: r => x = 1 ∧ grp τ p e ∧ ∃ gs, cst τ p pa Φ N gs ∧ ahd Φ R gs = r
theorem cA_F {σ : SS} {p k : Nat} {v : Int} (h : p ≠ 1) (i : Int) : cA (sF σ p k v) i = cA σ i := by unfold cA; rw [sF_f (fun z => h z.1.symm)]; rfl
theorem cB_F {σ : SS} {p k : Nat} {v : Int} (h : p ≠ 1) (i : Int) : cB (sF σ p k v) i = cB σ i := by unfold cB; rw [sF_f (fun z => h z.1.symm)]; rfl
theorem fok_tail {pa : Int → Int} {Φ : Fl} {N : Int} {e : AG} {r : Row} {β : Int} {φ : Int → Int} {h : Int} {gt : List Fr} (k : fok pa Φ N ((e :: r, β, φ, h) :: gt)) : fok pa Φ N ((r, β, φ, h) :: gt) := by
  obtain ⟨o1, o2, o3, o4, o5, o6, o7, o8⟩ := k
  refine ⟨fun x hx => o1 x (List.mem_cons_of_mem _ hx), o2, o3, o4, o5, fun z => ?_, o7, o8⟩
  obtain ⟨q1, dn, q2⟩ := o6 z
  exact ⟨q1, dn ++ [e], by rw [q2, List.append_assoc]; rfl⟩
theorem grp_sub {σ : SS} {p : Nat} {β : Int} {φ : Int → Int} {e : AG} (h7 : σ.1 p 7 = e.2.1 % 4) (h8 : σ.1 p 8 = if e.2.1 % 4 = 0 then tV φ e.1 (e.2.1 / 4) else e.2.1 / 4) (h9 : σ.1 p 9 = β + e.1) (h11 : σ.1 p 11 = (e.2.2.length : Int)) (hv : ∀ (k : Nat) (v : Int), e.2.2[k]? = some v → gA σ (p + 5) 4 k = tV φ e.1 v) : grp σ p (tS β φ e) := by
  refine ⟨by rw [tS_code]; exact h7, ?_, h9, ?_, ?_⟩
  · rw [h8]
    show _ = (if e.2.1 % 4 = 0 then 4 * tV φ e.1 (e.2.1 / 4) else e.2.1) / 4
    split <;> omega
  · rw [h11]
    show (e.2.2.length : Int) = ((e.2.2.map (tV φ e.1)).length : Int)
    rw [List.length_map]
  · intro k v hk
    have hk2 : (e.2.2.map (tV φ e.1))[k]? = some v := hk
    rw [List.getElem?_map] at hk2
    obtain ⟨w, hw, rfl⟩ := Option.map_eq_some_iff.mp hk2
    exact hv k w hw
theorem s_advl_aux {O : Op} {fu p : Nat} {pa : Int → Int} {Φ : Fl} {R : Nat} {N : Int} {rk : Int → Nat} (hc : cur p) (hfu : 100 ≤ fu) (hh : hOk O pa Φ R) (hrk : rkd Φ rk) (hN : 0 ≤ N) (hN2 : N ≤ 1000) (m : Nat)
    (IH : 0 < m → ∀ (n : Nat) (x1 : Int) (fs : List Fr) (σ : SS), m - 1 < n → 0 ≤ x1 → x1 + (m - 1 : Nat) < 1000000 → (∀ f gt e r, lve fs = f :: gt → f.1 = e :: r → isF Φ e → rk (e.2.1 / 4) < m - 1) → cHol σ pa Φ → σ.1 1 2 ≤ 1000000 → cst σ p pa Φ N fs → (∀ e ∈ ahd Φ R fs, e.1 ≤ 10000) → Wp (l_U_advance_2 fu p n x1 σ) (fun x τ => ∃ y, x = .inl y ∧ adP p pa Φ R N σ (ahd Φ R fs) y τ)) :
    ∀ (n : Nat) (x1 : Int) (fs : List Fr) (σ : SS), m < n → 0 ≤ x1 → x1 + m < 1000000 → (∀ f gt e r, lve fs = f :: gt → f.1 = e :: r → isF Φ e → rk (e.2.1 / 4) < m) → cHol σ pa Φ → σ.1 1 2 ≤ 1000000 → cst σ p pa Φ N fs → (∀ e ∈ ahd Φ R fs, e.1 ≤ 10000) →
    Wp (l_U_advance_2 fu p n x1 σ) (fun x τ => ∃ y, x = .inl y ∧ adP p pa Φ R N σ (ahd Φ R fs) y τ) := by
  intro n x1 fs σ hmn hx0 hx1 hfst hH hT hcst hB
  obtain ⟨hne, h61, ht, hfs, hok⟩ := hcst
  have hcg := cur_ge hc
  have hp4 := hh.2.2.2.1
  cases n with
  | zero => omega
  | succ n =>
    rw [l_U_advance_2]
    refine wp_t (by omega) ?_
    unfold f_U_leaveEnded
    refine wp_sq (R := fun _ τ => fx (jst p) σ τ ∧ τ.1 p 6 = ((lve fs).length : Int) - 1 ∧ frs τ p pa (lve fs) ∧ ∀ b, b ≠ 6 → τ.1 p b = σ.1 p b) (wp_sq (s_leave fs fu σ hne (by omega) (by omega) ht (by omega) hfs) (fun _ τ k => wp_some k)) ?_
    rintro - σ3 ⟨k1, k2, k3, k4⟩
    have hokl := fok_lve hok
    have hal := ahd_lve Φ R fs
    have htop := lve_top fs
    rw [← hal]
    rw [← hal] at hB
    cases hgs : lve fs with
    | nil => exact absurd hgs (lve_ne hne)
    | cons f gt =>
      rw [hgs] at k2 k3 hokl htop hB hal
      have hlen : ((f :: gt).length : Int) = (gt.length : Int) + 1 := by rw [List.length_cons]; omega
      have hgl : gt.length < 61 := by
        have h9 : ∀ l : List Fr, (lve l).length ≤ l.length := by
          intro l
          induction l with
          | nil => exact Nat.le_refl _
          | cons a l ih =>
            cases l with
            | nil => exact Nat.le_refl _
            | cons b l =>
              unfold lve
              split
              · exact Nat.le_trans ih (Nat.le_succ _)
              · exact Nat.le_refl _
        have := h9 fs
        rw [hgs, List.length_cons] at this
        omega
      have t6 : σ3.1 p 6 = (gt.length : Int) := by rw [k2, hlen]; omega
      have xj : fx (cP p) σ σ3 := fx_mono k1 (fun a z => by have : a = p := z; unfold cP; omega)
      rw [t6]
      obtain ⟨⟨⟨g1, g2, g3⟩, g4, g5⟩, g6⟩ := id k3
      refine wp_lb (fun y7 hy7 => ?_)
      rw [← hy7] at g1 g2
      rw [fx_f xj (cP_lo hc (by omega))] at g3
      have g7 := cseg_le g1
      obtain ⟨row, β, φ, hol⟩ := f
      dsimp only at g1 g4 g5 g7 htop
      cases row with
      | nil =>
        refine wp_f (by rw [show il [] = 0 from rfl] at g7; omega) (wp_some ⟨0, rfl, xj, ?_⟩)
        rcases htop with q | q
        · exact absurd rfl q
        · rw [q]
          show match (tN Φ R []).map (tS β φ) ++ [] with | [] => (0 : Int) = 0 | e :: r => _
          rw [tN_nil]
          rfl
      | cons e r =>
        rw [il_cons] at g7
        obtain ⟨c1, c2, c3, c4⟩ := g1
        have hoke := hokl.1 e List.mem_cons_self
        obtain ⟨oe1, oe2, oe3, oe4, oe5, oe6, oe7, oe8⟩ := id hoke
        have hβ0 : 0 ≤ β := hokl.2.1
        -- numbers are small
        have hbe : β + e.1 ≤ 10000 := by
          obtain ⟨x, hx, hx1⟩ := bnd_N hh.2.1 R (List.mem_cons_self (a := e) (l := r))
          have := hB (tS β φ x) (List.mem_append_left _ (List.mem_map.mpr ⟨x, hx, rfl⟩))
          have h8 : (tS β φ x).1 = β + x.1 := rfl
          omega
        have hvl : e.2.2.length ≤ 4 := by
          by_cases c : e.2.1 % 4 = 2
          · have := oe6 c
            have := hp4 (e.2.1 / 4)
            omega
          · rw [oe7 c]; exact Nat.zero_le _
        refine wp_t (by omega) (wp_e rfl (wp_e rfl (wp_lb (fun σ21 e21 => ?_))))
        rw [c2]
        refine wp_e rfl ?_
        rw [c1] at e21
        have d1 : cA σ21 y7 = e.2.1 := by rw [e21, cA_F (by omega)]; exact c1
        rw [d1]
        refine wp_lb (fun σ30 e30 => ?_)
        have p6 : σ30.1 p 6 = (gt.length : Int) := by rw [e30, sF_f (by omega), e21, sF_f (by omega)]; exact t6
        have p3 : gA σ30 (p + 3) 64 (gt.length : Int) = β := by rw [e30, gA_F, e21, gA_F]; exact g4
        rw [p6, p3]
        refine wp_ck (by omega) (wp_lb (fun σ35 e35 => ?_))
        have p7 : σ35.1 p 7 = e.2.1 % 4 := by rw [e35, sF_f (by omega), e30, sF_f (by omega), e21, sF_same]
        have p8 : σ35.1 p 8 = e.2.1 / 4 := by rw [e35, sF_f (by omega), e30, sF_same]
        have x35 : fx (cP p) σ σ35 := by
          rw [e35, e30, e21]
          exact fx_F (fx_F (fx_F xj (by unfold cP; omega)) (by unfold cP; omega)) (by unfold cP; omega)
        have hH35 : cHol σ35 pa Φ := cHol_fx x35 (cP_lo hc (by omega)) (cP_lo hc (by omega)) (cP_lo hc (by omega)) (cP_lo hc (by omega)) (cP_lo hc (by omega)) (cP_lo hc (by omega)) hH
        -- how many variables
        refine wp_sq (R := fun x τ => x = (e.2.2.length : Int) ∧ τ = σ35) ?_ ?_
        · rw [p7, p8]
          by_cases c : e.2.1 % 4 = 2
          · have h6 := oe6 c
            have h7 := hH35 (e.2.1 / 4) (by omega)
            refine wp_t c (wp_e rfl (wp_some ⟨?_, rfl⟩))
            rw [h7.2.2.1, h6]
          · refine wp_f c (wp_some ⟨?_, rfl⟩)
            rw [oe7 c]
            rfl
        rintro x44 σ45 ⟨rfl, rfl⟩
        refine wp_lb (fun σ50 e50 => ?_)
        have q11 : σ50.1 p 11 = (e.2.2.length : Int) := by rw [e50, sF_same]
        have q6 : σ50.1 p 6 = (gt.length : Int) := by rw [e50, sF_f (by omega), e35, sF_f (by omega)]; exact p6
        rw [q11, q6]
        refine wp_ck (by omega) (wp_ck (by omega) (wp_lb (fun σ56 e56 => ?_)))
        have x56 : fx (cP p) σ σ56 := by
          rw [e56, e50]
          exact fx_S (fx_F x35 (by unfold cP; omega)) (by unfold cP; omega)
        have r7 : σ56.1 p 7 = e.2.1 % 4 := by rw [e56, gS_f', e50, sF_f (by omega)]; exact p7
        have r8 : σ56.1 p 8 = e.2.1 / 4 := by rw [e56, gS_f', e50, sF_f (by omega)]; exact p8
        have r9 : σ56.1 p 9 = β + e.1 := by rw [e56, gS_f', e50, sF_f (by omega), e35, sF_same]
        have r11 : σ56.1 p 11 = (e.2.2.length : Int) := by rw [e56, gS_f']; exact q11
        have r6 : σ56.1 p 6 = (gt.length : Int) := by rw [e56, gS_f']; exact q6
        have cs : ∀ {υ : SS}, fx (cP p) σ υ → ∀ (r : Row) (i j : Int), cseg σ i r j → cseg υ i r j := fun hy r i j => cseg_fx hy (cP_lo hc (by omega)) (cP_lo hc (by omega)) (cP_lo hc (by omega))
        have cb : ∀ (r : Row) (i j : Int), cseg σ3 i r j → cseg σ i r j := fun r i j hq => cseg_fx (X := jst p) ⟨fun a ha => ⟨fun b => ((k1.1 a ha).1 b).symm, fun i => ((k1.1 a ha).2 i).symm⟩, k1.2.symm⟩ (fun z => by have : 1 = p := z; omega) (fun z => by have : 2 = p := z; omega) (fun z => by have : 3 = p := z; omega) hq
        have gr : ∀ (q n : Nat) (j : Int), ¬ (q = p + 1 ∧ j = (gt.length : Int)) → gA σ56 q n j = gA σ3 q n j := by
          intro q n j hq
          rw [e56, gA_S_ne hq, e50, gA_F, e35, gA_F, e30, gA_F, e21, gA_F]
        have fs56 : frs σ56 p pa ((r, β, φ, hol) :: gt) := by
          refine ⟨⟨⟨?_, ?_, ?_⟩, ?_, ?_⟩, ?_⟩
          · rw [show gA σ56 (p + 1) 64 (gt.length : Int) = y7 + 1 + (e.2.2.length : Int) by rw [e56, gA_S_same (by omega) (by omega)], gr (p + 2) 64 _ (by omega)]
            exact cs x56 _ _ _ (cb _ _ _ c4)
          · rw [show gA σ56 (p + 1) 64 (gt.length : Int) = y7 + 1 + (e.2.2.length : Int) by rw [e56, gA_S_same (by omega) (by omega)]]
            omega
          · rw [gr (p + 2) 64 _ (by omega), fx_f x56 (cP_lo hc (by omega))]; exact g3
          · rw [gr (p + 3) 64 _ (by omega)]; exact g4
          · intro hj k hk hk2
            rw [gr (p + 4) 256 _ (by omega)]
            exact g5 hj k hk hk2
          · refine frs_lo (σ := σ3) hp4 (by rw [fx_f x56 (cP_lo hc (by omega)), fx_f xj (cP_lo hc (by omega))]; exact Int.le_refl _) (fun r i j hq => cs x56 _ _ _ (cb _ _ _ hq)) (fun j hj => ?_) (fun j hj => gr _ _ _ (by omega)) g6
            exact ⟨gr _ _ _ (by omega), gr _ _ _ (by omega), gr _ _ _ (by omega)⟩
        have ok56 := fok_tail hokl
        have hnf : okG pa (nfr pa N gt hol) e := hoke
        -- the variable itself
        refine wp_sq (R := fun _ τ => (∀ a b, ¬ (a = p ∧ b = 8) → τ.1 a b = σ56.1 a b) ∧ τ.2 = σ56.2 ∧ τ.1 p 8 = if e.2.1 % 4 = 0 then tV φ e.1 (e.2.1 / 4) else e.2.1 / 4) ?_ ?_
        · rw [r7]
          by_cases c : e.2.1 % 4 = 0
          · refine wp_t c (wp_e (s_outside (f := (r, β, φ, hol)) hp4 fs56 ok56 r6 (by omega) (by rw [r8]; omega) oe1 (by rw [r8]; exact oe4 c) (by omega) (show β ≤ 1000000 by omega) hN2) (wp_lb (fun σ66 e66 => wp_some ⟨fun a b hab => ?_, ?_, ?_⟩)))
            · rw [e66, sF_f hab]
            · rw [e66]; rfl
            · rw [e66, sF_same, r8, if_pos c]
          · exact wp_f c (wp_some ⟨fun _ _ _ => rfl, rfl, by rw [if_neg c]; exact r8⟩)
        rintro - σ70 ⟨s1, s2, s3⟩
        have x70' : fx (cP p) σ56 σ70 := ⟨fun a ha => ⟨fun b => s1 a b (fun z => ha (by rw [z.1]; unfold cP; omega)), fun i => by rw [s2]⟩, by rw [s2]⟩
        have x70 : fx (cP p) σ σ70 := fx_tr x56 x70'
        have ga : ∀ (q n : Nat) (j : Int), gA σ70 q n j = gA σ56 q n j := by intro q n j; unfold gA; rw [s2]
        have fs70 : frs σ70 p pa ((r, β, φ, hol) :: gt) := by
          refine frs_lo (σ := σ56) hp4 (by rw [fx_f x70' (cP_lo hc (by omega))]; exact Int.le_refl _) (fun r i j hq => cseg_fx (X := cP p) x70' (cP_lo hc (by omega)) (cP_lo hc (by omega)) (cP_lo hc (by omega)) hq) (fun j hj => ⟨ga _ _ _, ga _ _ _, ga _ _ _⟩) (fun j hj => ga _ _ _) fs56
        have u7 : σ70.1 p 7 = e.2.1 % 4 := by rw [s1 p 7 (by omega)]; exact r7
        have u9 : σ70.1 p 9 = β + e.1 := by rw [s1 p 9 (by omega)]; exact r9
        have u11 : σ70.1 p 11 = (e.2.2.length : Int) := by rw [s1 p 11 (by omega)]; exact r11
        have u6 : σ70.1 p 6 = (gt.length : Int) := by rw [s1 p 6 (by omega)]; exact r6
        have hcell : ∀ (k : Nat) (v : Int), e.2.2[k]? = some v → cA σ70 (y7 + 1 + k) = 4 * v := by
          intro k v hk
          rw [fx_cA x70 (cP_lo hc (by omega)) (cP_lo hc (by omega)), ← fx_cA xj (cP_lo hc (by omega)) (cP_lo hc (by omega))]
          exact c3 k v hk
        refine wp_sq (s_vars (f := (r, β, φ, hol)) hc hp4 ok56 (by omega) oe1 (by omega) (show β ≤ 1000000 by omega) hN2 g2 (by omega) hvl oe5 e.2.2.length 0 fu σ70 (by omega) (by omega) fs70 u6 u11 hcell (fun k v hk _ => absurd hk (Nat.not_lt_zero k))) ?_
        rintro - σ75 ⟨v1, v2, v3⟩
        have x75 : fx (cP p) σ σ75 := fx_tr x70 (fx_mono v1 (fun a z => by have : a = p + 5 := z; unfold cP; omega))
        have fs75 : frs σ75 p pa ((r, β, φ, hol) :: gt) := frs_fx v1 (fun a ha z => by have : a = p + 5 := z; omega) (fun a ha h9 z => by have : a = p + 5 := z; omega) fs70
        have w7 : σ75.1 p 7 = e.2.1 % 4 := by rw [v2]; exact u7
        have w8 : σ75.1 p 8 = if e.2.1 % 4 = 0 then tV φ e.1 (e.2.1 / 4) else e.2.1 / 4 := by rw [v2]; exact s3
        have w9 : σ75.1 p 9 = β + e.1 := by rw [v2]; exact u9
        have w11 : σ75.1 p 11 = (e.2.2.length : Int) := by rw [v2]; exact u11
        have w6 : σ75.1 p 6 = (gt.length : Int) := by rw [v2]; exact u6
        have hg := grp_sub w7 w8 w9 w11 v3
        have hst : cst σ75 p pa Φ N ((r, β, φ, hol) :: gt) := ⟨by simp, by rw [List.length_cons]; omega, by rw [w6, List.length_cons]; omega, fs75, ok56⟩
        have hA : ahd Φ R ((e :: r, β, φ, hol) :: gt) = (tN Φ R [e]).map (tS β φ) ++ ahd Φ R ((r, β, φ, hol) :: gt) := by
          show (tN Φ R (e :: r)).map (tS β φ) ++ ahd Φ R gt = _ ++ ((tN Φ R r).map (tS β φ) ++ ahd Φ R gt)
          rw [tN_cons, List.map_append, List.append_assoc]
        have fin : ¬ isF Φ e → adP p pa Φ R N σ (ahd Φ R ((e :: r, β, φ, hol) :: gt)) 1 σ75 := by
          intro hnF
          refine ⟨x75, ?_⟩
          rw [hA, tN_open hnF]
          exact ⟨rfl, hg, _, hst, rfl⟩
        rw [w7]
        by_cases ch : e.2.1 % 4 = 2
        · refine wp_t ch ?_
          have e8 : σ75.1 p 8 = e.2.1 / 4 := by rw [w8, if_neg (by omega)]
          have hH75 : cHol σ75 pa Φ := cHol_fx x75 (cP_lo hc (by omega)) (cP_lo hc (by omega)) (cP_lo hc (by omega)) (cP_lo hc (by omega)) (cP_lo hc (by omega)) (cP_lo hc (by omega)) hH
          have h6 := oe6 ch
          obtain ⟨i1, i2, i3, i4, i5⟩ := hH75 (e.2.1 / 4) (by omega)
          rw [e8]
          unfold f_G_isOpen
          cases hΦ : Φ (e.2.1 / 4) with
          | none =>
            have hnF : ¬ isF Φ e := fun z => by obtain ⟨-, F, hF⟩ := z; rw [hΦ] at hF; cases hF
            refine wp_sq (R := fun x τ => x = 1 ∧ τ = σ75) (wp_t (i4 hΦ) (wp_some ⟨rfl, rfl⟩)) ?_
            rintro x τ ⟨rfl, rfl⟩
            exact wp_f (by decide) (wp_some ⟨1, rfl, fin hnF⟩)
          | some F =>
            have hisF : isF Φ e := ⟨ch, F, hΦ⟩
            refine wp_sq (R := fun x τ => x = 0 ∧ τ = σ75) (wp_f (by have := (i5 F hΦ).1; omega) (wp_some ⟨rfl, rfl⟩)) ?_
            rintro x τ ⟨rfl, h75⟩
            rw [h75]
            refine wp_t rfl ?_
            -- what lies on top of what
            have hchn : chn Φ (e.2.1 / 4) (lve ((r, β, φ, hol) :: gt)) := by
              cases gt with
              | nil => exact True.intro
              | cons g0 gt0 =>
                have o6 := hokl.2.2.2.2.2.1 (by simp)
                obtain ⟨-, dn, o6⟩ := o6
                have o7 := hokl.2.2.2.2.2.2.1
                cases r with
                | cons r0 rs =>
                  show ∃ pre e' n, _
                  exact ⟨dn, e, 0, o6, by simp, ch, rfl⟩
                | nil =>
                  show chn Φ (e.2.1 / 4) (lve (g0 :: gt0))
                  cases gt0 with
                  | nil => exact True.intro
                  | cons g1 gt1 =>
                    obtain ⟨pre, e', nn, q1, q2, q3, q4⟩ := o7
                    have : lve (g0 :: g1 :: gt1) = g0 :: g1 :: gt1 := by
                      show (if g0.1.isEmpty then lve (g1 :: gt1) else g0 :: g1 :: gt1) = _
                      rw [if_neg (fun z => q2 (List.isEmpty_iff.mp z))]
                    rw [this]
                    exact ⟨pre, e', nn + 1, q1, q2, q3, dsc_snoc (List.mem_append_right _ (List.mem_singleton.mpr rfl)) ch nn q4 o6⟩
            have hokv := fok_lve ok56
            have hszF := chn_sz hh (lve_ne (by simp)) hokv hchn hΦ
            have hF1 : 1 ≤ (tN Φ R F).length := Nat.le_trans (by cases F with | nil => exact absurd rfl (wfF_ne hh.2.1 _ _ hΦ) | cons y ys => rw [List.length_cons]; omega) (len_N hh.2.1 R F)
            have hl60 : (lve ((r, β, φ, hol) :: gt)).length ≤ 60 := by omega
            have hvm : ∀ (k : Nat) (v : Int), (e.2.2.map (tV φ e.1))[k]? = some v → gA σ75 (p + 5) 4 k = v := hg.2.2.2.2
            refine wp_sq (s_enter (vs := e.2.2.map (tV φ e.1)) (h := e.2.1 / 4) (β := β + e.1) (F := F) hc hfu hh hH75 (by simp) hl60 (by rw [List.length_cons]; omega) (by rw [w6, List.length_cons]; omega) fs75 e8 w9 (by rw [List.length_map]; exact w11) hvm (by rw [List.length_map]; exact h6) hΦ) ?_
            rintro a υ ⟨rfl, z1, z2, z3⟩
            refine wp_f (by decide) (wp_ck (by omega) ?_)
            have hm0 : 0 < m := by
              have := hfst _ _ e r hgs rfl hisF
              omega
            have hsub := okG_sub (N := N) (φ := φ) hβ0 hN hoke hokl.2.2.1 hokl.2.2.2.1
            have hokn : fok pa Φ N ((F, β + e.1, tI (e.2.2.map (tV φ e.1)), e.2.1 / 4) :: lve ((r, β, φ, hol) :: gt)) := by
              have hnn : nfr pa N (lve ((r, β, φ, hol) :: gt)) (e.2.1 / 4) = pa (e.2.1 / 4) := if_neg (lve_ne (by simp))
              have hlm : ((e.2.2.map (tV φ e.1)).length : Int) = pa (e.2.1 / 4) := by rw [List.length_map]; exact h6
              refine ⟨?_, by show 0 ≤ β + e.1; omega, ?_, ?_, fun z => absurd z (lve_ne (by simp)), fun _ => ⟨by show 0 ≤ pa (e.2.1 / 4); omega, [], hΦ⟩, hchn, hokv⟩
              · rw [hnn]; exact hh.1 _ _ hΦ
              · intro k hk hk2
                rw [hnn] at hk2
                have := hsub.2.2.2.2.1 _ (tI_mem (vs := e.2.2.map (tV φ e.1)) hk (by omega))
                exact this
              · intro j k hj hj2 hk hk2 he
                rw [hnn] at hj2 hk2
                exact tI_inj (show (e.2.2.map (tV φ e.1)).Nodup from hsub.2.2.2.2.2.2.2) hj (by omega) hk (by omega) he
            have hAn : ahd Φ R ((F, β + e.1, tI (e.2.2.map (tV φ e.1)), e.2.1 / 4) :: lve ((r, β, φ, hol) :: gt)) = ahd Φ R ((e :: r, β, φ, hol) :: gt) := by
              rw [hA]
              show (tN Φ R F).map _ ++ ahd Φ R (lve ((r, β, φ, hol) :: gt)) = _
              rw [ahd_lve, tN_hole hh ch hΦ, List.map_map]
              congr 1
              refine List.map_congr_left (fun x hx => ?_)
              have hokx := okR_N (hh.2.2.2.2.1 _ _ hΦ) hh.1 R (hh.1 _ _ hΦ) x hx
              rw [← h6] at hokx
              exact (tS_comp oe1 hokx).symm
            have hHn : cHol υ pa Φ := cHol_fx z1 (cP_lo hc (by omega)) (cP_lo hc (by omega)) (cP_lo hc (by omega)) (cP_lo hc (by omega)) (cP_lo hc (by omega)) (cP_lo hc (by omega)) hH75
            have hcn : cst υ p pa Φ N ((F, β + e.1, tI (e.2.2.map (tV φ e.1)), e.2.1 / 4) :: lve ((r, β, φ, hol) :: gt)) := ⟨by simp, by rw [List.length_cons]; omega, by rw [z2, List.length_cons]; omega, z3, hokn⟩
            have hnx := IH hm0 n (x1 + 1) _ υ (by omega) (by omega) (by omega) ?_ hHn (by rw [fx_f (fx_tr x75 z1) (cP_lo hc (by omega))]; exact hT) hcn (by rw [hAn]; exact hB)
            · rw [hAn] at hnx
              refine wp_mono hnx (fun x τ hx => ?_)
              obtain ⟨y, hy, hz1, hz2⟩ := hx
              exact ⟨y, hy, fx_tr (fx_tr x75 z1) hz1, hz2⟩
            · -- ranks fall
              intro f' gt' e' r' hl' hr' hF'
              have hFne : F ≠ [] := wfF_ne hh.2.1 _ _ hΦ
              have : lve ((F, β + e.1, tI (e.2.2.map (tV φ e.1)), e.2.1 / 4) :: lve ((r, β, φ, hol) :: gt)) = (F, β + e.1, tI (e.2.2.map (tV φ e.1)), e.2.1 / 4) :: lve ((r, β, φ, hol) :: gt) := by
                cases hv : lve ((r, β, φ, hol) :: gt) with
                | nil => exact absurd hv (lve_ne (by simp))
                | cons a b =>
                  show (if F.isEmpty then _ else _) = _
                  rw [if_neg (fun z => hFne (List.isEmpty_iff.mp z))]
              rw [this] at hl'
              obtain ⟨rfl, rfl⟩ := List.cons.inj hl'
              have h1 := hrk _ _ hΦ e' (by rw [show F = e' :: r' from hr']; exact List.mem_cons_self) hF'
              have h2 := hfst _ _ e r hgs rfl hisF
              omega
        · exact wp_f ch (wp_some ⟨1, rfl, fin (fun z => ch z.1)⟩)
theorem s_advl {O : Op} {fu p : Nat} {pa : Int → Int} {Φ : Fl} {R : Nat} {N : Int} {rk : Int → Nat} (hc : cur p) (hfu : 100 ≤ fu) (hh : hOk O pa Φ R) (hrk : rkd Φ rk) (hN : 0 ≤ N) (hN2 : N ≤ 1000) :
    ∀ (m n : Nat) (x1 : Int) (fs : List Fr) (σ : SS), m < n → 0 ≤ x1 → x1 + m < 1000000 → (∀ f gt e r, lve fs = f :: gt → f.1 = e :: r → isF Φ e → rk (e.2.1 / 4) < m) → cHol σ pa Φ → σ.1 1 2 ≤ 1000000 → cst σ p pa Φ N fs → (∀ e ∈ ahd Φ R fs, e.1 ≤ 10000) →
    Wp (l_U_advance_2 fu p n x1 σ) (fun x τ => ∃ y, x = .inl y ∧ adP p pa Φ R N σ (ahd Φ R fs) y τ) := by
  intro m
  induction m with
  | zero => exact fun n x1 fs σ h1 h2 h3 h4 h5 h6 h7 h8 => s_advl_aux hc hfu hh hrk hN hN2 0 (fun z => absurd z (Nat.not_lt_zero _)) n x1 fs σ h1 h2 h3 h4 h5 h6 h7 h8
  | succ m ih => exact fun n x1 fs σ h1 h2 h3 h4 h5 h6 h7 h8 => s_advl_aux hc hfu hh hrk hN hN2 (m + 1) (fun _ => ih) n x1 fs σ h1 h2 h3 h4 h5 h6 h7 h8
