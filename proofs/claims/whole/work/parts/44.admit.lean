/-! TWO HOLES JOIN; A TERM IS ADMITTED -/
theorem s_jnl {fu : Nat} {a b : AG} (hfu : 10 ≤ fu) (h4 : a.2.2.length ≤ 4) (h4b : b.2.2.length ≤ 4) : ∀ (m i n : Nat) (σ : SS), m + i = a.2.2.length → m < n → grp σ 30 a → grp σ 36 b → kpt σ 43 (kix i (fun j => decide (0 ≤ fnd b.2.2 (a.2.2.getD j 0)))) → kpt σ 44 ((kix i (fun j => decide (0 ≤ fnd b.2.2 (a.2.2.getD j 0)))).map (fun j => fnd b.2.2 (a.2.2.getD j.toNat 0))) →
    Wp (l_N_joinHoles_4 fu n (kix i (fun j => decide (0 ≤ fnd b.2.2 (a.2.2.getD j 0)))).length i σ) (fun z τ => z = ((kix a.2.2.length (fun j => decide (0 ≤ fnd b.2.2 (a.2.2.getD j 0)))).length : Int) ∧ fx X43 σ τ ∧ (∀ c d, τ.1 c d = σ.1 c d) ∧ kpt τ 43 (kix a.2.2.length (fun j => decide (0 ≤ fnd b.2.2 (a.2.2.getD j 0)))) ∧ kpt τ 44 ((kix a.2.2.length (fun j => decide (0 ≤ fnd b.2.2 (a.2.2.getD j 0)))).map (fun j => fnd b.2.2 (a.2.2.getD j.toNat 0)))) := by
  intro m
  induction m with
  | zero =>
    intro i n σ hmi hn hg hb hk hk4
    cases n with
    | zero => omega
    | succ n =>
      rw [l_N_joinHoles_4]
      have e : i = a.2.2.length := by omega
      rw [e] at hk hk4
      refine wp_f (by rw [hg.2.2.2.1]; omega) (wp_some ⟨by rw [e], fx_rf, fun _ _ => rfl, hk, hk4⟩)
  | succ m ih =>
    intro i n σ hmi hn hg hb hk hk4
    cases n with
    | zero => omega
    | succ n =>
      rw [l_N_joinHoles_4]
      have hi : i < a.2.2.length := by omega
      have ha : a.2.2[i]? = some a.2.2[i] := List.getElem?_eq_getElem hi
      have hga := hg.2.2.2.2 i _ ha
      have hgd : a.2.2.getD i 0 = a.2.2[i] := by rw [List.getD_eq_getElem?_getD, ha]; rfl
      have hkl := kix_len i (fun j => decide (0 ≤ fnd b.2.2 (a.2.2.getD j 0)))
      have e2 : ((i : Int) + 1) = ((i + 1 : Nat) : Int) := by omega
      have hsu := kix_succ i (fun j => decide (0 ≤ fnd b.2.2 (a.2.2.getD j 0)))
      refine wp_t (by rw [hg.2.2.2.1]; omega) ?_
      have hpf := s_paramFor (fu := fu) (p := 36) (v := a.2.2[i]) hfu h4b hb.2.2.2.1 hb.2.2.2.2
      have hlo := fnd_lo b.2.2 a.2.2[i]
      rw [show (30 + 5 : Nat) = 35 from rfl] at *
      rw [hga]
      refine wp_e hpf ?_
      by_cases c : 0 ≤ fnd b.2.2 a.2.2[i]
      · have hP : decide (0 ≤ fnd b.2.2 (a.2.2.getD i 0)) = true := by rw [hgd]; exact decide_eq_true c
        rw [if_pos hP] at hsu
        refine wp_sq (R := fun z τ => z = ((kix (i + 1) (fun j => decide (0 ≤ fnd b.2.2 (a.2.2.getD j 0)))).length : Int) ∧ τ = gS (gS σ 43 4 ((kix i (fun j => decide (0 ≤ fnd b.2.2 (a.2.2.getD j 0)))).length : Int) i) 44 4 ((kix i (fun j => decide (0 ≤ fnd b.2.2 (a.2.2.getD j 0)))).length : Int) (fnd b.2.2 a.2.2[i])) (wp_f (by omega) (wp_lx (wp_lx (wp_ck (by omega) (wp_some ⟨by rw [hsu, List.length_append]; show _ = ((_ + 1 : Nat) : Int); omega, rfl⟩))))) ?_
        rintro z τ ⟨rfl, hτ⟩
        have hfx : fx X43 σ τ := by rw [hτ]; exact fx_S (fx_S fx_rf (by unfold X43; omega)) (by unfold X43; omega)
        have hff : ∀ c d, τ.1 c d = σ.1 c d := fun c d => by rw [hτ, gS_f', gS_f']
        refine wp_ck (by omega) ?_
        rw [e2]
        have hk2 : kpt τ 43 (kix (i + 1) (fun j => decide (0 ≤ fnd b.2.2 (a.2.2.getD j 0)))) := by
          rw [hsu]
          intro k v hkv
          rw [hτ, gA_S_ne (by omega)]
          exact kpt_snoc hk (by omega) k v hkv
        have hk3 : kpt τ 44 ((kix (i + 1) (fun j => decide (0 ≤ fnd b.2.2 (a.2.2.getD j 0)))).map (fun j => fnd b.2.2 (a.2.2.getD j.toNat 0))) := by
          rw [hsu, List.map_append]
          have h5 : kpt (gS σ 43 4 ((kix i (fun j => decide (0 ≤ fnd b.2.2 (a.2.2.getD j 0)))).length : Int) i) 44 ((kix i (fun j => decide (0 ≤ fnd b.2.2 (a.2.2.getD j 0)))).map (fun j => fnd b.2.2 (a.2.2.getD j.toNat 0))) := by
            intro k v hkv
            rw [gA_S_ne (by omega)]
            exact hk4 k v hkv
          have h6 := kpt_snoc (v := fnd b.2.2 a.2.2[i]) h5 (by rw [List.length_map]; omega)
          rw [List.length_map] at h6
          rw [hτ]
          show kpt _ 44 (_ ++ [fnd b.2.2 (a.2.2.getD ((i : Nat) : Int).toNat 0)])
          rw [Int.toNat_natCast, hgd]
          exact h6
        have h3 := ih (i + 1) n _ (by omega) (by omega) (grp_go hfx (fun a ha z => by unfold cP at ha; unfold X43 at z; omega) hg) (grp_go hfx (fun a ha z => by unfold cP at ha; unfold X43 at z; omega) hb) hk2 hk3
        exact wp_mono h3 (fun _ τ k => ⟨k.1, fx_tr hfx k.2.1, fun c d => by rw [k.2.2.1, hff], k.2.2.2⟩)
      · have hP : ¬ decide (0 ≤ fnd b.2.2 (a.2.2.getD i 0)) = true := by rw [hgd, decide_eq_true_eq]; exact c
        rw [if_neg hP, List.append_nil] at hsu
        refine wp_sq (R := fun z τ => z = ((kix (i + 1) (fun j => decide (0 ≤ fnd b.2.2 (a.2.2.getD j 0)))).length : Int) ∧ τ = σ) (wp_t (by omega) (wp_some ⟨by rw [hsu], rfl⟩)) ?_
        rintro z τ ⟨rfl, rfl⟩
        refine wp_ck (by omega) ?_
        rw [e2]
        exact ih (i + 1) n _ (by omega) (by omega) hg hb (by rw [hsu]; exact hk) (by rw [hsu]; exact hk4)
theorem s_join {O : Op} {fu R : Nat} {told : Int} {s : St} {a b : AG} {σ : SS} (hR : 300 < R) (hfu : 10 ≤ fu) (hg : gOk O told R s) (hc : cSt σ told s) (ha : grp σ 30 a) (hb : grp σ 36 b) (hΦ : s.2.1 (a.2.1 / 4) = none) (hx : (a.2.2.length : Int) = s.1 (a.2.1 / 4)) (hΨ : s.2.1 (b.2.1 / 4) = none) (hy : (b.2.2.length : Int) = s.1 (b.2.1 / 4)) (hne : a.2.1 / 4 ≠ b.2.1 / 4) :
    Wp (f_N_joinHoles fu σ) (fun z τ => z = 0 ∧ stp told σ τ (jn s (a.2.1 / 4) a.2.2 (b.2.1 / 4) b.2.2)) := by
  have h4 := hg.1.2.2.2.1 (a.2.1 / 4)
  have h4b := hg.1.2.2.2.1 (b.2.1 / 4)
  have h8 := hg.1.2.2.2.2.2.2.2.1
  have hbn := mOk_b h8 hg.2.1
  unfold f_N_joinHoles
  refine wp_sq (s_jnl (a := a) (b := b) hfu (by omega) (by omega) a.2.2.length 0 fu σ (by omega) (by omega) ha hb (fun k v hk => by rw [show kix 0 _ = [] from rfl] at hk; cases hk) (fun k v hk => by rw [show kix 0 _ = [] from rfl] at hk; cases hk)) ?_
  rintro z τ ⟨rfl, x1, f1, k1, k2⟩
  have c1 := cSt_X43 x1 hc
  have e12 : τ.1 1 2 = σ.1 1 2 := f1 1 2
  have hkl := kix_len a.2.2.length (fun j => decide (0 ≤ fnd b.2.2 (a.2.2.getD j 0)))
  have hkm : ∀ v ∈ kix a.2.2.length (fun j => decide (0 ≤ fnd b.2.2 (a.2.2.getD j 0))), 0 ≤ v ∧ v < s.1 (a.2.1 / 4) := fun v hv => by have := kix_mem hv; omega
  have hkm2 : ∀ v ∈ (kix a.2.2.length (fun j => decide (0 ≤ fnd b.2.2 (a.2.2.getD j 0)))).map (fun j => fnd b.2.2 (a.2.2.getD j.toNat 0)), 0 ≤ v ∧ v < 10 := by
    intro v hv
    obtain ⟨j, hj, rfl⟩ := List.mem_map.mp hv
    have h1 := (kix_mem hj).2.2
    rw [decide_eq_true_eq] at h1
    have h2 := fnd_lo b.2.2 (a.2.2.getD j.toNat 0)
    exact ⟨h1, by omega⟩
  have hkd := kix_nodup a.2.2.length (fun j => decide (0 ≤ fnd b.2.2 (a.2.2.getD j 0)))
  unfold jn
  generalize hK : kix a.2.2.length (fun j => decide (0 ≤ fnd b.2.2 (a.2.2.getD j 0))) = K at k1 k2 hkl hkm hkm2 hkd ⊢
  generalize hK2 : K.map (fun j => fnd b.2.2 (a.2.2.getD j.toNat 0)) = K2 at k2 hkm2 ⊢
  have hl2 : K2.length = K.length := by rw [← hK2, List.length_map]
  obtain ⟨p1, p2, -, -⟩ := pas_ok (K := K) hR hg hΦ (by omega) hkm hkd (by omega)
  have ht := top_le hg.1 hg.2.1 hc
  obtain ⟨n1, n2⟩ := sNew_g hg.1
  refine wp_sq (s_makeNew (n := (K.length : Int)) hg.1 c1 (by omega) (by omega)) ?_
  rintro a8 σ8 ⟨rfl, x8, c8⟩
  have n78 : ∀ a, a ≠ 7 → a ≠ 8 → ¬ X78 a := fun a h1 h2 z => z.elim h1 h2
  have hhn : a.2.1 / 4 ≠ 24 + s.2.2.2 := fun z => by rw [← z] at n1; omega
  have hgn : b.2.1 / 4 ≠ 24 + s.2.2.2 := fun z => by rw [← z] at n1; omega
  have e8 : σ8.1 1 2 = σ.1 1 2 := by rw [fx_f x8 (n78 1 (by decide) (by decide)), e12]
  rw [fx_f x8 (n78 30 (by decide) (by decide)), f1 30 8, ha.2.1]
  refine wp_sq (s_fillWithHole (g := 24 + s.2.2.2) (kept := K) hfu (Or.inl rfl) p1 c8 hΦ (by show 0 ≤ up1 s.1 _ _ _; rw [up1_ne hhn]; omega) (by show s.2.2.2 + 1 ≤ 300; omega) (by show s.2.2.1.length < 324; omega) (by omega) (by omega) (by omega) (by exact up1_same _ _ _) (by omega) (fun v hv => by have := hkm v hv; omega) (fun k v hv => by rw [fx_g x8 (n78 43 (by decide) (by decide))]; exact k1 k v hv)) ?_
  rintro z σ12 ⟨rfl, d1, d2, d3, d4, d5⟩
  have n79 : ∀ a, 13 ≤ a → ¬ X79 a := fun a h z => by unfold X79 at z; omega
  have hs36 : σ12.1 36 8 = b.2.1 / 4 := by rw [fx_f d2 (n79 36 (by omega)), fx_f x8 (n78 36 (by decide) (by decide)), f1 36 8, hb.2.1]
  have cl8 : cle σ σ8 (σ.1 1 2) := cle_tr (cle_X43 x1) (t := σ.1 1 2) (fun i _ => ⟨fx_cA x8 (n78 1 (by decide) (by decide)) (n78 2 (by decide) (by decide)) i, fx_cB x8 (n78 1 (by decide) (by decide)) (n78 3 (by decide) (by decide)) i⟩) (Int.le_refl _)
  rw [e8] at d3 d4 d5
  refine wp_sq (R := fun z τ => z = 1 ∧ stp told σ τ (sFil (pas s (a.2.1 / 4) K) (b.2.1 / 4) (hRow (24 + s.2.2.2) K2))) (wp_f (by decide) ?_) ?_
  · rw [hs36]
    have hlen : (pas s (a.2.1 / 4) K).2.2.1.length = s.2.2.1.length + 1 := by
      show (s.2.2.1 ++ [a.2.1 / 4]).length = _
      rw [List.length_append]; rfl
    refine wp_sq (s_fillWithHole (s := pas s (a.2.1 / 4) K) (h := b.2.1 / 4) (g := 24 + s.2.2.2) (kept := K2) hfu (Or.inr rfl) p2 d1 (by rw [pas_phi (fun z => hne z.symm)]; exact hΨ) (by rw [pas_pa hgn]; omega) (by show s.2.2.2 + 1 ≤ 300; omega) (by omega) (by omega) (by omega) (by omega) (by rw [hl2]; exact up1_same _ _ _) (by omega) hkm2 (fun k v hv => by rw [fx_g d2 (n79 44 (by omega)), fx_g x8 (n78 44 (by decide) (by decide))]; exact k2 k v hv)) ?_
    rintro z σ18 ⟨rfl, g1, g2, g3, g4, g5⟩
    refine wp_f (by decide) (wp_some ⟨rfl, g1, fx_tr (fx_tr (fx_tr (X43_XW x1) (X78_XW x8)) (X79_XW d2)) (X79_XW g2), cle_tr (cle_tr cl8 d3 (Int.le_refl _)) g3 d5, by omega⟩)
  · rintro z σ24 ⟨rfl, h24⟩
    exact wp_f (by decide) (wp_some ⟨rfl, h24⟩)
/-! a variable that is foreign -/
theorem s_isForeign {fu q : Nat} {σ : SS} {x : List Int} {eb β v : Int} (hfu : 10 ≤ fu) (h4 : x.length ≤ 4) (hcnt : σ.1 q 11 = (x.length : Int)) (hvar : ∀ (k : Nat) (v : Int), x[k]? = some v → gA σ (q + 5) 4 k = v) (h45 : σ.1 45 9 = eb) (hq : σ.1 q 9 = β) (hb : 0 ≤ eb ∧ eb ≤ 100000) (hb2 : 0 ≤ β ∧ β ≤ 100000) (hv : 0 ≤ v ∧ v ≤ 1000000) : f_N_isForeign fu q v σ = some ((if frn x (eb - β) v = true then 1 else 0), σ) := by
  unfold f_N_isForeign
  rw [h45, hq, ck_t (by omega), ck_t (by omega), lb_e]
  have hpf := s_paramFor (fu := fu) (p := q) (v := v - (eb - β)) hfu h4 hcnt hvar
  have hlo := fnd_lo x (v - (eb - β))
  by_cases c : v - (eb - β) < 0
  · rw [if_pos c, if_neg (by unfold frn; rw [decide_eq_true_eq]; omega)]
  · rw [if_neg c, hpf]
    show (if fnd x (v - (eb - β)) = -1 then some ((1 : Int), σ) else some (0, σ)) = _
    by_cases c2 : fnd x (v - (eb - β)) = -1
    · rw [if_pos c2, if_pos (by unfold frn; rw [decide_eq_true_eq]; omega)]
    · rw [if_neg c2, if_neg (by unfold frn; rw [decide_eq_true_eq]; omega)]
theorem s_drl {fu q : Nat} {e : AG} {x : List Int} {β : Int} (hq : q = 30 ∨ q = 36) (hfu : 10 ≤ fu) (h4 : x.length ≤ 4) (h4e : e.2.2.length ≤ 4) (hb : 0 ≤ e.1 ∧ e.1 ≤ 100000) (hb2 : 0 ≤ β ∧ β ≤ 100000) (hv : ∀ v ∈ e.2.2, 0 ≤ v ∧ v ≤ 1000000) : ∀ (m i n : Nat) (σ : SS), m + i = e.2.2.length → m < n → grp σ 45 e → σ.1 q 9 = β → σ.1 q 11 = (x.length : Int) → (∀ (k : Nat) (v : Int), x[k]? = some v → gA σ (q + 5) 4 k = v) → kpt σ 43 (kix i (fun j => !frn x (e.1 - β) (e.2.2.getD j 0))) →
    Wp (l_N_dropForeign_4 fu q n (kix i (fun j => !frn x (e.1 - β) (e.2.2.getD j 0))).length i σ) (fun z τ => z = ((kix e.2.2.length (fun j => !frn x (e.1 - β) (e.2.2.getD j 0))).length : Int) ∧ fx X43 σ τ ∧ (∀ c d, τ.1 c d = σ.1 c d) ∧ kpt τ 43 (kix e.2.2.length (fun j => !frn x (e.1 - β) (e.2.2.getD j 0)))) := by
  intro m
  induction m with
  | zero =>
    intro i n σ hmi hn hg hβ hcnt hvar hk
    cases n with
    | zero => omega
    | succ n =>
      rw [l_N_dropForeign_4]
      have ei : i = e.2.2.length := by omega
      rw [ei] at hk
      refine wp_f (by rw [hg.2.2.2.1]; omega) (wp_some ⟨by rw [ei], fx_rf, fun _ _ => rfl, hk⟩)
  | succ m ih =>
    intro i n σ hmi hn hg hβ hcnt hvar hk
    cases n with
    | zero => omega
    | succ n =>
      rw [l_N_dropForeign_4]
      have hi : i < e.2.2.length := by omega
      have ha : e.2.2[i]? = some e.2.2[i] := List.getElem?_eq_getElem hi
      have hga := hg.2.2.2.2 i _ ha
      have hgd : e.2.2.getD i 0 = e.2.2[i] := by rw [List.getD_eq_getElem?_getD, ha]; rfl
      have hkl := kix_len i (fun j => !frn x (e.1 - β) (e.2.2.getD j 0))
      have e2 : ((i : Int) + 1) = ((i + 1 : Nat) : Int) := by omega
      have hsu := kix_succ i (fun j => !frn x (e.1 - β) (e.2.2.getD j 0))
      refine wp_t (by rw [hg.2.2.2.1]; omega) ?_
      have hif := s_isForeign (fu := fu) (q := q) (v := e.2.2[i]) hfu h4 hcnt hvar hg.2.2.1 hβ hb hb2 (hv _ (List.getElem_mem hi))
      rw [show (45 + 5 : Nat) = 50 from rfl] at *
      rw [hga]
      refine wp_e hif ?_
      by_cases c : frn x (e.1 - β) e.2.2[i] = true
      · have hP : ¬ (!frn x (e.1 - β) (e.2.2.getD i 0)) = true := by rw [hgd, c]; decide
        rw [if_neg hP, List.append_nil] at hsu
        rw [if_pos c]
        refine wp_sq (R := fun z τ => z = ((kix (i + 1) (fun j => !frn x (e.1 - β) (e.2.2.getD j 0))).length : Int) ∧ τ = σ) (wp_f (by decide) (wp_some ⟨by rw [hsu], rfl⟩)) ?_
        rintro z τ ⟨rfl, rfl⟩
        refine wp_ck (by omega) ?_
        rw [e2]
        exact ih (i + 1) n _ (by omega) (by omega) hg hβ hcnt hvar (by rw [hsu]; exact hk)
      · have hP : (!frn x (e.1 - β) (e.2.2.getD i 0)) = true := by
          rw [hgd]
          cases hz : frn x (e.1 - β) e.2.2[i] with
          | true => exact absurd hz c
          | false => rfl
        rw [if_pos hP] at hsu
        rw [if_neg c]
        refine wp_sq (R := fun z τ => z = ((kix (i + 1) (fun j => !frn x (e.1 - β) (e.2.2.getD j 0))).length : Int) ∧ τ = gS σ 43 4 ((kix i (fun j => !frn x (e.1 - β) (e.2.2.getD j 0))).length : Int) i) (wp_t rfl (wp_lx (wp_ck (by omega) (wp_some ⟨by rw [hsu, List.length_append]; show _ = ((_ + 1 : Nat) : Int); omega, rfl⟩)))) ?_
        rintro z τ ⟨rfl, hτ⟩
        have hfx : fx X43 σ τ := by rw [hτ]; exact fx_S fx_rf (by unfold X43; omega)
        have hff : ∀ c d, τ.1 c d = σ.1 c d := fun c d => by rw [hτ, gS_f']
        refine wp_ck (by omega) ?_
        rw [e2]
        have hk2 : kpt τ 43 (kix (i + 1) (fun j => !frn x (e.1 - β) (e.2.2.getD j 0))) := by rw [hsu, hτ]; exact kpt_snoc hk (by omega)
        have h3 := ih (i + 1) n τ (by omega) (by omega) (grp_go hfx (fun a ha z => by unfold cP at ha; unfold X43 at z; omega) hg) (by rw [hff]; exact hβ) (by rw [hff]; exact hcnt) (fun k v hk' => by rw [fx_g hfx (fun z => by unfold X43 at z; omega)]; exact hvar k v hk') hk2
        exact wp_mono h3 (fun _ τ k => ⟨k.1, fx_tr hfx k.2.1, fun c d => by rw [k.2.2.1, hff], k.2.2.2⟩)
theorem s_drop {O : Op} {fu R q : Nat} {told β : Int} {s : St} {e : AG} {x : List Int} {σ : SS} (hq : q = 30 ∨ q = 36) (hR : 300 < R) (hfu : 10 ≤ fu) (hg : gOk O told R s) (hc : cSt σ told s) (he : grp σ 45 e) (hβ : σ.1 q 9 = β) (hcnt : σ.1 q 11 = (x.length : Int)) (hvar : ∀ (k : Nat) (v : Int), x[k]? = some v → gA σ (q + 5) 4 k = v) (h4 : x.length ≤ 4) (hb : 0 ≤ e.1 ∧ e.1 ≤ 100000) (hb2 : 0 ≤ β ∧ β ≤ 100000) (hv : ∀ v ∈ e.2.2, 0 ≤ v ∧ v ≤ 1000000) (hΦ : s.2.1 (e.2.1 / 4) = none) (hx : (e.2.2.length : Int) = s.1 (e.2.1 / 4)) :
    Wp (f_N_dropForeign fu q σ) (fun z τ => z = 0 ∧ stp told σ τ (dr s x (e.1 - β) e) ∧ ∀ b, τ.1 42 b = σ.1 42 b) := by
  have h4e := hg.1.2.2.2.1 (e.2.1 / 4)
  unfold f_N_dropForeign
  refine wp_sq (s_drl (e := e) (x := x) hq hfu h4 (by omega) hb hb2 hv e.2.2.length 0 fu σ (by omega) (by omega) he hβ hcnt hvar (fun k v hk => by rw [show kix 0 _ = [] from rfl] at hk; cases hk)) ?_
  rintro z τ ⟨rfl, x1, f1, k1⟩
  have c1 := cSt_X43 x1 hc
  have e12 : τ.1 1 2 = σ.1 1 2 := f1 1 2
  rw [f1 45 11, f1 45 8, he.2.2.2.1, he.2.1]
  unfold dr
  by_cases c : (kix e.2.2.length (fun i => !frn x (e.1 - β) (e.2.2.getD i 0))).length = e.2.2.length
  · rw [if_pos c]
    exact wp_t (by rw [c]) (wp_some ⟨rfl, ⟨c1, X43_XW x1, cle_X43 x1, by omega⟩, fun b => f1 42 b⟩)
  · rw [if_neg c]
    have hkl := kix_len e.2.2.length (fun i => !frn x (e.1 - β) (e.2.2.getD i 0))
    refine wp_f (by omega) (s_pas hR hfu hg c1 hΦ (by omega) (fun v hv => by have := kix_mem hv; omega) (by omega) k1 ?_)
    rintro σ' ⟨d1, d2, d3, d4, d5⟩
    exact wp_f (by decide) (wp_some ⟨rfl, ⟨d2, fx_tr (X43_XW x1) d1, cle_tr (cle_X43 x1) (by rw [← e12]; exact d3) (Int.le_refl _), by omega⟩, fun b => by rw [d5, f1]⟩)
/-- the operations as the class holds them -/
def cOp (σ : SS) (O : Op) : Prop := (∀ f, 0 ≤ O.1 f → gA σ 5 16 f = O.1 f ∧ O.1 f ≤ 3 ∧ 0 ≤ f ∧ f < 16) ∧ (∀ f i, gA σ 6 48 (f * 3 + i) = O.2 f i) ∧ ∀ f, O.1 f < 0 → gA σ 5 16 f = 0
theorem cOp_fx {X : Nat → Prop} {σ τ : SS} {O : Op} (h : fx X σ τ) (h5 : ¬ X 5) (h6 : ¬ X 6) (k : cOp σ O) : cOp τ O := ⟨fun f hf => by rw [fx_g h h5]; exact k.1 f hf, fun f i => by rw [fx_g h h6]; exact k.2.1 f i, fun f hf => by rw [fx_g h h5]; exact k.2.2 f hf⟩
theorem tP_ln {O : Op} {e : AG} (h : e.2.1 % 4 = 1) : (tP O e).length = (O.1 (e.2.1 / 4)).toNat := by
  unfold tP
  rw [if_pos h, List.length_map, List.length_range]
theorem s_dueAfter {O : Op} {q : Nat} {d : Int} {e : AG} {σ : SS} (ho : cOp σ O) (hk : opk O e) (he : grp σ q e) (hd : 0 ≤ d ∧ d ≤ 1000000) : f_N_dueAfter q d σ = some (d - 1 + ((tP O e).length : Int), σ) := by
  unfold f_N_dueAfter
  rw [he.1, he.2.1]
  by_cases c : e.2.1 % 4 = 1
  · rw [if_pos c]
    have h2 : 0 ≤ O.1 (e.2.1 / 4) := hk.elim (fun z => absurd c z) id
    obtain ⟨h1, h3, -, -⟩ := ho.1 (e.2.1 / 4) h2
    unfold f_O_arityOf
    show ck _ (ck _ (some (d - 1 + gA σ 5 16 (e.2.1 / 4), σ))) = _
    rw [h1, ck_t (by omega), ck_t (by omega), tP_ln c]
    congr 2
    omega
  · rw [if_neg c, ck_t (by omega), ck_t (by omega), tP_hole c]
    rfl
