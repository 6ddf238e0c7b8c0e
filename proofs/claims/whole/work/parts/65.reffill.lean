/-! THE REFERENCE: A HINDRANCE IS TAKEN AWAY -/
theorem s_f69 {fu q r : Nat} {a e : AG} {b i h x5 : Int} (hfu : 20 ≤ fu) (hqr : q = 71 ∧ r = 72 ∨ q = 72 ∧ r = 71) (hh : 0 ≤ h ∧ h < 324) (hn : 0 ≤ e.2.1 / 4 ∧ e.2.1 / 4 < 324) (h4 : a.2.2.length ≤ 4) (h4e : e.2.2.length ≤ 4) (hi : 0 ≤ i) (hi2 : i + 1 + e.2.2.length ≤ 16384) (hv : ∀ v ∈ e.2.2, 0 ≤ v ∧ v ≤ 1000000) (hb : 0 ≤ b ∧ b ≤ 10000) :
    ∀ (m j n : Nat) (σ : SS), m + j = e.2.2.length → m < n → rho σ q a → σ.2.1 58 h = (a.2.2.length : Int) → σ.2.1 58 (e.2.1 / 4) = (e.2.2.length : Int) → σ.2.1 74 i = b → (∀ (k : Nat) (v : Int), e.2.2[k]? = some v → σ.2.1 r (i + 1 + k) = 4 * v) → rkp σ 0 (kix j (fun t => !frn a.2.2 b (e.2.2.getD t 0))) →
    Wp (l_D_fill_69 fu q r n h x5 i (e.2.1 / 4) (kix j (fun t => !frn a.2.2 b (e.2.2.getD t 0))).length j σ) (fun z τ => z = ((kix e.2.2.length (fun t => !frn a.2.2 b (e.2.2.getD t 0))).length : Int) ∧ fx (jst 81) σ τ ∧ rkp τ 0 (kix e.2.2.length (fun t => !frn a.2.2 b (e.2.2.getD t 0)))) := by
  intro m
  induction m with
  | zero =>
    intro j n σ h1 h2 ha h58 h58e h74 hr hk
    cases n with
    | zero => omega
    | succ n =>
      rw [l_D_fill_69]
      have ej : j = e.2.2.length := by omega
      rw [ej] at hk
      exact wp_ck ⟨hn.1, hn.2⟩ (wp_f (by omega) (wp_some ⟨by rw [ej], fx_rf, hk⟩))
  | succ m ih =>
    intro j n σ h1 h2 ha h58 h58e h74 hr hk
    cases n with
    | zero => omega
    | succ n =>
      rw [l_D_fill_69]
      have hj : j < e.2.2.length := by omega
      have hvj : e.2.2[j]? = some e.2.2[j] := List.getElem?_eq_getElem hj
      have hgd : e.2.2.getD j 0 = e.2.2[j] := by rw [List.getD_eq_getElem?_getD, hvj]; rfl
      have hvb := hv e.2.2[j] (List.getElem_mem hj)
      have hkl := kix_len j (fun t => !frn a.2.2 b (e.2.2.getD t 0))
      have e2 : ((j : Int) + 1) = ((j + 1 : Nat) : Int) := by omega
      have hsu := kix_succ j (fun t => !frn a.2.2 b (e.2.2.getD t 0))
      have hfd : f_D_find fu q 1 (a.2.2.length : Int) (4 * (e.2.2[j] - b)) σ = some (fnd a.2.2 (e.2.2[j] - b), σ) := s_find (fr := 1) hfu h4 (by omega) (by omega) ha.2
      refine wp_ck ⟨hn.1, hn.2⟩ (wp_t (by omega) (wp_ck (by omega) (wp_ck (by omega) (wp_ck ⟨by omega, by omega⟩ (wp_ck ⟨by omega, by omega⟩ ?_)))))
      rw [hr j _ hvj, h74, show 4 * e.2.2[j] / 4 = e.2.2[j] by omega]
      refine wp_ck (by omega) (wp_lx ?_)
      have n81 : ∀ a, a ≠ 81 → ¬ jst 81 a := fun a h z => h z
      by_cases c : frn a.2.2 b e.2.2[j] = true
      · have hc := c
        unfold frn at hc
        rw [decide_eq_true_eq] at hc
        have hP : ¬ (!frn a.2.2 b (e.2.2.getD j 0)) = true := by rw [hgd, c]; decide
        rw [if_neg hP, List.append_nil] at hsu
        refine wp_sq (R := fun z τ => z = ((kix (j + 1) (fun t => !frn a.2.2 b (e.2.2.getD t 0))).length : Int) ∧ τ = σ) (wp_f (by omega) (wp_ck ⟨hh.1, hh.2⟩ (wp_ck (by omega) ?_))) ?_
        · rw [h58]
          exact wp_e hfd (wp_t hc.2 (wp_some ⟨by rw [hsu], rfl⟩))
        · rintro z τ ⟨rfl, rfl⟩
          refine wp_ck (by omega) ?_
          rw [e2]
          exact ih (j + 1) n _ (by omega) (by omega) ha h58 h58e h74 hr (by rw [hsu]; exact hk)
      · have hc : ¬ (0 ≤ e.2.2[j] - b ∧ fnd a.2.2 (e.2.2[j] - b) < 0) := fun z => c (by unfold frn; rw [decide_eq_true_eq]; exact z)
        have hP : (!frn a.2.2 b (e.2.2.getD j 0)) = true := by
          rw [hgd]
          cases hz : frn a.2.2 b e.2.2[j] with
          | true => exact absurd hz c
          | false => rfl
        rw [if_pos hP] at hsu
        generalize hKe : kix j (fun t => !frn a.2.2 b (e.2.2.getD t 0)) = K at hk hkl hsu ⊢
        have hset : Wp (ck (inb 16384 (K.length : Int)) (lb (sA σ 81 (K.length : Int) j) fun σ13 => ck (rng ((K.length : Int) + 1)) (some (((K.length : Int) + 1), σ13)))) (fun z τ => z = ((kix (j + 1) (fun t => !frn a.2.2 b (e.2.2.getD t 0))).length : Int) ∧ τ = sA σ 81 (0 + (K.length : Int)) j) := wp_ck ⟨by omega, by omega⟩ (wp_lx (wp_ck (by omega) (wp_some ⟨by rw [hsu, List.length_append]; show _ = ((_ + 1 : Nat) : Int); omega, by rw [Int.zero_add]⟩)))
        refine wp_sq (R := fun z τ => z = ((kix (j + 1) (fun t => !frn a.2.2 b (e.2.2.getD t 0))).length : Int) ∧ τ = sA σ 81 (0 + (K.length : Int)) j) (wp_if (fun _ => hset) (fun cn => wp_ck ⟨hh.1, hh.2⟩ (wp_ck (by omega) ?_))) ?_
        · rw [h58]
          exact wp_e hfd (wp_f (fun z => hc ⟨by omega, z⟩) hset)
        · rintro z τ ⟨rfl, hτ⟩
          have hx : fx (jst 81) σ τ := by rw [hτ]; exact fx_A fx_rf rfl
          refine wp_ck (by omega) ?_
          rw [e2]
          have h3 := ih (j + 1) n τ (by omega) (by omega) (rho_fx hx (n81 q (by omega)) ha) (by rw [fx_a hx (n81 58 (by omega))]; exact h58) (by rw [fx_a hx (n81 58 (by omega))]; exact h58e) (by rw [fx_a hx (n81 74 (by omega))]; exact h74) (fun k v hkv => by rw [fx_a hx (n81 r (by omega))]; exact hr k v hkv) (by rw [hsu, hτ]; exact rkp_snoc hk)
          exact wp_mono h3 (fun _ υ k => ⟨k.1, fx_tr hx k.2.1, k.2.2⟩)
/-- all that the reference's unifying changes, but for the two rows -/
def XR : Nat → Prop := fun a => a = 55 ∨ (58 ≤ a ∧ a ≤ 61) ∨ (71 ≤ a ∧ a ≤ 75) ∨ a = 81
def XL (r : Nat) : Nat → Prop := fun a => a = 55 ∨ (58 ≤ a ∧ a ≤ 61) ∨ a = r ∨ (73 ≤ a ∧ a ≤ 75) ∨ a = 81
theorem append_cut {α : Type} {C T C2 T2 : List α} {e : α} (h : C ++ T = C2 ++ e :: T2) (hn : e ∉ C) : ∃ C3, C2 = C ++ C3 ∧ T = C3 ++ e :: T2 := by
  rcases List.append_eq_append_iff.mp h with ⟨a, h1, h2⟩ | ⟨c, h1, h2⟩
  · exact ⟨a, h1, h2⟩
  · cases c with
    | nil => rw [List.append_nil] at h1; exact ⟨[], by rw [List.append_nil]; exact h1.symm, h2.symm⟩
    | cons x c =>
      obtain ⟨rfl, -⟩ := List.cons.inj h2
      exact absurd (by rw [h1]; exact List.mem_append_right _ List.mem_cons_self) hn
theorem s_f20 {O : Op} {fu q r R : Nat} {told N β : Int} {a : AG} (hqr : q = 71 ∧ r = 72 ∨ q = 72 ∧ r = 71) (hfu : 20000 ≤ fu) (hR : 300 < R) (hRf : R < fu) (hb2 : bd2 O) (hN : 0 ≤ N) (hN2 : N ≤ 1000) (hβ : 0 ≤ β ∧ β ≤ 5000) (h4 : a.2.2.length ≤ 4) (hac : a.2.1 % 4 = 2) :
    ∀ (k n : Nat) (s : St) (C T : Row) (y : Int) (σ : SS), T.length ≤ k → k < n → gOk O told R s → rSt σ told s → s.2.1 (a.2.1 / 4) = none → (a.2.2.length : Int) = s.1 (a.2.1 / 4) → rho σ q a → rOp σ O → rseg σ r 0 (C ++ T) (il (C ++ T)) → dseg σ 0 ((C ++ T).map (sh β)) → (∀ e ∈ C, cln (a.2.1 / 4) β a.2.2 e) → nof s.2.1 (C ++ T) → okR s.1 N (C ++ T) → tR O (C ++ T) [β] = some [] → (C ++ T).length ≤ 2500 → ((y = -1 ∧ ∀ e ∈ C ++ T, cln (a.2.1 / 4) β a.2.2 e) ∨ ∃ C2 e T2, C ++ T = C2 ++ e :: T2 ∧ (∀ c ∈ C2, cln (a.2.1 / 4) β a.2.2 c) ∧ ¬ cln (a.2.1 / 4) β a.2.2 e ∧ y = (il C2 : Int)) →
    Wp (l_D_fill_20 fu q r n (a.2.1 / 4) (il (C ++ T)) y σ) (fun z τ => fy (XL r) σ τ ∧ rSt τ told (adm R (a.2.1 / 4) β a.2.2 k s T).2 ∧ (((adm R (a.2.1 / 4) β a.2.2 k s T).1 ≠ 0 ∧ z = .inl (adm R (a.2.1 / 4) β a.2.2 k s T).1) ∨ ((adm R (a.2.1 / 4) β a.2.2 k s T).1 = 0 ∧ z = .inr (il (tN (adm R (a.2.1 / 4) β a.2.2 k s T).2.2.1 R (C ++ T)) : Int) ∧ rseg τ r 0 (tN (adm R (a.2.1 / 4) β a.2.2 k s T).2.2.1 R (C ++ T)) (il (tN (adm R (a.2.1 / 4) β a.2.2 k s T).2.2.1 R (C ++ T))) ∧ dseg τ 0 ((tN (adm R (a.2.1 / 4) β a.2.2 k s T).2.2.1 R (C ++ T)).map (sh β))))) := by
  intro k
  induction k using Nat.strongRecOn with
  | ind k ih =>
  cases k with
  | zero =>
    intro n s C T y σ hk hn hg hc hΦ hpx ha ho hr hd hC hno hok ht hl hy
    have hT : T = [] := List.length_eq_zero_iff.mp (by omega)
    have hyn : y = -1 := by
      rcases hy with ⟨h1, -⟩ | ⟨C2, e, T2, h1, h2, h3, -⟩
      · exact h1
      · rw [hT, List.append_nil] at h1
        exact absurd (hC e (by rw [h1]; exact List.mem_append_right _ List.mem_cons_self)) h3
    cases n with
    | zero => omega
    | succ n =>
      rw [l_D_fill_20]
      refine wp_t (by omega) (wp_some ⟨fy_rf, hc, Or.inr ⟨rfl, ?_, ?_, ?_⟩⟩)
      · show Sum.inr _ = Sum.inr (il (tN s.2.1 R (C ++ T)) : Int)
        rw [tN_nof R hno]
      · show rseg σ r 0 (tN s.2.1 R (C ++ T)) (il (tN s.2.1 R (C ++ T)))
        rw [tN_nof R hno]; exact hr
      · show dseg σ 0 ((tN s.2.1 R (C ++ T)).map (sh β))
        rw [tN_nof R hno]; exact hd
  | succ k =>
    intro n s C T y σ hk hn hg hc hΦ hpx ha ho hr hd hC hno hok ht hl hy
    have hbm := mOk_b hg.1.2.2.2.2.2.2.2.1 hg.2.1
    have h8 := hg.1.2.2.2.2.2.2.2.1
    have hhr := sOk_h hg.1 (g := a.2.1 / 4) (by omega) (by omega)
    have h58 : σ.2.1 58 (a.2.1 / 4) = (a.2.2.length : Int) := by rw [(hc.1 _ (by omega)).2.2.1]; exact hpx.symm
    cases n with
    | zero => omega
    | succ n =>
      rw [l_D_fill_20]
      rcases hy with ⟨rfl, hall⟩ | ⟨C2, e, T2, hcut, hC2, hne, rfl⟩
      · have hadm : adm R (a.2.1 / 4) β a.2.2 (k + 1) s T = (0, s) := by
          have h1 := adm_cln (R := R) (h := a.2.1 / 4) (β := β) (x := a.2.2) (s := s) T [] (k + 1 - T.length) (fun e he => hall e (List.mem_append_right _ he)) (by rw [List.append_nil]; exact fun e he => hno e (List.mem_append_right _ he))
          rw [List.append_nil, show T.length + (k + 1 - T.length) = k + 1 by omega, adm_nil] at h1
          exact h1
        rw [hadm]
        refine wp_t (by decide) (wp_some ⟨fy_rf, hc, Or.inr ⟨rfl, ?_, ?_, ?_⟩⟩)
        · show Sum.inr _ = Sum.inr (il (tN s.2.1 R (C ++ T)) : Int)
          rw [tN_nof R hno]
        · show rseg σ r 0 (tN s.2.1 R (C ++ T)) (il (tN s.2.1 R (C ++ T)))
          rw [tN_nof R hno]; exact hr
        · show dseg σ 0 ((tN s.2.1 R (C ++ T)).map (sh β))
          rw [tN_nof R hno]; exact hd
      · obtain ⟨C3, hC3, hT⟩ := append_cut hcut (fun z => hne (hC e z))
        have hmem : e ∈ C ++ T := by rw [hcut]; exact List.mem_append_right _ List.mem_cons_self
        have hoke := hok e hmem
        have hnoe := hno e hmem
        have hC3c : ∀ c ∈ C3, cln (a.2.1 / 4) β a.2.2 c := fun c hcm => hC2 c (by rw [hC3]; exact List.mem_append_right _ hcm)
        have hlT : T.length = C3.length + (T2.length + 1) := by rw [hT, List.length_append, List.length_cons]
        have hadm0 : adm R (a.2.1 / 4) β a.2.2 (k + 1) s T = adm R (a.2.1 / 4) β a.2.2 (k - C3.length + 1) s (e :: T2) := by
          have h1 := adm_cln (R := R) (h := a.2.1 / 4) (β := β) (x := a.2.2) (s := s) C3 (e :: T2) (k - C3.length + 1) hC3c (fun z hz => hno z (by rw [hT]; exact List.mem_append_right _ hz))
          rw [show C3.length + (k - C3.length + 1) = k + 1 by omega, ← hT] at h1
          exact h1
        have hll : (C ++ T).length = C2.length + (T2.length + 1) := by rw [hcut, List.length_append, List.length_cons]
        -- the item where it is
        have hilc : il (C ++ T) = il C2 + (1 + e.2.2.length + il T2) := by rw [hcut, il_append, il_cons]
        have hilb := il_le (O := O) hg.1.2.2.2.1 hok
        have hrs := hr
        rw [hcut] at hrs
        obtain ⟨-, hrs2⟩ := rseg_split hrs
        rw [Int.zero_add] at hrs2
        obtain ⟨r1, r2, -⟩ := hrs2
        have hbn := tR_bnd hb2 (lo := β) (hi := β) (fun z hz => by cases List.mem_singleton.mp hz; omega) ht
        have hbe := hbn e hmem
        have hpT : rpa σ (C ++ T) := rpa_of hN2 ho hc.1 hg.1.2.2.2.1 hok (tR_opks ht) (fun f hf => by have := hbn f hf; omega)
        obtain ⟨p1, p2, p3, p4, p5, p6⟩ := hpT e hmem
        have h74 : σ.2.1 74 (il C2 : Int) = e.1 - β := by
          have := dseg_get hd (il C2) (e.2.1, e.1 - β) (by
            rw [hcut, List.map_append, itl_append, List.getElem?_append_right (by rw [itl_len, il_sh]; exact Nat.le_refl _), itl_len, il_sh, Nat.sub_self]
            rfl)
          rw [Int.zero_add] at this
          exact this
        refine wp_f (by omega) (wp_ck ⟨by omega, by omega⟩ ?_)
        rw [r1]
        refine wp_lx (wp_ck ⟨by omega, by omega⟩ ?_)
        by_cases c0 : e.2.1 % 4 = 0
        · have hf : frn a.2.2 (e.1 - β) (e.2.1 / 4) = true := by
            cases hz : frn a.2.2 (e.1 - β) (e.2.1 / 4) with
            | true => rfl
            | false => exact absurd ⟨fun _ => hz, fun z => by omega⟩ hne
          have hadm : adm R (a.2.1 / 4) β a.2.2 (k + 1) s T = (2, s) := by
            rw [hadm0]
            show (if e.2.1 % 4 = 0 then (if frn a.2.2 (e.1 - β) (e.2.1 / 4) = true then (2, s) else _) else _) = _
            rw [if_pos c0, if_pos hf]
          rw [hadm]
          exact wp_t c0 (wp_some ⟨fy_rf, hc, Or.inl ⟨show ¬ (2 : Int) = 0 by decide, rfl⟩⟩)
        · have c2 : e.2.1 % 4 = 2 := by
            apply Decidable.byContradiction
            intro z
            exact hne ⟨fun w => absurd w c0, fun w => absurd w z⟩
          refine wp_f c0 ?_
          by_cases ch : e.2.1 / 4 = a.2.1 / 4
          · have hadm : adm R (a.2.1 / 4) β a.2.2 (k + 1) s T = (3, s) := by
              rw [hadm0]
              show (if e.2.1 % 4 = 0 then _ else if e.2.1 % 4 = 2 then (if e.2.1 / 4 = a.2.1 / 4 then (3, s) else _) else _) = _
              rw [if_neg c0, if_pos c2, if_pos ch]
            rw [hadm]
            exact wp_t ch (wp_some ⟨fy_rf, hc, Or.inl ⟨show ¬ (3 : Int) = 0 by decide, rfl⟩⟩)
          · have hadm : adm R (a.2.1 / 4) β a.2.2 (k + 1) s T = adm R (a.2.1 / 4) β a.2.2 (k - C3.length) (dr s a.2.2 (e.1 - β) e) (tN (dr s a.2.2 (e.1 - β) e).2.1 R T2) := by
              rw [hadm0]
              show (if e.2.1 % 4 = 0 then _ else if e.2.1 % 4 = 2 then (if e.2.1 / 4 = a.2.1 / 4 then (3, s) else _) else _) = _
              rw [if_neg c0, if_pos c2, if_neg ch]
            obtain ⟨q1, q2, q3⟩ := p1 c2
            have hΦe : s.2.1 (e.2.1 / 4) = none := by
              cases hz : s.2.1 (e.2.1 / 4) with
              | none => rfl
              | some F => exact absurd ⟨c2, F, hz⟩ hnoe
            have hpe := hoke.2.2.2.2.2.1 c2
            -- the state behind
            have hg' := dr_ok (x := a.2.2) (b := e.1 - β) hR hg hΦe hpe
            have hsx : sx2 s (dr s a.2.2 (e.1 - β) e) := sx2_dr hg.1 hΦe
            have hpsd : psd s (dr s a.2.2 (e.1 - β) e) (a.2.1 / 4) := psd_dr hg.1 (by omega)
            have hΦ' : (dr s a.2.2 (e.1 - β) e).2.1 (a.2.1 / 4) = none := dr_phi hΦ ch
            have hkne : ¬ (kix e.2.2.length (fun t => !frn a.2.2 (e.1 - β) (e.2.2.getD t 0))).length = e.2.2.length := by
              intro z
              have hall := dr_cln (s := s) (x := a.2.2) (b := e.1 - β) (e := e) (fun _ => True.intro) z
              exact hne ⟨fun w => absurd w c0, fun _ => ⟨ch, hall⟩⟩
            have hkl := kix_len e.2.2.length (fun t => !frn a.2.2 (e.1 - β) (e.2.2.getD t 0))
            have hkm : ∀ v ∈ kix e.2.2.length (fun t => !frn a.2.2 (e.1 - β) (e.2.2.getD t 0)), 0 ≤ v ∧ v ≤ 10 := fun v hv => by have := kix_mem hv; omega
            have hdr : dr s a.2.2 (e.1 - β) e = pas s (e.2.1 / 4) (kix e.2.2.length (fun t => !frn a.2.2 (e.1 - β) (e.2.2.getD t 0))) := if_neg hkne
            refine wp_f ch (wp_e (s_full hg hc) (wp_t rfl (wp_sq (s_f69 (fu := fu) (q := q) (r := r) (a := a) (e := e) (b := e.1 - β) (i := (il C2 : Int)) (h := a.2.1 / 4) (x5 := (il (C ++ T) : Int)) (by omega) hqr hhr ⟨q1, q2⟩ h4 p5 (by omega) (by omega) p6 (by omega) e.2.2.length 0 fu σ (by omega) (by omega) ha h58 q3 h74 r2 (fun k v hk => by rw [show kix 0 _ = [] from rfl] at hk; cases hk)) ?_)))
            rintro z σ15 ⟨rfl, x15, k15⟩
            have n81 : ∀ a, a ≠ 81 → ¬ jst 81 a := fun a h z => h z
            refine wp_sq (s_make (n := ((kix e.2.2.length (fun t => !frn a.2.2 (e.1 - β) (e.2.2.getD t 0))).length : Int)) hg.1 (by omega) (rSt_81 x15 hc)) ?_
            rintro g σ20 ⟨rfl, x20, c20⟩
            obtain ⟨n1, n2⟩ := sNew_g hg.1
            have hhn : e.2.1 / 4 ≠ 24 + s.2.2.2 := fun z => by rw [← z] at n1; omega
            have n5 : ∀ a, a ≠ 55 → (a < 58 ∨ 61 < a) → ¬ X5 a := fun a h1 h2 z => by unfold X5 at z; omega
            refine wp_sq (s_pass (h := e.2.1 / 4) (by omega) (sOk_new hg.1 (by omega) (by omega)) c20 hΦe (by show 0 ≤ up1 s.1 _ _ _; rw [up1_ne hhn]; omega) (by omega) (by omega) hkm (fun k v hk => by rw [fx_a x20.1 (n5 81 (by omega) (by omega))]; have := k15 k v hk; rw [Int.zero_add] at this; exact this)) ?_
            rintro - σ25 ⟨x25, c25'⟩
            have c25 : rSt σ25 told (dr s a.2.2 (e.1 - β) e) := by rw [hdr]; exact c25'
            have x25a : fy X81 σ σ25 := fy_tr (fy_tr (j81 x15) (X5_X81 x20)) (X5_X81 x25)
            have nX : ∀ a, a ≠ 55 → (a < 58 ∨ 61 < a) → a ≠ 81 → ¬ X81 a := fun a h1 h2 h3 z => by unfold X81 at z; omega
            have ho25 := rOp_fx x25a.1 (nX 56 (by omega) (by omega) (by omega)) (nX 57 (by omega) (by omega) (by omega)) ho
            have hlen' := psd_len hR hN hg' hsx hpsd hok hno
            have hokp := okR_pa hsx.2.1 hok
            have htN := tR_N hg'.1.2.1 R ht
            have hbn' := tR_bnd hb2 (lo := β) (hi := β) (fun z hz => by cases List.mem_singleton.mp hz; omega) htN
            refine wp_sq (s_write (O := O) (told := told) (N := N) (s := dr s a.2.2 (e.1 - β) e) (r := C ++ T) (S := [β]) (σ := σ25) (by omega) hfu hR hRf hb2 hg'.1 hg'.2.1 hN hN2 (rseg_fx x25a.1 (nX r (by omega) (by omega) (by omega)) hr) ht (fun f hf => by have := hbn' f hf; omega) ho25 c25.1 hokp (by unfold capr; omega)) ?_
            rintro z σ30 ⟨x30, rfl, r30⟩
            have n30 : ∀ a, a ≠ r → (a < 73 ∨ 75 < a) → ¬ XQ r a := fun a h1 h2 => XQ_lo h1 h2
            have c30 : rSt σ30 told (dr s a.2.2 (e.1 - β) e) := rSt_fx x30 (n30 55 (by omega) (by omega)) (fun a h1 h2 => n30 a (by omega) (by omega)) c25
            have ho30 := rOp_fx x30 (n30 56 (by omega) (by omega)) (n30 57 (by omega) (by omega)) ho25
            have ha30 : rho σ30 q a := rho_fx x30 (n30 q (by omega) (by omega)) (rho_fx x25a.1 (nX q (by omega) (by omega) (by omega)) ha)
            have hpx' : (a.2.2.length : Int) = (dr s a.2.2 (e.1 - β) e).1 (a.2.1 / 4) := by rw [hsx.2.1 _ (by omega)]; exact hpx
            have h5830 : σ30.2.1 58 (a.2.1 / 4) = (a.2.2.length : Int) := by rw [(c30.1 _ (by omega)).2.2.1]; exact hpx'.symm
            have hokN := okR_N hN hg'.1.1 R hokp
            have hilN := il_le (O := O) hg'.1.2.2.2.1 hokN
            have hpN : rpa σ30 (tN (dr s a.2.2 (e.1 - β) e).2.1 R (C ++ T)) := rpa_of hN2 ho30 c30.1 hg'.1.2.2.2.1 hokN (tR_opks htN) (fun f hf => by have := hbn' f hf; omega)
            refine wp_sq (s_hind (O := O) (a := a) (β := β) (T := tN (dr s a.2.2 (e.1 - β) e).2.1 R (C ++ T)) hqr hfu hb2 hhr h4 ha30 h5830 r30 htN (by omega) (by omega) ho30 hpN) ?_
            rintro y35 σ35 ⟨x35, d35, hy35⟩
            -- the row again, in two parts
            have hcut2 : C ++ T = (C2 ++ [e]) ++ T2 := by rw [hcut, List.append_assoc]; rfl
            have hsplit : tN (dr s a.2.2 (e.1 - β) e).2.1 R (C ++ T) = tN (dr s a.2.2 (e.1 - β) e).2.1 R (C2 ++ [e]) ++ tN (dr s a.2.2 (e.1 - β) e).2.1 R T2 := by rw [hcut2, tN_append]
            have hnoN := tN_nofg hR hg' (C ++ T)
            have hokC2 : okR s.1 N C2 := fun f hf => hok f (by rw [hcut]; exact List.mem_append_left _ hf)
            have hnoC2 : nof s.2.1 C2 := fun f hf => hno f (by rw [hcut]; exact List.mem_append_left _ hf)
            have hcl1 : ∀ f ∈ tN (dr s a.2.2 (e.1 - β) e).2.1 R C2, cln (a.2.1 / 4) β a.2.2 f := cln_N hN hpsd hg'.1.1 R (okR_pa hsx.2.1 hokC2) hnoC2 hC2
            have hcl2 : ∀ f ∈ tN (dr s a.2.2 (e.1 - β) e).2.1 R [e], cln (a.2.1 / 4) β a.2.2 f := by
              have h1 := adm_ok (O := O) (told := told) (h := a.2.1 / 4) (β := β) (x := a.2.2) hR hN 1 s [e] hg hΦ (by omega) (fun f hf => by cases List.mem_singleton.mp hf; exact hoke) (fun f hf => by cases List.mem_singleton.mp hf; exact hnoe) (Nat.le_refl _)
              have h2 : adm R (a.2.1 / 4) β a.2.2 1 s [e] = (0, dr s a.2.2 (e.1 - β) e) := by
                show (if e.2.1 % 4 = 0 then _ else if e.2.1 % 4 = 2 then (if e.2.1 / 4 = a.2.1 / 4 then (3, s) else adm R (a.2.1 / 4) β a.2.2 0 (dr s a.2.2 (e.1 - β) e) _) else _) = _
                rw [if_neg c0, if_pos c2, if_neg ch]
                rfl
              rw [h2] at h1
              exact h1.2.2.2.2 rfl
            have hClean : ∀ f ∈ tN (dr s a.2.2 (e.1 - β) e).2.1 R (C2 ++ [e]), cln (a.2.1 / 4) β a.2.2 f := by
              intro f hf
              rw [tN_append] at hf
              exact (List.mem_append.mp hf).elim (hcl1 f) (hcl2 f)
            have hlT2 : (tN (dr s a.2.2 (e.1 - β) e).2.1 R T2).length = T2.length := psd_len hR hN hg' hsx hpsd (fun f hf => hok f (by rw [hcut2]; exact List.mem_append_right _ hf)) (fun f hf => hno f (by rw [hcut2]; exact List.mem_append_right _ hf))
            have o1 : (tN (dr s a.2.2 (e.1 - β) e).2.1 R T2).length ≤ k - C3.length := by rw [hlT2]; clear hy35; omega
            have o2 : k - C3.length < n := by clear hy35; omega
            have o3 : k - C3.length < k + 1 := by clear hy35; omega
            have o5 : ¬ X74 q := fun z => by clear hy35; unfold X74 at z; omega
            have o4 : 0 ≤ (dr s a.2.2 (e.1 - β) e).1 (a.2.1 / 4) := by clear hy35; omega
            have n74 : ∀ a, a ≠ 74 → a ≠ 75 → ¬ X74 a := fun a h1 h2 z => z.elim h1 h2
            have hlAll : (tN (dr s a.2.2 (e.1 - β) e).2.1 R (C ++ T)).length ≤ 2500 := by omega
            have r35 := rseg_fx x35 (n74 r (by omega) (by omega)) r30
            have c35 : rSt σ35 told (dr s a.2.2 (e.1 - β) e) := rSt_fx x35 (n74 55 (by omega) (by omega)) (fun a h1 h2 => n74 a (by omega) (by omega)) c30
            rw [hsplit] at hnoN hokN htN hlAll hy35 d35 r35 ⊢
            have hA := adm_ok (O := O) (told := told) (h := a.2.1 / 4) (β := β) (x := a.2.2) (n := N) hR hN (k - C3.length) (dr s a.2.2 (e.1 - β) e) (tN (dr s a.2.2 (e.1 - β) e).2.1 R T2) hg' hΦ' o4 (fun f hf => hokN f (List.mem_append_right _ hf)) (fun f hf => hnoN f (List.mem_append_right _ hf)) o1
            have h9 := ih (k - C3.length) o3 n (dr s a.2.2 (e.1 - β) e) (tN (dr s a.2.2 (e.1 - β) e).2.1 R (C2 ++ [e])) (tN (dr s a.2.2 (e.1 - β) e).2.1 R T2) y35 σ35 o1 o2 hg' c35 hΦ' hpx' (rho_fx x35 o5 ha30) (rOp_fx x35 (n74 56 (by omega) (by omega)) (n74 57 (by omega) (by omega)) ho30) r35 d35 hClean hnoN hokN htN hlAll hy35
            have hcmp : tN (adm R (a.2.1 / 4) β a.2.2 (k - C3.length) (dr s a.2.2 (e.1 - β) e) (tN (dr s a.2.2 (e.1 - β) e).2.1 R T2)).2.2.1 R (tN (dr s a.2.2 (e.1 - β) e).2.1 R (C2 ++ [e]) ++ tN (dr s a.2.2 (e.1 - β) e).2.1 R T2) = tN (adm R (a.2.1 / 4) β a.2.2 (k - C3.length) (dr s a.2.2 (e.1 - β) e) (tN (dr s a.2.2 (e.1 - β) e).2.1 R T2)).2.2.1 R (C ++ T) := by
              rw [← hsplit]
              exact tN_cmp hR hA.1 hA.2.1.1 R (C ++ T)
            rw [hcmp] at h9
            rw [hadm]
            have xAll : fy (XL r) σ σ35 := fy_tr (fy_tr (fy_mono x25a (fun a z => by unfold X81 at z; unfold XL; omega)) (fy_of x30 (n30 55 (by clear hy35; omega) (by clear hy35; omega)) (fun a z => by unfold XQ at z; unfold XL; omega))) (fy_of x35 (n74 55 (by clear hy35; omega) (by clear hy35; omega)) (fun a z => by unfold X74 at z; unfold XL; omega))
            exact wp_mono h9 (fun z τ w => ⟨fy_tr xAll w.1, w.2⟩)
