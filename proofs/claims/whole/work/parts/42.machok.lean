/-! THE MACHINE KEEPS STATES GOOD -/
/-- a state goes on: fillings stay, holes stay, the filled ones come behind -/
def sx2 (s t : St) : Prop := xt s.2.1 t.2.1 ∧ (∀ g, 0 ≤ s.1 g → t.1 g = s.1 g) ∧ (∃ l, t.2.2.1 = s.2.2.1 ++ l) ∧ s.2.2.2 ≤ t.2.2.2
theorem sx2_rf {s : St} : sx2 s s := ⟨fun _ _ h => h, fun _ _ => rfl, ⟨[], by rw [List.append_nil]⟩, Int.le_refl _⟩
theorem sx2_tr {s t u : St} (h : sx2 s t) (k : sx2 t u) : sx2 s u := by
  obtain ⟨h1, h2, ⟨l, h3⟩, h4⟩ := h
  obtain ⟨k1, k2, ⟨m, k3⟩, k4⟩ := k
  exact ⟨fun g F q => k1 g F (h1 g F q), fun g q => by rw [k2 g (by rw [h2 g q]; exact q), h2 g q], ⟨l ++ m, by rw [k3, h3, List.append_assoc]⟩, Int.le_trans h4 k4⟩
theorem sx2_fil {s : St} {h : Int} {F : Row} (hΦ : s.2.1 h = none) : sx2 s (sFil s h F) := ⟨xt_fil hΦ, fun _ _ => rfl, ⟨[h], rfl⟩, Int.le_refl _⟩
theorem sx2_new {O : Op} {told n : Int} {s : St} (hs : sOk O told s) : sx2 s (sNew s n) := ⟨fun _ _ h => h, sNew_pa hs, ⟨[], by rw [List.append_nil]; rfl⟩, by show s.2.2.2 ≤ s.2.2.2 + 1; omega⟩
theorem sx2_pas {O : Op} {told : Int} {s : St} {h : Int} {K : List Int} (hs : sOk O told s) (hΦ : s.2.1 h = none) : sx2 s (pas s h K) := sx2_tr (sx2_new hs) (sx2_fil (s := sNew s K.length) hΦ)
theorem sx2_nw {O : Op} {told : Int} {s : St} {h : Int} {x y : List Int} (hs : sOk O told s) (hΦ : s.2.1 h = none) : sx2 s (nw s h x y) := by
  unfold nw
  split
  · exact sx2_rf
  · exact sx2_pas hs hΦ
theorem sx2_dr {O : Op} {told : Int} {s : St} {x : List Int} {b : Int} {e : AG} (hs : sOk O told s) (hΦ : s.2.1 (e.2.1 / 4) = none) : sx2 s (dr s x b e) := by
  unfold dr
  split
  · exact sx2_rf
  · exact sx2_pas hs hΦ
theorem pas_phi {s : St} {h g : Int} {K : List Int} (hg : g ≠ h) : (pas s h K).2.1 g = s.2.1 g := up1_ne hg
theorem pas_pa {s : St} {h g : Int} {K : List Int} (hg : g ≠ 24 + s.2.2.2) : (pas s h K).1 g = s.1 g := up1_ne hg
theorem jn_ok {O : Op} {told : Int} {R : Nat} {s : St} {h g : Int} {x y : List Int} (hR : 300 < R) (hg : gOk O told R s) (hΦ : s.2.1 h = none) (hx : (x.length : Int) = s.1 h) (hΨ : s.2.1 g = none) (hy : (y.length : Int) = s.1 g) (hgh : h ≠ g) (hxd : x.Nodup) : gOk O told R (jn s h x g y) ∧ sx2 s (jn s h x g y) := by
  have hs := hg.1
  have h8 := hs.2.2.2.2.2.2.2.1
  have hb := mOk_b h8 hg.2.1
  obtain ⟨n1, n2⟩ := sNew_g hs
  have hlen := kix_len x.length (fun i => decide (0 ≤ fnd y (x.getD i 0)))
  have hkm : ∀ v ∈ kix x.length (fun i => decide (0 ≤ fnd y (x.getD i 0))), 0 ≤ v ∧ v < s.1 h := fun v hv => by have := kix_mem hv; omega
  obtain ⟨p1, p2, p3, p4⟩ := pas_ok hR hg hΦ (by omega) hkm (kix_nodup _ _) (by omega)
  have hgn : g ≠ 24 + s.2.2.2 := fun z => by rw [z] at hy; omega
  have hhn : h ≠ 24 + s.2.2.2 := fun z => by rw [z] at hx; omega
  have q1 : (pas s h (kix x.length (fun i => decide (0 ≤ fnd y (x.getD i 0))))).2.1 g = none := by rw [pas_phi (fun z => hgh z.symm)]; exact hΨ
  have q2 : (pas s h (kix x.length (fun i => decide (0 ≤ fnd y (x.getD i 0))))).1 g = s.1 g := pas_pa hgn
  have q3 : (pas s h (kix x.length (fun i => decide (0 ≤ fnd y (x.getD i 0))))).2.1 (24 + s.2.2.2) = none := by rw [pas_phi (fun z => hhn z.symm)]; exact n2
  have q4 : (pas s h (kix x.length (fun i => decide (0 ≤ fnd y (x.getD i 0))))).1 (24 + s.2.2.2) = ((kix x.length (fun i => decide (0 ≤ fnd y (x.getD i 0)))).length : Int) := up1_same _ _ _
  have hmem : ∀ v ∈ (kix x.length (fun i => decide (0 ≤ fnd y (x.getD i 0)))).map (fun i => fnd y (x.getD i.toNat 0)), 0 ≤ v ∧ v < s.1 g := by
    intro v hv
    obtain ⟨i, hi, rfl⟩ := List.mem_map.mp hv
    have h1 := (kix_mem hi).2.2
    have h2 := fnd_lo y (x.getD i.toNat 0)
    rw [decide_eq_true_eq] at h1
    omega
  have hnd : ((kix x.length (fun i => decide (0 ≤ fnd y (x.getD i 0)))).map (fun i => fnd y (x.getD i.toNat 0))).Nodup := by
    refine List.pairwise_map.mpr ((kix_nodup x.length (fun i => decide (0 ≤ fnd y (x.getD i 0)))).imp_of_mem ?_)
    intro i j hi hj hij he
    apply hij
    have a1 := kix_mem hi
    have a2 := kix_mem hj
    have b1 := a1.2.2
    have b2 := a2.2.2
    rw [decide_eq_true_eq] at b1 b2
    have c1 := fnd_get b1
    have c2 := fnd_get b2
    rw [he] at c1
    rw [c1] at c2
    have c3 : tI x i = tI x j := Option.some.inj c2
    exact tI_inj hxd a1.1 (by omega) a2.1 (by omega) c3
  have hsf : sOk O told (jn s h x g y) := sOk_fil p2 q1 (by rw [q2]; omega) (by rw [q2]; exact okR_hRow (by omega) (by rw [q4, List.length_map]) hmem hnd) tR_hRow (opn_hRow q3 (fun z => hgn z.symm)) (Nat.le_of_ble_eq_true rfl)
  have hol : (pas s h (kix x.length (fun i => decide (0 ≤ fnd y (x.getD i 0))))).2.2.1.length = s.2.2.1.length + 1 := by
    show (s.2.2.1 ++ [h]).length = _
    rw [List.length_append]; rfl
  have hh := sOk_h hs (g := g) (by omega) (by omega)
  have hpot : pot (jn s h x g y).1 (jn s h x g y).2.1 = pot s.1 s.2.1 + ((kix x.length (fun i => decide (0 ≤ fnd y (x.getD i 0)))).length : Int) - s.1 h - (s.1 g + 1) := by
    show pot (pas s h _).1 (up1 (pas s h _).2.1 g (some _)) = _
    rw [pot_fil hh.1 hh.2 (by rw [q2]; omega) q1, p4, q2]
  refine ⟨⟨hsf, ⟨?_, ?_⟩, sz_pass p2 (by rw [hol]; omega) q1 q3 (fun z => hgn z.symm) hsf p3⟩, sx2_tr (sx2_pas hs hΦ) (sx2_fil q1)⟩
  · rw [hpot]
    show _ + (s.2.2.2 + 1) ≤ _
    have := hg.2.1.1
    omega
  · rw [hpot]
    have h1 := hg.2.1.2
    have h2 : (jn s h x g y).2.2.1.length = s.2.2.1.length + 2 := by
      show ((s.2.2.1 ++ [h]) ++ [g]).length = _
      rw [List.length_append, List.length_append]; rfl
    rw [h2]
    omega
/-! rows under more fillings -/
theorem gOk_lw {O : Op} {told : Int} {R : Nat} {s : St} (hR : 300 < R) (hg : gOk O told R s) : ∃ rk, rkd s.2.1 rk ∧ ∀ h, rk h < R := by
  obtain ⟨rk, h1, h2⟩ := hg.1.2.2.1
  refine ⟨rk, h1, fun h => ?_⟩
  have := mOk_b hg.1.2.2.2.2.2.2.2.1 hg.2.1
  have := h2 h
  omega
theorem tN_nofg {O : Op} {told : Int} {R : Nat} {s : St} (hR : 300 < R) (hg : gOk O told R s) (r : Row) : nof s.2.1 (tN s.2.1 R r) := by
  obtain ⟨rk, h1, h2⟩ := gOk_lw hR hg
  exact tN_done h1 R (fun e _ _ => h2 _)
theorem tN_cmp {O : Op} {told : Int} {R : Nat} {s t : St} (hR : 300 < R) (hg : gOk O told R t) (hx : xt s.2.1 t.2.1) (k : Nat) (r : Row) : tN t.2.1 R (tN s.2.1 k r) = tN t.2.1 R r := by
  obtain ⟨rk, h1, h2⟩ := gOk_lw hR hg
  exact tN_comp hx h1 k (fun e _ _ => h2 _)
/-! admitting a term -/
/-- nothing at a group hinders -/
def cln (h β : Int) (x : List Int) (e : AG) : Prop := (e.2.1 % 4 = 0 → frn x (e.1 - β) (e.2.1 / 4) = false) ∧ (e.2.1 % 4 = 2 → e.2.1 / 4 ≠ h ∧ ∀ v ∈ e.2.2, frn x (e.1 - β) v = false)
/-- all that was filled since s passes on to holes that s has open, none of them h -/
def psd (s t : St) (h : Int) : Prop := ∀ g F, t.2.1 g = some F → s.2.1 g = some F ∨ ∃ g' K, F = hRow g' K ∧ s.2.1 g' = none ∧ g' ≠ h
theorem cln_E {pa : Int → Int} {s t : St} {h β : Int} {x : List Int} {n : Int} (hp : psd s t h) (hF : okF pa t.2.1) {q : Row} (hq : okR pa n q) (hn : nof s.2.1 q) (hc : ∀ e ∈ q, cln h β x e) : nof s.2.1 (tE t.2.1 q) ∧ ∀ e ∈ tE t.2.1 q, cln h β x e := by
  have key : ∀ e ∈ q, nof s.2.1 (tX t.2.1 e) ∧ ∀ f ∈ tX t.2.1 e, cln h β x f := by
    intro e he
    by_cases c : isF t.2.1 e
    · obtain ⟨c1, F, hF1⟩ := c
      rcases hp _ _ hF1 with z | ⟨g', K, rfl, z1, z2⟩
      · exact absurd ⟨c1, F, z⟩ (hn e he)
      · have ho := hF _ _ hF1 (0, 4 * g' + 2, K) (List.mem_singleton.mpr rfl)
        have hoe := hq e he
        have e0 : tX t.2.1 e = [tS e.1 (tI e.2.2) (0, 4 * g' + 2, K)] := by
          unfold tX
          rw [if_pos c1, hF1]
          rfl
        rw [e0]
        have hnum : (tS e.1 (tI e.2.2) (0, 4 * g' + 2, K)).2.1 = 4 * g' + 2 := tS_num (by show (4 * g' + 2) % 4 ≠ 0; omega)
        refine ⟨fun f hf hi => ?_, fun f hf => ?_⟩
        · cases List.mem_singleton.mp hf
          obtain ⟨-, E, hE⟩ := hi
          rw [hnum, show (4 * g' + 2) / 4 = g' by omega, z1] at hE
          cases hE
        · cases List.mem_singleton.mp hf
          refine ⟨fun z => ?_, fun _ => ⟨?_, fun v hv => ?_⟩⟩
          · rw [hnum] at z; omega
          · rw [hnum, show (4 * g' + 2) / 4 = g' by omega]; exact z2
          · obtain ⟨w, hw, rfl⟩ := List.mem_map.mp (show v ∈ K.map (tV (tI e.2.2) 0) from hv)
            have hw2 : 0 ≤ w ∧ w < 0 + pa (e.2.1 / 4) := ho.2.2.2.2.1 w hw
            have hl := hoe.2.2.2.2.2.1 c1
            rw [tV_ge hw2.1, show w - 0 = w by omega]
            have h5 := (hc e he).2 c1 |>.2 _ (tI_mem (vs := e.2.2) hw2.1 (by omega))
            show frn x (e.1 + 0 - β) (tI e.2.2 w + 0) = false
            rw [show e.1 + 0 - β = e.1 - β by omega, Int.add_zero]
            exact h5
    · rw [tX_nof c]
      refine ⟨fun f hf => ?_, fun f hf => ?_⟩
      · cases List.mem_singleton.mp hf; exact hn e he
      · cases List.mem_singleton.mp hf; exact hc e he
  refine ⟨fun f hf => ?_, fun f hf => ?_⟩
  · obtain ⟨e, he, hf⟩ := List.mem_flatMap.mp hf; exact (key e he).1 f hf
  · obtain ⟨e, he, hf⟩ := List.mem_flatMap.mp hf; exact (key e he).2 f hf
theorem cln_N {pa : Int → Int} {s t : St} {h β : Int} {x : List Int} {n : Int} (hn0 : 0 ≤ n) (hp : psd s t h) (hF : okF pa t.2.1) : ∀ (k : Nat) {q : Row}, okR pa n q → nof s.2.1 q → (∀ e ∈ q, cln h β x e) → ∀ e ∈ tN t.2.1 k q, cln h β x e := by
  intro k
  induction k with
  | zero => intro q _ _ hc; exact hc
  | succ k ih =>
    intro q hq hn hc
    have h1 := cln_E hp hF hq hn hc
    exact ih (okR_E hn0 hF hq) h1.1 h1.2
theorem psd_rf {s : St} {h : Int} : psd s s h := fun _ _ q => Or.inl q
theorem psd_tr {s t u : St} {h : Int} (hx : xt s.2.1 t.2.1) (k1 : psd s t h) (k2 : psd t u h) : psd s u h := by
  intro g F hF
  rcases k2 g F hF with q | ⟨g', K, q1, q2, q3⟩
  · exact k1 g F q
  · refine Or.inr ⟨g', K, q1, ?_, q3⟩
    cases hq : s.2.1 g' with
    | none => rfl
    | some G => rw [hx _ _ hq] at q2; cases q2
theorem psd_dr {O : Op} {told : Int} {s : St} {x : List Int} {b h : Int} {e : AG} (hs : sOk O told s) (hh : 0 ≤ s.1 h) : psd s (dr s x b e) h := by
  unfold dr
  split
  · exact psd_rf
  · intro g F hF
    have hF' : up1 s.2.1 (e.2.1 / 4) (some _) g = some F := hF
    by_cases c : g = e.2.1 / 4
    · rw [c, up1_same] at hF'
      obtain ⟨n1, n2⟩ := sNew_g hs
      exact Or.inr ⟨_, _, (Option.some.inj hF').symm, n2, fun z => by rw [← z] at hh; omega⟩
    · rw [up1_ne c] at hF'; exact Or.inl hF'
theorem dr_cln {s : St} {x : List Int} {b : Int} {e : AG} (h : dr s x b e = s → True) (hf : (kix e.2.2.length (fun i => !frn x b (e.2.2.getD i 0))).length = e.2.2.length) : ∀ v ∈ e.2.2, frn x b v = false := by
  intro v hv
  obtain ⟨i, hi, rfl⟩ := List.getElem_of_mem hv
  have h1 := kix_full hf i hi
  rw [List.getD_eq_getElem?_getD, List.getElem?_eq_getElem hi] at h1
  have h2 : (!frn x b e.2.2[i]) = true := h1
  rw [Bool.not_eq_true'] at h2
  exact h2
/-- what admitting gives -/
theorem adm_ok {O : Op} {told : Int} {R : Nat} {h β : Int} {x : List Int} {n : Int} (hR : 300 < R) (hn0 : 0 ≤ n) : ∀ (k : Nat) (s : St) (T : Row), gOk O told R s → s.2.1 h = none → 0 ≤ s.1 h → okR s.1 n T → nof s.2.1 T → T.length ≤ k →
    gOk O told R (adm R h β x k s T).2 ∧ sx2 s (adm R h β x k s T).2 ∧ (adm R h β x k s T).2.2.1 h = none ∧ psd s (adm R h β x k s T).2 h ∧ ((adm R h β x k s T).1 = 0 → ∀ e ∈ tN (adm R h β x k s T).2.2.1 R T, cln h β x e) := by
  intro k
  induction k with
  | zero =>
    intro s T hg hh hp hT hno hl
    refine ⟨hg, sx2_rf, hh, psd_rf, fun _ e he => ?_⟩
    rw [List.length_eq_zero_iff.mp (by omega : T.length = 0), tN_nil] at he
    cases he
  | succ k ih =>
    intro s T hg hh hp hT hno hl
    cases T with
    | nil => exact ⟨hg, sx2_rf, hh, psd_rf, fun _ e he => by rw [tN_nil] at he; cases he⟩
    | cons e T =>
      have hT' : okR s.1 n T := fun z hz => hT z (List.mem_cons_of_mem _ hz)
      have hno' : nof s.2.1 T := fun z hz => hno z (List.mem_cons_of_mem _ hz)
      have hl' : T.length ≤ k := by rw [List.length_cons] at hl; omega
      have hoe := hT e List.mem_cons_self
      have lift : ∀ t : St, gOk O told R t → sx2 s t → psd s t h → cln h β x e → (∀ z ∈ tN t.2.1 R T, cln h β x z) → ∀ z ∈ tN t.2.1 R (e :: T), cln h β x z := by
        intro t gt xt1 pt ce ct z hz
        rw [tN_cons] at hz
        rcases List.mem_append.mp hz with q | q
        · have hoe' : okR t.1 n [e] := fun w hw => by cases List.mem_singleton.mp hw; exact okG_pa xt1.2.1 hoe
          exact cln_N hn0 pt gt.1.1 R hoe' (fun w hw => by cases List.mem_singleton.mp hw; exact hno e List.mem_cons_self) (fun w hw => by cases List.mem_singleton.mp hw; exact ce) z q
        · exact ct z q
      unfold adm
      by_cases c0 : e.2.1 % 4 = 0
      · rw [if_pos c0]
        by_cases c1 : frn x (e.1 - β) (e.2.1 / 4) = true
        · rw [if_pos c1]
          exact ⟨hg, sx2_rf, hh, psd_rf, fun z => absurd (show (2 : Int) = 0 from z) (by decide)⟩
        · rw [if_neg c1]
          obtain ⟨i1, i2, i3, i4, i5⟩ := ih s T hg hh hp hT' hno' hl'
          exact ⟨i1, i2, i3, i4, fun z => lift _ i1 i2 i4 ⟨fun _ => by simpa using c1, fun q => by omega⟩ (i5 z)⟩
      · rw [if_neg c0]
        by_cases c2 : e.2.1 % 4 = 2
        · rw [if_pos c2]
          by_cases c3 : e.2.1 / 4 = h
          · rw [if_pos c3]
            exact ⟨hg, sx2_rf, hh, psd_rf, fun z => absurd (show (3 : Int) = 0 from z) (by decide)⟩
          · rw [if_neg c3]
            have ho : s.2.1 (e.2.1 / 4) = none := by
              cases hq : s.2.1 (e.2.1 / 4) with
              | none => rfl
              | some F => exact absurd ⟨c2, F, hq⟩ (hno e List.mem_cons_self)
            have hlen := hoe.2.2.2.2.2.1 c2
            have d1 := dr_ok (x := x) (b := e.1 - β) hR hg ho hlen
            have d2 := sx2_dr (x := x) (b := e.1 - β) hg.1 ho
            have d3 := psd_dr (x := x) (b := e.1 - β) (e := e) (h := h) hg.1 hp
            have d4 : (dr s x (e.1 - β) e).2.1 h = none := by
              unfold dr
              split
              · exact hh
              · rw [pas_phi (fun z => c3 z.symm)]; exact hh
            have d5 : 0 ≤ (dr s x (e.1 - β) e).1 h := by rw [d2.2.1 h hp]; exact hp
            have hTd : okR (dr s x (e.1 - β) e).1 n (tN (dr s x (e.1 - β) e).2.1 R T) := okR_N hn0 d1.1.1 R (okR_pa d2.2.1 hT')
            have hlT : (tN (dr s x (e.1 - β) e).2.1 R T).length = T.length := by
              unfold dr
              split
              · rw [tN_nof R hno']
              · obtain ⟨R', rfl⟩ := mx_R hR
                refine len_pass ?_ hno'
                obtain ⟨n1, n2⟩ := sNew_g hg.1
                rw [up1_ne (fun z => by rw [← z] at hlen; omega)]
                exact n2
            obtain ⟨i1, i2, i3, i4, i5⟩ := ih (dr s x (e.1 - β) e) (tN (dr s x (e.1 - β) e).2.1 R T) d1 d4 d5 hTd (tN_nofg hR d1 T) (by omega)
            refine ⟨i1, sx2_tr d2 i2, i3, psd_tr d2.1 d3 i4, fun z => ?_⟩
            have i6 := i5 z
            rw [tN_cmp hR i1 i2.1] at i6
            intro w hw
            rw [tN_cons] at hw
            rcases List.mem_append.mp hw with q | q
            · -- the group itself, behind dropping
              have e9 : tN (adm R h β x k (dr s x (e.1 - β) e) (tN (dr s x (e.1 - β) e).2.1 R T)).2.2.1 R [e] = tN (adm R h β x k (dr s x (e.1 - β) e) (tN (dr s x (e.1 - β) e).2.1 R T)).2.2.1 R (tN (dr s x (e.1 - β) e).2.1 R [e]) := (tN_cmp hR i1 i2.1 R [e]).symm
              rw [e9] at q
              have hoe2 : okR (dr s x (e.1 - β) e).1 n [e] := fun w hw => by cases List.mem_singleton.mp hw; exact okG_pa d2.2.1 hoe
              have hok9 : okR (adm R h β x k (dr s x (e.1 - β) e) (tN (dr s x (e.1 - β) e).2.1 R T)).2.1 n (tN (dr s x (e.1 - β) e).2.1 R [e]) := okR_pa i2.2.1 (okR_N hn0 d1.1.1 R hoe2)
              refine cln_N hn0 i4 i1.1.1 R hok9 (tN_nofg hR d1 [e]) ?_ w q
              -- the groups that stand for it
              intro f hf
              by_cases cf : (kix e.2.2.length (fun i => !frn x (e.1 - β) (e.2.2.getD i 0))).length = e.2.2.length
              · have es : dr s x (e.1 - β) e = s := by unfold dr; rw [if_pos cf]
                rw [es, tN_open (hno e List.mem_cons_self)] at hf
                cases List.mem_singleton.mp hf
                exact ⟨fun z => by omega, fun _ => ⟨c3, dr_cln (s := s) (fun _ => True.intro) cf⟩⟩
              · have es : dr s x (e.1 - β) e = pas s (e.2.1 / 4) (kix e.2.2.length (fun i => !frn x (e.1 - β) (e.2.2.getD i 0))) := by unfold dr; rw [if_neg cf]
                have hx : tX (dr s x (e.1 - β) e).2.1 e = [tS e.1 (tI e.2.2) (0, 4 * (24 + s.2.2.2) + 2, kix e.2.2.length (fun i => !frn x (e.1 - β) (e.2.2.getD i 0)))] := by
                  unfold tX
                  rw [if_pos c2, es]
                  show (match up1 s.2.1 (e.2.1 / 4) (some _) (e.2.1 / 4) with | some F => _ | none => _) = _
                  rw [up1_same]
                  rfl
                have hno9 : nof (dr s x (e.1 - β) e).2.1 (tX (dr s x (e.1 - β) e).2.1 e) := by
                  rw [hx]
                  intro w hw hi
                  cases List.mem_singleton.mp hw
                  obtain ⟨-, E, hE⟩ := hi
                  obtain ⟨n1, n2⟩ := sNew_g hg.1
                  rw [tS_num (by show (4 * (24 + s.2.2.2) + 2) % 4 ≠ 0; omega)] at hE
                  have hE' : (dr s x (e.1 - β) e).2.1 ((4 * (24 + s.2.2.2) + 2) / 4) = some E := hE
                  rw [show (4 * (24 + s.2.2.2) + 2) / 4 = 24 + s.2.2.2 by omega, es, pas_phi (fun z => by rw [← z] at hlen; omega), n2] at hE'
                  cases hE'
                have e10 : tN (dr s x (e.1 - β) e).2.1 R [e] = tX (dr s x (e.1 - β) e).2.1 e := by
                  obtain ⟨R', rfl⟩ := mx_R hR
                  show tN _ R' (tE _ [e]) = _
                  have : tE (dr s x (e.1 - β) e).2.1 [e] = tX (dr s x (e.1 - β) e).2.1 e := by
                    unfold tE
                    rw [List.flatMap_cons, List.flatMap_nil, List.append_nil]
                  rw [this, tN_nof R' hno9]
                rw [e10, hx] at hf
                cases List.mem_singleton.mp hf
                have hnum : (tS e.1 (tI e.2.2) (0, 4 * (24 + s.2.2.2) + 2, kix e.2.2.length (fun i => !frn x (e.1 - β) (e.2.2.getD i 0)))).2.1 = 4 * (24 + s.2.2.2) + 2 := tS_num (by show (4 * (24 + s.2.2.2) + 2) % 4 ≠ 0; omega)
                refine ⟨fun z => by rw [hnum] at z; omega, fun _ => ⟨?_, fun v hv => ?_⟩⟩
                · rw [hnum, show (4 * (24 + s.2.2.2) + 2) / 4 = 24 + s.2.2.2 by omega]
                  intro z
                  have := (sNew_g hg.1).1
                  rw [z] at this
                  omega
                · obtain ⟨w, hw, rfl⟩ := List.mem_map.mp (show v ∈ (kix e.2.2.length (fun i => !frn x (e.1 - β) (e.2.2.getD i 0))).map (tV (tI e.2.2) 0) from hv)
                  have h1 := kix_mem hw
                  have h2 := h1.2.2
                  rw [Bool.not_eq_true'] at h2
                  rw [tV_ge h1.1, show w - 0 = w by omega]
                  show frn x (e.1 + 0 - β) (tI e.2.2 w + 0) = false
                  rw [show e.1 + 0 - β = e.1 - β by omega, Int.add_zero]
                  exact h2
            · exact i6 w q
        · rw [if_neg c2]
          obtain ⟨i1, i2, i3, i4, i5⟩ := ih s T hg hh hp hT' hno' hl'
          exact ⟨i1, i2, i3, i4, fun z => lift _ i1 i2 i4 ⟨fun q => absurd q c0, fun q => absurd q c2⟩ (i5 z)⟩
/-! the filling itself -/
theorem frn_no {x : List Int} {b v : Int} (h : frn x b v = false) (hv : b ≤ v) : 0 ≤ fnd x (v - b) := by
  unfold frn at h
  rw [decide_eq_false_iff_not] at h
  omega
theorem tP_ins (O : Op) (β : Int) (x : List Int) (e : AG) : tP O (ins β x e) = (tP O e).map (fun z => z - β) := by
  have hc : (ins β x e).2.1 % 4 = e.2.1 % 4 := by
    unfold ins
    dsimp only
    split <;> omega
  unfold tP
  rw [hc]
  split
  · rename_i c
    have hn : (ins β x e).2.1 = e.2.1 := by
      unfold ins
      dsimp only
      rw [if_neg (by omega)]
    rw [hn, List.map_map]
    refine List.map_congr_left (fun i _ => ?_)
    show e.1 - β + _ = (e.1 + _) - β
    omega
  · rfl
theorem opk_ins {O : Op} {β : Int} {x : List Int} {e : AG} (h : opk O e) : opk O (ins β x e) := by
  have hc : (ins β x e).2.1 % 4 = e.2.1 % 4 := by
    unfold ins
    dsimp only
    split <;> omega
  by_cases c : e.2.1 % 4 = 1
  · have hn : (ins β x e).2.1 = e.2.1 := by unfold ins; dsimp only; rw [if_neg (by omega)]
    rw [show opk O (ins β x e) = (((ins β x e).2.1 % 4 ≠ 1) ∨ 0 ≤ O.1 ((ins β x e).2.1 / 4)) from rfl, hn]
    exact h
  · exact Or.inl (by rw [hc]; exact c)
theorem tR_ins {O : Op} {β : Int} {x : List Int} : ∀ {r : Row} {S S' : List Int}, tR O r S = some S' → tR O (r.map (ins β x)) (S.map (fun z => z - β)) = some (S'.map (fun z => z - β)) := by
  intro r
  induction r with
  | nil => intro S S' h; cases h; rfl
  | cons e r ih =>
    intro S S' h
    obtain ⟨U, rfl, h2⟩ := tR_inv h
    show tR O (ins β x e :: r.map (ins β x)) ((ins β x e).1 :: U.map (fun z => z - β)) = _
    rw [tR_cons (opk_ins (tR_opk h)), tP_ins, ← List.map_append]
    exact ih h2
/-- what an argument binds: none to two -/
def bd2 (O : Op) : Prop := ∀ f i, 0 ≤ O.2 f i ∧ O.2 f i ≤ 2
theorem tP_lo {O : Op} (hb : bd2 O) {e : AG} {z : Int} (hz : z ∈ tP O e) : e.1 ≤ z ∧ z ≤ e.1 + 2 := by
  unfold tP at hz
  split at hz
  · obtain ⟨i, -, rfl⟩ := List.mem_map.mp hz
    have := hb (e.2.1 / 4) i
    omega
  · cases hz
theorem tR_bnd {O : Op} (hb : bd2 O) : ∀ {r : Row} {S S' : List Int} {lo hi : Int}, (∀ z ∈ S, lo ≤ z ∧ z ≤ hi) → tR O r S = some S' → ∀ e ∈ r, lo ≤ e.1 ∧ e.1 ≤ hi + 2 * r.length := by
  intro r
  induction r with
  | nil => intro S S' lo hi _ _ e he; cases he
  | cons f r ih =>
    intro S S' lo hi hS h e he
    obtain ⟨U, rfl, h2⟩ := tR_inv h
    have hf := hS f.1 List.mem_cons_self
    rw [List.length_cons]
    rcases List.mem_cons.mp he with rfl | he
    · omega
    · have := ih (lo := lo) (hi := hi + 2) (fun z hz => ?_) h2 e he
      · omega
      · rcases List.mem_append.mp hz with q | q
        · have := tP_lo hb q
          omega
        · have := hS z (List.mem_cons_of_mem _ q)
          omega
theorem okG_ins {pa : Int → Int} {n h β : Int} {x : List Int} {e : AG} (he : okG pa n e) (hc : cln h β x e) (hb : β ≤ e.1) : okG pa (x.length : Int) (ins β x e) := by
  obtain ⟨b, c, vs⟩ := e
  obtain ⟨h1, h2, h3, h4, h5, h6, h7, h8⟩ := he
  obtain ⟨c1, c2⟩ := hc
  dsimp only at h1 h2 h3 h4 h5 h6 h7 h8 c1 c2 hb
  have key : ∀ v, 0 ≤ v → frn x (b - β) v = false → 0 ≤ vin x (b - β) v ∧ vin x (b - β) v < b - β + x.length := by
    intro v hv hf
    unfold vin
    split
    · omega
    · have := frn_no hf (by omega)
      have := fnd_lo x (v - (b - β))
      omega
  have hcode : (ins β x (b, c, vs)).2.1 % 4 = c % 4 := by
    unfold ins
    dsimp only
    split <;> omega
  refine ⟨by show 0 ≤ b - β; omega, ?_, by rw [hcode]; exact h3, ?_, ?_, ?_, ?_, ?_⟩
  · show 0 ≤ (if c % 4 = 0 then 4 * vin x (b - β) (c / 4) else c)
    split
    · rename_i q
      have := key (c / 4) (by omega) (c1 q)
      omega
    · exact h2
  · rw [hcode]
    intro q
    show (if c % 4 = 0 then 4 * vin x (b - β) (c / 4) else c) / 4 < b - β + x.length
    rw [if_pos q]
    have := key (c / 4) (by omega) (c1 q)
    omega
  · intro v hv
    obtain ⟨w, hw, rfl⟩ := List.mem_map.mp (show v ∈ vs.map (vin x (b - β)) from hv)
    by_cases q : c % 4 = 2
    · exact key w (h5 w hw).1 ((c2 q).2 w hw)
    · rw [h7 q] at hw; cases hw
  · rw [hcode]
    intro q
    have hn : (ins β x (b, c, vs)).2.1 = c := by unfold ins; dsimp only; rw [if_neg (by omega)]
    rw [hn]
    show ((vs.map (vin x (b - β))).length : Int) = pa (c / 4)
    rw [List.length_map]
    exact h6 q
  · rw [hcode]
    intro q
    show vs.map (vin x (b - β)) = []
    rw [h7 q]
    rfl
  · show (vs.map (vin x (b - β))).Nodup
    by_cases q : c % 4 = 2
    · refine List.pairwise_map.mpr (h8.imp_of_mem ?_)
      intro y z hy hz hyz heq
      apply hyz
      have fy := (c2 q).2 y hy
      have fz := (c2 q).2 z hz
      unfold vin at heq
      split at heq
      · split at heq
        · exact heq
        · have := frn_no fz (by omega)
          omega
      · split at heq
        · have := frn_no fy (by omega)
          omega
        · have g1 := fnd_get (frn_no fy (by omega))
          have g2 := fnd_get (frn_no fz (by omega))
          rw [show fnd x (y - (b - β)) = fnd x (z - (b - β)) by omega, g2] at g1
          have := Option.some.inj g1
          omega
    · rw [h7 q]; exact List.nodup_nil
theorem big_no {R : Nat} {O : Op} {told : Int} {s : St} (hs : sOk O told s) (h : ¬ big R s = true) : sz80 s.2.1 R := by
  intro g F hF
  apply Decidable.byContradiction
  intro z
  apply h
  unfold big
  rw [List.any_eq_true]
  refine ⟨g, (hs.2.2.2.2.2.1 g).mp ⟨F, hF⟩, ?_⟩
  rw [hF]
  show decide (80 < (tN s.2.1 R F).length) = true
  rw [decide_eq_true_eq]
  omega
/-- the machine's filling: good, but for sizes where it says 4 -/
theorem flt_ok {O : Op} {told : Int} {R : Nat} {h β n : Int} {x : List Int} {s : St} {T : Row} (hR : 300 < R) (hn0 : 0 ≤ n) (hb2 : bd2 O) (hg : gOk O told R s) (hh : s.2.1 h = none) (hx : (x.length : Int) = s.1 h) (hT : okR s.1 n T) (hno : nof s.2.1 T) (hw : tR O T [β] = some []) :
    sOk O told (flt R h β x s T).2 ∧ mOk told (flt R h β x s T).2 ∧ sx2 s (flt R h β x s T).2 ∧ ((flt R h β x s T).1 = 0 → sz80 (flt R h β x s T).2.2.1 R) := by
  obtain ⟨a1, a2, a3, a4, a5⟩ := adm_ok (β := β) (x := x) hR hn0 T.length s T hg hh (by omega) hT hno (Nat.le_refl _)
  unfold flt
  by_cases c : (adm R h β x T.length s T).1 = 0
  · rw [if_pos c]
    by_cases c2 : 80 < T.length
    · rw [if_pos c2]
      exact ⟨a1.1, a1.2.1, a2, fun z => absurd (show (4 : Int) = 0 from z) (by decide)⟩
    · rw [if_neg c2]
      have hw2 := tR_N a1.1.2.1 R hw
      have hokT : okR (adm R h β x T.length s T).2.1 n (tN (adm R h β x T.length s T).2.2.1 R T) := okR_N hn0 a1.1.1 R (okR_pa a2.2.1 hT)
      have hbn := tR_bnd hb2 (lo := β) (hi := β) (fun z hz => by cases List.mem_singleton.mp hz; omega) hw2
      have hpa : (adm R h β x T.length s T).2.1 h = (x.length : Int) := by rw [a2.2.1 h (by omega)]; exact hx.symm
      have hlenT : (tN (adm R h β x T.length s T).2.2.1 R T).length = T.length := by
        have key : ∀ (k : Nat) (s : St) (T : Row), gOk O told R s → s.2.1 h = none → 0 ≤ s.1 h → okR s.1 n T → nof s.2.1 T → T.length ≤ k → (tN (adm R h β x k s T).2.2.1 R T).length = T.length := by
          intro k
          induction k with
          | zero =>
            intro s T _ _ _ _ hno _
            show (tN s.2.1 R T).length = _
            rw [tN_nof R hno]
          | succ k ih =>
            intro s T hg hh hp hT hno hl
            cases T with
            | nil => show (tN s.2.1 R []).length = _; rw [tN_nil]
            | cons e T =>
              have hT' : okR s.1 n T := fun z hz => hT z (List.mem_cons_of_mem _ hz)
              have hno' : nof s.2.1 T := fun z hz => hno z (List.mem_cons_of_mem _ hz)
              have hl' : T.length ≤ k := by rw [List.length_cons] at hl; omega
              have hoe := hT e List.mem_cons_self
              obtain ⟨b1, b2, b3, b4, -⟩ := adm_ok (β := β) (x := x) hR hn0 (k + 1) s (e :: T) hg hh hp hT hno hl
              -- one group stays one group
              have one : ∀ (t : St), gOk O told R t → sx2 s t → psd s t h → ∀ (j : Nat) (f : AG), okG t.1 n f → ¬ isF s.2.1 f → (tN t.2.1 j [f]).length = 1 := by
                intro t gt xt1 pt j
                induction j with
                | zero => intro f _ _; rfl
                | succ j ihj =>
                  intro f hf hfo
                  by_cases cf : isF t.2.1 f
                  · obtain ⟨f1, F, hF⟩ := cf
                    rcases pt _ _ hF with z | ⟨g', K, rfl, z1, z2⟩
                    · exact absurd ⟨f1, F, z⟩ hfo
                    · have e0 : tE t.2.1 [f] = [tS f.1 (tI f.2.2) (0, 4 * g' + 2, K)] := by
                        unfold tE tX
                        rw [List.flatMap_cons, List.flatMap_nil, List.append_nil, if_pos f1, hF]
                        rfl
                      show (tN t.2.1 j (tE t.2.1 [f])).length = 1
                      rw [e0]
                      refine ihj _ ?_ ?_
                      · have := okR_E hn0 gt.1.1 (r := [f]) (fun w hw => by cases List.mem_singleton.mp hw; exact hf)
                        rw [e0] at this
                        exact this _ (List.mem_singleton.mpr rfl)
                      · intro hi
                        obtain ⟨-, E, hE⟩ := hi
                        rw [tS_num (by show (4 * g' + 2) % 4 ≠ 0; omega)] at hE
                        have hE' : s.2.1 ((4 * g' + 2) / 4) = some E := hE
                        rw [show (4 * g' + 2) / 4 = g' by omega, z1] at hE'
                        cases hE'
                  · rw [tN_open cf]; rfl
              have h1 := one _ b1 b2 b4 R e (okG_pa b2.2.1 hoe) (hno e List.mem_cons_self)
              rw [tN_cons, List.length_append, h1, List.length_cons]
              -- the rest
              have rest : (tN (adm R h β x (k + 1) s (e :: T)).2.2.1 R T).length = T.length := by
                have hne : ∀ f ∈ T, (tN (adm R h β x (k + 1) s (e :: T)).2.2.1 R [f]).length = 1 := fun f hf => one _ b1 b2 b4 R f (okG_pa b2.2.1 (hT' f hf)) (hno' f hf)
                have sum : ∀ q : Row, (∀ f ∈ q, (tN (adm R h β x (k + 1) s (e :: T)).2.2.1 R [f]).length = 1) → (tN (adm R h β x (k + 1) s (e :: T)).2.2.1 R q).length = q.length := by
                  intro q
                  induction q with
                  | nil => intro _; rw [tN_nil]
                  | cons a q ihq =>
                    intro hq
                    rw [tN_cons, List.length_append, hq a List.mem_cons_self, ihq (fun f hf => hq f (List.mem_cons_of_mem _ hf)), List.length_cons]
                    omega
                exact sum T hne
              rw [rest]
              omega
        exact key T.length s T hg hh (by omega) hT hno (Nat.le_refl _)
      have hF : okR (adm R h β x T.length s T).2.1 ((adm R h β x T.length s T).2.1 h) ((tN (adm R h β x T.length s T).2.2.1 R T).map (ins β x)) := by
        rw [hpa]
        intro f hf
        obtain ⟨e, he, rfl⟩ := List.mem_map.mp hf
        exact okG_ins (hokT e he) (a5 c e he) (hbn e he).1
      have hwF : tR O ((tN (adm R h β x T.length s T).2.2.1 R T).map (ins β x)) [0] = some [] := by
        have := tR_ins (β := β) (x := x) hw2
        rw [show List.map (fun z => z - β) [β] = [0] by show [β - β] = [0]; rw [Int.sub_self]] at this
        exact this
      have hoF : opn (adm R h β x T.length s T).2.2.1 h ((tN (adm R h β x T.length s T).2.2.1 R T).map (ins β x)) := by
        intro f hf hf2
        obtain ⟨e, he, rfl⟩ := List.mem_map.mp hf
        have hcode : (ins β x e).2.1 % 4 = e.2.1 % 4 := by
          unfold ins
          dsimp only
          split <;> omega
        rw [hcode] at hf2
        have hn : (ins β x e).2.1 = e.2.1 := by unfold ins; dsimp only; rw [if_neg (by omega)]
        rw [hn]
        refine ⟨?_, ((a5 c e he).2 hf2).1⟩
        cases hq : (adm R h β x T.length s T).2.2.1 (e.2.1 / 4) with
        | none => rfl
        | some G => exact absurd ⟨hf2, G, hq⟩ (tN_nofg hR a1 T e he)
      have hsF := sOk_fil a1.1 a3 (by rw [hpa]; omega) hF hwF hoF (by rw [List.length_map, hlenT]; omega)
      have hh2 := sOk_h a1.1 (g := h) (by rw [hpa]; omega) (by have := mOk_b a1.1.2.2.2.2.2.2.2.1 a1.2.1; omega)
      have hmF : mOk told (sFil (adm R h β x T.length s T).2 h ((tN (adm R h β x T.length s T).2.2.1 R T).map (ins β x))) := by
        obtain ⟨m1, m2⟩ := a1.2.1
        have hp := pot_fil (pa := (adm R h β x T.length s T).2.1) (F := (tN (adm R h β x T.length s T).2.2.1 R T).map (ins β x)) hh2.1 hh2.2 (by rw [hpa]; omega) a3
        refine ⟨?_, ?_⟩
        · show pot (adm R h β x T.length s T).2.1 (up1 (adm R h β x T.length s T).2.2.1 h (some _)) + (adm R h β x T.length s T).2.2.2.2 ≤ _
          rw [hp, hpa]
          omega
        · show 2 * pot (adm R h β x T.length s T).2.1 (up1 (adm R h β x T.length s T).2.2.1 h (some _)) + (((adm R h β x T.length s T).2.2.2.1 ++ [h]).length : Int) ≤ _
          rw [hp, hpa, List.length_append]
          show _ + (((adm R h β x T.length s T).2.2.2.1.length + 1 : Nat) : Int) ≤ _
          omega
      by_cases c3 : big R (sFil (adm R h β x T.length s T).2 h ((tN (adm R h β x T.length s T).2.2.1 R T).map (ins β x))) = true
      · rw [if_pos c3]
        exact ⟨hsF, hmF, sx2_tr a2 (sx2_fil a3), fun z => absurd (show (4 : Int) = 0 from z) (by decide)⟩
      · rw [if_neg c3]
        exact ⟨hsF, hmF, sx2_tr a2 (sx2_fil a3), fun _ => big_no hsF c3⟩
  · rw [if_neg c]
    exact ⟨a1.1, a1.2.1, a2, fun z => absurd z c⟩
