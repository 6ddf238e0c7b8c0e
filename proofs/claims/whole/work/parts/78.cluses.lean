/-! THE CLASS: PUT AND USES -/
theorem s_itemsDue {O : Op} {pa : Int → Int} {told : Int} {σ : SS} {i : Nat} {l : Sl} (h3 : ar3 O) (hp4 : pa4 pa) (hg : gSl O pa told l) (hc : cSl σ i l) : f_S_itemsDue (14 + 2 * i) σ = some ((due l : Int), σ) := by
  have hsb := sl_b h3 hp4 hg
  unfold f_S_itemsDue due
  rw [hc.2.1, hc.2.2.2.2.2.1, ck_t (by omega), show (l.2.2.2.2.length : Int) + (l.2.2.2.1 : Int) = ((l.2.2.2.2.length + l.2.2.2.1 : Nat) : Int) by omega]
theorem s_put {fu R : Nat} {σ : SS} {d : Dk} {x k y : Int} (hfu : 1000 ≤ fu) (hg : gD R d) (hn : nth σ) (hc : cD σ d) :
    Wp (f_H_put fu x k y σ) (fun z τ => fx XH σ τ ∧ tho σ τ ∧ (
      (¬ (0 ≤ x ∧ x < 8) ∧ z = .inr "java/lang/IllegalArgumentException" ∧ cD τ d) ∨
      ((0 ≤ x ∧ x < 8) ∧ due (d.2.2.2.2.1 x.toNat) = 0 ∧ z = .inr "java/lang/IllegalStateException" ∧ cD τ d) ∨
      ((0 ≤ x ∧ x < 8) ∧ due (d.2.2.2.2.1 x.toNat) ≠ 0 ∧ ¬ fit d.2.1 d.2.2.1 (d.2.2.2.2.1 x.toNat) k y ∧ z = .inr "java/lang/IllegalArgumentException" ∧ cD τ d) ∨
      ((0 ≤ x ∧ x < 8) ∧ due (d.2.2.2.2.1 x.toNat) ≠ 0 ∧ fit d.2.1 d.2.2.1 (d.2.2.2.2.1 x.toNat) k y ∧ ¬ room d.1 (d.2.2.2.2.1 x.toNat) k y ∧ z = .inl (-1) ∧ cD τ d) ∨
      ((0 ≤ x ∧ x < 8) ∧ due (d.2.2.2.2.1 x.toNat) ≠ 0 ∧ fit d.2.1 d.2.2.1 (d.2.2.2.2.1 x.toNat) k y ∧ room d.1 (d.2.2.2.2.1 x.toNat) k y ∧ z = .inl (due (slP d.1 d.2.2.2.1.1 (d.2.2.2.2.1 x.toNat) k y) : Int) ∧ cD τ (dkS d x.toNat (slP d.1 d.2.2.2.1.1 (d.2.2.2.2.1 x.toNat) k y))))) := by
  have hp4 := hg.2.1.1.2.2.2.1
  have h3 := hg.1.2.2.2.1
  unfold f_H_put
  refine s_slotAt hg hn hc (fun i hi hxi => ?_) (fun hx τ a b e => ⟨XK_XH b, e, Or.inl ⟨hx, rfl, a⟩⟩)
  have ex : x.toNat = i := by omega
  have hx8 : 0 ≤ x ∧ x < 8 := by omega
  rw [ex]
  have hs := hg.2.2.1 i hi
  have hcs := hc.2.2.2.1 i hi
  refine wp_e (s_itemsDue h3 hp4 hs hcs) ?_
  by_cases cd : due (d.2.2.2.2.1 i) = 0
  · refine wp_t (by omega) (w_thr hg hn hc (fun τ a b e => ⟨XK_XH b, e, Or.inr (Or.inl ⟨hx8, cd, rfl, a⟩)⟩))
  refine wp_f (by omega) ?_
  obtain ⟨w, w1, w2⟩ := s_mayStand (k := k) (x := y) hfu hg hc hi cd
  refine wp_e w1 ?_
  rcases w2 with ⟨rfl, hf⟩ | ⟨rfl, hf⟩
  · refine wp_f (by decide) ?_
    obtain ⟨v, v1, v2⟩ := s_hasRoom hfu hg hc hi cd hf
    refine wp_e v1 ?_
    rcases v2 with ⟨rfl, hr⟩ | ⟨rfl, hr⟩
    · refine wp_f (by decide) (wp_sq (s_putl hfu hg hc hi cd hf hr) ?_)
      rintro - τ ⟨t1, t2, t3, t4⟩
      have hgl := gSl_P hg hi cd hf hr
      exact wp_e (s_itemsDue h3 hp4 hgl t3) (wp_some ⟨t1, tho_eq t2, Or.inr (Or.inr (Or.inr (Or.inr ⟨hx8, cd, hf, hr, rfl, t4⟩)))⟩)
    · exact wp_t rfl (wp_some ⟨fx_rf, tho_eq rfl, Or.inr (Or.inr (Or.inr (Or.inl ⟨hx8, cd, hf, hr, rfl, hc⟩)))⟩)
  · exact wp_t rfl (w_thr hg hn hc (fun τ a b e => ⟨XK_XH b, e, Or.inr (Or.inr (Or.inl ⟨hx8, cd, hf, rfl, a⟩))⟩))
/-! which free variables a row uses -/
def b1 (v b : Int) : Int32 := if v < b then 0 else iv (bs 1 (v - b))
def gb (e : AG) : Int32 := e.2.2.foldl (fun a v => a ||| b1 v e.1) (if e.2.1 % 4 = 0 then b1 (e.2.1 / 4) e.1 else 0)
def rb (a : Int32) (r : Row) : Int32 := r.foldl (fun a e => a ||| gb e) a
theorem iv_bo (x y : Int) : iv (bo x y) = iv x ||| iv y := by
  unfold bo
  exact (iv_of _).symm
theorem s_bitOf {p : Nat} {v b : Int} {σ : SS} (h9 : σ.1 p 9 = b) (hb : 0 ≤ b ∧ b ≤ 100000) (hv : 0 ≤ v ∧ v ≤ 1000000) : ∃ w, f_U_bitOf p v σ = some (w, σ) ∧ rng w ∧ iv w = b1 v b := by
  unfold f_U_bitOf b1
  rw [h9]
  by_cases c : v < b
  · rw [if_pos c, if_pos c]
    exact ⟨0, rfl, by decide, rfl⟩
  · rw [if_neg c, if_neg c, ck_t (by omega)]
    exact ⟨_, rfl, bs_rng _ _, rfl⟩
theorem s_fbl {fu p : Nat} {e : AG} {σ : SS} (h4 : e.2.2.length ≤ 4) (hb : 0 ≤ e.1 ∧ e.1 ≤ 100000) (hv : ∀ v ∈ e.2.2, 0 ≤ v ∧ v ≤ 1000000) (hg : grp σ p e) : ∀ (m j n : Nat) (acc : Int), m + j = e.2.2.length → m < n → rng acc → ∃ w, l_U_freeBits_22 fu p n acc j σ = some (w, σ) ∧ rng w ∧ iv w = (e.2.2.drop j).foldl (fun a v => a ||| b1 v e.1) (iv acc) := by
  intro m
  induction m with
  | zero =>
    intro j n acc h1 h2 h3
    cases n with
    | zero => omega
    | succ n =>
      rw [l_U_freeBits_22, hg.2.2.2.1, if_neg (by omega), List.drop_of_length_le (by omega)]
      exact ⟨acc, rfl, h3, rfl⟩
  | succ m ih =>
    intro j n acc h1 h2 h3
    cases n with
    | zero => omega
    | succ n =>
      have hj : j < e.2.2.length := by omega
      have hvj : e.2.2[j]? = some e.2.2[j] := List.getElem?_eq_getElem hj
      obtain ⟨w, w1, w2, w3⟩ := s_bitOf (p := p) (v := e.2.2[j]) hg.2.2.1 hb (hv _ (List.getElem_mem hj))
      obtain ⟨u, u1, u2, u3⟩ := ih (j + 1) n (bo acc w) (by omega) (by omega) (bo_rng _ _)
      rw [l_U_freeBits_22, hg.2.2.2.1, if_pos (by omega), hg.2.2.2.2 j _ hvj, w1, sq_e, lb_e, ck_t (by omega), show (j : Int) + 1 = ((j + 1 : Nat) : Int) by omega]
      refine ⟨u, u1, u2, ?_⟩
      rw [u3, iv_bo, w3, List.drop_eq_getElem_cons hj, List.foldl_cons]
theorem s_freeBits {fu p : Nat} {e : AG} {σ : SS} (hfu : 20 ≤ fu) (h4 : e.2.2.length ≤ 4) (hb : 0 ≤ e.1 ∧ e.1 ≤ 100000) (hc : 0 ≤ e.2.1 ∧ e.2.1 ≤ 1000000) (hv : ∀ v ∈ e.2.2, 0 ≤ v ∧ v ≤ 1000000) (hg : grp σ p e) : ∃ w, f_U_freeBits fu p σ = some (w, σ) ∧ rng w ∧ iv w = gb e := by
  unfold f_U_freeBits gb
  rw [hg.1, hg.2.1]
  by_cases c : e.2.1 % 4 = 0
  · obtain ⟨w, w1, w2, w3⟩ := s_bitOf (p := p) (v := e.2.1 / 4) hg.2.2.1 hb (by omega)
    obtain ⟨u, u1, u2, u3⟩ := s_fbl (fu := fu) h4 hb hv hg e.2.2.length 0 fu w (by omega) (by omega) w2
    have u1' : l_U_freeBits_22 fu p fu w 0 σ = some (u, σ) := u1
    rw [if_pos c, if_pos c, w1, sq_e, sq_e, u1', sq_e]
    refine ⟨u, rfl, u2, ?_⟩
    rw [u3, List.drop_zero, w3]
  · obtain ⟨u, u1, u2, u3⟩ := s_fbl (fu := fu) h4 hb hv hg e.2.2.length 0 fu 0 (by omega) (by omega) (by decide)
    have u1' : l_U_freeBits_22 fu p fu 0 0 σ = some (u, σ) := u1
    rw [if_neg c, if_neg c, sq_e, u1', sq_e]
    exact ⟨u, rfl, u2, u3⟩
theorem s_usel {O : Op} {fu R : Nat} {told N : Int} {s : St} (hR : 300 < R) (hRf : R < fu) (hR2 : R ≤ 1000) (hfu : 3000 ≤ fu) (hN : 0 ≤ N) (hN2 : N ≤ 1000) (hg : gOk O told R s) :
    ∀ (L : Row) (n : Nat) (x2 x3 : Int) (fl : List Fr) (σ : SS), L.length < n → 0 ≤ x3 → x3 + L.length < 1000000 → rng x2 → cSt σ told s → cst σ 30 s.1 s.2.1 N fl → ahd s.2.1 R fl = L → (∀ e ∈ L, 0 ≤ e.1 ∧ e.1 ≤ 10000) → (∀ e ∈ L, e.2.1 ≤ 1000000) →
    Wp (l_H_uses_62 fu n x2 x3 σ) (fun z τ => fx (cP 30) σ τ ∧ rng z ∧ iv z = rb (iv x2) L) := by
  have hHk := sOk_hOk hg.1 hg.2.1 hR hg.2.2
  intro L
  induction L with
  | nil =>
    intro n x2 x3 fl σ hn hx hx2 hr hc hcl hal hbL hcL
    cases n with
    | zero => omega
    | succ n =>
      rw [l_H_uses_62]
      have ht := top_le hg.1 hg.2.1 hc
      refine wp_t (by omega) (wp_sq (s_advance cur30 (by omega) hRf hR2 hHk hN hN2 hc.1 (by omega) hcl (by rw [hal]; exact fun e he => (hbL e he).2)) ?_)
      rintro a2 σ3 ⟨q1, q2⟩
      rw [hal] at q2
      have q2' : a2 = 0 := q2
      exact wp_t q2' (wp_some ⟨q1, hr, rfl⟩)
  | cons a L ih =>
    intro n x2 x3 fl σ hn hx hx2 hr hc hcl hal hbL hcL
    cases n with
    | zero => omega
    | succ n =>
      rw [l_H_uses_62]
      have ht := top_le hg.1 hg.2.1 hc
      rw [List.length_cons] at hn hx2
      refine wp_t (by omega) (wp_sq (s_advance cur30 (by omega) hRf hR2 hHk hN hN2 hc.1 (by omega) hcl (by rw [hal]; exact fun e he => (hbL e he).2)) ?_)
      rintro a2 σ3 ⟨q1, q2⟩
      rw [hal] at q2
      obtain ⟨rfl, ga3, gl, cl3, al3⟩ := q2
      have hokL : okR s.1 N (a :: L) := by rw [← hal]; exact ahd_ok hg.1.1 hN hcl.2.2.2.2
      have hoka := hokL a List.mem_cons_self
      have hba := hbL a List.mem_cons_self
      have h4a : a.2.2.length ≤ 4 := by
        by_cases c : a.2.1 % 4 = 2
        · have := hoka.2.2.2.2.2.1 c
          have := hg.1.2.2.2.1 (a.2.1 / 4)
          omega
        · rw [hoka.2.2.2.2.2.2.1 c]; exact Nat.zero_le _
      obtain ⟨w, w1, w2, w3⟩ := s_freeBits (fu := fu) (p := 30) (by omega) h4a (by omega) ⟨hoka.2.1, hcL a List.mem_cons_self⟩ (fun v hv => by have := hoka.2.2.2.2.1 v hv; omega) ga3
      refine wp_f (by decide) (wp_e w1 (wp_lx (wp_ck (by omega) ?_)))
      have c3 := cSt_cP cur30 q1 hc
      have h9 := ih n (bo x2 w) (x3 + 1) gl σ3 (by omega) (by omega) (by omega) (bo_rng _ _) c3 cl3 al3 (fun e he => hbL e (List.mem_cons_of_mem _ he)) (fun e he => hcL e (List.mem_cons_of_mem _ he))
      refine wp_mono h9 (fun z τ k => ⟨fx_tr q1 k.1, k.2.1, ?_⟩)
      rw [k.2.2, iv_bo, w3]
      rfl
theorem fil_bnd {O : Op} {told : Int} {R : Nat} {s : St} {h : Int} {F : Row} (hb2 : bd2 O) (hg : gOk O told R s) (hF : s.2.1 h = some F) : (tN s.2.1 R F).length ≤ 80 ∧ (∀ e ∈ tN s.2.1 R F, 0 ≤ e.1 ∧ e.1 ≤ 160) := by
  have h5 := hg.2.2 h F hF
  refine ⟨h5, fun e he => ?_⟩
  have h4 := tR_bnd hb2 (lo := 0) (hi := 0) (fun z hz => by cases List.mem_singleton.mp hz; omega) (tR_N hg.1.2.1 R (hg.1.2.1 h F hF)) e he
  omega
theorem code_b {O : Op} {told : Int} {R : Nat} {s : St} {N : Int} {L : Row} (hN : N ≤ 1000) (hg : gOk O told R s) (hok : okR s.1 N L) (hk : ∀ e ∈ L, opk O e) (hO : ∀ f, 0 ≤ O.1 f → 0 ≤ f ∧ f < 16) (hb : ∀ e ∈ L, e.1 ≤ 10000) : ∀ e ∈ L, e.2.1 ≤ 1000000 := by
  intro e he
  have h1 := hok e he
  have h2 := hb e he
  by_cases c0 : e.2.1 % 4 = 0
  · have := h1.2.2.2.1 c0
    omega
  · by_cases c1 : e.2.1 % 4 = 1
    · have h9 : 0 ≤ O.1 (e.2.1 / 4) := (hk e he).elim (fun z => absurd c1 z) id
      have := hO _ h9
      omega
    · have c2 : e.2.1 % 4 = 2 := by have := h1.2.2.1; omega
      have h9 := h1.2.2.2.2.2.1 c2
      have := sOk_h hg.1 (g := e.2.1 / 4) (by omega) (by have := mOk_b hg.1.2.2.2.2.2.2.2.1 hg.2.1; omega)
      omega
theorem bs1_rng {p : Int} (h : 0 ≤ p ∧ p ≤ 4) : rng (bs 1 p - 1) := by
  have hp : p = 0 ∨ p = 1 ∨ p = 2 ∨ p = 3 ∨ p = 4 := by omega
  rcases hp with rfl | rfl | rfl | rfl | rfl <;> decide
/-- the free variables that a hole's filling uses -/
def usesA (R : Nat) (d : Dk) (h : Int) (z : Int) : Prop := match d.2.2.2.1.2.1 h with
  | none => z = bs 1 (d.2.2.2.1.1 h) - 1
  | some F => rng z ∧ iv z = rb (iv 0) (tN d.2.2.2.1.2.1 R F)
theorem s_uses {fu R : Nat} {σ : SS} {d : Dk} {x : Int} (hR : 300 < R) (hRf : R < fu) (hR2 : R ≤ 1000) (hfu : 3000 ≤ fu) (hg : gD R d) (hn : nth σ) (hc : cD σ d) :
    Wp (f_H_uses fu x σ) (fun z τ => fx XH σ τ ∧ cD τ d ∧ tho σ τ ∧ ((0 ≤ x ∧ x < d.2.2.1 ∧ ∃ w, z = .inl w ∧ usesA R d x w) ∨ (¬ (0 ≤ x ∧ x < d.2.2.1) ∧ z = .inr (exn 1)))) := by
  unfold f_H_uses
  refine s_refuse hg hn hc (fun hx => ?_) (fun hx τ a b e => ⟨XK_XH b, a, e, Or.inr ⟨hx, rfl⟩⟩)
  have h8 := hg.2.1.1.2.2.2.2.2.2.2.1
  have hp : 0 ≤ d.2.2.2.1.1 x := (hg.2.1.1.2.2.2.2.2.2.1 x).mpr (Or.inl hx)
  obtain ⟨i1, i2, i3, i4, i5⟩ := hc.1.1 x hp
  have h4 := hg.2.1.1.2.2.2.1 x
  unfold f_G_isOpen
  cases hF : d.2.2.2.1.2.1 x with
  | none =>
    rw [if_pos (i4 hF), sq_e, if_neg (by decide)]
    unfold f_G_parametersOf
    rw [sq_e, i3]
    refine wp_ck (bs1_rng ⟨hp, h4⟩) (wp_some ⟨fx_rf, hc, tho_eq rfl, Or.inl ⟨hx.1, hx.2, _, rfl, ?_⟩⟩)
    unfold usesA
    rw [hF]
  | some F =>
    obtain ⟨j1, j2, j3⟩ := i5 F hF
    rw [if_neg (by omega), sq_e, if_pos rfl]
    refine wp_sq (s_startAt (Φ := d.2.2.2.1.2.1) (N := d.2.2.2.1.1 x) cur30 j2 (by omega) j3 (hg.2.1.1.1 x F hF)) ?_
    rintro - σ13 ⟨a1, a2⟩
    have c13 := cSt_cP cur30 a1 hc.1
    obtain ⟨b1', b2'⟩ := fil_bnd hg.1.2.2.2.2 hg.2.1 hF
    have htN := tR_N hg.2.1.1.2.1 R (hg.2.1.1.2.1 x F hF)
    have hokN := okR_N hp hg.2.1.1.1 R (hg.2.1.1.1 x F hF)
    have hcb := code_b (N := d.2.2.2.1.1 x) (by omega) hg.2.1 hokN (tR_opks htN) (fun f hf => by have := (hg.1.2.2.1 f).mp hf; have := hg.1.2.1; omega) (fun e he => by have := b2' e he; omega)
    refine wp_sq (s_usel (O := d.1) (told := d.2.2.1) hR hRf hR2 hfu hp (by omega) hg.2.1 _ fu 0 0 _ σ13 (by omega) (Int.le_refl _) (by omega) (by decide) c13 a2 (ahd_one d.2.2.2.1.2.1 R F (-1)) (fun e he => by have := b2' e he; omega) hcb) ?_
    rintro z τ ⟨z1, z2, z3⟩
    have xk : fx XK σ τ := X_cP cur30 (fx_tr a1 z1)
    refine wp_some ⟨XK_XH xk, cD_XK hg xk (cP_0 cur30 (fx_tr a1 z1)) (cP_0 cur30 (fx_tr a1 z1)) hc, tho_eq (cP_0 cur30 (fx_tr a1 z1)), Or.inl ⟨hx.1, hx.2, z, rfl, ?_⟩⟩
    unfold usesA
    rw [hF]
    exact ⟨z2, z3⟩
