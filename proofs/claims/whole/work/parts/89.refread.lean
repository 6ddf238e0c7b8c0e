/-! THE REFERENCE: READ ON DESKS -/
theorem s_rk20 {fu : Nat} {vs : List Int} {σ : SS} {h p : Int} {i : Nat} (hh : 0 ≤ h ∧ h < 324) (hp : 0 ≤ p ∧ p + 4 ≤ 16384) (h4 : vs.length ≤ 4) (h58 : σ.2.1 58 h = (vs.length : Int)) (hv : ∀ (k : Nat) (v : Int), vs[k]? = some v → σ.2.1 71 (p + k) = 4 * v) (hi : i < vs.length) : ∀ (m j n : Nat), m + j = vs.length → m < n → l_D_rank_20 fu n h p i ((((List.range j).filter (fun t => decide (vs.getD t 0 < vs.getD i 0))).length : Nat) : Int) j σ = some ((bef vs i : Int), σ) := by
  have gd : ∀ t : Nat, t < vs.length → σ.2.1 71 (p + t) = 4 * vs.getD t 0 := by
    intro t ht
    have hvt : vs[t]? = some vs[t] := List.getElem?_eq_getElem ht
    rw [hv t _ hvt, List.getD_eq_getElem?_getD, hvt]
    rfl
  intro m
  induction m with
  | zero =>
    intro j n h1 h2
    cases n with
    | zero => omega
    | succ n =>
      rw [l_D_rank_20, ck_t ⟨hh.1, hh.2⟩, h58, if_neg (by omega)]
      unfold bef
      rw [show j = vs.length by omega]
  | succ m ih =>
    intro j n h1 h2
    cases n with
    | zero => omega
    | succ n =>
      have hle := List.length_filter_le (fun t => decide (vs.getD t 0 < vs.getD i 0)) (List.range j)
      rw [List.length_range] at hle
      have hst : ((List.range (j + 1)).filter (fun t => decide (vs.getD t 0 < vs.getD i 0))).length = ((List.range j).filter (fun t => decide (vs.getD t 0 < vs.getD i 0))).length + (if vs.getD j 0 < vs.getD i 0 then 1 else 0) := by
        rw [List.range_succ, List.filter_append, List.length_append, List.filter_cons]
        split
        · rename_i c; rw [decide_eq_true_eq] at c; rw [if_pos c]; rfl
        · rename_i c; rw [decide_eq_true_eq] at c; rw [if_neg c]; rfl
      have hih := ih (j + 1) n (by omega) (by omega)
      rw [hst] at hih
      rw [l_D_rank_20, ck_t ⟨hh.1, hh.2⟩, h58, if_pos (by omega), ck_t (by omega), ck_t ⟨by omega, by omega⟩, ck_t (by omega), ck_t ⟨by omega, by omega⟩, gd j (by omega), gd i hi]
      by_cases c : vs.getD j 0 < vs.getD i 0
      · rw [if_pos c] at hih
        rw [if_pos (by omega), sq_e, ck_t (by omega), lb_e, ck_t (by omega), show (j : Int) + 1 = ((j + 1 : Nat) : Int) by omega]
        exact hih
      · rw [if_neg c] at hih
        rw [if_neg (by omega), sq_e, ck_t (by omega), lb_e, ck_t (by omega), show (j : Int) + 1 = ((j + 1 : Nat) : Int) by omega]
        exact hih
theorem s_rk3 {fu : Nat} {vs : List Int} {h p : Int} (hfu : 20 ≤ fu) (hh : 0 ≤ h ∧ h < 324) (hp : 0 ≤ p ∧ p + 4 ≤ 16384) (hnd : vs.Nodup) (h4 : vs.length ≤ 4) : ∀ (m j n : Nat) (σ : SS), m + j = vs.length → m < n → σ.2.1 58 h = (vs.length : Int) → (∀ (k : Nat) (v : Int), vs[k]? = some v → σ.2.1 71 (p + k) = 4 * v) → (∀ k : Nat, k < j → σ.2.1 84 (4 * h + bef vs k) = (k : Int)) →
    Wp (l_D_rank_3 fu n h p j σ) (fun _ τ => fx (jst 84) σ τ ∧ (∀ q : Int, (q < 4 * h ∨ 4 * h + 4 ≤ q) → τ.2.1 84 q = σ.2.1 84 q) ∧ ∀ k : Nat, k < vs.length → τ.2.1 84 (4 * h + bef vs k) = (k : Int)) := by
  intro m
  induction m with
  | zero =>
    intro j n σ h1 h2 h58 hv hd
    cases n with
    | zero => omega
    | succ n =>
      rw [l_D_rank_3]
      exact wp_ck ⟨hh.1, hh.2⟩ (wp_f (by omega) (wp_some ⟨fx_rf, fun _ _ => rfl, fun k hk => hd k (by omega)⟩))
  | succ m ih =>
    intro j n σ h1 h2 h58 hv hd
    cases n with
    | zero => omega
    | succ n =>
      rw [l_D_rank_3]
      have hb := bef_lt (vs := vs) (k := j) (by omega)
      have h20 := s_rk20 (fu := fu) (i := j) hh hp h4 h58 hv (by omega) vs.length 0 fu (by omega) (by omega)
      refine wp_ck ⟨hh.1, hh.2⟩ (wp_t (by omega) (wp_e (show l_D_rank_20 fu fu h p (j : Int) 0 0 σ = some ((bef vs j : Int), σ) from h20) (wp_ck (by omega) (wp_ck (by omega) (wp_ck ⟨by omega, by omega⟩ (wp_lb (fun σ12 e12 => wp_ck (by omega) ?_)))))))
      have hx : fx (jst 84) σ σ12 := by rw [e12]; exact fx_A fx_rf rfl
      have n84 : ∀ a, a ≠ 84 → ¬ jst 84 a := fun a h z => h z
      rw [show (j : Int) + 1 = ((j + 1 : Nat) : Int) by omega]
      have h9 := ih (j + 1) n σ12 (by omega) (by omega) (by rw [fx_a hx (n84 58 (by omega))]; exact h58) (fun k v hk => by rw [fx_a hx (n84 71 (by omega))]; exact hv k v hk) (fun k hk => by
        rw [e12]
        by_cases c : k = j
        · rw [c]; exact sA_same _ _ _ _
        · have hne : bef vs k ≠ bef vs j := fun z => c (bef_inj hnd (by omega) (by omega) z)
          rw [sA_other (by omega)]
          exact hd k (by omega))
      refine wp_mono h9 (fun _ τ k => ⟨fx_tr hx k.1, fun q hq => ?_, k.2.2⟩)
      rw [k.2.1 q hq, e12]
      exact sA_other (by omega)
theorem s_rank {fu : Nat} {vs : List Int} {h p : Int} {σ : SS} (hfu : 20 ≤ fu) (hh : 0 ≤ h ∧ h < 324) (hp : 0 ≤ p ∧ p + 4 ≤ 16384) (hnd : vs.Nodup) (h4 : vs.length ≤ 4) (h58 : σ.2.1 58 h = (vs.length : Int)) (hv : ∀ (k : Nat) (v : Int), vs[k]? = some v → σ.2.1 71 (p + k) = 4 * v) :
    Wp (f_D_rank fu h p σ) (fun _ τ => fx (jst 84) σ τ ∧ (∀ q : Int, (q < 4 * h ∨ 4 * h + 4 ≤ q) → τ.2.1 84 q = σ.2.1 84 q) ∧ ∀ (i k : Nat), (ordL vs)[i]? = some k → τ.2.1 84 (4 * h + i) = (k : Int)) := by
  unfold f_D_rank
  refine wp_sq (s_rk3 (fu := fu) hfu hh hp hnd h4 vs.length 0 fu σ (by omega) (by omega) h58 hv (fun k hk => absurd hk (Nat.not_lt_zero _))) ?_
  rintro - τ ⟨t1, t2, t3⟩
  refine wp_some ⟨t1, t2, fun i k hik => ?_⟩
  obtain ⟨i1, rfl⟩ := ordL_get hik
  obtain ⟨j, hj, rfl⟩ := bef_sur hnd h4 i1
  rw [odr_at hnd hj]
  exact t3 j hj
/-- names and orders as the reference holds them -/
def rNm (σ : SS) (z : Rs) : Prop := ∀ h, 0 ≤ h → h < 324 → σ.2.1 83 h = z.1 h - 1 ∧ (z.1 h ≠ 0 → ∀ (i k : Nat), (z.2.1 h)[i]? = some k → σ.2.1 84 (4 * h + i) = (k : Int))
theorem s_rd166 {fu : Nat} {vs : List Int} {od : List Nat} {h p : Int} (hh : 0 ≤ h ∧ h < 324) (hp : 0 ≤ p ∧ p + 5 ≤ 16384) (h4 : vs.length ≤ 4) (hod : od.length = vs.length) (hol : ∀ k ∈ od, k < vs.length) :
    ∀ (m j n : Nat) (σ : SS), m + j = vs.length → m < n → σ.2.1 58 h = (vs.length : Int) → (∀ (k : Nat) (v : Int), vs[k]? = some v → σ.2.1 71 (p + 1 + k) = 4 * v) → (∀ (i k : Nat), od[i]? = some k → σ.2.1 84 (4 * h + i) = (k : Int)) → (∀ (i k : Nat), i < j → od[i]? = some k → σ.2.1 82 (p + 1 + i) = 4 * vs.getD k 0) →
    Wp (l_D_read_166 fu n p h j σ) (fun _ τ => fx (jst 82) σ τ ∧ (∀ q : Int, q < p + 1 → τ.2.1 82 q = σ.2.1 82 q) ∧ ∀ (i k : Nat), od[i]? = some k → τ.2.1 82 (p + 1 + i) = 4 * vs.getD k 0) := by
  intro m
  induction m with
  | zero =>
    intro j n σ h1 h2 h58 hv ho hd
    cases n with
    | zero => omega
    | succ n =>
      rw [l_D_read_166]
      exact wp_ck ⟨hh.1, hh.2⟩ (wp_f (by omega) (wp_some ⟨fx_rf, fun _ _ => rfl, fun i k hik => hd i k (by have := (List.getElem?_eq_some_iff.mp hik).1; omega) hik⟩))
  | succ m ih =>
    intro j n σ h1 h2 h58 hv ho hd
    cases n with
    | zero => omega
    | succ n =>
      have hj : j < od.length := by omega
      have hoj : od[j]? = some od[j] := List.getElem?_eq_getElem hj
      have hk := hol od[j] (List.getElem_mem hj)
      have hvk : vs[od[j]]? = some vs[od[j]] := List.getElem?_eq_getElem hk
      have hgd : vs.getD od[j] 0 = vs[od[j]] := by rw [List.getD_eq_getElem?_getD, hvk]; rfl
      rw [l_D_read_166]
      rw [ho j _ hoj]
      refine wp_ck ⟨hh.1, hh.2⟩ (wp_t (by omega) (wp_ck (by omega) (wp_ck (by omega) (wp_ck (by omega) (wp_ck (by omega) (wp_ck (by omega) (wp_ck ⟨by omega, by omega⟩ (wp_ck (by omega) (wp_ck ⟨by omega, by omega⟩ (wp_ck ⟨by omega, by omega⟩ (wp_lb (fun σ13 e13 => wp_ck (by omega) ?_))))))))))))
      rw [hv _ _ hvk] at e13
      have hx : fx (jst 82) σ σ13 := by rw [e13]; exact fx_A fx_rf rfl
      have n82 : ∀ a, a ≠ 82 → ¬ jst 82 a := fun a h z => h z
      rw [show (j : Int) + 1 = ((j + 1 : Nat) : Int) by omega]
      have h9 := ih (j + 1) n σ13 (by omega) (by omega) (by rw [fx_a hx (n82 58 (by omega))]; exact h58) (fun k v hkv => by rw [fx_a hx (n82 71 (by omega))]; exact hv k v hkv) (fun i k hik => by rw [fx_a hx (n82 84 (by omega))]; exact ho i k hik) (fun i k hi hik => by
        rw [e13]
        by_cases c : i = j
        · subst c
          rw [hoj] at hik
          cases hik
          rw [hgd]
          exact sA_same _ _ _ _
        · rw [sA_other (by omega)]
          exact hd i k (by omega) hik)
      refine wp_mono h9 (fun _ τ k => ⟨fx_tr hx k.1, fun q hq => ?_, k.2.2⟩)
      rw [k.2.1 q hq, e13]
      exact sA_other (by omega)
def X82 : Nat → Prop := fun a => a = 55 ∨ (82 ≤ a ∧ a ≤ 84)
/-- what was told lies in the reference's row -/
def rOut (σ : SS) (l : List Int) : Prop := ∀ (k : Nat) (v : Int), l[k]? = some v → σ.2.1 82 k = v
theorem rOut_app {σ τ : SS} {l m : List Int} (h : rOut σ l) (hlo : ∀ q : Int, q < l.length → τ.2.1 82 q = σ.2.1 82 q) (hm : ∀ (k : Nat) (v : Int), m[k]? = some v → τ.2.1 82 (l.length + k) = v) : rOut τ (l ++ m) := by
  intro k v hk
  by_cases c : k < l.length
  · rw [List.getElem?_append_left c] at hk
    rw [hlo _ (by omega)]
    exact h k v hk
  · rw [List.getElem?_append_right (by omega)] at hk
    have := hm _ _ hk
    rw [show (l.length : Int) + ((k - l.length : Nat) : Int) = (k : Int) by omega] at this
    exact this
theorem s_rd61 {pa : Int → Int} {fu : Nat} {N : Int} {len : Nat} (hp4 : pa4 pa) (hfu : 20000 ≤ fu) (hlen : len ≤ 12000) :
    ∀ (L : Row) (n : Nat) (z : Rs) (σ : SS), L.length < n → z.2.2.2.length + il L = len → σ.1 55 29 = (len : Int) → σ.1 55 37 = z.2.2.1 → z.2.2.1 + L.length ≤ 100000 → rsk pa z → rseg σ 71 z.2.2.2.length L len → rpa σ L → okR pa N L → (∀ e ∈ L, e.2.1 % 4 = 2 → σ.2.1 58 (e.2.1 / 4) = pa (e.2.1 / 4)) → rOut σ z.2.2.2 → rNm σ z →
    Wp (l_D_read_61 fu n z.2.2.2.length σ) (fun _ τ => fx X82 σ τ ∧ (∀ b, b ≠ 37 → τ.1 55 b = σ.1 55 b) ∧ τ.1 55 37 = (rsR z L).2.2.1 ∧ rOut τ (rsR z L).2.2.2) := by
  intro L
  induction L with
  | nil =>
    intro n z σ hn hl h29 h37 hcn hk hr hp hok h58 hout hnm
    cases n with
    | zero => omega
    | succ n =>
      rw [l_D_read_61, h29]
      have h0 : il [] = 0 := rfl
      exact wp_f (by omega) (wp_some ⟨fx_rf, fun _ _ => rfl, h37, hout⟩)
  | cons e L ih =>
    intro n z σ hn hl h29 h37 hcn hk hr hp hok h58 hout hnm
    cases n with
    | zero => omega
    | succ n =>
      rw [il_cons] at hl
      rw [List.length_cons] at hn hcn
      obtain ⟨r1, r2, r3⟩ := hr
      obtain ⟨p1, p2, p3, p4, p5, p6⟩ := hp e List.mem_cons_self
      have hoke := hok e List.mem_cons_self
      obtain ⟨k1, k2⟩ := rst_ok hoke.2.2.2.2.2.2.2 p5 hoke.2.2.2.2.2.1 hoke.2.2.2.2.2.2.1 hk
      have rc := rst_cnt (z := z) (e := e)
      have ib : inb 16384 (z.2.2.2.length : Int) := ⟨by omega, by omega⟩
      rw [l_D_read_61, h29]
      refine wp_t (by omega) (wp_ck ib (wp_ck ib ?_))
      rw [r1]
      refine wp_lb (fun σ5 e5 => wp_ck ib ?_)
      have x5 : fx (jst 82) σ σ5 := by rw [e5]; exact fx_A fx_rf rfl
      have n82 : ∀ a, a ≠ 82 → ¬ jst 82 a := fun a h z => h z
      have f5 : ∀ b, σ5.1 55 b = σ.1 55 b := fun b => fx_f x5 (n82 55 (by omega))
      rw [fx_a x5 (n82 71 (by omega)), r1]
      refine wp_lx (wp_ck ib ?_)
      have lo5 : ∀ q : Int, q < z.2.2.2.length → σ5.2.1 82 q = σ.2.1 82 q := fun q hq => by rw [e5]; exact sA_other (by omega)
      -- behind a group
      have cont : ∀ (τ : SS), fx X82 σ τ → (∀ b, b ≠ 37 → τ.1 55 b = σ.1 55 b) → τ.1 55 37 = (rst z e).2.2.1 → rOut τ (rst z e).2.2.2 → rNm τ (rst z e) → Wp (ck (rng ((z.2.2.2.length : Int) + (e.2.2.length : Int) + 1)) (l_D_read_61 fu n ((z.2.2.2.length : Int) + (e.2.2.length : Int) + 1) τ)) (fun _ τ => fx X82 σ τ ∧ (∀ b, b ≠ 37 → τ.1 55 b = σ.1 55 b) ∧ τ.1 55 37 = (rsR z (e :: L)).2.2.1 ∧ rOut τ (rsR z (e :: L)).2.2.2) := by
        intro τ t1 t2 t3 t4 t5
        have nx : ∀ a, a ≠ 55 → a < 82 → ¬ X82 a := fun a h1 h2 z => by unfold X82 at z; omega
        refine wp_ck (by omega) ?_
        have hlen' : (z.2.2.2.length : Int) + (e.2.2.length : Int) + 1 = ((rst z e).2.2.2.length : Int) := by rw [k2]; omega
        rw [hlen']
        have h9 := ih n (rst z e) τ (by omega) (by rw [k2]; omega) (by rw [t2 29 (by decide)]; exact h29) t3 (by omega) k1 (by rw [← hlen', show (z.2.2.2.length : Int) + (e.2.2.length : Int) + 1 = z.2.2.2.length + 1 + e.2.2.length by omega]; exact rseg_fx t1 (nx 71 (by omega) (by omega)) r3) (rpa_fx t1 (nx 58 (by omega) (by omega)) (rpa_tl hp)) (fun x hx => hok x (List.mem_cons_of_mem _ hx)) (fun x hx c => by rw [fx_a t1 (nx 58 (by omega) (by omega))]; exact h58 x (List.mem_cons_of_mem _ hx) c) t4 t5
        rw [rsR_cons]
        exact wp_mono h9 (fun _ υ k => ⟨fx_tr t1 k.1, fun b hb => by rw [k.2.1 b hb, t2 b hb], k.2.2⟩)
      by_cases c : e.2.1 % 4 = 2
      · obtain ⟨q1, q2, q3⟩ := p1 c
        have hl' := hoke.2.2.2.2.2.1 c
        obtain ⟨n1, n2⟩ := rsN_ok hoke.2.2.2.2.2.2.2 p5 hl' hk
        obtain ⟨m1, m2⟩ := hnm _ q1 q2
        have hkb := hk.2.1 (e.2.1 / 4)
        have hk0 := hk.1
        have hrst : (rst z e).2.2.1 = (rsN z (e.2.1 / 4) e.2.2).2.2.1 ∧ (rst z e).1 = (rsN z (e.2.1 / 4) e.2.2).1 ∧ (rst z e).2.1 = (rsN z (e.2.1 / 4) e.2.2).2.1 ∧ (rst z e).2.2.2 = z.2.2.2 ++ (4 * ((rsN z (e.2.1 / 4) e.2.2).1 (e.2.1 / 4) - 1) + 2) :: ((rsN z (e.2.1 / 4) e.2.2).2.1 (e.2.1 / 4)).map (fun k => 4 * e.2.2.getD k 0) := by
          unfold rst
          rw [if_pos c]
          refine ⟨rfl, rfl, rfl, ?_⟩
          show (rsN z (e.2.1 / 4) e.2.2).2.2.2 ++ _ = _
          have hout : (rsN z (e.2.1 / 4) e.2.2).2.2.2 = z.2.2.2 := by unfold rsN; split <;> rfl
          rw [hout]
        refine wp_sq (R := fun w τ => w = (z.2.2.2.length : Int) + (e.2.2.length : Int) ∧ fx X82 σ τ ∧ (∀ b, b ≠ 37 → τ.1 55 b = σ.1 55 b) ∧ τ.1 55 37 = (rst z e).2.2.1 ∧ rOut τ (rst z e).2.2.2 ∧ rNm τ (rst z e)) (wp_t c (wp_ck ⟨q1, q2⟩ ?_)) ?_
        · -- the hole's name
          refine wp_sq (R := fun _ τ => fx X82 σ τ ∧ (∀ b, b ≠ 37 → τ.1 55 b = σ.1 55 b) ∧ τ.1 55 37 = (rsN z (e.2.1 / 4) e.2.2).2.2.1 ∧ (∀ q : Int, q < z.2.2.2.length → τ.2.1 82 q = σ.2.1 82 q) ∧ rNm τ (rsN z (e.2.1 / 4) e.2.2)) ?_ ?_
          · rw [fx_a x5 (n82 83 (by omega)), m1]
            unfold rsN
            by_cases cz : z.1 (e.2.1 / 4) = 0
            · rw [if_pos cz]
              refine wp_t (by omega) (wp_ck ⟨q1, q2⟩ ?_)
              rw [f5 37, h37]
              refine wp_lb (fun σ17 e17 => ?_)
              have f17 : ∀ a b, σ17.1 a b = σ5.1 a b := fun a b => by rw [e17]; rfl
              rw [f17, f5 37, h37]
              refine wp_ck (by omega) (wp_lb (fun σ22 e22 => wp_ck (by omega) ?_))
              have x22 : fx X82 σ σ22 := by rw [e22, e17]; exact fx_F (fx_A (fx_mono x5 (fun a z => by have : a = 82 := z; unfold X82; omega)) (by unfold X82; omega)) (by unfold X82; omega)
              have nx : ∀ a, a ≠ 55 → a < 82 → ¬ X82 a := fun a h1 h2 z => by unfold X82 at z; omega
              refine wp_sq (s_rank (fu := fu) (vs := e.2.2) (h := e.2.1 / 4) (p := (z.2.2.2.length : Int) + 1) (σ := σ22) (by omega) ⟨q1, q2⟩ (by omega) hoke.2.2.2.2.2.2.2 p5 (by rw [fx_a x22 (nx 58 (by omega) (by omega))]; exact q3) (fun k v hkv => by rw [fx_a x22 (nx 71 (by omega) (by omega))]; exact r2 k v hkv)) ?_
              rintro - τ ⟨t1, t2, t3⟩
              have n84 : ∀ a, a ≠ 84 → ¬ jst 84 a := fun a h z => h z
              have fτ : ∀ b, τ.1 55 b = σ22.1 55 b := fun b => fx_f t1 (n84 55 (by omega))
              refine wp_some ⟨fx_tr x22 (fx_mono t1 (fun a z => by have : a = 84 := z; unfold X82; omega)), fun b hb => ?_, ?_, fun q hq => ?_, fun g g0 g1 => ?_⟩
              · rw [fτ, e22, sF_f (fun z => hb z.2), f17, f5]
              · rw [fτ, e22]; exact sF_same _ _ _ _
              · rw [fx_a t1 (n84 82 (by omega)), e22]
                show σ17.2.1 82 q = _
                rw [e17, sA_other (by omega)]
                exact lo5 q hq
              · show τ.2.1 83 g = up1 z.1 (e.2.1 / 4) (z.2.2.1 + 1) g - 1 ∧ (up1 z.1 (e.2.1 / 4) (z.2.2.1 + 1) g ≠ 0 → ∀ (i k : Nat), (up1 z.2.1 (e.2.1 / 4) (ordL e.2.2) g)[i]? = some k → τ.2.1 84 (4 * g + i) = (k : Int))
                have t83 : τ.2.1 83 g = σ17.2.1 83 g := by rw [fx_a t1 (n84 83 (by omega)), e22]; rfl
                by_cases cg : g = e.2.1 / 4
                · rw [t83, cg, up1_same, up1_same]
                  refine ⟨by rw [e17, sA_same]; omega, fun _ i k hik => t3 i k hik⟩
                · rw [t83, up1_ne cg, up1_ne cg]
                  obtain ⟨u1, u2⟩ := hnm g g0 g1
                  refine ⟨by rw [e17, sA_other (fun w => cg w.2), fx_a x5 (n82 83 (by omega))]; exact u1, fun hz i k hik => ?_⟩
                  have hlz := (hk.2.2 g hz).1
                  have hlk := (List.getElem?_eq_some_iff.mp hik).1
                  have h4g : (z.2.1 g).length ≤ 4 := by have := hp4 g; omega
                  rw [t2 _ (by omega), e22]
                  show σ17.2.1 84 (4 * g + i) = _
                  rw [e17, sA_other (by omega), fx_a x5 (n82 84 (by omega))]
                  exact u2 hz i k hik
            · rw [if_neg cz]
              refine wp_f (by omega) (wp_some ⟨fx_mono x5 (fun a z => by have : a = 82 := z; unfold X82; omega), fun b _ => f5 b, by rw [f5]; exact h37, lo5, fun g g0 g1 => ?_⟩)
              rw [fx_a x5 (n82 83 (by omega))]
              obtain ⟨u1, u2⟩ := hnm g g0 g1
              exact ⟨u1, fun hz i k hik => by rw [fx_a x5 (n82 84 (by omega))]; exact u2 hz i k hik⟩
          · rintro - σ32 ⟨x32, f32, g32, lo32, nm32⟩
            obtain ⟨u1, u2⟩ := nm32 _ q1 q2
            have nx : ∀ a, a ≠ 55 → a < 82 → ¬ X82 a := fun a h1 h2 z => by unfold X82 at z; omega
            have hb1 := n1.2.1 (e.2.1 / 4)
            have hb2 : (rsN z (e.2.1 / 4) e.2.2).2.2.1 ≤ 100001 := by rw [← hrst.1]; omega
            rw [u1]
            refine wp_ck ⟨q1, q2⟩ (wp_ck (by omega) (wp_ck (by omega) (wp_ck ib (wp_lb (fun σ41 e41 => ?_)))))
            have x41 : fx (jst 82) σ32 σ41 := by rw [e41]; exact fx_A fx_rf rfl
            have h5841 : σ41.2.1 58 (e.2.1 / 4) = (e.2.2.length : Int) := by rw [fx_a x41 (n82 58 (by omega)), fx_a x32 (nx 58 (by omega) (by omega))]; exact q3
            obtain ⟨o1, o2⟩ := n1.2.2 _ n2
            refine wp_sq (s_rd166 (fu := fu) (vs := e.2.2) (od := (rsN z (e.2.1 / 4) e.2.2).2.1 (e.2.1 / 4)) (h := e.2.1 / 4) (p := (z.2.2.2.length : Int)) ⟨q1, q2⟩ (by omega) p5 (by omega) (fun k hk => by have := o2 k hk; omega) e.2.2.length 0 fu σ41 (by omega) (by omega) h5841 (fun k v hkv => by rw [fx_a x41 (n82 71 (by omega)), fx_a x32 (nx 71 (by omega) (by omega))]; exact r2 k v hkv) (fun i k hik => by rw [fx_a x41 (n82 84 (by omega))]; exact u2 n2 i k hik) (fun i k hi => absurd hi (Nat.not_lt_zero _))) ?_
            rintro - τ ⟨t1, t2, t3⟩
            have h58τ : τ.2.1 58 (e.2.1 / 4) = (e.2.2.length : Int) := by rw [fx_a t1 (n82 58 (by omega))]; exact h5841
            refine wp_ck ⟨q1, q2⟩ ?_
            rw [h58τ]
            have fτ : ∀ b, τ.1 55 b = σ32.1 55 b := fun b => by rw [fx_f t1 (n82 55 (by omega)), fx_f x41 (n82 55 (by omega))]
            refine wp_ck (by omega) (wp_lx (wp_some ⟨rfl, fx_tr x32 (fx_tr (fx_mono x41 (fun a z => by have : a = 82 := z; unfold X82; omega)) (fx_mono t1 (fun a z => by have : a = 82 := z; unfold X82; omega))), fun b hb => by rw [fτ]; exact f32 b hb, by rw [fτ, hrst.1]; exact g32, ?_, fun g g0 g1 => ?_⟩))
            · rw [hrst.2.2.2]
              refine rOut_app hout (fun q hq => ?_) (fun k v hkv => ?_)
              · rw [t2 q (by omega), e41, sA_other (by omega)]
                exact lo32 q hq
              · cases k with
                | zero =>
                  have hv : 4 * ((rsN z (e.2.1 / 4) e.2.2).1 (e.2.1 / 4) - 1) + 2 = v := Option.some.inj hkv
                  rw [show (z.2.2.2.length : Int) + ((0 : Nat) : Int) = z.2.2.2.length from Int.add_zero _, t2 _ (by omega), e41, sA_same]
                  exact hv
                | succ k =>
                  rw [List.getElem?_cons_succ, List.getElem?_map] at hkv
                  cases hq : ((rsN z (e.2.1 / 4) e.2.2).2.1 (e.2.1 / 4))[k]? with
                  | none => rw [hq] at hkv; cases hkv
                  | some w =>
                    rw [hq] at hkv
                    have hv : 4 * e.2.2.getD w 0 = v := Option.some.inj hkv
                    rw [show (z.2.2.2.length : Int) + ((k + 1 : Nat) : Int) = z.2.2.2.length + 1 + k by omega, t3 k w hq]
                    exact hv
            · rw [hrst.2.1, hrst.2.2.1, fx_a t1 (n82 83 (by omega)), fx_a x41 (n82 83 (by omega))]
              obtain ⟨w1, w2⟩ := nm32 g g0 g1
              exact ⟨w1, fun hz i k hik => by rw [fx_a t1 (n82 84 (by omega)), fx_a x41 (n82 84 (by omega))]; exact w2 hz i k hik⟩
        · rintro w τ ⟨rfl, t1, t2, t3, t4, t5⟩
          exact cont τ t1 t2 t3 t4 t5
      · have hv0 := p2 c
        have hrst : rst z e = (z.1, z.2.1, z.2.2.1, z.2.2.2 ++ [e.2.1]) := by unfold rst; rw [if_neg c]
        refine wp_sq (R := fun w τ => w = (z.2.2.2.length : Int) ∧ τ = σ5) (wp_f c (wp_some ⟨rfl, rfl⟩)) ?_
        rintro w τ ⟨rfl, hτ⟩
        rw [hτ]
        have hct := cont σ5 (fx_mono x5 (fun a z => by have : a = 82 := z; unfold X82; omega)) (fun b _ => f5 b) (by rw [f5, hrst]; exact h37) (by
          rw [hrst]
          refine rOut_app hout lo5 (fun k v hkv => ?_)
          cases k with
          | zero =>
            have hv : e.2.1 = v := Option.some.inj hkv
            rw [show (z.2.2.2.length : Int) + ((0 : Nat) : Int) = z.2.2.2.length from Int.add_zero _, e5, sA_same]
            exact hv
          | succ k => cases hkv) (by
          rw [hrst]
          intro g g0 g1
          obtain ⟨u1, u2⟩ := hnm g g0 g1
          exact ⟨by rw [fx_a x5 (n82 83 (by omega))]; exact u1, fun hz i k hik => by rw [fx_a x5 (n82 84 (by omega))]; exact u2 hz i k hik⟩)
        rw [hv0, show (z.2.2.2.length : Int) + (([] : List Int).length : Int) + 1 = (z.2.2.2.length : Int) + 1 by show (z.2.2.2.length : Int) + ((0 : Nat) : Int) + 1 = _; omega] at hct
        exact hct
theorem s_rd26 {fu : Nat} : ∀ (m j n : Nat) (σ : SS), m + j = 324 → m < n → (∀ h : Int, 0 ≤ h → h < j → σ.2.1 83 h = -1) →
    Wp (l_D_read_26 fu n j σ) (fun _ τ => fx (jst 83) σ τ ∧ ∀ h : Int, 0 ≤ h → h < 324 → τ.2.1 83 h = -1) := by
  intro m
  induction m with
  | zero =>
    intro j n σ h1 h2 h4
    cases n with
    | zero => omega
    | succ n =>
      rw [l_D_read_26]
      exact wp_f (by omega) (wp_some ⟨fx_rf, fun h a b => h4 h a (by omega)⟩)
  | succ m ih =>
    intro j n σ h1 h2 h4
    cases n with
    | zero => omega
    | succ n =>
      rw [l_D_read_26]
      refine wp_t (by omega) (wp_ck ⟨by omega, by omega⟩ (wp_lb (fun σ5 e5 => wp_ck (by omega) ?_)))
      have hx : fx (jst 83) σ σ5 := by rw [e5]; exact fx_A fx_rf rfl
      rw [show (j : Int) + 1 = ((j + 1 : Nat) : Int) by omega]
      have h9 := ih (j + 1) n σ5 (by omega) (by omega) (fun h a b => by
        rw [e5]
        by_cases c : h = j
        · rw [c]; exact sA_same _ _ _ _
        · rw [sA_other (by omega)]; exact h4 h a (by omega))
      exact wp_mono h9 (fun _ τ k => ⟨fx_tr hx k.1, k.2⟩)
theorem s_readR {fu R : Nat} {x : Int} {σ : SS} {d : Dk} (hfu : 20000 ≤ fu) (hR : 300 < R) (hRf : R < fu) (hg : gD R d) (hc : rD σ d) :
    Wp (f_D_read fu x σ) (fun z τ => fx XD σ τ ∧ τ.1 55 0 = (rfs d x x : Int) ∧ ((rfs d x x = 0 ∧ z = ((rdD R d x).2.2.2.length : Int) ∧ rD τ (dkR R d x)) ∨ (rfs d x x ≠ 0 ∧ rD τ d))) := by
  have hp4 := hg.2.1.1.2.2.2.1
  unfold f_D_read
  refine wp_e (s_refuses hc) ?_
  have hc2 : rD (sF σ 55 0 (rfs d x x : Int)) d := rD_code hc
  have x2 : fx XD σ (sF σ 55 0 (rfs d x x : Int)) := fx_F fx_rf (by unfold XD; omega)
  have f20 : (sF σ 55 0 (rfs d x x : Int)).1 55 0 = (rfs d x x : Int) := sF_same _ _ _ _
  by_cases c : rfs d x x = 0
  · rw [if_pos c]
    refine wp_t rfl ?_
    generalize sF σ 55 0 (rfs d x x : Int) = σ2 at hc2 x2 f20
    obtain ⟨x1, x2', -, -, wx, -, -⟩ := rfs_ok c
    have gx := whl_row (hg.2.2.1 x.toNat (by omega)) wx
    have bx := slot_bnd hR hg.1.2.2.2.2 hg.2.1 gx.1 gx.2.2.1
    have hokx := okR_N gx.2.2.2.1 hg.2.1.1.1 R gx.2.1
    have ilx := il_le (O := d.1) hp4 hokx
    have hlenR := (rsR_len hp4 hokx (rs0_ok d.2.2.2.1.1)).2
    refine wp_sq (s_rslot (Or.inl rfl) hfu hR hRf hg hc2 ⟨x1, x2'⟩ wx) ?_
    rintro z σ8 ⟨x8, rfl, r8, p8⟩
    have nQ1 : ∀ a, a ≠ 71 → (a < 73 ∨ 75 < a) → ¬ XQ 71 a := fun a h1 h2 => XQ_lo h1 h2
    refine wp_lb (fun σ13 e13 => wp_sq (s_rd26 (fu := fu) 324 0 fu σ13 (by omega) (by omega) (fun h a b => by omega)) ?_)
    rintro - σ17 ⟨x17, y17⟩
    have n83 : ∀ a, a ≠ 83 → ¬ jst 83 a := fun a h z => h z
    refine wp_lb (fun σ22 e22 => ?_)
    have f13 : ∀ b, b ≠ 29 → σ13.1 55 b = σ2.1 55 b := fun b hb => by rw [e13, sF_f (fun z => hb z.2), fx_f x8 (nQ1 55 (by omega) (by omega))]
    have f1329 : σ13.1 55 29 = (il (tN d.2.2.2.1.2.1 R (d.2.2.2.2.1 x.toNat).2.2.1) : Int) := by rw [e13]; exact sF_same _ _ _ _
    have f22 : ∀ b, b ≠ 37 → σ22.1 55 b = σ13.1 55 b := fun b hb => by rw [e22, sF_f (fun z => hb z.2), fx_f x17 (n83 55 (by omega))]
    rw [f22 29 (by decide), f1329]
    refine wp_lb (fun σ26 e26 => ?_)
    have f26 : ∀ b, b ≠ 36 → b ≠ 37 → b ≠ 29 → σ26.1 55 b = σ2.1 55 b := fun b h1 h2 h3 => by rw [e26, sF_f (fun z => h1 z.2), f22 b h2, f13 b h3]
    have f2629 : σ26.1 55 29 = (il (tN d.2.2.2.1.2.1 R (d.2.2.2.2.1 x.toNat).2.2.1) : Int) := by rw [e26, sF_f (by decide), f22 29 (by decide)]; exact f1329
    have f2637 : σ26.1 55 37 = 0 := by rw [e26, sF_f (by decide), e22]; exact sF_same _ _ _ _
    have f2636 : σ26.1 55 36 = (il (tN d.2.2.2.1.2.1 R (d.2.2.2.2.1 x.toNat).2.2.1) : Int) := by rw [e26]; exact sF_same _ _ _ _
    have x26 : fx (fun a => a = 55 ∨ a = 71 ∨ (73 ≤ a ∧ a ≤ 75) ∨ a = 83) σ2 σ26 := by
      rw [e26, e22]
      refine fx_F (fx_F (fx_tr (τ := σ13) ?_ (fx_mono x17 (fun a z => by have : a = 83 := z; omega))) (by omega)) (by omega)
      rw [e13]
      exact fx_F (fx_mono x8 (fun a z => by unfold XQ at z; omega)) (by omega)
    have r26 : rseg σ26 71 0 (tN d.2.2.2.1.2.1 R (d.2.2.2.2.1 x.toNat).2.2.1) (il (tN d.2.2.2.1.2.1 R (d.2.2.2.2.1 x.toNat).2.2.1)) := by
      have h1 : rseg σ13 71 0 (tN d.2.2.2.1.2.1 R (d.2.2.2.2.1 x.toNat).2.2.1) (il (tN d.2.2.2.1.2.1 R (d.2.2.2.2.1 x.toNat).2.2.1)) := rseg_eq (fun k _ _ => by rw [e13]; rfl) rfl r8
      exact rseg_eq (fun k _ _ => by rw [e26, e22]; rfl) rfl (rseg_fx x17 (n83 71 (by omega)) h1)
    have p26 : rpa σ26 (tN d.2.2.2.1.2.1 R (d.2.2.2.2.1 x.toNat).2.2.1) := by
      intro e he
      obtain ⟨a1, a2⟩ := p8 e he
      refine ⟨fun cc => ?_, a2⟩
      obtain ⟨b1, b2, b3⟩ := a1 cc
      refine ⟨b1, b2, ?_⟩
      rw [fx_a x26 (by omega), ← fx_a x8 (nQ1 58 (by omega) (by omega))]
      exact b3
    have nm26 : rNm σ26 rs0 := fun h h0 h1 => ⟨by
      have : σ26.2.1 83 h = σ17.2.1 83 h := by rw [e26, e22]; rfl
      rw [this, y17 h h0 h1]; rfl, fun z => absurd rfl z⟩
    have h61 := s_rd61 (pa := d.2.2.2.1.1) (fu := fu) (N := (d.2.2.2.2.1 x.toNat).2.1) (len := il (tN d.2.2.2.1.2.1 R (d.2.2.2.2.1 x.toNat).2.2.1)) hp4 hfu (by omega) (tN d.2.2.2.1.2.1 R (d.2.2.2.2.1 x.toNat).2.2.1) fu rs0 σ26 (by omega) (by show 0 + _ = _; omega) f2629 f2637 (by show (0 : Int) + _ ≤ 100000; omega) (rs0_ok _) r26 p26 hokx (fun e he cc => by
      have h1 := (p26 e he).1 cc
      rw [h1.2.2]
      exact (hokx e he).2.2.2.2.2.1 cc) (fun k v hk => by cases hk) nm26
    refine wp_sq (show Wp (l_D_read_61 fu fu 0 σ26) _ from h61) ?_
    rintro - τ ⟨t1, t2, t3, t4⟩
    have nx : ∀ a, a ≠ 55 → (a < 82) → ¬ X82 a := fun a h1 h2 z => by unfold X82 at z; omega
    have g36 : τ.1 55 36 = (il (tN d.2.2.2.1.2.1 R (d.2.2.2.2.1 x.toNat).2.2.1) : Int) := by rw [t2 36 (by decide)]; exact f2636
    have hlen' : ((rdD R d x).2.2.2.length : Int) = (il (tN d.2.2.2.1.2.1 R (d.2.2.2.2.1 x.toNat).2.2.1) : Int) := by
      unfold rdD
      rw [hlenR]
      show ((0 + _ : Nat) : Int) = _
      omega
    rw [g36]
    have xall : fx (fun a => a = 55 ∨ a = 71 ∨ (73 ≤ a ∧ a ≤ 75) ∨ (82 ≤ a ∧ a ≤ 84)) σ2 τ := fx_tr (fx_mono x26 (fun a z => by omega)) (fx_mono t1 (fun a z => by unfold X82 at z; omega))
    have gall : ∀ b, b ≠ 36 → b ≠ 37 → b ≠ 29 → τ.1 55 b = σ2.1 55 b := fun b h1 h2 h3 => by rw [t2 b h2, f26 b h1 h2 h3]
    obtain ⟨k1, k2, k3, k4, k5, k6, k7⟩ := hc2
    refine wp_some ⟨fx_tr x2 (fx_mono xall (fun a z => by unfold XD; omega)), by rw [gall 0 (by decide) (by decide) (by decide)]; exact f20, Or.inl ⟨c, hlen'.symm, ⟨rHol_fx xall (fun a h1 h2 => by omega) k1.1, by rw [gall 2 (by decide) (by decide) (by decide)]; exact k1.2.1, by rw [gall 3 (by decide) (by decide) (by decide)]; exact k1.2.2.1, fun h a b => by rw [fx_a xall (by omega)]; exact k1.2.2.2 h a b⟩, rOp_fx xall (by omega) (by omega) k2, by rw [gall 1 (by decide) (by decide) (by decide)]; exact k3, fun i hi => rSl_fx xall (fun a h1 h2 => by omega) (k4 i hi), ⟨by rw [g36]; exact hlen'.symm, t3, t4⟩, by rw [gall 38 (by decide) (by decide) (by decide)]; exact k6, by rw [gall 39 (by decide) (by decide) (by decide)]; exact k7⟩⟩
  · rw [if_neg c]
    exact wp_f (by decide) (wp_some ⟨x2, f20, Or.inr ⟨c, hc2⟩⟩)
