/-! THE REFERENCE FILLS A HOLE WITH A TERM -/
def gV (x : List Int) (y : Int × Int) : Int := if y.1 % 4 = 0 then 4 * vin x y.2 (y.1 / 4) else y.1
theorem itl_ins {β : Int} {x : List Int} : ∀ r : Row, itl (r.map (ins β x)) = (itl (r.map (sh β))).map (fun y => (gV x y, y.2)) := by
  intro r
  induction r with
  | nil => rfl
  | cons e r ih =>
    rw [List.map_cons, List.map_cons, itl_cons, itl_cons, ih, List.map_append, List.map_cons, List.map_map]
    congr 1
    congr 1
    show (e.2.2.map (vin x (e.1 - β))).map (fun v => (4 * v, e.1 - β)) = _
    rw [List.map_map]
    refine List.map_congr_left (fun v _ => ?_)
    show (4 * vin x (e.1 - β) v, e.1 - β) = (gV x (4 * v, e.1 - β), e.1 - β)
    unfold gV
    dsimp only
    rw [if_pos (by omega), show 4 * v / 4 = v by omega]
theorem s_f207 {fu q r : Nat} {l : List (Int × Int)} {a : AG} {h : Int} (hqr : q = 71 ∧ r = 72 ∨ q = 72 ∧ r = 71) (hfu : 20 ≤ fu) (hh : 0 ≤ h ∧ h < 324) (h4 : a.2.2.length ≤ 4) (hl : l.length ≤ 400) (hlv : ∀ x ∈ l, 0 ≤ x.1 ∧ x.1 ≤ 1000000 ∧ 0 ≤ x.2 ∧ x.2 ≤ 10000) :
    ∀ (m j n : Nat) (σ : SS), m + j = l.length → m < n → rho σ q a → σ.2.1 58 h = (a.2.2.length : Int) → (∀ (k : Nat) (x : Int × Int), l[k]? = some x → σ.2.1 r k = x.1 ∧ σ.2.1 74 k = x.2) → (∀ (k : Nat) (x : Int × Int), k < j → l[k]? = some x → σ.2.1 60 (400 * h + k) = gV a.2.2 x) →
    Wp (l_D_fill_207 fu q r n h l.length j σ) (fun _ τ => fx (jst 60) σ τ ∧ (∀ k : Int, (k < 400 * h ∨ 400 * h + 400 ≤ k) → τ.2.1 60 k = σ.2.1 60 k) ∧ ∀ (k : Nat) (x : Int × Int), l[k]? = some x → τ.2.1 60 (400 * h + k) = gV a.2.2 x) := by
  intro m
  induction m with
  | zero =>
    intro j n σ h1 h2 ha h58 h3 h5
    cases n with
    | zero => omega
    | succ n =>
      rw [l_D_fill_207]
      exact wp_f (by omega) (wp_some ⟨fx_rf, fun _ _ => rfl, fun k x hk => h5 k x (by have := (List.getElem?_eq_some_iff.mp hk).1; omega) hk⟩)
  | succ m ih =>
    intro j n σ h1 h2 ha h58 h3 h5
    cases n with
    | zero => omega
    | succ n =>
      rw [l_D_fill_207]
      have hj : j < l.length := by omega
      have hlj : l[j]? = some l[j] := List.getElem?_eq_getElem hj
      obtain ⟨g1, g2⟩ := h3 j _ hlj
      obtain ⟨b1, b2, b3, b4⟩ := hlv l[j] (List.getElem_mem hj)
      have hfd : f_D_find fu q 1 (a.2.2.length : Int) (4 * (l[j].1 / 4 - l[j].2)) σ = some (fnd a.2.2 (l[j].1 / 4 - l[j].2), σ) := s_find (fr := 1) hfu h4 (by omega) (by omega) ha.2
      have hlo := fnd_lo a.2.2 (l[j].1 / 4 - l[j].2)
      refine wp_t (by omega) (wp_ck ⟨by omega, by omega⟩ (wp_ck ⟨by omega, by omega⟩ ?_))
      rw [g1, g2]
      refine wp_ck (by omega) (wp_lx (wp_ck (by omega) (wp_ck (by omega) (wp_ck ⟨by omega, by omega⟩ ?_))))
      refine wp_sq (R := fun z τ => z = gV a.2.2 l[j] ∧ τ = σ) ?_ ?_
      · by_cases c0 : l[j].1 % 4 = 0
        · have hgv : gV a.2.2 l[j] = 4 * vin a.2.2 l[j].2 (l[j].1 / 4) := if_pos c0
          rw [hgv]
          by_cases cn : l[j].1 / 4 - l[j].2 < 0
          · refine wp_t c0 (wp_t cn (wp_ck ⟨by omega, by omega⟩ (wp_some ⟨?_, rfl⟩)))
            unfold vin
            rw [if_pos (by omega)]
            omega
          · refine wp_t c0 (wp_f cn (wp_ck ⟨hh.1, hh.2⟩ (wp_ck (by omega) ?_)))
            rw [h58]
            refine wp_e hfd (wp_ck ⟨by omega, by omega⟩ ?_)
            rw [g2]
            refine wp_ck (by omega) (wp_ck (by omega) (wp_some ⟨?_, rfl⟩))
            unfold vin
            rw [if_neg (by omega)]
        · exact wp_f c0 (wp_ck ⟨by omega, by omega⟩ (wp_some ⟨(if_neg c0).symm, rfl⟩))
      · rintro z τ ⟨rfl, rfl⟩
        refine wp_ck ⟨by omega, by omega⟩ (wp_lb (fun σ31 e31 => wp_ck (by omega) ?_))
        have hx : fx (jst 60) τ σ31 := by rw [e31]; exact fx_A fx_rf rfl
        have n60 : ∀ a, a ≠ 60 → ¬ jst 60 a := fun a h z => h z
        rw [show (j : Int) + 1 = ((j + 1 : Nat) : Int) by omega]
        have h9 := ih (j + 1) n σ31 (by omega) (by omega) (rho_fx hx (n60 q (by omega)) ha) (by rw [fx_a hx (n60 58 (by omega))]; exact h58) (fun k x hk => by rw [fx_a hx (n60 r (by omega)), fx_a hx (n60 74 (by omega))]; exact h3 k x hk) (fun k x hk hk2 => by
          rw [e31]
          by_cases c : k = j
          · subst c
            rw [hlj] at hk2
            cases hk2
            exact sA_same _ _ _ _
          · rw [sA_other (by omega)]; exact h5 k x (by omega) hk2)
        refine wp_mono h9 (fun _ υ k => ⟨fx_tr hx k.1, fun m hm => ?_, k.2.2⟩)
        rw [k.2.1 m hm, e31]
        exact sA_other (by omega)
/-- a filling is laid into the second row -/
theorem s_fs13 {fu : Nat} {h : Int} {L : Nat} (hh : 0 ≤ h ∧ h < 324) (hL : L ≤ 400) : ∀ (m j n : Nat) (σ : SS), m + j = L → m < n → σ.2.1 59 h = (L : Int) → (∀ k : Nat, k < j → σ.2.1 72 k = σ.2.1 60 (400 * h + k)) →
    Wp (l_D_fullSize_13 fu n h j σ) (fun _ τ => fx (jst 72) σ τ ∧ ∀ k : Nat, k < L → τ.2.1 72 k = σ.2.1 60 (400 * h + k)) := by
  intro m
  induction m with
  | zero =>
    intro j n σ h1 h2 h3 h5
    cases n with
    | zero => omega
    | succ n =>
      rw [l_D_fullSize_13]
      exact wp_ck ⟨hh.1, hh.2⟩ (wp_f (by omega) (wp_some ⟨fx_rf, fun k hk => h5 k (by omega)⟩))
  | succ m ih =>
    intro j n σ h1 h2 h3 h5
    cases n with
    | zero => omega
    | succ n =>
      rw [l_D_fullSize_13]
      refine wp_ck ⟨hh.1, hh.2⟩ (wp_t (by omega) (wp_ck (by omega) (wp_ck (by omega) (wp_ck ⟨by omega, by omega⟩ (wp_ck ⟨by omega, by omega⟩ (wp_lb (fun σ8 e8 => wp_ck (by omega) ?_)))))))
      have hx : fx (jst 72) σ σ8 := by rw [e8]; exact fx_A fx_rf rfl
      have n72 : ∀ a, a ≠ 72 → ¬ jst 72 a := fun a h z => h z
      rw [show (j : Int) + 1 = ((j + 1 : Nat) : Int) by omega]
      have h9 := ih (j + 1) n σ8 (by omega) (by omega) (by rw [fx_a hx (n72 59 (by omega))]; exact h3) (fun k hk => by
        rw [fx_a hx (n72 60 (by omega)), e8]
        by_cases c : k = j
        · rw [c]; exact sA_same _ _ _ _
        · rw [sA_other (by omega)]; exact h5 k (by omega))
      exact wp_mono h9 (fun _ τ k => ⟨fx_tr hx k.1, fun m hm => by rw [k.2 m hm, fx_a hx (n72 60 (by omega))]⟩)
/-- all fillings can be written out -/
def canW (O : Op) (R : Nat) (s : St) : Prop := ∀ h F, s.2.1 h = some F → capr O (tN s.2.1 R F) ∧ (tN s.2.1 R F).length ≤ 5000
theorem s_lay2 {O : Op} {fu R : Nat} {told h : Int} {s : St} {F : Row} {σ : SS} (hfu : 20000 ≤ fu) (hR : 300 < R) (hRf : R < fu) (hb2 : bd2 O) (hs : sOk O told s) (hm : mOk told s) (hw : canW O R s) (hc : rSt σ told s) (ho : rOp σ O) (hF : s.2.1 h = some F) :
    Wp (sq (l_D_fullSize_13 fu fu h 0 σ) fun (_ : Unit) σ4 => ck (inb 324 h) (f_D_write fu 72 (σ4.2.1 59 h) σ4)) (fun z τ => fx (XQ 72) σ τ ∧ z = (il (tN s.2.1 R F) : Int) ∧ rseg τ 72 0 (tN s.2.1 R F) (il (tN s.2.1 R F)) ∧ rpa τ (tN s.2.1 R F)) := by
  have hp : 0 ≤ s.1 h := hs.2.2.2.2.2.2.2.2.1 h ((hs.2.2.2.2.2.1 h).mp ⟨F, hF⟩)
  obtain ⟨i1, i2, i3, -, i5⟩ := hc.1 h hp
  obtain ⟨j1, j2, j3⟩ := i5 F hF
  have hokF := hs.1 h F hF
  have h80 := hs.2.2.2.2.2.2.2.2.2 h F hF
  have hil := il_le (O := O) hs.2.2.2.1 hokF
  have h4 := hs.2.2.2.1 h
  obtain ⟨w1, w2⟩ := hw h F hF
  refine wp_sq (s_fs13 (fu := fu) ⟨i1, i2⟩ (L := il F) (by omega) (il F) 0 fu σ (by omega) (by omega) j2 (fun k hk => by omega)) ?_
  rintro - σ4 ⟨x4, y4⟩
  have n72 : ∀ a, a ≠ 72 → ¬ jst 72 a := fun a h z => h z
  have htF := tR_N hs.2.1 R (hs.2.1 h F hF)
  have hbn := tR_bnd hb2 (lo := 0) (hi := 0) (fun z hz => by cases List.mem_singleton.mp hz; omega) htF
  have c4 : rSt σ4 told s := rSt_fx x4 (n72 55 (by omega)) (fun a h1 h2 => n72 a (by omega)) hc
  have ho4 := rOp_fx x4 (n72 56 (by omega)) (n72 57 (by omega)) ho
  refine wp_ck ⟨i1, i2⟩ ?_
  rw [fx_a x4 (n72 59 (by omega)), j2]
  have hr4 : rseg σ4 72 0 F (il F) := rseg_eq (σ := σ) (q := 60) (i := 400 * h) (j := 400 * h + il F) (fun k h1 h2 => by
    have := y4 k.toNat (by omega)
    rw [show ((k.toNat : Nat) : Int) = k by omega] at this
    rw [Int.zero_add]; exact this) (by omega) j3
  refine wp_mono (s_write (O := O) (told := told) (N := s.1 h) (s := s) (r := F) (S := [0]) (σ := σ4) (Or.inr rfl) hfu hR hRf hb2 hs hm hp (by omega) hr4 (hs.2.1 h F hF) (fun e he => by have := hbn e he; omega) ho4 c4.1 hokF w1) ?_
  rintro z τ ⟨z1, z2, z3⟩
  have x9 : fx (XQ 72) σ τ := fx_tr (fx_mono x4 (fun a z => Or.inl z)) z1
  refine ⟨x9, z2, z3, ?_⟩
  have nQ : ∀ a, a ≠ 72 → (a < 73 ∨ 75 < a) → ¬ XQ 72 a := fun a h1 h2 => XQ_lo h1 h2
  exact rpa_of (n := s.1 h) (by omega) (rOp_fx x9 (nQ 56 (by omega) (by omega)) (nQ 57 (by omega) (by omega)) ho) (rHol_fx x9 (fun a h1 h2 => nQ a (by omega) (by omega)) hc.1) hs.2.2.2.1 (okR_N hp hs.1 R hokF) (tR_opks htF) (fun e he => by have := hbn e he; omega)
theorem s_fullr {O : Op} {fu R : Nat} {told h : Int} {s : St} {σ : SS} (hfu : 20000 ≤ fu) (hR : 300 < R) (hRf : R < fu) (hb2 : bd2 O) (hs : sOk O told s) (hm : mOk told s) (hw : canW O R s) (hc : rSt σ told s) (ho : rOp σ O) (hp : 0 ≤ s.1 h) :
    Wp (f_D_fullSize fu h σ) (fun z τ => fx (XQ 72) σ τ ∧ z = szo s.2.1 R h) := by
  obtain ⟨i1, i2, i3, i4, i5⟩ := hc.1 h hp
  unfold f_D_fullSize
  refine wp_ck ⟨i1, i2⟩ ?_
  cases hF : s.2.1 h with
  | none => exact wp_t (i4 hF) (wp_some ⟨fx_rf, (szo_n hF).symm⟩)
  | some F =>
    obtain ⟨j1, j2, j3⟩ := i5 F hF
    have h1 := s_lay2 hfu hR hRf hb2 hs hm hw hc ho hF
    refine wp_f j1 ?_
    obtain ⟨z, τ, e1, z1, rfl, z3, z4⟩ := h1
    have hil : il (tN s.2.1 R F) ≤ 16384 := by
      have h9 := il_le (O := O) hs.2.2.2.1 (okR_N hp hs.1 R (hs.1 h F hF))
      have := (hw h F hF).1
      unfold capr at this
      omega
    have h2 := s_sizeOf (fu := fu) hfu hil z3 z4
    -- the two orders of binding are one
    have e2 : (sq (l_D_fullSize_13 fu fu h 0 σ) fun (z3 : Unit) σ4 => ck (inb 324 h) (sq (f_D_write fu 72 (σ4.2.1 59 h) σ4) fun (a9 : Int) σ10 => sq (f_D_sizeOf fu 72 a9 σ10) fun (a14 : Int) σ15 => some (a14, σ15))) = sq (sq (l_D_fullSize_13 fu fu h 0 σ) fun (_ : Unit) σ4 => ck (inb 324 h) (f_D_write fu 72 (σ4.2.1 59 h) σ4)) fun (a9 : Int) σ10 => f_D_sizeOf fu 72 a9 σ10 := by
      cases l_D_fullSize_13 fu fu h 0 σ with
      | none => rfl
      | some x =>
        show ck (inb 324 h) (sq (f_D_write fu 72 (x.2.2.1 59 h) x.2) fun (a9 : Int) σ10 => sq (f_D_sizeOf fu 72 a9 σ10) fun (a14 : Int) σ15 => some (a14, σ15)) = sq (ck (inb 324 h) (f_D_write fu 72 (x.2.2.1 59 h) x.2)) fun (a9 : Int) σ10 => f_D_sizeOf fu 72 a9 σ10
        rw [ck_t (show inb 324 h from ⟨i1, i2⟩), ck_t (show inb 324 h from ⟨i1, i2⟩)]
        simp only [sq_some]
    rw [e2, e1]
    show Wp (f_D_sizeOf fu 72 (il (tN s.2.1 R F) : Int) τ) _
    rw [h2]
    exact wp_some ⟨z1, (szo_s hF).symm⟩
theorem s_318 {O : Op} {fu R : Nat} {told : Int} {s : St} (hfu : 20000 ≤ fu) (hR : 300 < R) (hRf : R < fu) (hb2 : bd2 O) (hs : sOk O told s) (hm : mOk told s) (hw : canW O R s) :
    ∀ (m j n : Nat) (σ : SS), ((m + j : Nat) : Int) = 24 + s.2.2.2 → m < n → rSt σ told s → rOp σ O →
    Wp (l_D_fill_318 fu n j σ) (fun y τ => fx (XQ 72) σ τ ∧ ((y = .inl 4 ∧ ∃ g, 0 ≤ s.1 g ∧ 80 < szo s.2.1 R g) ∨ (y = .inr () ∧ ∀ g, (j : Int) ≤ g → 0 ≤ s.1 g → szo s.2.1 R g ≤ 80))) := by
  have h8 := hs.2.2.2.2.2.2.2.1
  have hb := mOk_b h8 hm
  intro m
  induction m with
  | zero =>
    intro j n σ h1 h2 hc ho
    cases n with
    | zero => omega
    | succ n =>
      rw [l_D_fill_318]
      rw [hc.2.2.1]
      exact wp_ck (by omega) (wp_f (by omega) (wp_some ⟨fx_rf, Or.inr ⟨rfl, fun g h1 h2 => by have := (hs.2.2.2.2.2.2.1 g).mp h2; omega⟩⟩))
  | succ m ih =>
    intro j n σ h1 h2 hc ho
    cases n with
    | zero => omega
    | succ n =>
      rw [l_D_fill_318]
      rw [hc.2.2.1, hc.2.1]
      have nQ : ∀ a, a ≠ 72 → (a < 73 ∨ 75 < a) → ¬ XQ 72 a := fun a h1 h2 => XQ_lo h1 h2
      refine wp_ck (by omega) (wp_t (by omega) ?_)
      have full : 0 ≤ s.1 (j : Int) → Wp (sq (f_D_fullSize fu (j : Int) σ) fun (a4 : Int) σ5 => if 80 < a4 then (some (Sum.inl (4 : Int), σ5)) else (some (Sum.inr (), σ5))) (fun y τ => fx (XQ 72) σ τ ∧ ((y = .inl 4 ∧ ∃ g, 0 ≤ s.1 g ∧ 80 < szo s.2.1 R g) ∨ (y = .inr () ∧ (0 ≤ s.1 (j : Int) → szo s.2.1 R j ≤ 80)))) := by
        intro hp
        refine wp_sq (s_fullr hfu hR hRf hb2 hs hm hw hc ho hp) ?_
        rintro z τ ⟨z1, rfl⟩
        exact wp_if (fun c => wp_some ⟨z1, Or.inl ⟨rfl, _, hp, c⟩⟩) (fun c => wp_some ⟨z1, Or.inr ⟨rfl, fun _ => by omega⟩⟩)
      refine wp_srr (R := fun y τ => fx (XQ 72) σ τ ∧ ((y = .inl 4 ∧ ∃ g, 0 ≤ s.1 g ∧ 80 < szo s.2.1 R g) ∨ (y = .inr () ∧ (0 ≤ s.1 (j : Int) → szo s.2.1 R j ≤ 80)))) (wp_if (fun c => full ((hs.2.2.2.2.2.2.1 _).mpr (by omega))) (fun c => wp_if (fun c2 => wp_some ⟨fx_rf, Or.inr ⟨rfl, fun hp => by have := (hs.2.2.2.2.2.2.1 _).mp hp; omega⟩⟩) (fun c2 => full ((hs.2.2.2.2.2.2.1 _).mpr (by omega))))) ?_ ?_
      · rintro y τ ⟨z1, z2⟩
        rcases z2 with z2 | ⟨z2, -⟩
        · exact ⟨z1, Or.inl z2⟩
        · cases z2
      · rintro u σ18 ⟨z1, z2⟩
        rcases z2 with ⟨z2, -⟩ | ⟨-, z2⟩
        · cases z2
        · refine wp_ck (by omega) ?_
          rw [show (j : Int) + 1 = ((j + 1 : Nat) : Int) by omega]
          have h9 := ih (j + 1) n σ18 (by omega) (by omega) (rSt_fx z1 (nQ 55 (by omega) (by omega)) (fun a h1 h2 => nQ a (by omega) (by omega)) hc) (rOp_fx z1 (nQ 56 (by omega) (by omega)) (nQ 57 (by omega) (by omega)) ho)
          refine wp_mono h9 (fun y τ k => ⟨fx_tr z1 k.1, ?_⟩)
          rcases k.2 with k | ⟨k1, k2⟩
          · exact Or.inl k
          · refine Or.inr ⟨k1, fun g g1 g2 => ?_⟩
            by_cases c : g = (j : Int)
            · rw [c] at g2 ⊢; exact z2 g2
            · exact k2 g (by omega) g2
theorem big_any {O : Op} {told : Int} {R : Nat} {s : St} (hs : sOk O told s) : big R s = true ↔ ∃ g, 0 ≤ s.1 g ∧ 80 < szo s.2.1 R g := by
  rw [← big_mxs, mxs_big]
  constructor
  · rintro ⟨g, g1, g2⟩
    exact ⟨g, hs.2.2.2.2.2.2.2.2.1 g g1, g2⟩
  · rintro ⟨g, g1, g2⟩
    refine ⟨g, (hs.2.2.2.2.2.1 g).mp ?_, g2⟩
    cases hq : s.2.1 g with
    | none => rw [szo_n hq] at g2; omega
    | some F => exact ⟨F, rfl⟩
theorem fil_cap {O : Op} (h3 : ar3 O) {Φ : Fl} {h : Int} {F : Row} (ho : opn Φ h F) (hl : F.length ≤ 80) (hw : tR O F [0] = some []) {R : Nat} : ∀ {q : Row}, nof Φ q → (tN (up1 Φ h (some F)) (R + 1) q).length + 79 * nA O q ≤ 80 * q.length ∧ 5 * (tN (up1 Φ h (some F)) (R + 1) q).length + 291 * nA O q ≤ 292 * q.length + 4 * nA O (tN (up1 Φ h (some F)) (R + 1) q) := by
  have hF : nof (up1 Φ h (some F)) F := by
    intro e he hf
    obtain ⟨f1, E, f2⟩ := hf
    obtain ⟨q1, q2⟩ := ho e he f1
    rw [up1_ne q2, q1] at f2
    cases f2
  have hcF := tR_count h3 hw
  intro q
  induction q with
  | nil => intro _; rw [tN_nil]; exact ⟨Nat.le_refl _, Nat.le_refl _⟩
  | cons e q ih =>
    intro hq
    obtain ⟨i1, i2⟩ := ih (fun x hx => hq x (List.mem_cons_of_mem _ hx))
    have hx : (tN (up1 Φ h (some F)) (R + 1) [e]).length + 79 * bA O e ≤ 80 ∧ 5 * (tN (up1 Φ h (some F)) (R + 1) [e]).length + 291 * bA O e ≤ 292 + 4 * nA O (tN (up1 Φ h (some F)) (R + 1) [e]) := by
      by_cases c : isF (up1 Φ h (some F)) e
      · obtain ⟨c1, E, hE⟩ := c
        have c2 : e.2.1 / 4 = h := by
          apply Decidable.byContradiction
          intro z
          rw [up1_ne z] at hE
          exact hq e List.mem_cons_self ⟨c1, E, hE⟩
        have e1 : tN (up1 Φ h (some F)) (R + 1) [e] = F.map (tS e.1 (tI e.2.2)) := by
          show tN (up1 Φ h (some F)) R (tE (up1 Φ h (some F)) [e]) = _
          have e0 : tE (up1 Φ h (some F)) [e] = F.map (tS e.1 (tI e.2.2)) := by
            unfold tE tX
            rw [List.flatMap_cons, List.flatMap_nil, List.append_nil, if_pos c1, c2, up1_same]
          rw [e0]
          exact tN_nof R (fun x hx hf => by obtain ⟨y, hy, rfl⟩ := List.mem_map.mp hx; exact hF y hy (isF_sub hf).1)
        rw [e1, List.length_map, nA_sub, bA_hole (by omega)]
        have : ([] : List Int).length = 0 := rfl
        have : ([0] : List Int).length = 1 := rfl
        omega
      · rw [tN_open c]
        have h1 : nA O [e] = bA O e := by rw [nA_cons]; rfl
        have h2 := bA_le O e
        rw [h1]
        have : [e].length = 1 := rfl
        omega
    rw [tN_cons, List.length_append, List.length_cons, nA_cons, nA_append]
    omega
theorem fil_canW {O : Op} {told h : Int} {R : Nat} {s : St} {F : Row} (h3 : ar3 O) (hR : 300 < R) (hg : gOk O told R s) (hΦ : s.2.1 h = none) (ho : opn s.2.1 h F) (hl : F.length ≤ 80) (hw : tR O F [0] = some []) (hs' : sOk O told (sFil s h F)) (hm' : mOk told (sFil s h F)) : canW O R (sFil s h F) := by
  intro g G hG
  obtain ⟨R', rfl⟩ : ∃ R', R = R' + 1 := ⟨R - 1, by omega⟩
  have hG' : up1 s.2.1 h (some F) g = some G := hG
  by_cases c : g = h
  · rw [c, up1_same] at hG'
    cases hG'
    have hF : nof (sFil s h F).2.1 F := by
      intro e he hf
      obtain ⟨f1, E, f2⟩ := hf
      obtain ⟨q1, q2⟩ := ho e he f1
      have f2' : up1 s.2.1 h (some F) (e.2.1 / 4) = some E := f2
      rw [up1_ne q2, q1] at f2'
      cases f2'
    rw [tN_nof _ hF]
    unfold capr
    omega
  · rw [up1_ne c] at hG'
    obtain ⟨rk, k3, k4⟩ := sOk_rk hR hs' hm'
    have h5 : tN (sFil s h F).2.1 (R' + 1) (tN s.2.1 (R' + 1) G) = tN (sFil s h F).2.1 (R' + 1) G := tN_comp (xt_fil hΦ) k3 (R' + 1) (fun e _ _ => k4 _)
    rw [← h5]
    have h6 := fil_cap h3 (R := R') ho hl hw (tN_nofg hR hg G)
    have h7 := hg.2.2 g G hG'
    have h9 := tR_count h3 (tR_N hg.1.2.1 (R' + 1) (hg.1.2.1 g G hG'))
    have : ([] : List Int).length = 0 := rfl
    have : ([0] : List Int).length = 1 := rfl
    have h10 : (tN (sFil s h F).2.1 (R' + 1) (tN s.2.1 (R' + 1) G)).length + 79 * nA O (tN s.2.1 (R' + 1) G) ≤ 80 * (tN s.2.1 (R' + 1) G).length ∧ 5 * (tN (sFil s h F).2.1 (R' + 1) (tN s.2.1 (R' + 1) G)).length + 291 * nA O (tN s.2.1 (R' + 1) G) ≤ 292 * (tN s.2.1 (R' + 1) G).length + 4 * nA O (tN (sFil s h F).2.1 (R' + 1) (tN s.2.1 (R' + 1) G)) := h6
    unfold capr
    omega
theorem gOk_canW {O : Op} {told : Int} {R : Nat} {s : St} (hg : gOk O told R s) : canW O R s := fun h F hF => by
  have := hg.2.2 h F hF
  unfold capr
  omega
theorem s_fillr {O : Op} {fu q r R : Nat} {told N : Int} {s : St} {a : AG} {T : Row} {σ : SS} (hqr : q = 71 ∧ r = 72 ∨ q = 72 ∧ r = 71) (hfu : 20000 ≤ fu) (hR : 300 < R) (hRf : R < fu) (hb2 : bd2 O) (h3 : ar3 O) (hN : 0 ≤ N) (hN2 : N ≤ 1000) (hβ : 0 ≤ a.1 ∧ a.1 ≤ 5000) (hac : a.2.1 % 4 = 2) (hg : gOk O told R s) (hc : rSt σ told s) (ho : rOp σ O) (hΦ : s.2.1 (a.2.1 / 4) = none) (hpx : (a.2.2.length : Int) = s.1 (a.2.1 / 4)) (ha : rho σ q a) (hr : rseg σ r 0 T (il T)) (hno : nof s.2.1 T) (hok : okR s.1 N T) (ht : tR O T [a.1] = some []) (hl : T.length ≤ 2500) :
    Wp (f_D_fill fu q r (il T) σ) (fun z τ => fy XR σ τ ∧ z = (flt R (a.2.1 / 4) a.1 a.2.2 s T).1 ∧ rSt τ told (flt R (a.2.1 / 4) a.1 a.2.2 s T).2) := by
  have hbm := mOk_b hg.1.2.2.2.2.2.2.2.1 hg.2.1
  have h8 := hg.1.2.2.2.2.2.2.2.1
  have h4 := hg.1.2.2.2.1 (a.2.1 / 4)
  have hhr := sOk_h hg.1 (g := a.2.1 / 4) (by omega) (by omega)
  have h58 : σ.2.1 58 (a.2.1 / 4) = (a.2.2.length : Int) := by rw [(hc.1 _ (by omega)).2.2.1]; exact hpx.symm
  have hilT := il_le (O := O) hg.1.2.2.2.1 hok
  have hbn := tR_bnd hb2 (lo := a.1) (hi := a.1) (fun z hz => by cases List.mem_singleton.mp hz; omega) ht
  have hpT : rpa σ T := rpa_of hN2 ho hc.1 hg.1.2.2.2.1 hok (tR_opks ht) (fun f hf => by have := hbn f hf; omega)
  obtain ⟨f1, f2, f3, f4⟩ := flt_ok (β := a.1) (x := a.2.2) (T := T) hR hN hb2 hg hΦ hpx hok hno ht
  obtain ⟨m1, m2, m3, m4, m5⟩ := adm_ok (O := O) (told := told) (β := a.1) (x := a.2.2) hR hN T.length s T hg hΦ (by omega) hok hno (Nat.le_refl _)
  have n74 : ∀ a, a ≠ 74 → a ≠ 75 → ¬ X74 a := fun a h1 h2 z => z.elim h1 h2
  have nL : ∀ a, a ≠ 55 → (a < 58 ∨ 61 < a) → a ≠ r → (a < 73 ∨ 75 < a) → a ≠ 81 → ¬ XL r a := fun a h1 h2 h3 h4 h5 z => by unfold XL at z; omega
  have nq5 : ¬ X74 q := fun z => by unfold X74 at z; omega
  have nr5 : ¬ X74 r := fun z => by unfold X74 at z; omega
  unfold f_D_fill
  refine wp_ck ⟨by omega, by omega⟩ ?_
  rw [ha.1]
  refine wp_lx (wp_sq (s_hind (O := O) (a := a) (β := a.1) (T := T) hqr hfu hb2 hhr (by omega) ha h58 hr ht hl (by omega) ho hpT) ?_)
  rintro y σ5 ⟨x5, d5, hy⟩
  have c5 : rSt σ5 told s := rSt_fx x5 (n74 55 (by omega) (by omega)) (fun a h1 h2 => n74 a (by omega) (by omega)) hc
  have h20 := s_f20 (O := O) (fu := fu) (q := q) (r := r) (R := R) (told := told) (N := N) (β := a.1) (a := a) hqr hfu hR hRf hb2 hN hN2 hβ (by omega) hac T.length fu s [] T y σ5 (Nat.le_refl _) (by omega) hg c5 hΦ hpx (rho_fx x5 nq5 ha) (rOp_fx x5 (n74 56 (by omega) (by omega)) (n74 57 (by omega) (by omega)) ho) (rseg_fx x5 nr5 hr) d5 (fun e he => absurd he List.not_mem_nil) hno hok ht hl hy
  rw [List.nil_append] at h20
  clear hy
  unfold flt at f1 f2 f3 f4 ⊢
  generalize hadm : adm R (a.2.1 / 4) a.1 a.2.2 T.length s T = AD at f1 f2 f3 f4 m1 m2 m3 m4 m5 h20 ⊢
  have xr5 : fy XR σ σ5 := fy_of x5 (n74 55 (by omega) (by omega)) (fun a z => by unfold X74 at z; unfold XR; omega)
  have LR : ∀ {τ υ : SS}, fy (XL r) τ υ → fy XR τ υ := fun h => fy_mono h (fun a z => by unfold XL at z; unfold XR; omega)
  refine wp_sr h20 ?_ ?_
  · rintro z σ10 ⟨x10, c10, hz⟩
    rcases hz with ⟨z1, z2⟩ | ⟨-, z2, -⟩
    · have z2' : z = AD.1 := Sum.inl.inj z2
      rw [if_neg z1]
      exact ⟨fy_tr xr5 (LR x10), z2', c10⟩
    · cases z2
  · rintro z σ10 ⟨x10, c10, hz⟩
    rcases hz with ⟨-, z2⟩ | ⟨z1, z2, r10, d10⟩
    · cases z2
    · have z2' : z = (il (tN AD.2.2.1 R T) : Int) := Sum.inr.inj z2
      rw [z2', if_pos z1]
      rw [if_pos z1] at f1 f2 f3 f4
      have hlT := psd_len hR hN m1 m2 m4 hok hno
      have hokp := okR_N hN m1.1.1 R (okR_pa m2.2.1 hok)
      have htN := tR_N m1.1.2.1 R ht
      have hbn' := tR_bnd hb2 (lo := a.1) (hi := a.1) (fun z hz => by cases List.mem_singleton.mp hz; omega) htN
      have ho10 : rOp σ10 O := rOp_fx x10.1 (nL 56 (by omega) (by omega) (by omega) (by omega) (by omega)) (nL 57 (by omega) (by omega) (by omega) (by omega) (by omega)) (rOp_fx x5 (n74 56 (by omega) (by omega)) (n74 57 (by omega) (by omega)) ho)
      have hpN : rpa σ10 (tN AD.2.2.1 R T) := rpa_of hN2 ho10 c10.1 m1.1.2.2.2.1 hokp (tR_opks htN) (fun f hf => by have := hbn' f hf; omega)
      have hilN := il_le (O := O) m1.1.2.2.2.1 hokp
      refine wp_e (s_sizeOf hfu (by omega) r10 hpN) ?_
      rw [hlT]
      by_cases c2 : 80 < T.length
      · rw [if_pos c2]
        exact wp_t (by omega) (wp_some ⟨fy_tr xr5 (LR x10), rfl, c10⟩)
      · rw [if_neg c2]
        rw [if_neg c2] at f1 f2 f3 f4
        refine wp_f (by omega) ?_
        have hph : AD.2.1 (a.2.1 / 4) = s.1 (a.2.1 / 4) := m2.2.1 _ (by omega)
        have h5810 : σ10.2.1 58 (a.2.1 / 4) = (a.2.2.length : Int) := by rw [(c10.1 _ (by omega)).2.2.1]; omega
        have ha10 : rho σ10 q a := rho_fx x10.1 (nL q (by omega) (by omega) (by omega) (by omega) (by omega)) (rho_fx x5 nq5 ha)
        have hlen207 : (itl ((tN AD.2.2.1 R T).map (sh a.1))).length = il (tN AD.2.2.1 R T) := by rw [itl_len, il_sh]
        have h207 := s_f207 (fu := fu) (q := q) (r := r) (l := itl ((tN AD.2.2.1 R T).map (sh a.1))) (a := a) (h := a.2.1 / 4) hqr (by omega) hhr (by omega) (by rw [hlen207]; omega) (fun x hx => by
          obtain ⟨f, hf, w1, w2⟩ := itl_mem hx
          obtain ⟨e, he, rfl⟩ := List.mem_map.mp hf
          have k1 := hbn' e he
          obtain ⟨-, -, k2, k3, -, k5⟩ := hpN e he
          have w1' : x.2 = e.1 - a.1 := w1
          rcases w2 with w2 | ⟨v, hv, w2⟩
          · have w2' : x.1 = e.2.1 := w2
            exact ⟨by omega, by omega, by omega, by omega⟩
          · have k8 := (hokp e he).2.2.2.2.1 v hv
            exact ⟨by omega, by omega, by omega, by omega⟩) (itl ((tN AD.2.2.1 R T).map (sh a.1))).length 0 fu σ10 (by omega) (by rw [hlen207]; omega) ha10 h5810 (fun k x hk => ⟨by have := rseg_get (rseg_sh (β := a.1) r10) k x hk; rw [Int.zero_add] at this; exact this, by have := dseg_get d10 k x hk; rw [Int.zero_add] at this; exact this⟩) (fun k x hk => by omega)
        rw [hlen207] at h207
        refine wp_sq h207 ?_
        rintro - σ21 ⟨x21, y1, y2⟩
        refine wp_ck ⟨hhr.1, hhr.2⟩ (wp_lb (fun σ27 e27 => wp_ck ⟨hhr.1, hhr.2⟩ (wp_lb (fun σ32 e32 => ?_))))
        have n60 : ∀ a, a ≠ 60 → ¬ jst 60 a := fun a h z => h z
        -- the state behind the filling
        have hop := opn_ins (x := a.2.2) (β := a.1) hR m1 (fun e he => m5 z1 e he)
        have hlF : ((tN AD.2.2.1 R T).map (ins a.1 a.2.2)).length ≤ 80 := by rw [List.length_map, hlT]; omega
        have hilF : il ((tN AD.2.2.1 R T).map (ins a.1 a.2.2)) = il (tN AD.2.2.1 R T) := by rw [← itl_len, itl_ins, List.length_map, hlen207]
        have hsm : sOk O told (sFil AD.2 (a.2.1 / 4) ((tN AD.2.2.1 R T).map (ins a.1 a.2.2))) ∧ mOk told (sFil AD.2 (a.2.1 / 4) ((tN AD.2.2.1 R T).map (ins a.1 a.2.2))) := by
          by_cases c3 : big R (sFil AD.2 (a.2.1 / 4) ((tN AD.2.2.1 R T).map (ins a.1 a.2.2))) = true
          · rw [if_pos c3] at f1 f2; exact ⟨f1, f2⟩
          · rw [if_neg c3] at f1 f2; exact ⟨f1, f2⟩
        have hwF : tR O ((tN AD.2.2.1 R T).map (ins a.1 a.2.2)) [0] = some [] := hsm.1.2.1 (a.2.1 / 4) _ (up1_same _ _ _)
        have ot : ∀ a i, a ≠ 59 → a ≠ 60 → a ≠ 61 → σ32.2.1 a i = σ10.2.1 a i := fun a i h1 h2 h3 => by rw [e32, sA_other (by omega), e27, sA_other (by omega), fx_a x21 (n60 a h2)]
        have o60 : ∀ i, σ32.2.1 60 i = σ21.2.1 60 i := fun i => by rw [e32, sA_other (by omega), e27, sA_other (by omega)]
        have c32 : rSt σ32 told (sFil AD.2 (a.2.1 / 4) ((tN AD.2.2.1 R T).map (ins a.1 a.2.2))) := by
          refine rSt_fil m1.1 c10 (by omega) (fun b => ?_) (fun g => ot 58 g (by omega) (by omega) (by omega)) (fun g hg => ?_) ?_ (fun g hg => ?_) ?_ (fun k hk => ?_) ?_
          · rw [e32, e27]
            show σ21.1 55 b = _
            rw [fx_f x21 (n60 55 (by omega))]
          · rw [e32, sA_other (by omega), e27, sA_other (by omega), fx_a x21 (n60 61 (by omega))]
          · rw [e32, sA_same]
          · rw [e32, sA_other (by omega), e27, sA_other (by omega), fx_a x21 (n60 59 (by omega))]
          · rw [e32, sA_other (by omega), e27, sA_same, hilF]
          · rw [o60, y1 k hk]
          · refine rseg_of rfl (fun k x hk => ?_)
            rw [itl_ins, List.getElem?_map] at hk
            cases hz : (itl ((tN AD.2.2.1 R T).map (sh a.1)))[k]? with
            | none => rw [hz] at hk; cases hk
            | some w =>
              rw [hz] at hk
              have hk' : (gV a.2.2 w, w.2) = x := Option.some.inj hk
              rw [← hk', o60]
              exact y2 k w hz
        have hcw := fil_canW h3 hR m1 m3 hop hlF hwF hsm.1 hsm.2
        have x32 : fy XR σ10 σ32 := by
          refine ⟨?_, fun b _ => by rw [e32, e27]; show σ21.1 55 b = _; exact fx_f x21 (n60 55 (by omega))⟩
          rw [e32, e27]
          exact fx_A (fx_A (fx_mono x21 (fun a z => by have : a = 60 := z; unfold XR; omega)) (by unfold XR; omega)) (by unfold XR; omega)
        have ho32 : rOp σ32 O := by
          intro f hf
          obtain ⟨a1, a2, a3, a4, a5⟩ := ho10 f hf
          exact ⟨by rw [ot 56 f (by omega) (by omega) (by omega)]; exact a1, a2, a3, a4, fun i h1 h2 => by rw [ot 57 _ (by omega) (by omega) (by omega)]; exact a5 i h1 h2⟩
        have hmade : (sFil AD.2 (a.2.1 / 4) ((tN AD.2.2.1 R T).map (ins a.1 a.2.2))).2.2.2 = AD.2.2.2.2 := rfl
        have hbm7 := mOk_b m1.1.2.2.2.2.2.2.2.1 m1.2.1
        have h87 := m1.1.2.2.2.2.2.2.2.1
        have h318 := s_318 (O := O) (fu := fu) (R := R) (told := told) hfu hR hRf hb2 hsm.1 hsm.2 hcw (24 + AD.2.2.2.2.toNat) 0 fu σ32 (by rw [hmade]; omega) (by omega) c32 ho32
        have xq : ∀ {τ υ : SS}, fx (XQ 72) τ υ → fy XR τ υ := fun h => fy_of h (XQ_lo (by omega) (by omega)) (fun a z => by unfold XQ at z; unfold XR; omega)
        have nQ : ∀ a, a ≠ 72 → (a < 73 ∨ 75 < a) → ¬ XQ 72 a := fun a h1 h2 => XQ_lo h1 h2
        refine wp_sr h318 ?_ ?_
        · rintro w σ36 ⟨w1, w2⟩
          rcases w2 with ⟨w2, w3⟩ | ⟨w2, -⟩
          · have w2' : w = 4 := Sum.inl.inj w2
            have hbig := (big_any (R := R) hsm.1).mpr w3
            rw [if_pos hbig]
            exact ⟨fy_tr (fy_tr (fy_tr xr5 (LR x10)) x32) (xq w1), w2', rSt_fx w1 (nQ 55 (by omega) (by omega)) (fun a h1 h2 => nQ a (by omega) (by omega)) c32⟩
          · cases w2
        · rintro u σ36 ⟨w1, w2⟩
          rcases w2 with ⟨w2, -⟩ | ⟨-, w3⟩
          · cases w2
          · have hbig : ¬ big R (sFil AD.2 (a.2.1 / 4) ((tN AD.2.2.1 R T).map (ins a.1 a.2.2))) = true := by
              intro z
              obtain ⟨g, g1, g2⟩ := (big_any (R := R) hsm.1).mp z
              have hgr := sOk_h hsm.1 (g := g) g1 (by rw [hmade]; omega)
              have := w3 g (by omega) g1
              omega
            rw [if_neg hbig]
            exact wp_some ⟨fy_tr (fy_tr (fy_tr xr5 (LR x10)) x32) (xq w1), rfl, rSt_fx w1 (nQ 55 (by omega) (by omega)) (fun a h1 h2 => nQ a (by omega) (by omega)) c32⟩
