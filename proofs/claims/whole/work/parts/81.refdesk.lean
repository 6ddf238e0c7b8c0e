/-! THE REFERENCE ON DESKS -/
def rstk (σ : SS) (o dep : Int) : List Int → Prop
  | [] => True
  | v :: S => σ.2.1 68 (o + S.length) = dep + v ∧ rstk σ o dep S
def rSl (σ : SS) (i : Nat) (l : Sl) : Prop :=
  σ.2.1 70 i = (if l.1 = true then 1 else 0) ∧ σ.2.1 64 i = (il l.2.2.1 : Int) ∧ σ.2.1 65 i = (l.2.2.1.length : Int) ∧ σ.2.1 66 i = l.2.1 ∧ σ.2.1 67 i = (due l : Int) ∧ rstk σ (160 * i) l.2.1 l.2.2.2.2 ∧
  (∀ t : Nat, t < l.2.2.2.1 → σ.2.1 68 (160 * i + l.2.2.2.2.length + t) = 100 + l.2.1 + (lst1 l.2.2.1).1 ∧ σ.2.1 69 (160 * i + l.2.2.2.2.length + t) = (il l.2.2.1 : Int) - (lst1 l.2.2.1).2.2.length - 1) ∧ rseg σ 63 (160 * i) l.2.2.1 (160 * i + il l.2.2.1)
def rRd (σ : SS) (ri : List Int) (ro : Int) : Prop := σ.1 55 36 = (ri.length : Int) ∧ σ.1 55 37 = ro ∧ ∀ (k : Nat) (v : Int), ri[k]? = some v → σ.2.1 82 k = v
def rD (σ : SS) (d : Dk) : Prop := rSt σ d.2.2.1 d.2.2.2.1 ∧ rOp σ d.1 ∧ σ.1 55 1 = d.2.1 ∧ (∀ i, i < 8 → rSl σ i (d.2.2.2.2.1 i)) ∧ rRd σ d.2.2.2.2.2.1 d.2.2.2.2.2.2.1 ∧ σ.1 55 38 = d.2.2.2.2.2.2.2.1 ∧ σ.1 55 39 = d.2.2.2.2.2.2.2.2
theorem rstk_eq {σ τ : SS} {o dep : Int} : ∀ {S : List Int}, (∀ k : Int, o ≤ k → k < o + S.length → τ.2.1 68 k = σ.2.1 68 k) → rstk σ o dep S → rstk τ o dep S := by
  intro S
  induction S with
  | nil => intro _ _; exact True.intro
  | cons v S ih =>
    intro h k
    rw [List.length_cons] at h
    exact ⟨by rw [h _ (by omega) (by omega)]; exact k.1, ih (fun j h1 h2 => h j h1 (by omega)) k.2⟩
theorem rSl_fx {X : Nat → Prop} {σ τ : SS} {i : Nat} {l : Sl} (hx : fx X σ τ) (h : ∀ a, 63 ≤ a → a ≤ 70 → ¬ X a) (k : rSl σ i l) : rSl τ i l := by
  obtain ⟨k1, k2, k3, k4, k5, k6, k7, k8⟩ := k
  have e : ∀ a j, 63 ≤ a → a ≤ 70 → τ.2.1 a j = σ.2.1 a j := fun a j h1 h2 => fx_a hx (h a h1 h2)
  exact ⟨by rw [e 70 _ (by omega) (by omega)]; exact k1, by rw [e 64 _ (by omega) (by omega)]; exact k2, by rw [e 65 _ (by omega) (by omega)]; exact k3, by rw [e 66 _ (by omega) (by omega)]; exact k4, by rw [e 67 _ (by omega) (by omega)]; exact k5, rstk_eq (fun j _ _ => e 68 j (by omega) (by omega)) k6, fun t ht => by rw [e 68 _ (by omega) (by omega), e 69 _ (by omega) (by omega)]; exact k7 t ht, rseg_fx hx (h 63 (by omega) (by omega)) k8⟩
theorem rRd_fx {X : Nat → Prop} {σ τ : SS} {ri : List Int} {ro : Int} (hx : fx X σ τ) (h1 : τ.1 55 36 = σ.1 55 36) (h2 : τ.1 55 37 = σ.1 55 37) (h3 : ¬ X 82) (k : rRd σ ri ro) : rRd τ ri ro := ⟨by rw [h1]; exact k.1, by rw [h2]; exact k.2.1, fun j v hj => by rw [fx_a hx h3]; exact k.2.2 j v hj⟩
/-- all that the reference changes -/
def XD : Nat → Prop := fun a => 55 ≤ a ∧ a ≤ 84
/-- behind a call: which fault -/
theorem rD_code {σ : SS} {d : Dk} {c : Int} (k : rD σ d) : rD (sF σ 55 0 c) d := by
  obtain ⟨k1, k2, k3, k4, k5, k6, k7⟩ := k
  have f : ∀ b, b ≠ 0 → (sF σ 55 0 c).1 55 b = σ.1 55 b := fun b hb => sF_f (fun z => hb z.2)
  have hx : fx (jst 55) σ (sF σ 55 0 c) := fx_F fx_rf rfl
  have n : ∀ a, a ≠ 55 → ¬ jst 55 a := fun a h z => h z
  exact ⟨⟨rHol_fx hx (fun a h1 h2 => n a (by omega)) k1.1, by rw [f 2 (by decide)]; exact k1.2.1, by rw [f 3 (by decide)]; exact k1.2.2.1, k1.2.2.2⟩, k2, by rw [f 1 (by decide)]; exact k3, fun i hi => rSl_fx hx (fun a h1 h2 => n a (by omega)) (k4 i hi), ⟨by rw [f 36 (by decide)]; exact k5.1, by rw [f 37 (by decide)]; exact k5.2.1, k5.2.2⟩, by rw [f 38 (by decide)]; exact k6, by rw [f 39 (by decide)]; exact k7⟩
/-- work that leaves the desk as it is: of the reference's fields 29 to 31 alone -/
def XM : Nat → Prop := fun a => a = 55 ∨ (71 ≤ a ∧ a ≤ 75) ∨ (77 ≤ a ∧ a ≤ 81)
theorem rD_work {σ τ : SS} {d : Dk} (hx : fx XM σ τ) (hf : ∀ b, b ≠ 29 → b ≠ 30 → b ≠ 31 → τ.1 55 b = σ.1 55 b) (k : rD σ d) : rD τ d := by
  obtain ⟨k1, k2, k3, k4, k5, k6, k7⟩ := k
  have n : ∀ a, a ≠ 55 → (a < 71 ∨ a = 76 ∨ 81 < a) → ¬ XM a := fun a h1 h2 z => by unfold XM at z; omega
  exact ⟨⟨rHol_fx hx (fun a h1 h2 => n a (by omega) (by omega)) k1.1, by rw [hf 2 (by decide) (by decide) (by decide)]; exact k1.2.1, by rw [hf 3 (by decide) (by decide) (by decide)]; exact k1.2.2.1, fun g h1 h2 => by rw [fx_a hx (n 61 (by omega) (by omega))]; exact k1.2.2.2 g h1 h2⟩, rOp_fx hx (n 56 (by omega) (by omega)) (n 57 (by omega) (by omega)) k2, by rw [hf 1 (by decide) (by decide) (by decide)]; exact k3, fun i hi => rSl_fx hx (fun a h1 h2 => n a (by omega) (by omega)) (k4 i hi), rRd_fx hx (hf 36 (by decide) (by decide) (by decide)) (hf 37 (by decide) (by decide) (by decide)) (n 82 (by omega) (by omega)) k5, by rw [hf 38 (by decide) (by decide) (by decide)]; exact k6, by rw [hf 39 (by decide) (by decide) (by decide)]; exact k7⟩
theorem s_fails {a b : Int} {σ : SS} : f_D_fails a b σ = some ((if a = 0 ∧ b = 0 then 0 else 1), sF σ 55 0 (if a = 0 then (if b = 0 then 0 else 2) else 1)) := by
  unfold f_D_fails
  by_cases ca : a = 0
  · rw [if_pos ca, if_pos ca]
    by_cases cb : b = 0
    · rw [if_pos cb, if_pos cb, sq_e, lb_e, sF_same, if_neg (by decide), if_pos ⟨ca, cb⟩]
    · rw [if_neg cb, if_neg cb, sq_e, lb_e, sF_same, if_pos (by decide), if_neg (fun z => cb z.2)]
  · rw [if_neg ca, if_neg ca, sq_e, lb_e, sF_same, if_pos (by decide), if_neg (fun z => ca z.1)]
theorem s_isSlot {x : Int} {σ : SS} : f_D_isSlot x σ = some ((if 0 ≤ x ∧ x < 8 then 1 else 0), σ) := by
  unfold f_D_isSlot
  by_cases c0 : x < 0
  · rw [if_pos c0, if_neg (by omega)]
  · rw [if_neg c0]
    by_cases c1 : x < 8
    · rw [if_pos c1, if_pos (by omega)]
    · rw [if_neg c1, if_neg (by omega)]
theorem s_isWholeR {x : Int} {σ : SS} {d : Dk} (hx : 0 ≤ x ∧ x < 8) (hc : rD σ d) : f_D_isWhole x σ = some ((if whl (d.2.2.2.2.1 x.toNat) = true then 1 else 0), σ) := by
  obtain ⟨q1, q2, q3, q4, q5, q6, q7, q8⟩ := hc.2.2.2.1 x.toNat (by omega)
  rw [show ((x.toNat : Nat) : Int) = x by omega] at q1 q5
  unfold f_D_isWhole whl
  rw [ck_t ⟨hx.1, hx.2⟩, q1, q5]
  cases hb : (d.2.2.2.2.1 x.toNat).1 with
  | false =>
    rw [if_pos (by rw [if_neg Bool.false_ne_true]), Bool.false_and, if_neg Bool.false_ne_true]
  | true =>
    rw [if_pos rfl, if_neg (by decide), ck_t ⟨hx.1, hx.2⟩, Bool.true_and]
    unfold due
    by_cases c : (d.2.2.2.2.1 x.toNat).2.2.2.2.length + (d.2.2.2.2.1 x.toNat).2.2.2.1 = 0
    · rw [if_pos (by omega), if_pos (decide_eq_true c)]
    · rw [if_neg (by omega), if_neg (by rw [decide_eq_true_eq]; exact c)]
theorem s_refuses {x y : Int} {σ : SS} {d : Dk} (hc : rD σ d) : f_D_refuses x y σ = some ((if rfs d x y = 0 then 0 else 1), sF σ 55 0 (rfs d x y : Int)) := by
  have fin : ∀ (z19 z40 : Int) (n : Nat), rfs d x y = n → (z19 = 1 ∧ z40 = 0 ∧ n = 1 ∨ z19 = 0 ∧ z40 = 1 ∧ n = 2 ∨ z19 = 0 ∧ z40 = 0 ∧ n = 0) → (sq (f_D_fails z19 z40 σ) fun (a45 : Int) σ46 => ck (a45 = 0 ∨ a45 = 1) (some (a45, σ46))) = some ((if rfs d x y = 0 then 0 else 1), sF σ 55 0 (rfs d x y : Int)) := by
    intro z19 z40 n hn h
    rw [s_fails, sq_e, hn]
    rcases h with ⟨rfl, rfl, rfl⟩ | ⟨rfl, rfl, rfl⟩ | ⟨rfl, rfl, rfl⟩ <;> rfl
  unfold f_D_refuses
  rw [s_isSlot, sq_e]
  by_cases cx : 0 ≤ x ∧ x < 8
  · rw [if_pos cx, if_neg (by decide), s_isSlot, sq_e]
    by_cases cy : 0 ≤ y ∧ y < 8
    · have hrf : rfs d x y = if whl (d.2.2.2.2.1 x.toNat) = true ∧ whl (d.2.2.2.2.1 y.toNat) = true ∧ (d.2.2.2.2.1 x.toNat).2.1 = (d.2.2.2.2.1 y.toNat).2.1 then 0 else 2 := by unfold rfs; rw [if_pos ⟨cx.1, cx.2, cy.1, cy.2⟩]
      rw [if_pos cy, if_neg (by decide), sq_e, if_neg (by decide), sq_e, if_neg (by decide), s_isWholeR cx hc, sq_e]
      by_cases wx : whl (d.2.2.2.2.1 x.toNat) = true
      · rw [if_pos wx, if_neg (by decide), s_isWholeR cy hc, sq_e]
        by_cases wy : whl (d.2.2.2.2.1 y.toNat) = true
        · rw [if_pos wy, if_neg (by decide), ck_t ⟨cx.1, cx.2⟩, ck_t ⟨cy.1, cy.2⟩]
          have dx := (hc.2.2.2.1 x.toNat (by omega)).2.2.2.1
          have dy := (hc.2.2.2.1 y.toNat (by omega)).2.2.2.1
          rw [show ((x.toNat : Nat) : Int) = x by omega] at dx
          rw [show ((y.toNat : Nat) : Int) = y by omega] at dy
          rw [dx, dy]
          by_cases cd : (d.2.2.2.2.1 x.toNat).2.1 = (d.2.2.2.2.1 y.toNat).2.1
          · rw [if_pos cd, sq_e]
            exact fin 0 0 0 (by rw [hrf, if_pos ⟨wx, wy, cd⟩]) (Or.inr (Or.inr ⟨rfl, rfl, rfl⟩))
          · rw [if_neg cd, sq_e]
            exact fin 0 1 2 (by rw [hrf, if_neg (fun z => cd z.2.2)]) (Or.inr (Or.inl ⟨rfl, rfl, rfl⟩))
        · rw [if_neg wy, if_pos rfl, sq_e]
          exact fin 0 1 2 (by rw [hrf, if_neg (fun z => wy z.2.1)]) (Or.inr (Or.inl ⟨rfl, rfl, rfl⟩))
      · rw [if_neg wx, if_pos rfl, sq_e]
        exact fin 0 1 2 (by rw [hrf, if_neg (fun z => wx z.1)]) (Or.inr (Or.inl ⟨rfl, rfl, rfl⟩))
    · rw [if_neg cy, if_pos rfl, sq_e, if_pos rfl, sq_e, if_pos rfl, sq_e]
      exact fin 1 0 1 (by unfold rfs; rw [if_neg (fun z => cy ⟨z.2.2.1, z.2.2.2⟩)]) (Or.inl ⟨rfl, rfl, rfl⟩)
  · rw [if_neg cx, if_pos rfl, sq_e, if_pos rfl, sq_e, if_pos rfl, sq_e]
    exact fin 1 0 1 (by unfold rfs; rw [if_neg (fun z => cx ⟨z.1, z.2.1⟩)]) (Or.inl ⟨rfl, rfl, rfl⟩)
/-! a slot's term, written out -/
theorem s_sl2 {fu q : Nat} {x : Int} {L : Nat} (hq : q = 71 ∨ q = 72) (hx : 0 ≤ x ∧ x < 8) (hL : L ≤ 150) : ∀ (m j n : Nat) (σ : SS), m + j = L → m < n → σ.2.1 64 x = (L : Int) → (∀ k : Int, 0 ≤ k → k < j → σ.2.1 q k = σ.2.1 63 (160 * x + k)) →
    Wp (l_D_slot_2 fu q n x j σ) (fun _ τ => fx (jst q) σ τ ∧ ∀ k : Int, 0 ≤ k → k < L → τ.2.1 q k = σ.2.1 63 (160 * x + k)) := by
  intro m
  induction m with
  | zero =>
    intro j n σ h1 h2 h3 h4
    cases n with
    | zero => omega
    | succ n =>
      rw [l_D_slot_2]
      exact wp_ck ⟨hx.1, hx.2⟩ (wp_f (by omega) (wp_some ⟨fx_rf, fun k a b => h4 k a (by omega)⟩))
  | succ m ih =>
    intro j n σ h1 h2 h3 h4
    cases n with
    | zero => omega
    | succ n =>
      rw [l_D_slot_2]
      refine wp_ck ⟨hx.1, hx.2⟩ (wp_t (by omega) (wp_ck (by omega) (wp_ck (by omega) (wp_ck ⟨by omega, by omega⟩ (wp_ck ⟨by omega, by omega⟩ (wp_lb (fun σ8 e8 => wp_ck (by omega) ?_)))))))
      have hxq : fx (jst q) σ σ8 := by rw [e8]; exact fx_A fx_rf rfl
      have nq : ∀ a, a ≠ q → ¬ jst q a := fun a h z => h z
      rw [show (j : Int) + 1 = ((j + 1 : Nat) : Int) by omega]
      have h9 := ih (j + 1) n σ8 (by omega) (by omega) (by rw [fx_a hxq (nq 64 (by omega))]; exact h3) (fun k a b => by
        rw [fx_a hxq (nq 63 (by omega)), e8]
        by_cases c : k = j
        · rw [c]; exact sA_same _ _ _ _
        · rw [sA_other (by omega)]; exact h4 k a (by omega))
      exact wp_mono h9 (fun _ τ k => ⟨fx_tr hxq k.1, fun m a b => by rw [k.2 m a b, fx_a hxq (nq 63 (by omega))]⟩)
theorem s_rslot {fu q R : Nat} {x : Int} {σ : SS} {d : Dk} (hq : q = 71 ∨ q = 72) (hfu : 20000 ≤ fu) (hR : 300 < R) (hRf : R < fu) (hg : gD R d) (hc : rD σ d) (hx : 0 ≤ x ∧ x < 8) (hw : whl (d.2.2.2.2.1 x.toNat) = true) :
    Wp (f_D_slot fu q x σ) (fun z τ => fx (XQ q) σ τ ∧ z = (il (tN d.2.2.2.1.2.1 R (d.2.2.2.2.1 x.toNat).2.2.1) : Int) ∧ rseg τ q 0 (tN d.2.2.2.1.2.1 R (d.2.2.2.2.1 x.toNat).2.2.1) (il (tN d.2.2.2.1.2.1 R (d.2.2.2.2.1 x.toNat).2.2.1)) ∧ rpa τ (tN d.2.2.2.1.2.1 R (d.2.2.2.2.1 x.toNat).2.2.1)) := by
  obtain ⟨q1, q2, q3, q4, q5, q6, q7, q8⟩ := hc.2.2.2.1 x.toNat (by omega)
  have gs := hg.2.2.1 x.toNat (by omega)
  have gx := whl_row gs hw
  have bx := slot_bnd hR hg.1.2.2.2.2 hg.2.1 gx.1 gx.2.2.1
  have hil := (il_30 hg.2.1.1.2.2.2.1 gs).1
  rw [show ((x.toNat : Nat) : Int) = x by omega] at q2 q8
  generalize (d.2.2.2.2.1 x.toNat).2.2.1 = A at *
  have hokN := okR_N gx.2.2.2.1 hg.2.1.1.1 R gx.2.1
  have htN := tR_N hg.2.1.1.2.1 R gx.1
  unfold f_D_slot
  refine wp_sq (s_sl2 (fu := fu) hq hx (L := il A) hil (il A) 0 fu σ (by omega) (by omega) q2 (fun k a b => by omega)) ?_
  rintro - σ2 ⟨x2, y2⟩
  have nq : ∀ a, a ≠ q → ¬ jst q a := fun a h z => h z
  have r2 : rseg σ2 q 0 A (il A) := rseg_eq (σ := σ) (q := 63) (i := 160 * x) (j := 160 * x + il A) (fun k h1 h2 => by rw [Int.zero_add]; exact y2 k h1 h2) (by omega) q8
  refine wp_ck ⟨hx.1, hx.2⟩ ?_
  rw [fx_a x2 (nq 64 (by omega)), q2]
  have ho2 := rOp_fx x2 (nq 56 (by omega)) (nq 57 (by omega)) hc.2.1
  have hH2 := rHol_fx x2 (fun a h1 h2 => nq a (by omega)) hc.1.1
  refine wp_sq (s_write (O := d.1) (told := d.2.2.1) (N := (d.2.2.2.2.1 x.toNat).2.1) (s := d.2.2.2.1) (r := A) (S := [0]) (σ := σ2) hq hfu hR hRf hg.1.2.2.2.2 hg.2.1.1 hg.2.1.2.1 gx.2.2.2.1 (by omega) r2 gx.1 (fun e he => by have := bx.2 e he; omega) ho2 hH2 gx.2.1 (by unfold capr; omega)) ?_
  rintro z τ ⟨z1, z2, z3⟩
  have xa : fx (XQ q) σ τ := fx_tr (fx_mono x2 (fun a z => Or.inl z)) z1
  have nQ : ∀ a, a ≠ q → (a < 73 ∨ 75 < a) → ¬ XQ q a := fun a h1 h2 => XQ_lo h1 h2
  refine wp_some ⟨xa, z2, z3, rpa_of (n := (d.2.2.2.2.1 x.toNat).2.1) (by omega) (rOp_fx xa (nQ 56 (by omega) (by omega)) (nQ 57 (by omega) (by omega)) hc.2.1) (rHol_fx xa (fun a h1 h2 => nQ a (by omega) (by omega)) hc.1.1) hg.2.1.1.2.2.2.1 hokN (tR_opks htN) (fun e he => by have := bx.2 e he; omega)⟩
