/-! DESKS: what class and reference hold, but for how -/
/-- a slot: begun, depth, row so far, variables due of its last hole, bounds of what is due -/
abbrev Sl : Type := Bool × Int × Row × Nat × List Int
/-- the last group of a row -/
def lst1 (r : Row) : AG := r.getLastD (0, 0, [])
def gSl (O : Op) (pa : Int → Int) (told : Int) (l : Sl) : Prop :=
  (l.1 = false → l.2.2.1 = [] ∧ l.2.2.2.1 = 0 ∧ l.2.2.2.2 = []) ∧ (0 ≤ l.2.1 ∧ l.2.1 ≤ 6) ∧ (l.1 = true → tR O l.2.2.1 [0] = some l.2.2.2.2) ∧ l.2.2.1.length ≤ 30 ∧
  (∀ z ∈ l.2.2.2.2, 0 ≤ z ∧ l.2.1 + z ≤ 12) ∧ (∀ e ∈ l.2.2.1, 0 ≤ e.1 ∧ l.2.1 + e.1 ≤ 12 ∧ (e.2.1 % 4 = 2 → e.2.1 / 4 < told)) ∧ (l.2.2.2.1 = 0 → okR pa l.2.1 l.2.2.1) ∧
  (0 < l.2.2.2.1 → ∃ r0 e, l.2.2.1 = r0 ++ [e] ∧ okR pa l.2.1 r0 ∧ e.2.1 % 4 = 2 ∧ 0 ≤ e.2.1 ∧ ((e.2.2.length + l.2.2.2.1 : Nat) : Int) = pa (e.2.1 / 4) ∧ (∀ v ∈ e.2.2, 0 ≤ v ∧ v < e.1 + l.2.1) ∧ e.2.2.Nodup)
/-- a slot as the class holds it -/
def stk (σ : SS) (p : Nat) : List Int → Prop
  | [] => True
  | v :: S => gA σ (p + 1) 91 S.length = v ∧ stk σ p S
def cSl (σ : SS) (i : Nat) (l : Sl) : Prop :=
  σ.1 (14 + 2 * i) 1 = 150 * i ∧ σ.1 (14 + 2 * i) 3 = (l.2.2.2.2.length : Int) ∧ σ.1 (14 + 2 * i) 4 = l.2.1 ∧ σ.1 (14 + 2 * i) 5 = (il l.2.2.1 : Int) ∧ σ.1 (14 + 2 * i) 6 = (l.2.2.1.length : Int) ∧ σ.1 (14 + 2 * i) 7 = (l.2.2.2.1 : Int) ∧
  (0 < l.2.2.2.1 → σ.1 (14 + 2 * i) 8 = (il l.2.2.1 : Int) - (lst1 l.2.2.1).2.2.length ∧ σ.1 (14 + 2 * i) 9 = (lst1 l.2.2.1).1) ∧ stk σ (14 + 2 * i) l.2.2.2.2 ∧ cseg σ (150 * i) l.2.2.1 (150 * i + il l.2.2.1)
theorem stk_eq {σ τ : SS} {p : Nat} : ∀ {S : List Int}, (∀ k : Int, k < S.length → gA τ (p + 1) 91 k = gA σ (p + 1) 91 k) → stk σ p S → stk τ p S := by
  intro S
  induction S with
  | nil => intro _ _; exact True.intro
  | cons v S ih =>
    intro h k
    rw [List.length_cons] at h
    exact ⟨by rw [h _ (by omega)]; exact k.1, ih (fun j hj => h j (by omega)) k.2⟩
/-- what the class's reader holds -/
def lenR (x : Int) : Prop := x = 128 ∨ x = 256 ∨ x = 512 ∨ x = 1024 ∨ x = 2048 ∨ x = 4096 ∨ x = 8192 ∨ x = 16384
def cRd (σ : SS) (ri : List Int) (ro : Int) : Prop := lenR (σ.1 51 99) ∧ σ.1 51 1 = (ri.length : Int) ∧ σ.1 51 2 = ro ∧ (ri.length : Int) ≤ σ.1 51 99 ∧ ∀ (k : Nat) (v : Int), ri[k]? = some v → gA σ 52 (σ.1 51 99).toNat k = v
/-- operations: as many as were told -/
def gOp (O : Op) (no : Int) : Prop := 0 ≤ no ∧ no ≤ 16 ∧ (∀ f, 0 ≤ O.1 f ↔ 0 ≤ f ∧ f < no) ∧ ar3 O ∧ bd2 O
abbrev Dk : Type := Op × Int × Int × St × (Nat → Sl) × List Int × Int × Int × Int
def gD (R : Nat) (d : Dk) : Prop := gOp d.1 d.2.1 ∧ gOk d.1 d.2.2.1 R d.2.2.2.1 ∧ (∀ i, i < 8 → gSl d.1 d.2.2.2.1.1 d.2.2.1 (d.2.2.2.2.1 i)) ∧ d.2.2.2.2.2.1.length ≤ 12000
def cD (σ : SS) (d : Dk) : Prop := cSt σ d.2.2.1 d.2.2.2.1 ∧ cOp σ d.1 ∧ σ.1 4 2 = d.2.1 ∧ (∀ i, i < 8 → cSl σ i (d.2.2.2.2.1 i)) ∧ cRd σ d.2.2.2.2.2.1 d.2.2.2.2.2.2.1 ∧ σ.1 0 7 = d.2.2.2.2.2.2.2.1 ∧ σ.1 0 8 = d.2.2.2.2.2.2.2.2
/-- all that the class's methods change: nothing of the reference -/
def XH : Nat → Prop := fun a => a ≤ 54
theorem cSl_fx {X : Nat → Prop} {σ τ : SS} {i : Nat} {l : Sl} (hx : fx X σ τ) (h1 : ¬ X (14 + 2 * i)) (h2 : ¬ X (14 + 2 * i + 1)) (hcl : cle σ τ 1200) (hi : i < 8) (hl : il l.2.2.1 ≤ 150) (k : cSl σ i l) : cSl τ i l := by
  obtain ⟨k1, k2, k3, k4, k5, k6, k7, k8, k9⟩ := k
  refine ⟨by rw [fx_f hx h1]; exact k1, by rw [fx_f hx h1]; exact k2, by rw [fx_f hx h1]; exact k3, by rw [fx_f hx h1]; exact k4, by rw [fx_f hx h1]; exact k5, by rw [fx_f hx h1]; exact k6, fun h => ?_, stk_eq (fun k _ => fx_g hx h2) k8, cseg_cle hcl k9 (by omega)⟩
  rw [fx_f hx h1, fx_f hx h1]
  exact k7 h
theorem il_30 {O : Op} {pa : Int → Int} {told : Int} {l : Sl} (hp4 : pa4 pa) (h : gSl O pa told l) : il l.2.2.1 ≤ 150 ∧ il l.2.2.1 + l.2.2.2.1 ≤ 150 := by
  obtain ⟨-, -, -, h4, -, -, h7, h8⟩ := h
  by_cases c : l.2.2.2.1 = 0
  · have := il_le (O := O) hp4 (h7 c)
    omega
  · obtain ⟨r0, e, k1, k2, k3, k4, k5, k6, k7⟩ := h8 (by omega)
    have h9 := il_le (O := O) hp4 k2
    have h10 := hp4 (e.2.1 / 4)
    rw [k1, List.length_append] at h4
    have h11 : ([e] : Row).length = 1 := rfl
    rw [k1, il_append, il_cons, show il [] = 0 from rfl]
    omega
theorem cRd_fx {X : Nat → Prop} {σ τ : SS} {ri : List Int} {ro : Int} (hx : fx X σ τ) (h1 : ¬ X 51) (h2 : ¬ X 52) (k : cRd σ ri ro) : cRd τ ri ro := by
  obtain ⟨k1, k2, k3, k4, k5⟩ := k
  have e : τ.1 51 99 = σ.1 51 99 := fx_f hx h1
  refine ⟨by rw [e]; exact k1, by rw [fx_f hx h1]; exact k2, by rw [fx_f hx h1]; exact k3, by rw [e]; exact k4, fun k v hk => ?_⟩
  rw [e, fx_g hx h2]
  exact k5 k v hk
/-- throws -/
def nth (σ : SS) : Prop := 0 ≤ σ.1 0 99 ∧ σ.1 0 99 ≤ 100000
/-- behind a method: at most one thing was thrown -/
def tho (σ τ : SS) : Prop := σ.1 0 99 ≤ τ.1 0 99 ∧ τ.1 0 99 ≤ σ.1 0 99 + 1
theorem thr_fx {σ : SS} : fx (jst 0) σ (thr σ) := fx_F fx_rf rfl
theorem thr_f {σ : SS} {b : Nat} (h : b ≠ 99) : (thr σ).1 0 b = σ.1 0 b := sF_f (fun z => h z.2)
theorem thr_99 {σ : SS} : (thr σ).1 0 99 = σ.1 0 99 + 1 := sF_same _ _ _ _
/-- the class's desk stays when nothing of it is touched but some cursors, the sizes, the numbers of throws -/
def XK : Nat → Prop := fun a => a = 0 ∨ a = 11 ∨ (30 ≤ a ∧ a ≤ 50)
theorem cle_XK {σ τ : SS} {t : Int} (h : fx XK σ τ) : cle σ τ t := fun i _ => ⟨fx_cA h (by unfold XK; omega) (by unfold XK; omega) i, fx_cB h (by unfold XK; omega) (by unfold XK; omega) i⟩
theorem cD_XK {R : Nat} {σ τ : SS} {d : Dk} (hg : gD R d) (hx : fx XK σ τ) (h7 : τ.1 0 7 = σ.1 0 7) (h8 : τ.1 0 8 = σ.1 0 8) (k : cD σ d) : cD τ d := by
  obtain ⟨k1, k2, k3, k4, k5, k6, k7⟩ := k
  refine ⟨cSt_fx hx (fun a h1 h2 z => by unfold XK at z; omega) (fun a h1 h2 h3 z => by unfold XK at z; omega) k1, cOp_fx hx (by unfold XK; omega) (by unfold XK; omega) k2, by rw [fx_f hx (by unfold XK; omega)]; exact k3, fun i hi => cSl_fx hx (by unfold XK; omega) (by unfold XK; omega) (cle_XK hx) hi (il_30 hg.2.1.1.2.2.2.1 (hg.2.2.1 i hi)).1 (k4 i hi), cRd_fx hx (by unfold XK; omega) (by unfold XK; omega) k5, by rw [h7]; exact k6, by rw [h8]; exact k7⟩
theorem cD_thr {R : Nat} {σ : SS} {d : Dk} (hg : gD R d) (k : cD σ d) : cD (thr σ) d := cD_XK hg (fx_mono thr_fx (fun a z => Or.inl z)) (thr_f (by decide)) (thr_f (by decide)) k
/-- a throw of the class: the desk stays -/
theorem w_thr {α : Type} {R : Nat} {σ : SS} {d : Dk} {E : String} (hg : gD R d) (hn : nth σ) (k : cD σ d) {P : (α ⊕ String) → SS → Prop} (hP : ∀ τ, cD τ d → fx XK σ τ → tho σ τ → P (.inr E) τ) : Wp (ck (rng (σ.1 0 99 + 1)) (some ((.inr E : α ⊕ String), thr σ))) P := by
  obtain ⟨h1, h2⟩ := hn
  refine wp_ck (by omega) (wp_some (hP _ (cD_thr hg k) (fx_mono thr_fx (fun a z => Or.inl z)) ?_))
  unfold tho
  rw [thr_99]
  omega
/-- a slot that is whole -/
def whl (l : Sl) : Bool := l.1 && decide (l.2.2.2.2.length + l.2.2.2.1 = 0)
theorem whl_row {O : Op} {pa : Int → Int} {told : Int} {l : Sl} (hg : gSl O pa told l) (h : whl l = true) : tR O l.2.2.1 [0] = some [] ∧ okR pa l.2.1 l.2.2.1 ∧ l.2.2.1.length ≤ 30 ∧ 0 ≤ l.2.1 ∧ l.2.1 ≤ 6 := by
  unfold whl at h
  rw [Bool.and_eq_true, decide_eq_true_eq] at h
  have h1 := hg.2.2.1 h.1
  have h2 : l.2.2.2.2 = [] := List.length_eq_zero_iff.mp (by omega)
  rw [h2] at h1
  exact ⟨h1, hg.2.2.2.2.2.2.1 (by omega), hg.2.2.2.1, hg.2.1⟩
theorem sl_b {O : Op} {pa : Int → Int} {told : Int} {l : Sl} (h3 : ar3 O) (hp4 : pa4 pa) (hg : gSl O pa told l) : l.2.2.2.2.length ≤ 61 ∧ l.2.2.2.1 ≤ 4 := by
  refine ⟨?_, ?_⟩
  · cases hb : l.1 with
    | false => rw [(hg.1 hb).2.2]; exact Nat.zero_le _
    | true =>
      have h1 := tR_count h3 (hg.2.2.1 hb)
      have h2 := nA_le O l.2.2.1
      have h4 := hg.2.2.2.1
      have : ([0] : List Int).length = 1 := rfl
      omega
  · by_cases c : l.2.2.2.1 = 0
    · omega
    · obtain ⟨r0, e, k1, k2, k3, k4, k5, k6, k7⟩ := hg.2.2.2.2.2.2.2 (by omega)
      have := hp4 (e.2.1 / 4)
      omega
theorem s_isWhole {O : Op} {pa : Int → Int} {told : Int} {σ : SS} {i : Nat} {l : Sl} (h3 : ar3 O) (hp4 : pa4 pa) (hg : gSl O pa told l) (hc : cSl σ i l) : f_S_isWhole (14 + 2 * i) σ = some ((if whl l = true then 1 else 0), σ) := by
  obtain ⟨k1, k2, k3, k4, k5, k6, k7, k8, k9⟩ := hc
  have hsl := sl_b h3 hp4 hg
  unfold f_S_isWhole f_S_itemsDue
  rw [k4, k2, k6]
  by_cases c0 : l.2.2.1 = []
  · rw [if_neg (by rw [c0]; decide)]
    have : ¬ whl l = true := by
      intro z
      have := (whl_row hg z).1
      rw [c0] at this
      have h9 : ([0] : List Int) = [] := Option.some.inj this
      cases h9
    rw [if_neg this]
  · have hil := il_pos c0
    rw [if_pos (by omega), ck_t (by omega)]
    show (if ((l.2.2.2.2.length : Int) + (l.2.2.2.1 : Int)) = 0 then some ((1 : Int), σ) else some (0, σ)) = _
    have hb : l.1 = true := by
      cases hb : l.1 with
      | true => rfl
      | false => exact absurd (hg.1 hb).1 c0
    unfold whl
    rw [hb, Bool.true_and]
    by_cases c : l.2.2.2.2.length + l.2.2.2.1 = 0
    · rw [if_pos (by omega), if_pos (decide_eq_true c)]
    · rw [if_neg (by omega), if_neg (by rw [decide_eq_true_eq]; exact c)]
theorem s_slotAt {α : Type} {R : Nat} {σ : SS} {d : Dk} {x : Int} {P : (α ⊕ String) → SS → Prop} {k : Nat → SS → Option ((α ⊕ String) × SS)} (hg : gD R d) (hn : nth σ) (hc : cD σ d) (h1 : ∀ i : Nat, i < 8 → x = i → Wp (k (14 + 2 * i) σ) P) (h2 : ¬ (0 ≤ x ∧ x < 8) → ∀ τ, cD τ d → fx XK σ τ → tho σ τ → P (.inr "java/lang/IllegalArgumentException") τ) : Wp (sx (f_H_slotAt x σ) k) P := by
  unfold f_H_slotAt
  by_cases c0 : x < 0
  · rw [if_pos c0]
    refine wp_sx (R := fun y τ => y = .inr "java/lang/IllegalArgumentException" ∧ P (.inr "java/lang/IllegalArgumentException") τ) (w_thr hg hn hc (fun τ a b e => ⟨rfl, h2 (by omega) τ a b e⟩)) (fun E τ h => ?_) (fun b τ h => ?_)
    · cases Sum.inr.inj h.1; exact h.2
    · cases h.1
  · rw [if_neg c0]
    by_cases c1 : x < 8
    · rw [if_pos c1]
      exact h1 x.toNat (by omega) (by omega)
    · rw [if_neg c1]
      refine wp_sx (R := fun y τ => y = .inr "java/lang/IllegalArgumentException" ∧ P (.inr "java/lang/IllegalArgumentException") τ) (w_thr hg hn hc (fun τ a b e => ⟨rfl, h2 (by omega) τ a b e⟩)) (fun E τ h => ?_) (fun b τ h => ?_)
      · cases Sum.inr.inj h.1; exact h.2
      · cases h.1
/-- both slots must be there, whole, of one depth: which fault else -/
def rfs (d : Dk) (x y : Int) : Nat := if 0 ≤ x ∧ x < 8 ∧ 0 ≤ y ∧ y < 8 then (if whl (d.2.2.2.2.1 x.toNat) = true ∧ whl (d.2.2.2.2.1 y.toNat) = true ∧ (d.2.2.2.2.1 x.toNat).2.1 = (d.2.2.2.2.1 y.toNat).2.1 then 0 else 2) else 1
def exn (n : Nat) : String := if n = 1 then "java/lang/IllegalArgumentException" else "java/lang/IllegalStateException"
theorem X_cP {σ τ : SS} {p : Nat} (hp : cur p) (h : fx (cP p) σ τ) : fx XK σ τ := by
  have := cur_ge hp
  exact fx_mono h (fun a z => by unfold cP at z; unfold XK; omega)
theorem cP_0 {σ τ : SS} {p b : Nat} (hp : cur p) (h : fx (cP p) σ τ) : τ.1 0 b = σ.1 0 b := by
  have := cur_ge hp
  exact fx_f h (fun z => by unfold cP at z; omega)
theorem s_startBoth {R : Nat} {σ : SS} {d : Dk} {x y : Int} (hg : gD R d) (hn : nth σ) (hc : cD σ d) :
    Wp (f_H_startBoth x y σ) (fun z τ => fx XK σ τ ∧ cD τ d ∧ ((rfs d x y = 0 ∧ z = .inl () ∧ τ.1 0 99 = σ.1 0 99 ∧ cst τ 30 d.2.2.2.1.1 d.2.2.2.1.2.1 (d.2.2.2.2.1 x.toNat).2.1 [((d.2.2.2.2.1 x.toNat).2.2.1, 0, fun x => x, -1)] ∧ cst τ 36 d.2.2.2.1.1 d.2.2.2.1.2.1 (d.2.2.2.2.1 x.toNat).2.1 [((d.2.2.2.2.1 y.toNat).2.2.1, 0, fun x => x, -1)]) ∨ (rfs d x y ≠ 0 ∧ z = .inr (exn (rfs d x y)) ∧ tho σ τ))) := by
  have hp4 := hg.2.1.1.2.2.2.1
  have h3 := hg.1.2.2.2.1
  unfold f_H_startBoth
  refine s_slotAt hg hn hc (fun i hi hxi => ?_) (fun hx τ a b e => ?_)
  · refine s_slotAt hg hn hc (fun j hj hyj => ?_) (fun hy τ a b e => ?_)
    · have hin : 0 ≤ x ∧ x < 8 ∧ 0 ≤ y ∧ y < 8 := by omega
      have ex : x.toNat = i := by omega
      have ey : y.toNat = j := by omega
      have hrf : rfs d x y = if whl (d.2.2.2.2.1 i) = true ∧ whl (d.2.2.2.2.1 j) = true ∧ (d.2.2.2.2.1 i).2.1 = (d.2.2.2.2.1 j).2.1 then 0 else 2 := by
        unfold rfs
        rw [if_pos hin, ex, ey]
      rw [ex, ey]
      have gi := hg.2.2.1 i hi
      have gj := hg.2.2.1 j hj
      have ci := hc.2.2.2.1 i hi
      have cj := hc.2.2.2.1 j hj
      refine wp_e (s_isWhole h3 hp4 gi ci) ?_
      by_cases wi : whl (d.2.2.2.2.1 i) = true
      · rw [if_pos wi]
        refine wp_f (by decide) (wp_e (s_isWhole h3 hp4 gj cj) ?_)
        by_cases wj : whl (d.2.2.2.2.1 j) = true
        · rw [if_pos wj]
          refine wp_f (by decide) ?_
          rw [ci.2.2.1, cj.2.2.1]
          by_cases cd : (d.2.2.2.2.1 i).2.1 = (d.2.2.2.2.1 j).2.1
          · refine wp_t cd ?_
            rw [ci.1, ci.2.2.2.1]
            obtain ⟨wi1, wi2, wi3, wi4, wi5⟩ := whl_row gi wi
            obtain ⟨wj1, wj2, wj3, wj4, wj5⟩ := whl_row gj wj
            have li := (il_30 hp4 gi).1
            have lj := (il_30 hp4 gj).1
            have ht := top_le hg.2.1.1 hg.2.1.2.1 hc.1
            refine wp_ck (by omega) (wp_sq (s_startAt (Φ := d.2.2.2.1.2.1) (N := (d.2.2.2.2.1 i).2.1) cur30 ci.2.2.2.2.2.2.2.2 (by omega) (by omega) wi2) ?_)
            rintro - σ26 ⟨a1, a2⟩
            have n30 : ∀ a, (a < 30 ∨ 35 < a) → ¬ cP 30 a := fun a ha z => by unfold cP at z; omega
            have c26 : cD σ26 d := cD_XK hg (X_cP cur30 a1) (cP_0 cur30 a1) (cP_0 cur30 a1) hc
            have cj26 := c26.2.2.2.1 j hj
            have t26 : σ26.1 1 2 = σ.1 1 2 := fx_f a1 (n30 1 (by omega))
            rw [cj26.1, cj26.2.2.2.1]
            refine wp_ck (by omega) (wp_sq (s_startAt (Φ := d.2.2.2.1.2.1) (N := (d.2.2.2.2.1 i).2.1) cur36 cj26.2.2.2.2.2.2.2.2 (by omega) (by omega) (by rw [cd]; exact wj2)) ?_)
            rintro - σ32 ⟨b1, b2⟩
            have n36 : ∀ a, (a < 36 ∨ 41 < a) → ¬ cP 36 a := fun a ha z => by unfold cP at z; omega
            refine wp_some ⟨fx_tr (X_cP cur30 a1) (X_cP cur36 b1), cD_XK hg (X_cP cur36 b1) (cP_0 cur36 b1) (cP_0 cur36 b1) c26, Or.inl ⟨by rw [hrf, if_pos ⟨wi, wj, cd⟩], rfl, by rw [cP_0 cur36 b1, cP_0 cur30 a1], ?_, b2⟩⟩
            exact cst_go b1 (fun a ha => n36 a (by unfold cP at ha; omega)) (cle_cP cur36 b1) (by rw [fx_f b1 (n36 1 (by omega))]; exact Int.le_refl _) (fun _ _ => rfl) (fun _ _ z => z) a2
          · have h2 : rfs d x y = 2 := by rw [hrf, if_neg (fun z => cd z.2.2)]
            exact wp_f cd (w_thr hg hn hc (fun τ a b e => ⟨b, a, Or.inr ⟨by rw [h2]; decide, by rw [h2]; rfl, e⟩⟩))
        · have h2 : rfs d x y = 2 := by rw [hrf, if_neg (fun z => wj z.2.1)]
          rw [if_neg wj]
          exact wp_t rfl (w_thr hg hn hc (fun τ a b e => ⟨b, a, Or.inr ⟨by rw [h2]; decide, by rw [h2]; rfl, e⟩⟩))
      · have h2 : rfs d x y = 2 := by rw [hrf, if_neg (fun z => wi z.1)]
        rw [if_neg wi]
        exact wp_t rfl (w_thr hg hn hc (fun τ a b e => ⟨b, a, Or.inr ⟨by rw [h2]; decide, by rw [h2]; rfl, e⟩⟩))
    · have h1 : rfs d x y = 1 := by unfold rfs; rw [if_neg (by omega)]
      exact ⟨b, a, Or.inr ⟨by rw [h1]; decide, by rw [h1]; rfl, e⟩⟩
  · have h1 : rfs d x y = 1 := by unfold rfs; rw [if_neg (by omega)]
    exact ⟨b, a, Or.inr ⟨by rw [h1]; decide, by rw [h1]; rfl, e⟩⟩
