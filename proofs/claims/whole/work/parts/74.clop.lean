/-! THE CLASS: OPERATION -/
def vOp (a b c : Int) : Prop := (-1 ≤ a ∧ a ≤ 2) ∧ (-1 ≤ b ∧ b ≤ 2) ∧ (-1 ≤ c ∧ c ≤ 2) ∧ (a = -1 → b = -1) ∧ (b = -1 → c = -1)
def arO (a b c : Int) : Int := if a = -1 then 0 else if b = -1 then 1 else if c = -1 then 2 else 3
def opO (O : Op) (no a b c : Int) : Op := (up1 O.1 no (arO a b c), fun f i => if f * 3 + i = no * 3 ∧ 0 < arO a b c then a else if f * 3 + i = no * 3 + 1 ∧ 1 < arO a b c then b else if f * 3 + i = no * 3 + 2 ∧ 2 < arO a b c then c else O.2 f i)
def dkO (d : Dk) (a b c : Int) : Dk := if d.2.1 < 16 then (opO d.1 d.2.1 a b c, d.2.1 + 1, d.2.2) else d
def opx (O P : Op) : Prop := ∀ f, 0 ≤ O.1 f → P.1 f = O.1 f ∧ ∀ i, 0 ≤ i → i < O.1 f → P.2 f i = O.2 f i
theorem tP_x {O P : Op} {e : AG} (h : opx O P) (ho : opk O e) : tP P e = tP O e ∧ opk P e := by
  by_cases c : e.2.1 % 4 = 1
  · have h0 : 0 ≤ O.1 (e.2.1 / 4) := ho.elim (fun z => absurd c z) id
    obtain ⟨h1, h2⟩ := h _ h0
    refine ⟨?_, Or.inr (by rw [h1]; exact h0)⟩
    unfold tP
    rw [if_pos c, if_pos c, h1]
    refine List.map_congr_left (fun i hi => ?_)
    have := List.mem_range.mp hi
    rw [h2 i (by omega) (by omega)]
  · exact ⟨by rw [tP_hole c, tP_hole c], Or.inl c⟩
theorem tR_x {O P : Op} (h : opx O P) : ∀ {r : Row} {S S' : List Int}, tR O r S = some S' → tR P r S = some S' := by
  intro r
  induction r with
  | nil => intro S S' k; exact k
  | cons e r ih =>
    intro S S' k
    obtain ⟨U, rfl, k2⟩ := tR_inv k
    obtain ⟨p1, p2⟩ := tP_x h (tR_opk k)
    rw [tR_cons p2, p1]
    exact ih k2
theorem opO_x {O : Op} {no a b c : Int} (hg : gOp O no) : opx O (opO O no a b c) := by
  intro f hf
  have hf2 := (hg.2.2.1 f).mp hf
  have h3 := hg.2.2.2.1 f
  refine ⟨up1_ne (by omega), fun i h0 h1 => ?_⟩
  show (if f * 3 + i = no * 3 ∧ 0 < arO a b c then a else if f * 3 + i = no * 3 + 1 ∧ 1 < arO a b c then b else if f * 3 + i = no * 3 + 2 ∧ 2 < arO a b c then c else O.2 f i) = O.2 f i
  rw [if_neg (by omega), if_neg (by omega), if_neg (by omega)]
theorem arO_b (a b c : Int) : 0 ≤ arO a b c ∧ arO a b c ≤ 3 := by
  unfold arO
  split
  · omega
  split
  · omega
  split <;> omega
theorem arO_v {a b c : Int} (h : vOp a b c) : (0 < arO a b c → 0 ≤ a ∧ a ≤ 2) ∧ (1 < arO a b c → 0 ≤ b ∧ b ≤ 2) ∧ (2 < arO a b c → 0 ≤ c ∧ c ≤ 2) := by
  obtain ⟨h1, h2, h3, h4, h5⟩ := h
  unfold arO
  split
  · omega
  split
  · omega
  split <;> omega
theorem gOp_O {O : Op} {no a b c : Int} (hg : gOp O no) (hn : no < 16) (hv : vOp a b c) : gOp (opO O no a b c) (no + 1) := by
  obtain ⟨h1, h2, h3, h4, h5⟩ := hg
  have hb := arO_b a b c
  have hv' := arO_v hv
  refine ⟨by omega, by omega, fun f => ?_, fun f => ?_, fun f i => ?_⟩
  · show 0 ≤ up1 O.1 no (arO a b c) f ↔ _
    by_cases e : f = no
    · rw [e, up1_same]; omega
    · rw [up1_ne e, h3 f]; omega
  · show up1 O.1 no (arO a b c) f ≤ 3
    have := h4 f
    unfold up1
    split <;> omega
  · show 0 ≤ (if f * 3 + i = no * 3 ∧ 0 < arO a b c then a else if f * 3 + i = no * 3 + 1 ∧ 1 < arO a b c then b else if f * 3 + i = no * 3 + 2 ∧ 2 < arO a b c then c else O.2 f i) ∧ (if f * 3 + i = no * 3 ∧ 0 < arO a b c then a else if f * 3 + i = no * 3 + 1 ∧ 1 < arO a b c then b else if f * 3 + i = no * 3 + 2 ∧ 2 < arO a b c then c else O.2 f i) ≤ 2
    have := h5 f i
    split
    · rename_i z; exact hv'.1 z.2
    split
    · rename_i z; exact hv'.2.1 z.2
    split
    · rename_i z; exact hv'.2.2 z.2
    · exact this
theorem gD_O {R : Nat} {d : Dk} {a b c : Int} (hg : gD R d) (hv : vOp a b c) : gD R (dkO d a b c) := by
  unfold dkO
  split
  · rename_i cn
    have hx := opO_x (a := a) (b := b) (c := c) hg.1
    obtain ⟨⟨h1, h2, h3⟩, h4, h5⟩ := hg.2.1
    refine ⟨gOp_O hg.1 cn hv, ⟨⟨h1, fun h F hF => tR_x hx (h2 h F hF), h3⟩, h4, h5⟩, fun i hi => ?_, hg.2.2.2⟩
    obtain ⟨k1, k2, k3, k4⟩ := hg.2.2.1 i hi
    exact ⟨k1, k2, fun z => tR_x hx (k3 z), k4⟩
  · exact hg
/-- an argument is added: the arity grows by one -/
theorem s_addA {no k v : Int} {σ : SS} (hn : 0 ≤ no ∧ no < 16) (hk : 0 ≤ k ∧ k < 3) (ha : gA σ 5 16 no = k) (hv : v ≠ -1) : f_O_addArgument no v σ = some ((), gS (gS σ 6 48 (no * 3 + k) v) 5 16 no (k + 1)) := by
  unfold f_O_addArgument f_O_arityOf
  rw [if_neg hv, sq_e, ha, ck_t (by omega), ck_t (by omega), lb_e, ck_t (by omega), lb_e]
theorem s_addN {no v : Int} {σ : SS} (h : v = -1) : f_O_addArgument no v σ = some ((), σ) := if_pos h
theorem s_tell {O : Op} {no a b c : Int} {σ : SS} (hg : gOp O no) (hn : no < 16) (hv : vOp a b c) (hc : cOp σ O) (h42 : σ.1 4 2 = no) :
    Wp (f_O_tell a b c σ) (fun z τ => z = no ∧ fx (fun x => x = 4 ∨ x = 5 ∨ x = 6) σ τ ∧ τ.1 4 2 = no + 1 ∧ cOp τ (opO O no a b c)) := by
  have h0 := hg.1
  obtain ⟨v1, v2, v3, v4, v5⟩ := hv
  have hun : gA σ 5 16 no = 0 := hc.2.2 no (by
    have := (hg.2.2.1 no)
    apply Decidable.byContradiction
    intro z
    have := this.mp (by omega)
    omega)
  unfold f_O_tell
  rw [h42, if_pos hn]
  refine wp_lx (wp_ck (by omega) (wp_lb (fun σ6 e6 => ?_)))
  have g6 : ∀ x n i, gA σ6 x n i = gA σ x n i := fun x n i => by rw [e6]; exact gA_F _ _ _ _ _ _ _
  have x6 : fx (fun x => x = 4 ∨ x = 5 ∨ x = 6) σ σ6 := by rw [e6]; exact fx_F fx_rf (Or.inl rfl)
  have f6 : σ6.1 4 2 = no + 1 := by rw [e6]; exact sF_same _ _ _ _
  -- what is to be shown of the last store
  have fin : ∀ τ : SS, fx (fun x => x = 4 ∨ x = 5 ∨ x = 6) σ6 τ → τ.1 4 2 = σ6.1 4 2 → gA τ 5 16 no = arO a b c → (∀ f, f ≠ no → gA τ 5 16 f = gA σ 5 16 f) → (∀ p, gA τ 6 48 p = if p = no * 3 ∧ 0 < arO a b c then a else if p = no * 3 + 1 ∧ 1 < arO a b c then b else if p = no * 3 + 2 ∧ 2 < arO a b c then c else gA σ 6 48 p) → no = no ∧ fx (fun x => x = 4 ∨ x = 5 ∨ x = 6) σ τ ∧ τ.1 4 2 = no + 1 ∧ cOp τ (opO O no a b c) := by
    intro τ t1 t2 t3 t4 t5
    have hb := arO_b a b c
    refine ⟨rfl, fx_tr x6 t1, by rw [t2]; exact f6, fun f hf => ?_, fun f i => ?_, fun f hf => ?_⟩
    · have hf' : 0 ≤ up1 O.1 no (arO a b c) f := hf
      show gA τ 5 16 f = up1 O.1 no (arO a b c) f ∧ up1 O.1 no (arO a b c) f ≤ 3 ∧ 0 ≤ f ∧ f < 16
      by_cases e : f = no
      · rw [e, up1_same]; exact ⟨t3, by omega, by omega, by omega⟩
      · rw [up1_ne e] at hf' ⊢
        rw [t4 f e]
        exact hc.1 f hf'
    · rw [t5, hc.2.1]
      rfl
    · have hf' : up1 O.1 no (arO a b c) f < 0 := hf
      have e : f ≠ no := fun z => by rw [z, up1_same] at hf'; omega
      rw [up1_ne e] at hf'
      rw [t4 f e]
      exact hc.2.2 f hf'
  by_cases ca : a = -1
  · have cb := v4 ca
    have cc := v5 cb
    have har : arO a b c = 0 := if_pos ca
    rw [har] at fin
    refine wp_e (s_addN ca) (wp_e (s_addN cb) (wp_e (s_addN cc) (wp_some (fin σ6 fx_rf rfl (by rw [g6]; exact hun) (fun f _ => g6 _ _ _) (fun p => ?_)))))
    rw [g6, if_neg (by omega), if_neg (by omega), if_neg (by omega)]
  · have n1 := s_addA (no := no) (k := 0) (v := a) (σ := σ6) (by omega) (by omega) (by rw [g6]; exact hun) ca
    refine wp_e n1 ?_
    generalize h10 : gS (gS σ6 6 48 (no * 3 + 0) a) 5 16 no (0 + 1) = σ10
    have x10 : fx (fun x => x = 4 ∨ x = 5 ∨ x = 6) σ6 σ10 := by rw [← h10]; exact fx_S (fx_S fx_rf (by omega)) (by omega)
    have f10 : σ10.1 4 2 = σ6.1 4 2 := by rw [← h10, gS_f', gS_f']
    have a10 : gA σ10 5 16 no = 1 := by rw [← h10]; exact gA_S_same (by omega) (by omega)
    have a10' : ∀ f, f ≠ no → gA σ10 5 16 f = gA σ 5 16 f := fun f hf => by rw [← h10, gA_S_ne (fun z => hf z.2), gA_S_ne (by omega), g6]
    have b10 : ∀ p, gA σ10 6 48 p = if p = no * 3 then a else gA σ 6 48 p := fun p => by
      rw [← h10, gA_S_ne (by omega)]
      by_cases e : p = no * 3
      · rw [if_pos e, e, show no * 3 + 0 = no * 3 by omega]; exact gA_S_same (by omega) (by omega)
      · rw [if_neg e, gA_S_ne (fun z => e (by omega)), g6]
    by_cases cb : b = -1
    · have cc := v5 cb
      have har : arO a b c = 1 := by unfold arO; rw [if_neg ca, if_pos cb]
      rw [har] at fin
      refine wp_e (s_addN cb) (wp_e (s_addN cc) (wp_some (fin σ10 x10 f10 a10 a10' (fun p => ?_))))
      rw [b10]
      by_cases e : p = no * 3
      · rw [if_pos e, if_pos ⟨e, by omega⟩]
      · rw [if_neg e, if_neg (fun z => e z.1), if_neg (by omega), if_neg (by omega)]
    · have n2 := s_addA (no := no) (k := 1) (v := b) (σ := σ10) (by omega) (by omega) a10 cb
      refine wp_e n2 ?_
      generalize h15 : gS (gS σ10 6 48 (no * 3 + 1) b) 5 16 no (1 + 1) = σ15
      have x15 : fx (fun x => x = 4 ∨ x = 5 ∨ x = 6) σ6 σ15 := by rw [← h15]; exact fx_S (fx_S x10 (by omega)) (by omega)
      have f15 : σ15.1 4 2 = σ6.1 4 2 := by rw [← h15, gS_f', gS_f']; exact f10
      have a15 : gA σ15 5 16 no = 2 := by rw [← h15]; exact gA_S_same (by omega) (by omega)
      have a15' : ∀ f, f ≠ no → gA σ15 5 16 f = gA σ 5 16 f := fun f hf => by rw [← h15, gA_S_ne (fun z => hf z.2), gA_S_ne (by omega)]; exact a10' f hf
      have b15 : ∀ p, gA σ15 6 48 p = if p = no * 3 then a else if p = no * 3 + 1 then b else gA σ 6 48 p := fun p => by
        rw [← h15, gA_S_ne (by omega)]
        by_cases e : p = no * 3 + 1
        · rw [if_neg (by omega), if_pos e, e]; exact gA_S_same (by omega) (by omega)
        · rw [gA_S_ne (fun z => e z.2), b10, if_neg e]
      by_cases cc : c = -1
      · have har : arO a b c = 2 := by unfold arO; rw [if_neg ca, if_neg cb, if_pos cc]
        rw [har] at fin
        refine wp_e (s_addN cc) (wp_some (fin σ15 x15 f15 a15 a15' (fun p => ?_)))
        rw [b15]
        repeat' split
        all_goals first | rfl | (exfalso; omega)
      · have n3 := s_addA (no := no) (k := 2) (v := c) (σ := σ15) (by omega) (by omega) a15 cc
        refine wp_e n3 ?_
        generalize h20 : gS (gS σ15 6 48 (no * 3 + 2) c) 5 16 no (2 + 1) = σ20
        have har : arO a b c = 3 := by unfold arO; rw [if_neg ca, if_neg cb, if_neg cc]
        rw [har] at fin
        refine wp_some (fin σ20 (by rw [← h20]; exact fx_S (fx_S x15 (by omega)) (by omega)) (by rw [← h20, gS_f', gS_f']; exact f15) (by rw [← h20]; exact gA_S_same (by omega) (by omega)) (fun f hf => by rw [← h20, gA_S_ne (fun z => hf z.2), gA_S_ne (by omega)]; exact a15' f hf) (fun p => ?_))
        rw [← h20, gA_S_ne (by omega)]
        by_cases e : p = no * 3 + 2
        · rw [if_neg (by omega), if_neg (by omega), if_pos ⟨e, by omega⟩, e]; exact gA_S_same (by omega) (by omega)
        · rw [gA_S_ne (fun z => e z.2), b15]
          repeat' split
          all_goals first | rfl | (exfalso; omega)
theorem s_may {x : Int} {σ : SS} : f_H_mayBind x σ = some ((if -1 ≤ x ∧ x ≤ 2 then 1 else 0), σ) := by
  unfold f_H_mayBind
  by_cases c0 : x < -1
  · rw [if_pos c0, if_neg (by omega)]
  · rw [if_neg c0]
    by_cases c1 : 2 < x
    · rw [if_pos c1, if_neg (by omega)]
    · rw [if_neg c1, if_pos (by omega)]
theorem s_operation {R : Nat} {σ : SS} {d : Dk} {a b c : Int} (hg : gD R d) (hn : nth σ) (hc : cD σ d) :
    Wp (f_H_operation a b c σ) (fun z τ => fx XH σ τ ∧ tho σ τ ∧ ((vOp a b c ∧ z = .inl (if d.2.1 < 16 then d.2.1 else -1) ∧ cD τ (dkO d a b c)) ∨ (¬ vOp a b c ∧ z = .inr (exn 1) ∧ cD τ d))) := by
  have bad : ¬ vOp a b c → Wp (ck (rng (σ.1 0 99 + 1)) (some ((.inr "java/lang/IllegalArgumentException" : Int ⊕ String), thr σ))) (fun z τ => fx XH σ τ ∧ tho σ τ ∧ ((vOp a b c ∧ z = .inl (if d.2.1 < 16 then d.2.1 else -1) ∧ cD τ (dkO d a b c)) ∨ (¬ vOp a b c ∧ z = .inr (exn 1) ∧ cD τ d))) := fun h => w_thr hg hn hc (fun τ x y e => ⟨XK_XH y, e, Or.inr ⟨h, rfl, x⟩⟩)
  unfold f_H_operation
  refine wp_e s_may ?_
  by_cases ca : -1 ≤ a ∧ a ≤ 2
  rotate_left
  · rw [if_neg ca]; exact wp_t rfl (bad (fun z => ca z.1))
  rw [if_pos ca]
  refine wp_f (by decide) (wp_e s_may ?_)
  by_cases cb : -1 ≤ b ∧ b ≤ 2
  rotate_left
  · rw [if_neg cb]; exact wp_t rfl (bad (fun z => cb z.2.1))
  rw [if_pos cb]
  refine wp_f (by decide) (wp_e s_may ?_)
  by_cases cc : -1 ≤ c ∧ c ≤ 2
  rotate_left
  · rw [if_neg cc]; exact wp_t rfl (bad (fun z => cc z.2.2.1))
  rw [if_pos cc]
  refine wp_f (by decide) ?_
  by_cases c1 : a = -1 → b = -1
  rotate_left
  · have ha : a = -1 := Decidable.byContradiction (fun z => c1 (fun w => absurd w z))
    have hb : b ≠ -1 := fun z => c1 (fun _ => z)
    obtain ⟨y, τ, e1, h1⟩ := bad (fun z => c1 z.2.2.2.1)
    rw [ck_t (by obtain ⟨g1, g2⟩ := hn; omega)] at e1
    cases e1
    refine wp_sr (R := fun y τ => y = .inl (.inr "java/lang/IllegalArgumentException") ∧ τ = thr σ) (wp_t ha (wp_f hb (wp_ck (by obtain ⟨g1, g2⟩ := hn; omega) (wp_some ⟨rfl, rfl⟩)))) (fun y τ h => ?_) (fun y τ h => by cases h.1)
    rw [Sum.inl.inj h.1, h.2]
    exact h1
  refine wp_sr (R := fun y τ => y = .inr () ∧ τ = σ) (wp_if (fun z => wp_t (c1 z) (wp_some ⟨rfl, rfl⟩)) (fun _ => wp_some ⟨rfl, rfl⟩)) (fun y τ h => by cases h.1) ?_
  rintro u τ ⟨-, rfl⟩
  by_cases c2 : b = -1 → c = -1
  rotate_left
  · have ha : b = -1 := Decidable.byContradiction (fun z => c2 (fun w => absurd w z))
    have hb : c ≠ -1 := fun z => c2 (fun _ => z)
    obtain ⟨y, υ, e1, h1⟩ := bad (fun z => c2 z.2.2.2.2)
    rw [ck_t (by obtain ⟨g1, g2⟩ := hn; omega)] at e1
    cases e1
    refine wp_sr (R := fun y υ => y = .inl (.inr "java/lang/IllegalArgumentException") ∧ υ = thr τ) (wp_t ha (wp_f hb (wp_ck (by obtain ⟨g1, g2⟩ := hn; omega) (wp_some ⟨rfl, rfl⟩)))) (fun y υ h => ?_) (fun y υ h => by cases h.1)
    rw [Sum.inl.inj h.1, h.2]
    exact h1
  refine wp_sr (R := fun y υ => y = .inr () ∧ υ = τ) (wp_if (fun z => wp_t (c2 z) (wp_some ⟨rfl, rfl⟩)) (fun _ => wp_some ⟨rfl, rfl⟩)) (fun y υ h => by cases h.1) ?_
  rintro u υ ⟨-, rfl⟩
  have hv : vOp a b c := ⟨ca, cb, cc, c1, c2⟩
  obtain ⟨k1, k2, k3, k4, k5, k6, k7⟩ := id hc
  unfold dkO
  by_cases cn : d.2.1 < 16
  · rw [if_pos cn, if_pos cn]
    refine wp_sq (s_tell hg.1 cn hv k2 k3) ?_
    rintro z τ ⟨rfl, x1, f1, o1⟩
    have nx : ∀ a, a ≠ 4 → a ≠ 5 → a ≠ 6 → ¬ (a = 4 ∨ a = 5 ∨ a = 6) := fun a h1 h2 h3 z => by omega
    refine wp_some ⟨fx_mono x1 (fun a z => by unfold XH; omega), tho_eq (fx_f x1 (nx 0 (by omega) (by omega) (by omega))), Or.inl ⟨hv, rfl, cSt_fx x1 (fun a h1 h2 => nx a (by omega) (by omega) (by omega)) (fun a h1 h2 h3 => nx a (by omega) (by omega) (by omega)) k1, o1, f1, fun i hi => cSl_fx x1 (nx _ (by omega) (by omega) (by omega)) (nx _ (by omega) (by omega) (by omega)) (fun j _ => ⟨fx_cA x1 (nx 1 (by omega) (by omega) (by omega)) (nx 2 (by omega) (by omega) (by omega)) j, fx_cB x1 (nx 1 (by omega) (by omega) (by omega)) (nx 3 (by omega) (by omega) (by omega)) j⟩) hi (il_30 hg.2.1.1.2.2.2.1 (hg.2.2.1 i hi)).1 (k4 i hi), cRd_fx x1 (nx 51 (by omega) (by omega) (by omega)) (nx 52 (by omega) (by omega) (by omega)) k5, by rw [fx_f x1 (nx 0 (by omega) (by omega) (by omega))]; exact k6, by rw [fx_f x1 (nx 0 (by omega) (by omega) (by omega))]; exact k7⟩⟩
  · rw [if_neg cn, if_neg cn]
    unfold f_O_tell
    rw [k3, if_neg cn]
    exact wp_e rfl (wp_some ⟨fx_rf, tho_eq rfl, Or.inl ⟨hv, rfl, hc⟩⟩)
