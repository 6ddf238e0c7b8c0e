/-! ROWS OF GROUPS: a group is how many variables are bound above it, its code (4 * number + sort) and the variables of a hole -/
abbrev AG : Type := Int × Int × List Int
abbrev Row : Type := List AG
abbrev Fl : Type := Int → Option Row
/-- a variable under b bound ones, its free ones through φ -/
def tV (φ : Int → Int) (b v : Int) : Int := if v < b then v else φ (v - b) + b
def tS (β : Int) (φ : Int → Int) (e : AG) : AG := (β + e.1, (if e.2.1 % 4 = 0 then 4 * tV φ e.1 (e.2.1 / 4) else e.2.1), e.2.2.map (tV φ e.1))
/-- what stands for parameter k -/
def tI (vs : List Int) (k : Int) : Int := vs.getD k.toNat 0
def tX (Φ : Fl) (e : AG) : Row := if e.2.1 % 4 = 2 then (match Φ (e.2.1 / 4) with | some F => F.map (tS e.1 (tI e.2.2)) | none => [e]) else [e]
def tE (Φ : Fl) (r : Row) : Row := r.flatMap (tX Φ)
def tN (Φ : Fl) : Nat → Row → Row
  | 0, r => r
  | k + 1, r => tN Φ k (tE Φ r)
/-- a group that may stand where n variables are free -/
def okG (pa : Int → Int) (n : Int) (e : AG) : Prop := 0 ≤ e.1 ∧ 0 ≤ e.2.1 ∧ e.2.1 % 4 ≠ 3 ∧ (e.2.1 % 4 = 0 → e.2.1 / 4 < e.1 + n) ∧ (∀ v ∈ e.2.2, 0 ≤ v ∧ v < e.1 + n) ∧ (e.2.1 % 4 = 2 → (e.2.2.length : Int) = pa (e.2.1 / 4)) ∧ (e.2.1 % 4 ≠ 2 → e.2.2 = []) ∧ e.2.2.Nodup
def okR (pa : Int → Int) (n : Int) (r : Row) : Prop := ∀ e ∈ r, okG pa n e
/-- all fillings are good -/
def okF (pa : Int → Int) (Φ : Fl) : Prop := ∀ h F, Φ h = some F → okR pa (pa h) F
theorem tV_lt {φ : Int → Int} {b v : Int} (h : v < b) : tV φ b v = v := if_pos h
theorem tV_ge {φ : Int → Int} {b v : Int} (h : b ≤ v) : tV φ b v = φ (v - b) + b := if_neg (by omega)
theorem tV_id (b v : Int) : tV (fun x => x) b v = v := by unfold tV; dsimp only; split <;> omega
theorem tI_map {f : Int → Int} {vs : List Int} {k : Int} (h0 : 0 ≤ k) (h : k < vs.length) : tI (vs.map f) k = f (tI vs k) := by
  have hk : k.toNat < vs.length := by omega
  unfold tI
  rw [List.getD_eq_getElem?_getD, List.getD_eq_getElem?_getD, List.getElem?_map, List.getElem?_eq_getElem hk]
  rfl
theorem tI_mem {vs : List Int} {k : Int} (h0 : 0 ≤ k) (h : k < vs.length) : tI vs k ∈ vs := by
  have hk : k.toNat < vs.length := by omega
  unfold tI
  rw [List.getD_eq_getElem?_getD, List.getElem?_eq_getElem hk]
  exact List.getElem_mem hk
theorem tV_comp {φ : Int → Int} {b b' v : Int} {vs : List Int} (hb : 0 ≤ b) (hv : 0 ≤ v) (h : v < b' + vs.length) : tV φ (b + b') (tV (tI vs) b' v) = tV (tI (vs.map (tV φ b))) b' v := by
  by_cases c : v < b'
  · rw [tV_lt c, tV_lt c, tV_lt (by omega)]
  · rw [tV_ge (φ := tI vs) (by omega : b' ≤ v), tV_ge (φ := tI (vs.map (tV φ b))) (by omega : b' ≤ v), tI_map (by omega) (by omega)]
    by_cases d : tI vs (v - b') < b
    · rw [tV_lt d, tV_lt (by omega)]
    · rw [tV_ge (φ := φ) (b := b) (v := tI vs (v - b')) (by omega), tV_ge (by omega), show tI vs (v - b') + b' - (b + b') = tI vs (v - b') - b by omega]
      omega
theorem tS_id (e : AG) : tS 0 (fun x => x) e = e := by
  obtain ⟨b, c, vs⟩ := e
  unfold tS
  dsimp only
  have h1 : vs.map (tV (fun x => x) b) = vs := by
    rw [show (tV (fun x => x) b) = id from funext (fun v => tV_id b v), List.map_id]
  rw [h1, Int.zero_add, tV_id]
  congr 2
  split <;> omega
theorem tS_comp {pa : Int → Int} {φ : Int → Int} {β b : Int} {vs : List Int} {e : AG} (hb : 0 ≤ b) (he : okG pa vs.length e) : tS β φ (tS b (tI vs) e) = tS (β + b) (tI (vs.map (tV φ b))) e := by
  obtain ⟨b', c, ws⟩ := e
  obtain ⟨h1, h2, h3, h4, h5, -, -, -⟩ := he
  dsimp only at h1 h2 h3 h4 h5
  unfold tS
  dsimp only
  have h6 : ((ws.map (tV (tI vs) b')).map (tV φ (b + b'))) = ws.map (tV (tI (vs.map (tV φ b))) b') := by
    rw [List.map_map]
    exact List.map_congr_left (fun v hv => tV_comp hb (h5 v hv).1 (h5 v hv).2)
  rw [h6, show β + (b + b') = β + b + b' by omega]
  congr 2
  by_cases c0 : c % 4 = 0
  · rw [if_pos c0, if_pos (by omega), if_pos c0, show (4 * tV (tI vs) b' (c / 4)) / 4 = tV (tI vs) b' (c / 4) by omega, tV_comp hb (by omega) (h4 c0)]
  · rw [if_neg c0, if_neg c0, if_neg c0]
theorem tS_code {β : Int} {φ : Int → Int} {e : AG} : (tS β φ e).2.1 % 4 = e.2.1 % 4 := by
  unfold tS
  dsimp only
  split <;> omega
theorem tS_num {β : Int} {φ : Int → Int} {e : AG} (h : e.2.1 % 4 ≠ 0) : (tS β φ e).2.1 = e.2.1 := by
  unfold tS
  dsimp only
  rw [if_neg h]
/-- expanding behind a substitution is substituting behind expanding -/
theorem tX_sub {pa : Int → Int} {Φ : Fl} {φ : Int → Int} {β n : Int} {e : AG} (hF : okF pa Φ) (he : okG pa n e) : tX Φ (tS β φ e) = (tX Φ e).map (tS β φ) := by
  unfold tX
  rw [tS_code]
  by_cases c : e.2.1 % 4 = 2
  · rw [if_pos c, if_pos c, tS_num (by omega)]
    cases hΦ : Φ (e.2.1 / 4) with
    | none => rfl
    | some F =>
      dsimp only
      rw [List.map_map]
      refine List.map_congr_left (fun x hx => ?_)
      have h1 := hF _ _ hΦ x hx
      rw [← he.2.2.2.2.2.1 c] at h1
      show tS (β + e.1) (tI (e.2.2.map (tV φ e.1))) x = tS β φ (tS e.1 (tI e.2.2) x)
      rw [tS_comp he.1 h1]
  · rw [if_neg c, if_neg c]
    rfl
theorem tE_sub {pa : Int → Int} {Φ : Fl} {φ : Int → Int} {β n : Int} (hF : okF pa Φ) : ∀ {r : Row}, okR pa n r → tE Φ (r.map (tS β φ)) = (tE Φ r).map (tS β φ) := by
  intro r
  induction r with
  | nil => intro _; rfl
  | cons e r ih =>
    intro h
    unfold tE at *
    rw [List.map_cons, List.flatMap_cons, List.flatMap_cons, List.map_append, tX_sub hF (h e List.mem_cons_self), ih (fun x hx => h x (List.mem_cons_of_mem _ hx))]
/-- a group of a filling, put in its place, is good there -/
theorem okG_sub {pa : Int → Int} {β n N : Int} {φ : Int → Int} {e : AG} (hβ : 0 ≤ β) (hN : 0 ≤ N) (he : okG pa n e) (hφ : ∀ k, 0 ≤ k → k < n → 0 ≤ φ k ∧ φ k < β + N) (hi : ∀ j k, 0 ≤ j → j < n → 0 ≤ k → k < n → φ j = φ k → j = k) : okG pa N (tS β φ e) := by
  obtain ⟨b, c, vs⟩ := e
  obtain ⟨h1, h2, h3, h4, h5, h6, h7, h8⟩ := he
  dsimp only at h1 h2 h3 h4 h5 h6 h7 h8
  have key : ∀ v, 0 ≤ v → v < b + n → 0 ≤ tV φ b v ∧ tV φ b v < β + b + N := by
    intro v hv1 hv2
    by_cases q : v < b
    · rw [tV_lt q]; omega
    · rw [tV_ge (by omega)]
      have := hφ (v - b) (by omega) (by omega)
      omega
  have c4 := tS_code (β := β) (φ := φ) (e := (b, c, vs))
  dsimp only at c4
  refine ⟨by show 0 ≤ β + b; omega, ?_, by rw [c4]; exact h3, ?_, ?_, ?_, ?_, ?_⟩
  · show 0 ≤ (if c % 4 = 0 then 4 * tV φ b (c / 4) else c)
    split
    · rename_i q
      have := key (c / 4) (by omega) (h4 q)
      omega
    · exact h2
  · rw [c4]
    intro q
    show (if c % 4 = 0 then 4 * tV φ b (c / 4) else c) / 4 < β + b + N
    rw [if_pos q]
    have := key (c / 4) (by omega) (h4 q)
    omega
  · intro v hv
    obtain ⟨w, hw, rfl⟩ := List.mem_map.mp hv
    exact key w (h5 w hw).1 (h5 w hw).2
  · rw [c4]
    intro q
    rw [tS_num (by show c % 4 ≠ 0; omega)]
    show ((vs.map (tV φ b)).length : Int) = pa (c / 4)
    rw [List.length_map]
    exact h6 q
  · rw [c4]
    intro q
    show vs.map (tV φ b) = []
    rw [h7 q]
    rfl
  · show (vs.map (tV φ b)).Nodup
    refine List.pairwise_map.mpr (h8.imp_of_mem ?_)
    intro x y hx hy hxy he
    apply hxy
    have hx' := h5 x hx
    have hy' := h5 y hy
    by_cases q : x < b
    · by_cases q2 : y < b
      · rw [tV_lt q, tV_lt q2] at he; exact he
      · rw [tV_lt q, tV_ge (by omega)] at he
        have := hφ (y - b) (by omega) (by omega)
        omega
    · by_cases q2 : y < b
      · rw [tV_ge (by omega), tV_lt q2] at he
        have := hφ (x - b) (by omega) (by omega)
        omega
      · rw [tV_ge (by omega), tV_ge (by omega)] at he
        have := hi (x - b) (y - b) (by omega) (by omega) (by omega) (by omega) (by omega)
        omega
theorem tI_inj {vs : List Int} (h : vs.Nodup) {j k : Int} (hj : 0 ≤ j) (hj2 : j < vs.length) (hk : 0 ≤ k) (hk2 : k < vs.length) (he : tI vs j = tI vs k) : j = k := by
  have h1 : j.toNat < vs.length := by omega
  have h2 : k.toNat < vs.length := by omega
  unfold tI at he
  rw [List.getD_eq_getElem?_getD, List.getD_eq_getElem?_getD, List.getElem?_eq_getElem h1, List.getElem?_eq_getElem h2] at he
  have he' : vs[j.toNat] = vs[k.toNat] := he
  have hp := List.pairwise_iff_getElem.mp h
  rcases Nat.lt_trichotomy j.toNat k.toNat with q | q | q
  · exact absurd he' (hp _ _ h1 h2 q)
  · omega
  · exact absurd he'.symm (hp _ _ h2 h1 q)
theorem okR_ex {pa : Int → Int} {Φ : Fl} {n : Int} {e : AG} (hn : 0 ≤ n) (hF : okF pa Φ) (he : okG pa n e) : okR pa n (tX Φ e) := by
  unfold tX
  split
  · rename_i c
    cases hΦ : Φ (e.2.1 / 4) with
    | none => intro x hx; cases List.mem_singleton.mp hx; exact he
    | some F =>
      intro x hx
      obtain ⟨y, hy, rfl⟩ := List.mem_map.mp hx
      have h1 := hF _ _ hΦ y hy
      rw [← he.2.2.2.2.2.1 c] at h1
      refine okG_sub he.1 hn h1 (fun k h0 hk => ?_) (fun j k hj hj2 hk hk2 => tI_inj he.2.2.2.2.2.2.2 hj hj2 hk hk2)
      exact he.2.2.2.2.1 _ (tI_mem h0 hk)
  · intro x hx; cases List.mem_singleton.mp hx; exact he
theorem okR_E {pa : Int → Int} {Φ : Fl} {n : Int} {r : Row} (hn : 0 ≤ n) (hF : okF pa Φ) (h : okR pa n r) : okR pa n (tE Φ r) := by
  intro x hx
  obtain ⟨e, he, hx⟩ := List.mem_flatMap.mp hx
  exact okR_ex hn hF (h e he) x hx
theorem okR_N {pa : Int → Int} {Φ : Fl} {n : Int} (hn : 0 ≤ n) (hF : okF pa Φ) : ∀ (k : Nat) {r : Row}, okR pa n r → okR pa n (tN Φ k r) := by
  intro k
  induction k with
  | zero => intro r h; exact h
  | succ k ih => intro r h; exact ih (okR_E hn hF h)
theorem tN_sub {pa : Int → Int} {Φ : Fl} {φ : Int → Int} {β n : Int} (hn : 0 ≤ n) (hF : okF pa Φ) : ∀ (k : Nat) {r : Row}, okR pa n r → tN Φ k (r.map (tS β φ)) = (tN Φ k r).map (tS β φ) := by
  intro k
  induction k with
  | zero => intro r _; rfl
  | succ k ih =>
    intro r h
    show tN Φ k (tE Φ (r.map (tS β φ))) = (tN Φ k (tE Φ r)).map (tS β φ)
    rw [tE_sub hF h, ih (okR_E hn hF h)]
theorem tE_append (Φ : Fl) (a b : Row) : tE Φ (a ++ b) = tE Φ a ++ tE Φ b := List.flatMap_append
theorem tN_append (Φ : Fl) : ∀ (k : Nat) (a b : Row), tN Φ k (a ++ b) = tN Φ k a ++ tN Φ k b := by
  intro k
  induction k with
  | zero => intro a b; rfl
  | succ k ih =>
    intro a b
    show tN Φ k (tE Φ (a ++ b)) = tN Φ k (tE Φ a) ++ tN Φ k (tE Φ b)
    rw [tE_append, ih]
theorem tN_nil (Φ : Fl) : ∀ k, tN Φ k [] = [] := by
  intro k
  induction k with
  | zero => rfl
  | succ k ih => exact ih
theorem tN_cons (Φ : Fl) (k : Nat) (e : AG) (r : Row) : tN Φ k (e :: r) = tN Φ k [e] ++ tN Φ k r := tN_append Φ k [e] r
/-- a hole that is filled; ranks fall -/
def isF (Φ : Fl) (e : AG) : Prop := e.2.1 % 4 = 2 ∧ ∃ F, Φ (e.2.1 / 4) = some F
def lw (Φ : Fl) (rk : Int → Nat) (k : Nat) (r : Row) : Prop := ∀ e ∈ r, isF Φ e → rk (e.2.1 / 4) < k
def rkd (Φ : Fl) (rk : Int → Nat) : Prop := ∀ h F, Φ h = some F → lw Φ rk (rk h) F
theorem isF_sub {Φ : Fl} {β : Int} {φ : Int → Int} {e : AG} (h : isF Φ (tS β φ e)) : isF Φ e ∧ (tS β φ e).2.1 = e.2.1 := by
  obtain ⟨h1, h2⟩ := h
  rw [tS_code] at h1
  have h3 := tS_num (β := β) (φ := φ) (e := e) (by omega)
  rw [h3] at h2
  exact ⟨⟨h1, h2⟩, h3⟩
theorem lw_sub {Φ : Fl} {rk : Int → Nat} {k : Nat} {β : Int} {φ : Int → Int} {r : Row} (h : lw Φ rk k r) : lw Φ rk k (r.map (tS β φ)) := by
  intro e he hf
  obtain ⟨x, hx, rfl⟩ := List.mem_map.mp he
  obtain ⟨h1, h2⟩ := isF_sub hf
  rw [h2]
  exact h x hx h1
theorem lw_E {Φ : Fl} {rk : Int → Nat} {k : Nat} {r : Row} (hr : rkd Φ rk) (h : lw Φ rk (k + 1) r) : lw Φ rk k (tE Φ r) := by
  intro x hx hf
  obtain ⟨e, he, hx⟩ := List.mem_flatMap.mp hx
  unfold tX at hx
  split at hx
  · rename_i c
    cases hΦ : Φ (e.2.1 / 4) with
    | none =>
      rw [hΦ] at hx
      cases List.mem_singleton.mp hx
      obtain ⟨-, F, h2⟩ := hf
      rw [hΦ] at h2
      cases h2
    | some F =>
      rw [hΦ] at hx
      have h1 := h e he ⟨c, F, hΦ⟩
      have h2 := lw_sub (β := e.1) (φ := tI e.2.2) (hr _ _ hΦ) x hx hf
      omega
  · rename_i c
    cases List.mem_singleton.mp hx
    exact absurd hf.1 c
/-- no filled hole: nothing to expand -/
def nof (Φ : Fl) (r : Row) : Prop := ∀ e ∈ r, ¬ isF Φ e
theorem tX_nof {Φ : Fl} {e : AG} (h : ¬ isF Φ e) : tX Φ e = [e] := by
  unfold tX
  split
  · rename_i c
    cases hΦ : Φ (e.2.1 / 4) with
    | none => rfl
    | some F => exact absurd ⟨c, F, hΦ⟩ h
  · rfl
theorem tE_nof {Φ : Fl} : ∀ {r : Row}, nof Φ r → tE Φ r = r := by
  intro r
  induction r with
  | nil => intro _; rfl
  | cons e r ih =>
    intro h
    have h1 := ih (fun x hx => h x (List.mem_cons_of_mem _ hx))
    unfold tE at *
    rw [List.flatMap_cons, tX_nof (h e List.mem_cons_self), h1]
    rfl
theorem tN_nof {Φ : Fl} : ∀ (k : Nat) {r : Row}, nof Φ r → tN Φ k r = r := by
  intro k
  induction k with
  | zero => intro r _; rfl
  | succ k ih => intro r h; show tN Φ k (tE Φ r) = r; rw [tE_nof h, ih h]
theorem lw_nof {Φ : Fl} {rk : Int → Nat} {r : Row} (h : lw Φ rk 0 r) : nof Φ r := fun e he hf => absurd (h e he hf) (Nat.not_lt_zero _)
theorem tN_done {Φ : Fl} {rk : Int → Nat} (hr : rkd Φ rk) : ∀ (k : Nat) {r : Row}, lw Φ rk k r → nof Φ (tN Φ k r) := by
  intro k
  induction k with
  | zero => intro r h; exact lw_nof h
  | succ k ih => intro r h; exact ih (lw_E hr h)
theorem lw_mono {Φ : Fl} {rk : Int → Nat} {j k : Nat} {r : Row} (h : lw Φ rk j r) (hjk : j ≤ k) : lw Φ rk k r := fun e he hf => Nat.lt_of_lt_of_le (h e he hf) hjk
/-- more rounds change nothing -/
theorem tN_stab {Φ : Fl} {rk : Int → Nat} (hr : rkd Φ rk) : ∀ (k j : Nat) {r : Row}, lw Φ rk k r → k ≤ j → tN Φ j r = tN Φ k r := by
  intro k
  induction k with
  | zero => intro j r h _; rw [tN_nof j (lw_nof h)]; rfl
  | succ k ih =>
    intro j r h hj
    cases j with
    | zero => omega
    | succ j => exact ih j (lw_E hr h) (by omega)
/-- expanding by fewer fillings first changes nothing -/
def xt (Φ Ψ : Fl) : Prop := ∀ h F, Φ h = some F → Ψ h = some F
theorem tN_E {Φ Ψ : Fl} {rk : Int → Nat} (hx : xt Φ Ψ) (hr : rkd Ψ rk) : ∀ {r : Row} {k : Nat}, lw Ψ rk k r → tN Ψ k (tE Φ r) = tN Ψ k r := by
  intro r
  induction r with
  | nil => intro k _; rfl
  | cons e r ih =>
    intro k h
    have h1 := ih (k := k) (fun x hx => h x (List.mem_cons_of_mem _ hx))
    have h0 : lw Ψ rk k [e] := fun x hx => by cases List.mem_singleton.mp hx; exact h e List.mem_cons_self
    rw [tN_cons Ψ k e r, ← h1, show tE Φ (e :: r) = tX Φ e ++ tE Φ r from List.flatMap_cons, tN_append]
    congr 1
    by_cases hf : isF Φ e
    · obtain ⟨c, F, hF⟩ := hf
      have e1 : tX Φ e = tE Ψ [e] := by
        unfold tE tX
        rw [List.flatMap_cons, List.flatMap_nil, List.append_nil, if_pos c, if_pos c, hF, hx _ _ hF]
      rw [e1]
      show tN Ψ (k + 1) [e] = tN Ψ k [e]
      exact tN_stab hr k (k + 1) h0 (Nat.le_succ k)
    · rw [tX_nof hf]
theorem lw_X {Φ Ψ : Fl} {rk : Int → Nat} (hx : xt Φ Ψ) (hr : rkd Ψ rk) {r : Row} {k : Nat} (h : lw Ψ rk k r) : lw Ψ rk k (tE Φ r) := by
  intro x hx2 hf
  obtain ⟨e, he, hx2⟩ := List.mem_flatMap.mp hx2
  unfold tX at hx2
  split at hx2
  · rename_i c
    cases hΦ : Φ (e.2.1 / 4) with
    | none => rw [hΦ] at hx2; cases List.mem_singleton.mp hx2; exact h _ he hf
    | some F =>
      rw [hΦ] at hx2
      have h1 := h e he ⟨c, F, hx _ _ hΦ⟩
      have h2 := lw_sub (β := e.1) (φ := tI e.2.2) (hr _ _ (hx _ _ hΦ)) x hx2 hf
      omega
  · cases List.mem_singleton.mp hx2; exact h _ he hf
theorem tN_comp {Φ Ψ : Fl} {rk : Int → Nat} (hx : xt Φ Ψ) (hr : rkd Ψ rk) {k : Nat} : ∀ (j : Nat) {r : Row}, lw Ψ rk k r → tN Ψ k (tN Φ j r) = tN Ψ k r := by
  intro j
  induction j with
  | zero => intro r _; rfl
  | succ j ih =>
    intro r h
    show tN Ψ k (tN Φ j (tE Φ r)) = tN Ψ k r
    rw [ih (lw_X hx hr h), tN_E hx hr h]
