/-! THE UNIFYING MACHINE, over rows -/
def kix (n : Nat) (P : Nat → Bool) : List Int := ((List.range n).filter P).map (fun i : Nat => (i : Int))
theorem kix_succ (n : Nat) (P : Nat → Bool) : kix (n + 1) P = kix n P ++ (if P n = true then [(n : Int)] else []) := by
  unfold kix
  rw [List.range_succ, List.filter_append, List.map_append]
  congr 1
  rw [List.filter_cons]
  split <;> rfl
theorem kix_len (n : Nat) (P : Nat → Bool) : (kix n P).length ≤ n := by
  unfold kix
  rw [List.length_map]
  have := List.length_filter_le P (List.range n)
  rw [List.length_range] at this
  exact this
theorem kix_mem {n : Nat} {P : Nat → Bool} {v : Int} (h : v ∈ kix n P) : 0 ≤ v ∧ v < n ∧ P v.toNat = true := by
  unfold kix at h
  obtain ⟨i, hi, rfl⟩ := List.mem_map.mp h
  obtain ⟨h1, h2⟩ := List.mem_filter.mp hi
  have := List.mem_range.mp h1
  exact ⟨by omega, by omega, by rw [Int.toNat_natCast]; exact h2⟩
theorem kix_nodup (n : Nat) (P : Nat → Bool) : (kix n P).Nodup := by
  unfold kix
  refine List.pairwise_map.mpr ((List.nodup_range.filter P).imp ?_)
  intro a b hab z
  exact hab (by omega)
theorem kix_full {n : Nat} {P : Nat → Bool} (h : (kix n P).length = n) : ∀ i, i < n → P i = true := by
  unfold kix at h
  rw [List.length_map] at h
  intro i hi
  have h2 : (List.range n).filter P = List.range n := by
    refine List.filter_eq_self.mpr ?_
    have := (List.length_filter_eq_length_iff (p := P) (l := List.range n)).mp (by rw [h, List.length_range])
    exact this
  have := List.mem_range.mpr hi
  rw [← h2] at this
  exact (List.mem_filter.mp this).2
/-- a hole passes on to a new one -/
def pas (s : St) (h : Int) (K : List Int) : St := sFil (sNew s K.length) h (hRow (24 + s.2.2.2) K)
def nw (s : St) (h : Int) (x y : List Int) : St := if (kix x.length (fun i => x[i]? == y[i]?)).length = x.length then s else pas s h (kix x.length (fun i => x[i]? == y[i]?))
def jn (s : St) (h : Int) (x : List Int) (g : Int) (y : List Int) : St := sFil (pas s h (kix x.length (fun i => decide (0 ≤ fnd y (x.getD i 0))))) g (hRow (24 + s.2.2.2) ((kix x.length (fun i => decide (0 ≤ fnd y (x.getD i 0)))).map (fun i => fnd y (x.getD i.toNat 0))))
/-- a variable that is free in the term and none of the hole's -/
def frn (x : List Int) (b v : Int) : Bool := decide (0 ≤ v - b ∧ fnd x (v - b) < 0)
def dr (s : St) (x : List Int) (b : Int) (e : AG) : St := if (kix e.2.2.length (fun i => !frn x b (e.2.2.getD i 0))).length = e.2.2.length then s else pas s (e.2.1 / 4) (kix e.2.2.length (fun i => !frn x b (e.2.2.getD i 0)))
def adm (R : Nat) (h β : Int) (x : List Int) : Nat → St → Row → Int × St
  | 0, s, _ => (0, s)
  | _ + 1, s, [] => (0, s)
  | k + 1, s, e :: T => if e.2.1 % 4 = 0 then (if frn x (e.1 - β) (e.2.1 / 4) = true then (2, s) else adm R h β x k s T) else if e.2.1 % 4 = 2 then (if e.2.1 / 4 = h then (3, s) else adm R h β x k (dr s x (e.1 - β) e) (tN (dr s x (e.1 - β) e).2.1 R T)) else adm R h β x k s T
def vin (x : List Int) (b v : Int) : Int := if v < b then v else fnd x (v - b) + b
def ins (β : Int) (x : List Int) (e : AG) : AG := (e.1 - β, (if e.2.1 % 4 = 0 then 4 * vin x (e.1 - β) (e.2.1 / 4) else e.2.1), e.2.2.map (vin x (e.1 - β)))
def big (R : Nat) (s : St) : Bool := s.2.2.1.any (fun h => match s.2.1 h with | some F => decide (80 < (tN s.2.1 R F).length) | none => false)
def flt (R : Nat) (h β : Int) (x : List Int) (s : St) (T : Row) : Int × St :=
  if (adm R h β x T.length s T).1 = 0 then
    (if 80 < T.length then (4, (adm R h β x T.length s T).2) else
      (if big R (sFil (adm R h β x T.length s T).2 h ((tN (adm R h β x T.length s T).2.2.1 R T).map (ins β x))) = true then (4, sFil (adm R h β x T.length s T).2 h ((tN (adm R h β x T.length s T).2.2.1 R T).map (ins β x))) else (0, sFil (adm R h β x T.length s T).2 h ((tN (adm R h β x T.length s T).2.2.1 R T).map (ins β x)))))
  else adm R h β x T.length s T
/-- the first term of a row: so many are due -/
def tk (O : Op) : Row → Nat → Row × Row
  | r, 0 => ([], r)
  | [], _ + 1 => ([], [])
  | e :: r, d + 1 => (e :: (tk O r (d + (tP O e).length)).1, (tk O r (d + (tP O e).length)).2)
def un (O : Op) (R : Nat) : Nat → St → Row → Row → Int × St
  | 0, s, _, _ => (0, s)
  | _ + 1, s, [], _ => (0, s)
  | _ + 1, s, _ :: _, [] => (0, s)
  | n + 1, s, a :: L, b :: M =>
    if a.2.1 % 4 = 2 then
      (if b.2.1 % 4 = 2 then
        (if a.2.1 / 4 = b.2.1 / 4 then un O R n (nw s (a.2.1 / 4) a.2.2 b.2.2) (tN (nw s (a.2.1 / 4) a.2.2 b.2.2).2.1 R L) (tN (nw s (a.2.1 / 4) a.2.2 b.2.2).2.1 R M)
         else un O R n (jn s (a.2.1 / 4) a.2.2 (b.2.1 / 4) b.2.2) (tN (jn s (a.2.1 / 4) a.2.2 (b.2.1 / 4) b.2.2).2.1 R L) (tN (jn s (a.2.1 / 4) a.2.2 (b.2.1 / 4) b.2.2).2.1 R M))
       else
        (if (flt R (a.2.1 / 4) a.1 a.2.2 s (tk O (b :: M) 1).1).1 = 0 then un O R n (flt R (a.2.1 / 4) a.1 a.2.2 s (tk O (b :: M) 1).1).2 (tN (flt R (a.2.1 / 4) a.1 a.2.2 s (tk O (b :: M) 1).1).2.2.1 R L) (tN (flt R (a.2.1 / 4) a.1 a.2.2 s (tk O (b :: M) 1).1).2.2.1 R (tk O (b :: M) 1).2)
         else flt R (a.2.1 / 4) a.1 a.2.2 s (tk O (b :: M) 1).1))
    else if b.2.1 % 4 = 2 then
      (if (flt R (b.2.1 / 4) b.1 b.2.2 s (tk O (a :: L) 1).1).1 = 0 then un O R n (flt R (b.2.1 / 4) b.1 b.2.2 s (tk O (a :: L) 1).1).2 (tN (flt R (b.2.1 / 4) b.1 b.2.2 s (tk O (a :: L) 1).1).2.2.1 R (tk O (a :: L) 1).2) (tN (flt R (b.2.1 / 4) b.1 b.2.2 s (tk O (a :: L) 1).1).2.2.1 R M)
       else flt R (b.2.1 / 4) b.1 b.2.2 s (tk O (a :: L) 1).1)
    else if a.2.1 = b.2.1 then un O R n s L M else (1, s)
theorem tk_app {O : Op} : ∀ (r : Row) (d : Nat), (tk O r d).1 ++ (tk O r d).2 = r := by
  intro r
  induction r with
  | nil => intro d; cases d <;> rfl
  | cons e r ih =>
    intro d
    cases d with
    | zero => rfl
    | succ d => show e :: ((tk O r (d + (tP O e).length)).1 ++ (tk O r (d + (tP O e).length)).2) = _; rw [ih]
theorem tk_tR {O : Op} : ∀ (r : Row) (S T : List Int), tR O r (S ++ T) = some [] → tR O (tk O r S.length).1 S = some [] ∧ tR O (tk O r S.length).2 T = some [] := by
  intro r
  induction r with
  | nil =>
    intro S T h
    have h1 : S ++ T = [] := Option.some.inj h
    obtain ⟨rfl, rfl⟩ := List.append_eq_nil_iff.mp h1
    exact ⟨rfl, rfl⟩
  | cons e r ih =>
    intro S T h
    cases S with
    | nil => exact ⟨rfl, h⟩
    | cons b S =>
      obtain ⟨U, h1, h2⟩ := tR_inv h
      rw [List.cons_append] at h1
      obtain ⟨rfl, rfl⟩ := List.cons.inj h1
      rw [← List.append_assoc] at h2
      have h3 := ih _ _ h2
      rw [List.length_append, Nat.add_comm] at h3
      refine ⟨?_, h3.2⟩
      show tR O (e :: (tk O r (S.length + (tP O e).length)).1) (e.1 :: S) = some []
      rw [tR_cons (tR_opk h)]
      exact h3.1
/-! a good state stays good -/
theorem mx_R {R : Nat} (hR : 300 < R) : ∃ R', R = R' + 1 := ⟨R - 1, by omega⟩
/-- a hole that is open is passed on: sizes stay -/
theorem sz_pass {O : Op} {told : Int} {s : St} {h g : Int} {K : List Int} {R : Nat} (hs : sOk O told s) (hm : s.2.2.1.length + 1 < R) (hΦ : s.2.1 h = none) (hg : s.2.1 g = none) (hgh : g ≠ h) (hs' : sOk O told (sFil s h (hRow g K))) (hz : sz80 s.2.1 R) : sz80 (sFil s h (hRow g K)).2.1 R := by
  obtain ⟨rk', hr', hl'⟩ := hs'.2.2.1
  obtain ⟨rk, hr, hl⟩ := hs.2.2.1
  have hl'' : ∀ x, rk' x < R := fun x => by
    have h1 := hl' x
    have h2 : (sFil s h (hRow g K)).2.2.1.length = s.2.2.1.length + 1 := by
      show (s.2.2.1 ++ [h]).length = _
      rw [List.length_append]; rfl
    omega
  obtain ⟨R', rfl⟩ : ∃ R', R = R' + 1 := ⟨R - 1, by omega⟩
  have hgo : up1 s.2.1 h (some (hRow g K)) g = none := by rw [up1_ne hgh]; exact hg
  intro k F hF
  have hF' : up1 s.2.1 h (some (hRow g K)) k = some F := hF
  by_cases c : k = h
  · rw [c, up1_same] at hF'
    cases hF'
    have : nof (sFil s h (hRow g K)).2.1 (hRow g K) := by
      intro e he hf
      cases List.mem_singleton.mp he
      obtain ⟨-, E, hE⟩ := hf
      have hE' : up1 s.2.1 h (some (hRow g K)) ((4 * g + 2) / 4) = some E := hE
      rw [show (4 * g + 2) / 4 = g by omega, hgo] at hE'
      cases hE'
    rw [tN_nof _ this]
    show 1 ≤ 80
    omega
  · rw [up1_ne c] at hF'
    have h1 := hz k F hF'
    have h2 : tN (sFil s h (hRow g K)).2.1 (R' + 1) (tN s.2.1 (R' + 1) F) = tN (sFil s h (hRow g K)).2.1 (R' + 1) F := tN_comp (xt_fil hΦ) hr' (R' + 1) (fun e _ _ => hl'' _)
    rw [← h2]
    have h3 : nof s.2.1 (tN s.2.1 (R' + 1) F) := tN_done hr (R' + 1) (fun e _ _ => by have := hl (e.2.1 / 4); omega)
    have h4 := len_pass (R := R') hgo h3
    show (tN (up1 s.2.1 h (some (hRow g K))) (R' + 1) (tN s.2.1 (R' + 1) F)).length ≤ 80
    rw [h4]
    exact h1
theorem sNew_g {O : Op} {told : Int} {s : St} (hs : sOk O told s) : s.1 (24 + s.2.2.2) < 0 ∧ s.2.1 (24 + s.2.2.2) = none := by
  have h8 := hs.2.2.2.2.2.2.2.1
  have h1 : ¬ 0 ≤ s.1 (24 + s.2.2.2) := fun z => by
    have := (hs.2.2.2.2.2.2.1 _).mp z
    omega
  refine ⟨by omega, ?_⟩
  cases hq : s.2.1 (24 + s.2.2.2) with
  | none => rfl
  | some F => exact absurd (hs.2.2.2.2.2.2.2.2.1 _ ((hs.2.2.2.2.2.1 _).mp ⟨F, hq⟩)) h1
/-- all that must be kept -/
def gOk (O : Op) (told : Int) (R : Nat) (s : St) : Prop := sOk O told s ∧ mOk told s ∧ sz80 s.2.1 R
theorem mOk_b {told : Int} {s : St} (h8 : 0 ≤ told ∧ told ≤ 24 ∧ 0 ≤ s.2.2.2) (h : mOk told s) : s.2.2.2 ≤ 120 ∧ s.2.2.1.length ≤ 240 := by
  have := pot_nn (pa := s.1) (Φ := s.2.1)
  obtain ⟨h1, h2⟩ := h
  omega
theorem pas_ok {O : Op} {told : Int} {R : Nat} {s : St} {h : Int} {K : List Int} (hR : 300 < R) (hg : gOk O told R s) (hΦ : s.2.1 h = none) (hp : 0 ≤ s.1 h) (hk : ∀ v ∈ K, 0 ≤ v ∧ v < s.1 h) (hd : K.Nodup) (hl : (K.length : Int) ≤ s.1 h) : sOk O told (sNew s K.length) ∧ sOk O told (pas s h K) ∧ sz80 (pas s h K).2.1 R ∧ pot (pas s h K).1 (pas s h K).2.1 = pot s.1 s.2.1 + K.length - s.1 h := by
  obtain ⟨hs, hm, hz⟩ := hg
  have h8 := hs.2.2.2.2.2.2.2.1
  have hb := mOk_b h8 hm
  have h4 := hs.2.2.2.1 h
  obtain ⟨n1, n2⟩ := sNew_g hs
  have hsn := sOk_new (n := (K.length : Int)) hs (by omega) (by omega)
  have hhn : h ≠ 24 + s.2.2.2 := fun z => by rw [z] at hp; omega
  have hph : (sNew s K.length).1 h = s.1 h := up1_ne hhn
  have hpg : (sNew s K.length).1 (24 + s.2.2.2) = (K.length : Int) := up1_same _ _ _
  have hsf : sOk O told (pas s h K) := sOk_fil hsn hΦ (by rw [hph]; exact hp) (by rw [hph]; exact okR_hRow (by omega) hpg.symm hk hd) tR_hRow (opn_hRow n2 (fun z => hhn z.symm)) (Nat.le_of_ble_eq_true rfl)
  have hh := sOk_h hs hp (by omega)
  refine ⟨hsn, hsf, ?_, ?_⟩
  · have hz' : sz80 (sNew s K.length).2.1 R := hz
    exact sz_pass hsn (by show s.2.2.1.length + 1 < R; omega) hΦ n2 (fun z => hhn z.symm) hsf hz'
  · show pot (up1 s.1 (24 + s.2.2.2) K.length) (up1 s.2.1 h (some (hRow (24 + s.2.2.2) K))) = _
    rw [pot_fil hh.1 hh.2 (by rw [up1_ne hhn]; exact hp) hΦ, pot_new (by omega) (by omega) n1 n2 (by omega), up1_ne hhn]
    omega
theorem pas_ok2 {O : Op} {told : Int} {R : Nat} {s : St} {h : Int} {K : List Int} (hR : 300 < R) (hg : gOk O told R s) (hΦ : s.2.1 h = none) (hp : 0 ≤ s.1 h) (hk : ∀ v ∈ K, 0 ≤ v ∧ v < s.1 h) (hd : K.Nodup) (hl : (K.length : Int) < s.1 h) : gOk O told R (pas s h K) := by
  obtain ⟨-, h2, h3, h4⟩ := pas_ok hR hg hΦ hp hk hd (by omega)
  obtain ⟨m1, m2⟩ := hg.2.1
  refine ⟨h2, ⟨?_, ?_⟩, h3⟩
  · rw [h4]
    show _ + (s.2.2.2 + 1) ≤ _
    omega
  · rw [h4]
    show _ + ((s.2.2.1 ++ [h]).length : Int) ≤ _
    rw [List.length_append]
    show _ + ((s.2.2.1.length + 1 : Nat) : Int) ≤ _
    omega
theorem nw_ok {O : Op} {told : Int} {R : Nat} {s : St} {h : Int} {x y : List Int} (hR : 300 < R) (hg : gOk O told R s) (hΦ : s.2.1 h = none) (hx : (x.length : Int) = s.1 h) : gOk O told R (nw s h x y) := by
  unfold nw
  split
  · exact hg
  · rename_i c
    have h1 := kix_len x.length (fun i => x[i]? == y[i]?)
    exact pas_ok2 hR hg hΦ (by omega) (fun v hv => by have := kix_mem hv; omega) (kix_nodup _ _) (by omega)
theorem dr_ok {O : Op} {told : Int} {R : Nat} {s : St} {x : List Int} {b : Int} {e : AG} (hR : 300 < R) (hg : gOk O told R s) (hΦ : s.2.1 (e.2.1 / 4) = none) (hx : (e.2.2.length : Int) = s.1 (e.2.1 / 4)) : gOk O told R (dr s x b e) := by
  unfold dr
  split
  · exact hg
  · rename_i c
    have h1 := kix_len e.2.2.length (fun i => !frn x b (e.2.2.getD i 0))
    exact pas_ok2 hR hg hΦ (by omega) (fun v hv => by have := kix_mem hv; omega) (kix_nodup _ _) (by omega)
