/-! THE STATE OF HOLES: parameters (-1: no such hole), fillings, the filled ones in their order, how many were made -/
abbrev St : Type := (Int → Int) × Fl × List Int × Int
def up1 {α : Type} (f : Int → α) (h : Int) (v : α) : Int → α := fun x => if x = h then v else f x
theorem up1_same {α : Type} (f : Int → α) (h : Int) (v : α) : up1 f h v h = v := if_pos rfl
theorem up1_ne {α : Type} {f : Int → α} {h x : Int} {v : α} (hx : x ≠ h) : up1 f h v x = f x := if_neg hx
def sNew (s : St) (n : Int) : St := (up1 s.1 (24 + s.2.2.2) n, s.2.1, s.2.2.1, s.2.2.2 + 1)
def sFil (s : St) (h : Int) (F : Row) : St := (s.1, up1 s.2.1 h (some F), s.2.2.1 ++ [h], s.2.2.2)
def hRow (g : Int) (kept : List Int) : Row := [(0, 4 * g + 2, kept)]
/-- the order of the fillings: a filling's filled holes were filled behind it -/
def oN (Φ : Fl) (l : List Int) : Prop := l.Nodup ∧ ∀ pre h post F, l = pre ++ h :: post → Φ h = some F → ∀ e ∈ F, isF Φ e → e.2.1 / 4 ∈ post
/-- good states: but for sizes and the measure -/
def sOk (O : Op) (told : Int) (s : St) : Prop := okF s.1 s.2.1 ∧ wfF O s.2.1 ∧ (∃ rk, rkd s.2.1 rk ∧ ∀ h, rk h ≤ s.2.2.1.length) ∧ pa4 s.1 ∧ oN s.2.1 s.2.2.1 ∧ (∀ h, (∃ F, s.2.1 h = some F) ↔ h ∈ s.2.2.1) ∧ (∀ h, 0 ≤ s.1 h ↔ (0 ≤ h ∧ h < told ∨ 24 ≤ h ∧ h < 24 + s.2.2.2)) ∧ (0 ≤ told ∧ told ≤ 24 ∧ 0 ≤ s.2.2.2) ∧ (∀ h ∈ s.2.2.1, 0 ≤ s.1 h) ∧ ∀ h F, s.2.1 h = some F → F.length ≤ 80
def sz80 (Φ : Fl) (R : Nat) : Prop := ∀ h F, Φ h = some F → (tN Φ R F).length ≤ 80
/-- the measure: what can still be narrowed -/
def po (pa : Int → Int) (Φ : Fl) (h : Int) : Int := if 0 ≤ pa h ∧ (Φ h).isNone = true then pa h + 1 else 0
def pot (pa : Int → Int) (Φ : Fl) : Int := ((List.range 324).map (fun h : Nat => po pa Φ h)).sum
def mOk (told : Int) (s : St) : Prop := pot s.1 s.2.1 + s.2.2.2 ≤ 5 * told ∧ 2 * pot s.1 s.2.1 + s.2.2.1.length ≤ 10 * told
theorem sum_upd {f g : Nat → Int} {j : Nat} (h : ∀ k, k ≠ j → f k = g k) : ∀ n, j < n → ((List.range n).map f).sum = ((List.range n).map g).sum + f j - g j := by
  have low : ∀ n, n ≤ j → ((List.range n).map f).sum = ((List.range n).map g).sum := by
    intro n hn
    congr 1
    refine List.map_congr_left (fun k hk => h k ?_)
    have := List.mem_range.mp hk
    omega
  intro n
  induction n with
  | zero => intro hj; omega
  | succ n ih =>
    intro hj
    rw [List.range_succ, List.map_append, List.map_append, List.sum_append, List.sum_append]
    show _ + (f n + 0) = _ + (g n + 0) + f j - g j
    by_cases c : j = n
    · subst c
      rw [low j (Nat.le_refl _)]
      omega
    · rw [ih (by omega), h n (by omega)]
      omega
theorem po_nn {pa : Int → Int} {Φ : Fl} (h : Int) : 0 ≤ po pa Φ h := by unfold po; split <;> omega
theorem pot_nn {pa : Int → Int} {Φ : Fl} : 0 ≤ pot pa Φ := by
  have : ∀ n, 0 ≤ ((List.range n).map (fun h : Nat => po pa Φ h)).sum := by
    intro n
    induction n with
    | zero => exact Int.le_refl 0
    | succ n ih =>
      rw [List.range_succ, List.map_append, List.sum_append]
      have h1 := po_nn (pa := pa) (Φ := Φ) (n : Int)
      have h2 : (List.map (fun h : Nat => po pa Φ h) [n]).sum = po pa Φ n + 0 := rfl
      rw [h2]
      omega
  exact this 324
theorem pot_new {pa : Int → Int} {Φ : Fl} {h n : Int} (h0 : 0 ≤ h) (h1 : h < 324) (hp : pa h < 0) (hΦ : Φ h = none) (hn : 0 ≤ n) : pot (up1 pa h n) Φ = pot pa Φ + n + 1 := by
  unfold pot
  have e := sum_upd (f := fun k : Nat => po (up1 pa h n) Φ k) (g := fun k : Nat => po pa Φ k) (j := h.toNat) (fun k hk => by
    unfold po
    rw [up1_ne (by omega)]) 324 (by omega)
  rw [e, Int.toNat_of_nonneg h0]
  unfold po
  rw [up1_same, hΦ, if_pos ⟨hn, rfl⟩, if_neg (fun z => by omega)]
  omega
theorem pot_fil {pa : Int → Int} {Φ : Fl} {h : Int} {F : Row} (h0 : 0 ≤ h) (h1 : h < 324) (hp : 0 ≤ pa h) (hΦ : Φ h = none) : pot pa (up1 Φ h (some F)) = pot pa Φ - (pa h + 1) := by
  unfold pot
  have e := sum_upd (f := fun k : Nat => po pa (up1 Φ h (some F)) k) (g := fun k : Nat => po pa Φ k) (j := h.toNat) (fun k hk => by
    unfold po
    rw [up1_ne (by omega)]) 324 (by omega)
  rw [e, Int.toNat_of_nonneg h0]
  unfold po
  rw [up1_same, hΦ, if_neg (fun z => by cases z.2), if_pos ⟨hp, rfl⟩]
  omega
theorem sOk_h {O : Op} {told : Int} {s : St} (h : sOk O told s) {g : Int} (hg : 0 ≤ s.1 g) (hm : s.2.2.2 ≤ 300) : 0 ≤ g ∧ g < 324 := by
  have h1 := (h.2.2.2.2.2.2.1 g).mp hg
  have h2 := h.2.2.2.2.2.2.2.1
  omega
theorem okG_pa {pa pb : Int → Int} {n : Int} {e : AG} (h : ∀ g, 0 ≤ pa g → pb g = pa g) (he : okG pa n e) : okG pb n e := by
  obtain ⟨h1, h2, h3, h4, h5, h6, h7, h8⟩ := he
  exact ⟨h1, h2, h3, h4, h5, fun c => by rw [h _ (by have := h6 c; omega)]; exact h6 c, h7, h8⟩
theorem okR_pa {pa pb : Int → Int} {n : Int} {r : Row} (h : ∀ g, 0 ≤ pa g → pb g = pa g) (hr : okR pa n r) : okR pb n r := fun e he => okG_pa h (hr e he)
theorem sNew_pa {O : Op} {told n : Int} {s : St} (h : sOk O told s) : ∀ g, 0 ≤ s.1 g → (sNew s n).1 g = s.1 g := by
  intro g hg
  have h1 := (h.2.2.2.2.2.2.1 g).mp hg
  have h2 := h.2.2.2.2.2.2.2.1
  exact up1_ne (by omega)
theorem sOk_new {O : Op} {told n : Int} {s : St} (h : sOk O told s) (hn : 0 ≤ n) (hn4 : n ≤ 4) : sOk O told (sNew s n) := by
  have hpa := sNew_pa (n := n) h
  obtain ⟨h1, h2, h3, h4, h5, h6, h7, h8, h9, h10⟩ := h
  refine ⟨fun g F hF => ?_, h2, h3, fun g => ?_, h5, h6, fun g => ?_, ⟨h8.1, h8.2.1, by show 0 ≤ s.2.2.2 + 1; omega⟩, fun g hg => ?_, h10⟩
  · have hg : 0 ≤ s.1 g := h9 g ((h6 g).mp ⟨F, hF⟩)
    rw [hpa g hg]
    exact okR_pa hpa (h1 g F hF)
  · show up1 s.1 (24 + s.2.2.2) n g ≤ 4
    unfold up1
    split
    · exact hn4
    · exact h4 g
  · show 0 ≤ up1 s.1 (24 + s.2.2.2) n g ↔ (0 ≤ g ∧ g < told ∨ 24 ≤ g ∧ g < 24 + (s.2.2.2 + 1))
    unfold up1
    split
    · omega
    · rw [h7 g]; omega
  · rw [hpa g (h9 g hg)]; exact h9 g hg
/-- no hole of r is filled, none is h -/
def opn (Φ : Fl) (h : Int) (r : Row) : Prop := ∀ e ∈ r, e.2.1 % 4 = 2 → Φ (e.2.1 / 4) = none ∧ e.2.1 / 4 ≠ h
theorem sOk_fil {O : Op} {told h : Int} {s : St} {F : Row} (hs : sOk O told s) (hΦ : s.2.1 h = none) (hp : 0 ≤ s.1 h) (hF : okR s.1 (s.1 h) F) (hw : tR O F [0] = some []) (ho : opn s.2.1 h F) (hl : F.length ≤ 80) : sOk O told (sFil s h F) := by
  obtain ⟨h1, h2, ⟨rk, h3, h3'⟩, h4, h5, h6, h7, h8, h9, h10⟩ := hs
  have hno : h ∉ s.2.2.1 := fun z => by obtain ⟨G, hG⟩ := (h6 h).mpr z; rw [hΦ] at hG; cases hG
  have hl' : (s.2.2.1 ++ [h]).length = s.2.2.1.length + 1 := by rw [List.length_append]; rfl
  refine ⟨fun g G hG => ?_, fun g G hG => ?_, ⟨fun g => if g = h then 0 else rk g + 1, fun g G hG => ?_, fun g => ?_⟩, h4, ?_, fun g => ?_, h7, h8, fun g hg => ?_, fun g G hG => ?_⟩
  · have hG' : up1 s.2.1 h (some F) g = some G := hG
    by_cases c : g = h
    · subst c; rw [up1_same] at hG'; cases hG'; exact hF
    · rw [up1_ne c] at hG'; exact h1 g G hG'
  · have hG' : up1 s.2.1 h (some F) g = some G := hG
    by_cases c : g = h
    · subst c; rw [up1_same] at hG'; cases hG'; exact hw
    · rw [up1_ne c] at hG'; exact h2 g G hG'
  · have hG' : up1 s.2.1 h (some F) g = some G := hG
    intro e he hf
    dsimp only
    obtain ⟨f1, E, f2⟩ := hf
    have f2' : up1 s.2.1 h (some F) (e.2.1 / 4) = some E := f2
    by_cases c : g = h
    · subst c
      rw [up1_same] at hG'
      cases hG'
      obtain ⟨q1, q2⟩ := ho e he f1
      rw [up1_ne q2, q1] at f2'
      cases f2'
    · rw [up1_ne c] at hG'
      rw [if_neg c]
      by_cases d : e.2.1 / 4 = h
      · rw [if_pos d]; omega
      · rw [if_neg d]
        rw [up1_ne d] at f2'
        have := h3 g G hG' e he ⟨f1, E, f2'⟩
        omega
  · show (if g = h then 0 else rk g + 1) ≤ (s.2.2.1 ++ [h]).length
    rw [hl']
    have := h3' g
    split <;> omega
  · show oN (up1 s.2.1 h (some F)) (s.2.2.1 ++ [h])
    refine ⟨?_, ?_⟩
    rotate_left
    · intro pre g post G hl2 hG e he hf
      obtain ⟨f1, E, f2⟩ := hf
      by_cases c : g = h
      · subst c
        rw [up1_same] at hG
        cases hG
        obtain ⟨q1, q2⟩ := ho e he f1
        rw [up1_ne q2, q1] at f2
        cases f2
      · rw [up1_ne c] at hG
        -- g stands before the last
        rcases List.eq_nil_or_concat post with z | ⟨post', z, hz⟩
        · rw [z] at hl2
          have := List.append_inj_right' hl2 rfl
          exact absurd (List.cons.inj this).1.symm c
        · rw [List.concat_eq_append] at hz
          rw [hz, ← List.cons_append, ← List.append_assoc] at hl2
          have k1 := List.append_inj_left' hl2 rfl
          have k2 := List.append_inj_right' hl2 rfl
          have k3 : h = z := (List.cons.inj k2).1
          rw [hz, List.mem_append, List.mem_singleton]
          by_cases d : e.2.1 / 4 = h
          · exact Or.inr (d.trans k3)
          · rw [up1_ne d] at f2
            exact Or.inl (h5.2 pre g post' G k1 hG e he ⟨f1, E, f2⟩)
    refine List.nodup_append.mpr ⟨h5.1, List.nodup_cons.mpr ⟨List.not_mem_nil, List.nodup_nil⟩, fun a ha b hb => ?_⟩
    intro z
    cases List.mem_singleton.mp hb
    exact hno (z ▸ ha)
  · show (∃ G, up1 s.2.1 h (some F) g = some G) ↔ g ∈ s.2.2.1 ++ [h]
    by_cases c : g = h
    · subst c
      rw [up1_same]
      exact ⟨fun _ => List.mem_append_right _ (List.mem_singleton.mpr rfl), fun _ => ⟨F, rfl⟩⟩
    · rw [up1_ne c, h6 g, List.mem_append, List.mem_singleton]
      exact ⟨fun z => Or.inl z, fun z => z.elim id (fun q => absurd q c)⟩
  · rcases List.mem_append.mp hg with q | q
    · exact h9 g q
    · cases List.mem_singleton.mp q; exact hp
  · have hG' : up1 s.2.1 h (some F) g = some G := hG
    by_cases c : g = h
    · subst c; rw [up1_same] at hG'; cases hG'; exact hl
    · rw [up1_ne c] at hG'; exact h10 g G hG'
theorem xt_fil {s : St} {h : Int} {F : Row} (hΦ : s.2.1 h = none) : xt s.2.1 (sFil s h F).2.1 := by
  intro g G hG
  have c : g ≠ h := fun z => by rw [z, hΦ] at hG; cases hG
  show up1 s.2.1 h (some F) g = some G
  rw [up1_ne c]
  exact hG
/-- the row that passes a hole on to another -/
theorem okR_hRow {pa : Int → Int} {n g : Int} {kept : List Int} (hg : 0 ≤ g) (hl : (kept.length : Int) = pa g) (hk : ∀ v ∈ kept, 0 ≤ v ∧ v < n) (hd : kept.Nodup) : okR pa n (hRow g kept) := by
  intro e he
  cases List.mem_singleton.mp he
  refine ⟨Int.le_refl 0, by show 0 ≤ 4 * g + 2; omega, by show (4 * g + 2) % 4 ≠ 3; omega, fun c => absurd c (by show ¬ (4 * g + 2) % 4 = 0; omega), fun v hv => ?_, fun _ => ?_, fun c => absurd (by show (4 * g + 2) % 4 = 2; omega) c, hd⟩
  · have := hk v hv
    show 0 ≤ v ∧ v < 0 + n
    omega
  · show (kept.length : Int) = pa ((4 * g + 2) / 4)
    rw [show (4 * g + 2) / 4 = g by omega]
    exact hl
theorem tR_hRow {O : Op} {g : Int} {kept : List Int} : tR O (hRow g kept) [0] = some [] := by
  show tR O ((0, 4 * g + 2, kept) :: []) ((0, 4 * g + 2, kept).1 :: []) = some []
  rw [tR_cons (Or.inl (by show (4 * g + 2) % 4 ≠ 1; omega)), tP_hole (by show (4 * g + 2) % 4 ≠ 1; omega)]
  rfl
theorem opn_hRow {Φ : Fl} {h g : Int} {kept : List Int} (h1 : Φ g = none) (h2 : g ≠ h) : opn Φ h (hRow g kept) := by
  intro e he _
  cases List.mem_singleton.mp he
  show Φ ((4 * g + 2) / 4) = none ∧ (4 * g + 2) / 4 ≠ h
  rw [show (4 * g + 2) / 4 = g by omega]
  exact ⟨h1, h2⟩
/-- a state's holes are good for cursors -/
theorem sOk_hOk {O : Op} {told : Int} {s : St} {R : Nat} (hs : sOk O told s) (hm : mOk told s) (hR : 300 < R) (hz : sz80 s.2.1 R) : hOk O s.1 s.2.1 R := by
  obtain ⟨h1, h2, ⟨rk, h3, h3'⟩, h4, h5, h6, h7, h8, h9, h10⟩ := hs
  refine ⟨h1, h2, ⟨rk, h3, fun h => ?_⟩, h4, fun h F hF => h9 h ((h6 h).mp ⟨F, hF⟩), hz⟩
  have := h3' h
  have h11 := hm.2
  have h12 := pot_nn (pa := s.1) (Φ := s.2.1)
  omega
/-! passing on changes no size -/
theorem len_pass {Φ : Fl} {h g : Int} {kept : List Int} (hg : up1 Φ h (some (hRow g kept)) g = none) {R : Nat} : ∀ {q : Row}, nof Φ q → (tN (up1 Φ h (some (hRow g kept))) (R + 1) q).length = q.length := by
  intro q hq
  have key : ∀ q : Row, nof Φ q → (tE (up1 Φ h (some (hRow g kept))) q).length = q.length ∧ nof (up1 Φ h (some (hRow g kept))) (tE (up1 Φ h (some (hRow g kept))) q) := by
    intro q
    induction q with
    | nil => intro _; exact ⟨rfl, fun e he => by cases he⟩
    | cons e q ih =>
      intro hq
      obtain ⟨i1, i2⟩ := ih (fun x hx => hq x (List.mem_cons_of_mem _ hx))
      have hx : (tX (up1 Φ h (some (hRow g kept))) e).length = 1 ∧ nof (up1 Φ h (some (hRow g kept))) (tX (up1 Φ h (some (hRow g kept))) e) := by
        by_cases c : isF (up1 Φ h (some (hRow g kept))) e
        · obtain ⟨c1, F, hF⟩ := c
          have c2 : e.2.1 / 4 = h := by
            apply Decidable.byContradiction
            intro z
            rw [up1_ne z] at hF
            exact hq e List.mem_cons_self ⟨c1, F, hF⟩
          unfold tX
          rw [if_pos c1, c2, up1_same]
          refine ⟨rfl, fun x hx hf => ?_⟩
          cases List.mem_singleton.mp hx
          obtain ⟨-, E, hE⟩ := hf
          have : (tS e.1 (tI e.2.2) (0, 4 * g + 2, kept)).2.1 / 4 = g := by
            rw [tS_num (by show (4 * g + 2) % 4 ≠ 0; omega)]
            show (4 * g + 2) / 4 = g
            omega
          rw [this, hg] at hE
          cases hE
        · rw [tX_nof c]
          exact ⟨rfl, fun x hx => by cases List.mem_singleton.mp hx; exact c⟩
      rw [show tE (up1 Φ h (some (hRow g kept))) (e :: q) = tX (up1 Φ h (some (hRow g kept))) e ++ tE (up1 Φ h (some (hRow g kept))) q from List.flatMap_cons, List.length_append, List.length_cons]
      exact ⟨by omega, fun x hx9 => (List.mem_append.mp hx9).elim (fun z => hx.2 x z) (fun z => i2 x z)⟩
  obtain ⟨k1, k2⟩ := key q hq
  show (tN (up1 Φ h (some (hRow g kept))) R (tE (up1 Φ h (some (hRow g kept))) q)).length = q.length
  rw [tN_nof R k2]
  exact k1
