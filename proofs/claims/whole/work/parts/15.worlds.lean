/-! THE WORLD of both objects: what lies where. Written by wip/whole/gen_15.py. -/
def TBL : List (Option LC) := [some (LO 0 [rf 4, rf 7, rf 13, rf 30, rf 36, rf 42, rf 51, nu, nu]),
  none,
  none,
  none,
  some (LO 4 [rf 5, rf 6, nu]),
  some (LI 16 5),
  some (LI 48 6),
  some (LO 3 [rf 1, rf 8, rf 9, rf 10, rf 11, rf 12, nu, nu, nu]),
  some (LI 324 8),
  some (LI 324 9),
  some (LI 324 10),
  some (LI 324 11),
  some (LI 324 12),
  some (.inr (.inl (6, 8, fun k => if k < 8 then some (14 + 2 * k) else none))),
  some (LO 6 [rf 1, nu, rf 15, nu, nu, nu, nu, nu, nu, nu]),
  some (LI 91 15),
  some (LO 6 [rf 1, nu, rf 17, nu, nu, nu, nu, nu, nu, nu]),
  some (LI 91 17),
  some (LO 6 [rf 1, nu, rf 19, nu, nu, nu, nu, nu, nu, nu]),
  some (LI 91 19),
  some (LO 6 [rf 1, nu, rf 21, nu, nu, nu, nu, nu, nu, nu]),
  some (LI 91 21),
  some (LO 6 [rf 1, nu, rf 23, nu, nu, nu, nu, nu, nu, nu]),
  some (LI 91 23),
  some (LO 6 [rf 1, nu, rf 25, nu, nu, nu, nu, nu, nu, nu]),
  some (LI 91 25),
  some (LO 6 [rf 1, nu, rf 27, nu, nu, nu, nu, nu, nu, nu]),
  some (LI 91 27),
  some (LO 6 [rf 1, nu, rf 29, nu, nu, nu, nu, nu, nu, nu]),
  some (LI 91 29),
  some (LO 2 [rf 1, rf 7, rf 31, rf 32, rf 33, rf 34, nu, nu, nu, nu, rf 35, nu]),
  some (LI 64 31),
  some (LI 64 32),
  some (LI 64 33),
  some (LI 256 34),
  some (LI 4 35),
  some (LO 2 [rf 1, rf 7, rf 37, rf 38, rf 39, rf 40, nu, nu, nu, nu, rf 41, nu]),
  some (LI 64 37),
  some (LI 64 38),
  some (LI 64 39),
  some (LI 256 40),
  some (LI 4 41),
  some (LO 7 [rf 1, rf 7, rf 4, rf 30, rf 36, rf 45, rf 43, rf 44, nu]),
  some (LI 4 43),
  some (LI 4 44),
  some (LO 2 [rf 1, rf 7, rf 46, rf 47, rf 48, rf 49, nu, nu, nu, nu, rf 50, nu]),
  some (LI 64 46),
  some (LI 64 47),
  some (LI 64 48),
  some (LI 256 49),
  some (LI 4 50),
  none,
  none,
  some (LI 324 53),
  some (LI 324 54),
  some (LO 8 [nu, nu, nu, nu, rf 56, rf 57, rf 58, rf 59, rf 60, rf 61, rf 62, rf 63, rf 64, rf 65, rf 66, rf 67, rf 68, rf 69, rf 70, rf 71, rf 72, rf 73, rf 74, rf 75, rf 76, rf 77, rf 78, rf 79, rf 80, nu, nu, nu, rf 81, rf 82, rf 83, rf 84, nu, nu, nu, nu]),
  some (LI 16 56),
  some (LI 48 57),
  some (LI 324 58),
  some (LI 324 59),
  some (LI 129600 60),
  some (LZ 324 61),
  some (LZ 324 62),
  some (LI 1280 63),
  some (LI 8 64),
  some (LI 8 65),
  some (LI 8 66),
  some (LI 8 67),
  some (LI 1280 68),
  some (LI 1280 69),
  some (LZ 8 70),
  some (LI 16384 71),
  some (LI 16384 72),
  some (LI 16384 73),
  some (LI 16384 74),
  some (LI 4096 75),
  some (LI 4096 76),
  some (LI 131072 77),
  some (LI 4096 78),
  some (LI 4096 79),
  some (LI 4096 80),
  some (LI 16384 81),
  some (LI 16384 82),
  some (LI 324 83),
  some (LI 1296 84),
  some (.inr (.inr (.inr ())))]
def tb (p : Nat) : Option LC := (TBL[p]?).join
/-- the places of the three arrays that grow: codes, bounds, items -/
def lyf (a b c n m : Nat) : LY := fun p => if p = 1 then some (LO 1 [rf a, rf b, nu]) else if p = 51 then some (LO 5 [rf c, nu, nu, rf 53, rf 54]) else if p = a then some (LI n 2) else if p = b then some (LI n 3) else if p = c then some (LI m 52) else tb p
def fr1 (a : Nat) : Prop := a ≠ 1 ∧ a ≠ 51 ∧ tb a = none
def gd (a b c : Nat) : Prop := fr1 a ∧ fr1 b ∧ fr1 c ∧ a ≠ b ∧ a ≠ c ∧ b ≠ c
theorem tb1 : tb 1 = none := rfl
theorem tb51 : tb 51 = none := rfl
theorem lyf_tb {a b c n m p : Nat} {x : LC} (h : gd a b c) (hp : tb p = some x) : lyf a b c n m p = some x := by
  obtain ⟨⟨a1, a2, a3⟩, ⟨b1, b2, b3⟩, ⟨c1, c2, c3⟩, -, -, -⟩ := h
  have h1 : p ≠ 1 := by intro z; rw [z, tb1] at hp; cases hp
  have h2 : p ≠ 51 := by intro z; rw [z, tb51] at hp; cases hp
  have h3 : p ≠ a := by intro z; rw [z, a3] at hp; cases hp
  have h4 : p ≠ b := by intro z; rw [z, b3] at hp; cases hp
  have h5 : p ≠ c := by intro z; rw [z, c3] at hp; cases hp
  unfold lyf
  rw [if_neg h1, if_neg h2, if_neg h3, if_neg h4, if_neg h5]
  exact hp
def tbk : Bool := (List.range 86).all (fun p => match tb p with | some (.inl (_, _, i)) => i == p && !(p == 2) && !(p == 3) && !(p == 52) | _ => true)
theorem tbk_ok : tbk = true := by decide
theorem tb_id {p t n i : Nat} (h : tb p = some (.inl (t, n, i))) : i = p ∧ p ≠ 2 ∧ p ≠ 3 ∧ p ≠ 52 := by
  have hp : p < 86 := by
    apply Decidable.byContradiction
    intro z
    unfold tb at h
    rw [List.getElem?_eq_none (by show 86 ≤ p; omega)] at h
    cases h
  have h1 := List.all_eq_true.mp tbk_ok p (List.mem_range.mpr hp)
  rw [h] at h1
  simp only [Bool.and_eq_true, beq_iff_eq, Bool.not_eq_true', beq_eq_false_iff_ne] at h1
  exact ⟨h1.1.1.1, h1.1.1.2, h1.1.2, h1.2⟩
/-- what the layout says of arrays: their numbers are their own -/
theorem lyf_inj {a b c n m : Nat} (h : gd a b c) : ∀ (p q t n1 t' n1' i : Nat), lyf a b c n m p = some (.inl (t, n1, i)) → lyf a b c n m q = some (.inl (t', n1', i)) → p = q := by
  have key : ∀ (p t n1 i : Nat), lyf a b c n m p = some (.inl (t, n1, i)) → (p = a ∧ i = 2) ∨ (p = b ∧ i = 3) ∨ (p = c ∧ i = 52) ∨ (i = p ∧ p ≠ 2 ∧ p ≠ 3 ∧ p ≠ 52) := by
    intro p t n1 i hp
    unfold lyf at hp
    split at hp
    · cases hp
    · split at hp
      · cases hp
      · split at hp
        · cases hp; left; exact ⟨by assumption, rfl⟩
        · split at hp
          · cases hp; right; left; exact ⟨by assumption, rfl⟩
          · split at hp
            · cases hp; right; right; left; exact ⟨by assumption, rfl⟩
            · right; right; right; exact tb_id hp
  intro p q t n1 t' n1' i hp hq
  have h1 := key p t n1 i hp
  have h2 := key q t' n1' i hq
  omega
/-- THE WORLD: the heap holds the store; the arrays that grow lie somewhere -/
def Wd (h : List MC) (σ : SS) : Prop := (0 ≤ σ.1 1 99 ∧ 0 ≤ σ.1 51 99 ∧ 0 ≤ σ.1 0 99) ∧ ∃ a b c, gd a b c ∧ Rep (lyf a b c (σ.1 1 99).toNat (σ.1 51 99).toNat) h σ
/-- what was made so far by growing and throwing -/
def K (σ : SS) : Nat := 4 * (σ.1 1 99).toNat + 2 * (σ.1 51 99).toNat + 6 * (σ.1 0 99).toNat
theorem Wd.rf {h : List MC} {σ : SS} (hW : Wd h σ) (p k : Nat) : rng (σ.1 p k) := by
  obtain ⟨-, a, b, c, -, hR⟩ := hW
  exact hR.rf p k
theorem Wd.ra {h : List MC} {σ : SS} (hW : Wd h σ) (p : Nat) (i : Int) : rng (σ.2.1 p i) := by
  obtain ⟨-, a, b, c, -, hR⟩ := hW
  exact hR.ra p i
theorem Wd.ga {h : List MC} {σ : SS} (hW : Wd h σ) (p n : Nat) (i : Int) : rng (gA σ p n i) := by
  obtain ⟨-, a, b, c, -, hR⟩ := hW
  exact gA_rng hR p n i
/-- an object of a class; a number among its fields; a reference; an array of ints, of booleans -/
def ob (p ci : Nat) : Prop := ∀ a b c n m, gd a b c → ∃ l, lyf a b c n m p = some (LO ci l)
def oi (p ci k : Nat) : Prop := ∀ a b c n m, gd a b c → ∃ l, lyf a b c n m p = some (LO ci l) ∧ l[k]? = some none
def orf (p ci k r : Nat) : Prop := ∀ a b c n m, gd a b c → ∃ l, lyf a b c n m p = some (LO ci l) ∧ l[k]? = some (some (some r))
def ia (p n9 : Nat) : Prop := n9 < 2147483648 ∧ ∀ a b c n m, gd a b c → lyf a b c n m p = some (LI n9 p)
def za (p n9 : Nat) : Prop := n9 < 2147483648 ∧ ∀ a b c n m, gd a b c → lyf a b c n m p = some (LZ n9 p)
theorem ob_tb {p ci : Nat} {l : List (Option (Option Nat))} (h : tb p = some (LO ci l)) : ob p ci := fun _ _ _ _ _ hg => ⟨l, lyf_tb hg h⟩
theorem oi_tb {p ci k : Nat} {l : List (Option (Option Nat))} (h : tb p = some (LO ci l)) (hk : l[k]? = some none) : oi p ci k := fun _ _ _ _ _ hg => ⟨l, lyf_tb hg h, hk⟩
theorem orf_tb {p ci k r : Nat} {l : List (Option (Option Nat))} (h : tb p = some (LO ci l)) (hk : l[k]? = some (some (some r))) : orf p ci k r := fun _ _ _ _ _ hg => ⟨l, lyf_tb hg h, hk⟩
theorem ia_tb {p n9 : Nat} (hn : n9 < 2147483648) (h : tb p = some (LI n9 p)) : ia p n9 := ⟨hn, fun _ _ _ _ _ hg => lyf_tb hg h⟩
theorem za_tb {p n9 : Nat} (hn : n9 < 2147483648) (h : tb p = some (LZ n9 p)) : za p n9 := ⟨hn, fun _ _ _ _ _ hg => lyf_tb hg h⟩
theorem ob1 : ob 1 1 := fun _ _ _ _ _ _ => ⟨_, rfl⟩
theorem ob51 : ob 51 5 := fun _ _ _ _ _ _ => ⟨_, rfl⟩
theorem oi1_2 : oi 1 1 2 := fun _ _ _ _ _ _ => ⟨_, rfl, rfl⟩
theorem oi51_1 : oi 51 5 1 := fun _ _ _ _ _ _ => ⟨_, rfl, rfl⟩
theorem oi51_2 : oi 51 5 2 := fun _ _ _ _ _ _ => ⟨_, rfl, rfl⟩
theorem or51_3 : orf 51 5 3 53 := fun _ _ _ _ _ _ => ⟨_, rfl, rfl⟩
theorem or51_4 : orf 51 5 4 54 := fun _ _ _ _ _ _ => ⟨_, rfl, rfl⟩
theorem ob0 : ob 0 0 := ob_tb (l := _) rfl
theorem or0_0 : orf 0 0 0 4 := orf_tb (l := _) rfl rfl
theorem or0_1 : orf 0 0 1 7 := orf_tb (l := _) rfl rfl
theorem or0_3 : orf 0 0 3 30 := orf_tb (l := _) rfl rfl
theorem or0_4 : orf 0 0 4 36 := orf_tb (l := _) rfl rfl
theorem or0_5 : orf 0 0 5 42 := orf_tb (l := _) rfl rfl
theorem or0_6 : orf 0 0 6 51 := orf_tb (l := _) rfl rfl
theorem oi0_7 : oi 0 0 7 := oi_tb (l := _) rfl rfl
theorem oi0_8 : oi 0 0 8 := oi_tb (l := _) rfl rfl
theorem ob4 : ob 4 4 := ob_tb (l := _) rfl
theorem or4_0 : orf 4 4 0 5 := orf_tb (l := _) rfl rfl
theorem or4_1 : orf 4 4 1 6 := orf_tb (l := _) rfl rfl
theorem oi4_2 : oi 4 4 2 := oi_tb (l := _) rfl rfl
theorem ob7 : ob 7 3 := ob_tb (l := _) rfl
theorem or7_0 : orf 7 3 0 1 := orf_tb (l := _) rfl rfl
theorem or7_1 : orf 7 3 1 8 := orf_tb (l := _) rfl rfl
theorem or7_2 : orf 7 3 2 9 := orf_tb (l := _) rfl rfl
theorem or7_3 : orf 7 3 3 10 := orf_tb (l := _) rfl rfl
theorem or7_4 : orf 7 3 4 11 := orf_tb (l := _) rfl rfl
theorem or7_5 : orf 7 3 5 12 := orf_tb (l := _) rfl rfl
theorem oi7_6 : oi 7 3 6 := oi_tb (l := _) rfl rfl
theorem oi7_7 : oi 7 3 7 := oi_tb (l := _) rfl rfl
theorem oi7_8 : oi 7 3 8 := oi_tb (l := _) rfl rfl
theorem ob42 : ob 42 7 := ob_tb (l := _) rfl
theorem or42_0 : orf 42 7 0 1 := orf_tb (l := _) rfl rfl
theorem or42_1 : orf 42 7 1 7 := orf_tb (l := _) rfl rfl
theorem or42_2 : orf 42 7 2 4 := orf_tb (l := _) rfl rfl
theorem or42_3 : orf 42 7 3 30 := orf_tb (l := _) rfl rfl
theorem or42_4 : orf 42 7 4 36 := orf_tb (l := _) rfl rfl
theorem or42_5 : orf 42 7 5 45 := orf_tb (l := _) rfl rfl
theorem or42_6 : orf 42 7 6 43 := orf_tb (l := _) rfl rfl
theorem or42_7 : orf 42 7 7 44 := orf_tb (l := _) rfl rfl
theorem oi42_8 : oi 42 7 8 := oi_tb (l := _) rfl rfl
theorem ob55 : ob 55 8 := ob_tb (l := _) rfl
theorem oi55_0 : oi 55 8 0 := oi_tb (l := _) rfl rfl
theorem oi55_1 : oi 55 8 1 := oi_tb (l := _) rfl rfl
theorem oi55_2 : oi 55 8 2 := oi_tb (l := _) rfl rfl
theorem oi55_3 : oi 55 8 3 := oi_tb (l := _) rfl rfl
theorem or55_4 : orf 55 8 4 56 := orf_tb (l := _) rfl rfl
theorem or55_5 : orf 55 8 5 57 := orf_tb (l := _) rfl rfl
theorem or55_6 : orf 55 8 6 58 := orf_tb (l := _) rfl rfl
theorem or55_7 : orf 55 8 7 59 := orf_tb (l := _) rfl rfl
theorem or55_8 : orf 55 8 8 60 := orf_tb (l := _) rfl rfl
theorem or55_9 : orf 55 8 9 61 := orf_tb (l := _) rfl rfl
theorem or55_10 : orf 55 8 10 62 := orf_tb (l := _) rfl rfl
theorem or55_11 : orf 55 8 11 63 := orf_tb (l := _) rfl rfl
theorem or55_12 : orf 55 8 12 64 := orf_tb (l := _) rfl rfl
theorem or55_13 : orf 55 8 13 65 := orf_tb (l := _) rfl rfl
theorem or55_14 : orf 55 8 14 66 := orf_tb (l := _) rfl rfl
theorem or55_15 : orf 55 8 15 67 := orf_tb (l := _) rfl rfl
theorem or55_16 : orf 55 8 16 68 := orf_tb (l := _) rfl rfl
theorem or55_17 : orf 55 8 17 69 := orf_tb (l := _) rfl rfl
theorem or55_18 : orf 55 8 18 70 := orf_tb (l := _) rfl rfl
theorem or55_19 : orf 55 8 19 71 := orf_tb (l := _) rfl rfl
theorem or55_20 : orf 55 8 20 72 := orf_tb (l := _) rfl rfl
theorem or55_21 : orf 55 8 21 73 := orf_tb (l := _) rfl rfl
theorem or55_22 : orf 55 8 22 74 := orf_tb (l := _) rfl rfl
theorem or55_23 : orf 55 8 23 75 := orf_tb (l := _) rfl rfl
theorem or55_24 : orf 55 8 24 76 := orf_tb (l := _) rfl rfl
theorem or55_25 : orf 55 8 25 77 := orf_tb (l := _) rfl rfl
theorem or55_26 : orf 55 8 26 78 := orf_tb (l := _) rfl rfl
theorem or55_27 : orf 55 8 27 79 := orf_tb (l := _) rfl rfl
theorem or55_28 : orf 55 8 28 80 := orf_tb (l := _) rfl rfl
theorem oi55_29 : oi 55 8 29 := oi_tb (l := _) rfl rfl
theorem oi55_30 : oi 55 8 30 := oi_tb (l := _) rfl rfl
theorem oi55_31 : oi 55 8 31 := oi_tb (l := _) rfl rfl
theorem or55_32 : orf 55 8 32 81 := orf_tb (l := _) rfl rfl
theorem or55_33 : orf 55 8 33 82 := orf_tb (l := _) rfl rfl
theorem or55_34 : orf 55 8 34 83 := orf_tb (l := _) rfl rfl
theorem or55_35 : orf 55 8 35 84 := orf_tb (l := _) rfl rfl
theorem oi55_36 : oi 55 8 36 := oi_tb (l := _) rfl rfl
theorem oi55_37 : oi 55 8 37 := oi_tb (l := _) rfl rfl
theorem oi55_38 : oi 55 8 38 := oi_tb (l := _) rfl rfl
theorem oi55_39 : oi 55 8 39 := oi_tb (l := _) rfl rfl
theorem ia5 : ia 5 16 := ia_tb (by decide) rfl
theorem ia6 : ia 6 48 := ia_tb (by decide) rfl
theorem ia8 : ia 8 324 := ia_tb (by decide) rfl
theorem ia9 : ia 9 324 := ia_tb (by decide) rfl
theorem ia10 : ia 10 324 := ia_tb (by decide) rfl
theorem ia11 : ia 11 324 := ia_tb (by decide) rfl
theorem ia12 : ia 12 324 := ia_tb (by decide) rfl
theorem ia15 : ia 15 91 := ia_tb (by decide) rfl
theorem ia17 : ia 17 91 := ia_tb (by decide) rfl
theorem ia19 : ia 19 91 := ia_tb (by decide) rfl
theorem ia21 : ia 21 91 := ia_tb (by decide) rfl
theorem ia23 : ia 23 91 := ia_tb (by decide) rfl
theorem ia25 : ia 25 91 := ia_tb (by decide) rfl
theorem ia27 : ia 27 91 := ia_tb (by decide) rfl
theorem ia29 : ia 29 91 := ia_tb (by decide) rfl
theorem ia31 : ia 31 64 := ia_tb (by decide) rfl
theorem ia32 : ia 32 64 := ia_tb (by decide) rfl
theorem ia33 : ia 33 64 := ia_tb (by decide) rfl
theorem ia34 : ia 34 256 := ia_tb (by decide) rfl
theorem ia35 : ia 35 4 := ia_tb (by decide) rfl
theorem ia37 : ia 37 64 := ia_tb (by decide) rfl
theorem ia38 : ia 38 64 := ia_tb (by decide) rfl
theorem ia39 : ia 39 64 := ia_tb (by decide) rfl
theorem ia40 : ia 40 256 := ia_tb (by decide) rfl
theorem ia41 : ia 41 4 := ia_tb (by decide) rfl
theorem ia43 : ia 43 4 := ia_tb (by decide) rfl
theorem ia44 : ia 44 4 := ia_tb (by decide) rfl
theorem ia46 : ia 46 64 := ia_tb (by decide) rfl
theorem ia47 : ia 47 64 := ia_tb (by decide) rfl
theorem ia48 : ia 48 64 := ia_tb (by decide) rfl
theorem ia49 : ia 49 256 := ia_tb (by decide) rfl
theorem ia50 : ia 50 4 := ia_tb (by decide) rfl
theorem ia53 : ia 53 324 := ia_tb (by decide) rfl
theorem ia54 : ia 54 324 := ia_tb (by decide) rfl
theorem ia56 : ia 56 16 := ia_tb (by decide) rfl
theorem ia57 : ia 57 48 := ia_tb (by decide) rfl
theorem ia58 : ia 58 324 := ia_tb (by decide) rfl
theorem ia59 : ia 59 324 := ia_tb (by decide) rfl
theorem ia60 : ia 60 129600 := ia_tb (by decide) rfl
theorem za61 : za 61 324 := za_tb (by decide) rfl
theorem za62 : za 62 324 := za_tb (by decide) rfl
theorem ia63 : ia 63 1280 := ia_tb (by decide) rfl
theorem ia64 : ia 64 8 := ia_tb (by decide) rfl
theorem ia65 : ia 65 8 := ia_tb (by decide) rfl
theorem ia66 : ia 66 8 := ia_tb (by decide) rfl
theorem ia67 : ia 67 8 := ia_tb (by decide) rfl
theorem ia68 : ia 68 1280 := ia_tb (by decide) rfl
theorem ia69 : ia 69 1280 := ia_tb (by decide) rfl
theorem za70 : za 70 8 := za_tb (by decide) rfl
theorem ia71 : ia 71 16384 := ia_tb (by decide) rfl
theorem ia72 : ia 72 16384 := ia_tb (by decide) rfl
theorem ia73 : ia 73 16384 := ia_tb (by decide) rfl
theorem ia74 : ia 74 16384 := ia_tb (by decide) rfl
theorem ia75 : ia 75 4096 := ia_tb (by decide) rfl
theorem ia76 : ia 76 4096 := ia_tb (by decide) rfl
theorem ia77 : ia 77 131072 := ia_tb (by decide) rfl
theorem ia78 : ia 78 4096 := ia_tb (by decide) rfl
theorem ia79 : ia 79 4096 := ia_tb (by decide) rfl
theorem ia80 : ia 80 4096 := ia_tb (by decide) rfl
theorem ia81 : ia 81 16384 := ia_tb (by decide) rfl
theorem ia82 : ia 82 16384 := ia_tb (by decide) rfl
theorem ia83 : ia 83 324 := ia_tb (by decide) rfl
theorem ia84 : ia 84 1296 := ia_tb (by decide) rfl
def cur (p : Nat) : Prop := p = 30 ∨ p = 36 ∨ p = 45
def slt (p : Nat) : Prop := p = 14 ∨ p = 16 ∨ p = 18 ∨ p = 20 ∨ p = 22 ∨ p = 24 ∨ p = 26 ∨ p = 28
theorem cur30 : cur 30 := Or.inl rfl
theorem cur36 : cur 36 := Or.inr (Or.inl rfl)
theorem cur45 : cur 45 := Or.inr (Or.inr rfl)
theorem cur_tb {p : Nat} (h : cur p) : tb p = some (LO 2 [rf 1, rf 7, rf (p + 1), rf (p + 2), rf (p + 3), rf (p + 4), nu, nu, nu, nu, rf (p + 5), nu]) := by
  rcases h with rfl | rfl | rfl <;> rfl
theorem slt_tb {p : Nat} (h : slt p) : tb p = some (LO 6 [rf 1, nu, rf (p + 1), nu, nu, nu, nu, nu, nu, nu]) := by
  rcases h with rfl | rfl | rfl | rfl | rfl | rfl | rfl | rfl <;> rfl
theorem cur_ob {p : Nat} (h : cur p) : ob p 2 := ob_tb (cur_tb h)
theorem slt_ob {p : Nat} (h : slt p) : ob p 6 := ob_tb (slt_tb h)
theorem cur_r0 {p : Nat} (h : cur p) : orf p 2 0 1 := orf_tb (cur_tb h) rfl
theorem cur_r1 {p : Nat} (h : cur p) : orf p 2 1 7 := orf_tb (cur_tb h) rfl
theorem cur_r2 {p : Nat} (h : cur p) : orf p 2 2 (p + 1) := orf_tb (cur_tb h) rfl
theorem cur_r3 {p : Nat} (h : cur p) : orf p 2 3 (p + 2) := orf_tb (cur_tb h) rfl
theorem cur_r4 {p : Nat} (h : cur p) : orf p 2 4 (p + 3) := orf_tb (cur_tb h) rfl
theorem cur_r5 {p : Nat} (h : cur p) : orf p 2 5 (p + 4) := orf_tb (cur_tb h) rfl
theorem cur_i6 {p : Nat} (h : cur p) : oi p 2 6 := oi_tb (cur_tb h) rfl
theorem cur_i7 {p : Nat} (h : cur p) : oi p 2 7 := oi_tb (cur_tb h) rfl
theorem cur_i8 {p : Nat} (h : cur p) : oi p 2 8 := oi_tb (cur_tb h) rfl
theorem cur_i9 {p : Nat} (h : cur p) : oi p 2 9 := oi_tb (cur_tb h) rfl
theorem cur_r10 {p : Nat} (h : cur p) : orf p 2 10 (p + 5) := orf_tb (cur_tb h) rfl
theorem cur_i11 {p : Nat} (h : cur p) : oi p 2 11 := oi_tb (cur_tb h) rfl
theorem cur_a1 {p : Nat} (h : cur p) : ia (p + 1) 64 := by
  rcases h with rfl | rfl | rfl <;> exact ia_tb (by decide) rfl
theorem cur_a2 {p : Nat} (h : cur p) : ia (p + 2) 64 := by
  rcases h with rfl | rfl | rfl <;> exact ia_tb (by decide) rfl
theorem cur_a3 {p : Nat} (h : cur p) : ia (p + 3) 64 := by
  rcases h with rfl | rfl | rfl <;> exact ia_tb (by decide) rfl
theorem cur_a4 {p : Nat} (h : cur p) : ia (p + 4) 256 := by
  rcases h with rfl | rfl | rfl <;> exact ia_tb (by decide) rfl
theorem cur_a5 {p : Nat} (h : cur p) : ia (p + 5) 4 := by
  rcases h with rfl | rfl | rfl <;> exact ia_tb (by decide) rfl
theorem slt_r0 {p : Nat} (h : slt p) : orf p 6 0 1 := orf_tb (slt_tb h) rfl
theorem slt_i1 {p : Nat} (h : slt p) : oi p 6 1 := oi_tb (slt_tb h) rfl
theorem slt_r2 {p : Nat} (h : slt p) : orf p 6 2 (p + 1) := orf_tb (slt_tb h) rfl
theorem slt_i3 {p : Nat} (h : slt p) : oi p 6 3 := oi_tb (slt_tb h) rfl
theorem slt_i4 {p : Nat} (h : slt p) : oi p 6 4 := oi_tb (slt_tb h) rfl
theorem slt_i5 {p : Nat} (h : slt p) : oi p 6 5 := oi_tb (slt_tb h) rfl
theorem slt_i6 {p : Nat} (h : slt p) : oi p 6 6 := oi_tb (slt_tb h) rfl
theorem slt_i7 {p : Nat} (h : slt p) : oi p 6 7 := oi_tb (slt_tb h) rfl
theorem slt_i8 {p : Nat} (h : slt p) : oi p 6 8 := oi_tb (slt_tb h) rfl
theorem slt_i9 {p : Nat} (h : slt p) : oi p 6 9 := oi_tb (slt_tb h) rfl
theorem slt_a1 {p : Nat} (h : slt p) : ia (p + 1) 91 := by
  rcases h with rfl | rfl | rfl | rfl | rfl | rfl | rfl | rfl <;> exact ia_tb (by decide) rfl
