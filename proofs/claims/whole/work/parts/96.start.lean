/-! THE START: both made, nothing told. Written by wip/whole/gen_96.py. -/
def fld (p k : Nat) : Int := if p = 1 ∧ k = 2 then 1200 else if p = 1 ∧ k = 99 then 2048 else if p = 51 ∧ k = 99 then 128 else if k = 1 ∧ 14 ≤ p ∧ p ≤ 28 ∧ p % 2 = 0 then 75 * ((p - 14 : Nat) : Int) else 0
def s0 : SS := (fld, fun _ _ => 0, fun _ => 0)
theorem fld0 {p k : Nat} (h1 : p ≠ 1) (h2 : k ≠ 99) (h3 : k ≠ 1) : fld p k = 0 := by
  unfold fld
  rw [if_neg (by omega), if_neg (by omega), if_neg (by omega), if_neg (by omega)]
theorem fldS {i : Nat} (h : i < 8) : fld (14 + 2 * i) 1 = 150 * (i : Int) := by
  unfold fld
  rw [if_neg (by omega), if_neg (by omega), if_neg (by omega), if_pos (by omega)]
  omega
theorem fld_r (p k : Nat) : rng (fld p k) := by
  unfold fld
  split
  · omega
  · split
    · omega
    · split
      · omega
      · split
        · omega
        · omega
theorem gA0 {a n : Nat} {i : Int} : gA s0 a n i = 0 := by
  unfold gA
  split <;> rfl
theorem vS_eq : vS8 = fun k => if k < 8 then some (14 + 2 * k) else none := by
  funext k
  unfold vS8 vS7 vS6 vS5 vS4 vS3 vS2 vS1 vS0 va_up
  rcases Nat.lt_or_ge k 8 with h | h
  · rw [if_pos h]
    have hk : k = 0 ∨ k = 1 ∨ k = 2 ∨ k = 3 ∨ k = 4 ∨ k = 5 ∨ k = 6 ∨ k = 7 := by omega
    rcases hk with rfl | rfl | rfl | rfl | rfl | rfl | rfl | rfl <;> rfl
  · rw [if_neg (Nat.not_lt.mpr h), if_neg (by omega), if_neg (by omega), if_neg (by omega), if_neg (by omega), if_neg (by omega), if_neg (by omega), if_neg (by omega), if_neg (by omega)]
def HP0 : List MC := [cO 0 [mr 4, mr 7, mr 13, mr 30, mr 36, mr 42, mr 51, mi 0, mi 0], cO 1 [mr 2, mr 3, iI 1200], cI 2048 (fun _ => 0), cI 2048 (fun _ => 0), cO 4 [mr 5, mr 6, mi 0], cI 16 (fun _ => 0), cI 48 (fun _ => 0), cO 3 [mr 1, mr 8, mr 9, mr 10, mr 11, mr 12, mi 0, mi 0, mi 0], cI 324 (fun _ => 0), cI 324 (fun _ => 0), cI 324 (fun _ => 0), cI 324 (fun _ => 0), cI 324 (fun _ => 0), cR 6 8 vS8, cO 6 [mr 1, iI 0, mr 15, mi 0, mi 0, mi 0, mi 0, mi 0, mi 0, mi 0], cI 91 (fun _ => 0), cO 6 [mr 1, iI 150, mr 17, mi 0, mi 0, mi 0, mi 0, mi 0, mi 0, mi 0], cI 91 (fun _ => 0), cO 6 [mr 1, iI 300, mr 19, mi 0, mi 0, mi 0, mi 0, mi 0, mi 0, mi 0], cI 91 (fun _ => 0), cO 6 [mr 1, iI 450, mr 21, mi 0, mi 0, mi 0, mi 0, mi 0, mi 0, mi 0], cI 91 (fun _ => 0), cO 6 [mr 1, iI 600, mr 23, mi 0, mi 0, mi 0, mi 0, mi 0, mi 0, mi 0], cI 91 (fun _ => 0), cO 6 [mr 1, iI 750, mr 25, mi 0, mi 0, mi 0, mi 0, mi 0, mi 0, mi 0], cI 91 (fun _ => 0), cO 6 [mr 1, iI 900, mr 27, mi 0, mi 0, mi 0, mi 0, mi 0, mi 0, mi 0], cI 91 (fun _ => 0), cO 6 [mr 1, iI 1050, mr 29, mi 0, mi 0, mi 0, mi 0, mi 0, mi 0, mi 0], cI 91 (fun _ => 0), cO 2 [mr 1, mr 7, mr 31, mr 32, mr 33, mr 34, mi 0, mi 0, mi 0, mi 0, mr 35, mi 0], cI 64 (fun _ => 0), cI 64 (fun _ => 0), cI 64 (fun _ => 0), cI 256 (fun _ => 0), cI 4 (fun _ => 0), cO 2 [mr 1, mr 7, mr 37, mr 38, mr 39, mr 40, mi 0, mi 0, mi 0, mi 0, mr 41, mi 0], cI 64 (fun _ => 0), cI 64 (fun _ => 0), cI 64 (fun _ => 0), cI 256 (fun _ => 0), cI 4 (fun _ => 0), cO 7 [mr 1, mr 7, mr 4, mr 30, mr 36, mr 45, mr 43, mr 44, mi 0], cI 4 (fun _ => 0), cI 4 (fun _ => 0), cO 2 [mr 1, mr 7, mr 46, mr 47, mr 48, mr 49, mi 0, mi 0, mi 0, mi 0, mr 50, mi 0], cI 64 (fun _ => 0), cI 64 (fun _ => 0), cI 64 (fun _ => 0), cI 256 (fun _ => 0), cI 4 (fun _ => 0), cO 5 [mr 52, mi 0, mi 0, mr 53, mr 54], cI 128 (fun _ => 0), cI 324 (fun _ => 0), cI 324 (fun _ => 0), cO 8 [mi 0, mi 0, mi 0, mi 0, mr 56, mr 57, mr 58, mr 59, mr 60, mr 61, mr 62, mr 63, mr 64, mr 65, mr 66, mr 67, mr 68, mr 69, mr 70, mr 71, mr 72, mr 73, mr 74, mr 75, mr 76, mr 77, mr 78, mr 79, mr 80, mi 0, mi 0, mi 0, mr 81, mr 82, mr 83, mr 84, mi 0, mi 0, mi 0, mi 0], cI 16 (fun _ => 0), cI 48 (fun _ => 0), cI 324 (fun _ => 0), cI 324 (fun _ => 0), cI 129600 (fun _ => 0), cZ 324 (fun _ => 0), cZ 324 (fun _ => 0), cI 1280 (fun _ => 0), cI 8 (fun _ => 0), cI 8 (fun _ => 0), cI 8 (fun _ => 0), cI 8 (fun _ => 0), cI 1280 (fun _ => 0), cI 1280 (fun _ => 0), cZ 8 (fun _ => 0), cI 16384 (fun _ => 0), cI 16384 (fun _ => 0), cI 16384 (fun _ => 0), cI 16384 (fun _ => 0), cI 4096 (fun _ => 0), cI 4096 (fun _ => 0), cI 131072 (fun _ => 0), cI 4096 (fun _ => 0), cI 4096 (fun _ => 0), cI 4096 (fun _ => 0), cI 16384 (fun _ => 0), cI 16384 (fun _ => 0), cI 324 (fun _ => 0), cI 1296 (fun _ => 0), cL 1 (fun _ => 0)]
theorem rep0 : ∀ (p : Nat) (c : LC), lyf 2 3 52 2048 128 p = some c → HP0[p]? = some (s_c s0 p c)
  | 0, c, h => by cases Option.some.inj (h.symm.trans (show lyf 2 3 52 2048 128 0 = some (LO 0 [rf 4, rf 7, rf 13, rf 30, rf 36, rf 42, rf 51, nu, nu]) from rfl)); rfl
  | 1, c, h => by cases Option.some.inj (h.symm.trans (show lyf 2 3 52 2048 128 1 = some (LO 1 [rf 2, rf 3, nu]) from rfl)); rfl
  | 2, c, h => by cases Option.some.inj (h.symm.trans (show lyf 2 3 52 2048 128 2 = some (LI 2048 2) from rfl)); rfl
  | 3, c, h => by cases Option.some.inj (h.symm.trans (show lyf 2 3 52 2048 128 3 = some (LI 2048 3) from rfl)); rfl
  | 4, c, h => by cases Option.some.inj (h.symm.trans (show lyf 2 3 52 2048 128 4 = some (LO 4 [rf 5, rf 6, nu]) from rfl)); rfl
  | 5, c, h => by cases Option.some.inj (h.symm.trans (show lyf 2 3 52 2048 128 5 = some (LI 16 5) from rfl)); rfl
  | 6, c, h => by cases Option.some.inj (h.symm.trans (show lyf 2 3 52 2048 128 6 = some (LI 48 6) from rfl)); rfl
  | 7, c, h => by cases Option.some.inj (h.symm.trans (show lyf 2 3 52 2048 128 7 = some (LO 3 [rf 1, rf 8, rf 9, rf 10, rf 11, rf 12, nu, nu, nu]) from rfl)); rfl
  | 8, c, h => by cases Option.some.inj (h.symm.trans (show lyf 2 3 52 2048 128 8 = some (LI 324 8) from rfl)); rfl
  | 9, c, h => by cases Option.some.inj (h.symm.trans (show lyf 2 3 52 2048 128 9 = some (LI 324 9) from rfl)); rfl
  | 10, c, h => by cases Option.some.inj (h.symm.trans (show lyf 2 3 52 2048 128 10 = some (LI 324 10) from rfl)); rfl
  | 11, c, h => by cases Option.some.inj (h.symm.trans (show lyf 2 3 52 2048 128 11 = some (LI 324 11) from rfl)); rfl
  | 12, c, h => by cases Option.some.inj (h.symm.trans (show lyf 2 3 52 2048 128 12 = some (LI 324 12) from rfl)); rfl
  | 13, c, h => by cases Option.some.inj (h.symm.trans (show lyf 2 3 52 2048 128 13 = some (.inr (.inl (6, 8, fun k => if k < 8 then some (14 + 2 * k) else none))) from rfl)); exact congrArg (fun f => some (cR 6 8 f)) vS_eq
  | 14, c, h => by cases Option.some.inj (h.symm.trans (show lyf 2 3 52 2048 128 14 = some (LO 6 [rf 1, nu, rf 15, nu, nu, nu, nu, nu, nu, nu]) from rfl)); rfl
  | 15, c, h => by cases Option.some.inj (h.symm.trans (show lyf 2 3 52 2048 128 15 = some (LI 91 15) from rfl)); rfl
  | 16, c, h => by cases Option.some.inj (h.symm.trans (show lyf 2 3 52 2048 128 16 = some (LO 6 [rf 1, nu, rf 17, nu, nu, nu, nu, nu, nu, nu]) from rfl)); rfl
  | 17, c, h => by cases Option.some.inj (h.symm.trans (show lyf 2 3 52 2048 128 17 = some (LI 91 17) from rfl)); rfl
  | 18, c, h => by cases Option.some.inj (h.symm.trans (show lyf 2 3 52 2048 128 18 = some (LO 6 [rf 1, nu, rf 19, nu, nu, nu, nu, nu, nu, nu]) from rfl)); rfl
  | 19, c, h => by cases Option.some.inj (h.symm.trans (show lyf 2 3 52 2048 128 19 = some (LI 91 19) from rfl)); rfl
  | 20, c, h => by cases Option.some.inj (h.symm.trans (show lyf 2 3 52 2048 128 20 = some (LO 6 [rf 1, nu, rf 21, nu, nu, nu, nu, nu, nu, nu]) from rfl)); rfl
  | 21, c, h => by cases Option.some.inj (h.symm.trans (show lyf 2 3 52 2048 128 21 = some (LI 91 21) from rfl)); rfl
  | 22, c, h => by cases Option.some.inj (h.symm.trans (show lyf 2 3 52 2048 128 22 = some (LO 6 [rf 1, nu, rf 23, nu, nu, nu, nu, nu, nu, nu]) from rfl)); rfl
  | 23, c, h => by cases Option.some.inj (h.symm.trans (show lyf 2 3 52 2048 128 23 = some (LI 91 23) from rfl)); rfl
  | 24, c, h => by cases Option.some.inj (h.symm.trans (show lyf 2 3 52 2048 128 24 = some (LO 6 [rf 1, nu, rf 25, nu, nu, nu, nu, nu, nu, nu]) from rfl)); rfl
  | 25, c, h => by cases Option.some.inj (h.symm.trans (show lyf 2 3 52 2048 128 25 = some (LI 91 25) from rfl)); rfl
  | 26, c, h => by cases Option.some.inj (h.symm.trans (show lyf 2 3 52 2048 128 26 = some (LO 6 [rf 1, nu, rf 27, nu, nu, nu, nu, nu, nu, nu]) from rfl)); rfl
  | 27, c, h => by cases Option.some.inj (h.symm.trans (show lyf 2 3 52 2048 128 27 = some (LI 91 27) from rfl)); rfl
  | 28, c, h => by cases Option.some.inj (h.symm.trans (show lyf 2 3 52 2048 128 28 = some (LO 6 [rf 1, nu, rf 29, nu, nu, nu, nu, nu, nu, nu]) from rfl)); rfl
  | 29, c, h => by cases Option.some.inj (h.symm.trans (show lyf 2 3 52 2048 128 29 = some (LI 91 29) from rfl)); rfl
  | 30, c, h => by cases Option.some.inj (h.symm.trans (show lyf 2 3 52 2048 128 30 = some (LO 2 [rf 1, rf 7, rf 31, rf 32, rf 33, rf 34, nu, nu, nu, nu, rf 35, nu]) from rfl)); rfl
  | 31, c, h => by cases Option.some.inj (h.symm.trans (show lyf 2 3 52 2048 128 31 = some (LI 64 31) from rfl)); rfl
  | 32, c, h => by cases Option.some.inj (h.symm.trans (show lyf 2 3 52 2048 128 32 = some (LI 64 32) from rfl)); rfl
  | 33, c, h => by cases Option.some.inj (h.symm.trans (show lyf 2 3 52 2048 128 33 = some (LI 64 33) from rfl)); rfl
  | 34, c, h => by cases Option.some.inj (h.symm.trans (show lyf 2 3 52 2048 128 34 = some (LI 256 34) from rfl)); rfl
  | 35, c, h => by cases Option.some.inj (h.symm.trans (show lyf 2 3 52 2048 128 35 = some (LI 4 35) from rfl)); rfl
  | 36, c, h => by cases Option.some.inj (h.symm.trans (show lyf 2 3 52 2048 128 36 = some (LO 2 [rf 1, rf 7, rf 37, rf 38, rf 39, rf 40, nu, nu, nu, nu, rf 41, nu]) from rfl)); rfl
  | 37, c, h => by cases Option.some.inj (h.symm.trans (show lyf 2 3 52 2048 128 37 = some (LI 64 37) from rfl)); rfl
  | 38, c, h => by cases Option.some.inj (h.symm.trans (show lyf 2 3 52 2048 128 38 = some (LI 64 38) from rfl)); rfl
  | 39, c, h => by cases Option.some.inj (h.symm.trans (show lyf 2 3 52 2048 128 39 = some (LI 64 39) from rfl)); rfl
  | 40, c, h => by cases Option.some.inj (h.symm.trans (show lyf 2 3 52 2048 128 40 = some (LI 256 40) from rfl)); rfl
  | 41, c, h => by cases Option.some.inj (h.symm.trans (show lyf 2 3 52 2048 128 41 = some (LI 4 41) from rfl)); rfl
  | 42, c, h => by cases Option.some.inj (h.symm.trans (show lyf 2 3 52 2048 128 42 = some (LO 7 [rf 1, rf 7, rf 4, rf 30, rf 36, rf 45, rf 43, rf 44, nu]) from rfl)); rfl
  | 43, c, h => by cases Option.some.inj (h.symm.trans (show lyf 2 3 52 2048 128 43 = some (LI 4 43) from rfl)); rfl
  | 44, c, h => by cases Option.some.inj (h.symm.trans (show lyf 2 3 52 2048 128 44 = some (LI 4 44) from rfl)); rfl
  | 45, c, h => by cases Option.some.inj (h.symm.trans (show lyf 2 3 52 2048 128 45 = some (LO 2 [rf 1, rf 7, rf 46, rf 47, rf 48, rf 49, nu, nu, nu, nu, rf 50, nu]) from rfl)); rfl
  | 46, c, h => by cases Option.some.inj (h.symm.trans (show lyf 2 3 52 2048 128 46 = some (LI 64 46) from rfl)); rfl
  | 47, c, h => by cases Option.some.inj (h.symm.trans (show lyf 2 3 52 2048 128 47 = some (LI 64 47) from rfl)); rfl
  | 48, c, h => by cases Option.some.inj (h.symm.trans (show lyf 2 3 52 2048 128 48 = some (LI 64 48) from rfl)); rfl
  | 49, c, h => by cases Option.some.inj (h.symm.trans (show lyf 2 3 52 2048 128 49 = some (LI 256 49) from rfl)); rfl
  | 50, c, h => by cases Option.some.inj (h.symm.trans (show lyf 2 3 52 2048 128 50 = some (LI 4 50) from rfl)); rfl
  | 51, c, h => by cases Option.some.inj (h.symm.trans (show lyf 2 3 52 2048 128 51 = some (LO 5 [rf 52, nu, nu, rf 53, rf 54]) from rfl)); rfl
  | 52, c, h => by cases Option.some.inj (h.symm.trans (show lyf 2 3 52 2048 128 52 = some (LI 128 52) from rfl)); rfl
  | 53, c, h => by cases Option.some.inj (h.symm.trans (show lyf 2 3 52 2048 128 53 = some (LI 324 53) from rfl)); rfl
  | 54, c, h => by cases Option.some.inj (h.symm.trans (show lyf 2 3 52 2048 128 54 = some (LI 324 54) from rfl)); rfl
  | 55, c, h => by cases Option.some.inj (h.symm.trans (show lyf 2 3 52 2048 128 55 = some (LO 8 [nu, nu, nu, nu, rf 56, rf 57, rf 58, rf 59, rf 60, rf 61, rf 62, rf 63, rf 64, rf 65, rf 66, rf 67, rf 68, rf 69, rf 70, rf 71, rf 72, rf 73, rf 74, rf 75, rf 76, rf 77, rf 78, rf 79, rf 80, nu, nu, nu, rf 81, rf 82, rf 83, rf 84, nu, nu, nu, nu]) from rfl)); rfl
  | 56, c, h => by cases Option.some.inj (h.symm.trans (show lyf 2 3 52 2048 128 56 = some (LI 16 56) from rfl)); rfl
  | 57, c, h => by cases Option.some.inj (h.symm.trans (show lyf 2 3 52 2048 128 57 = some (LI 48 57) from rfl)); rfl
  | 58, c, h => by cases Option.some.inj (h.symm.trans (show lyf 2 3 52 2048 128 58 = some (LI 324 58) from rfl)); rfl
  | 59, c, h => by cases Option.some.inj (h.symm.trans (show lyf 2 3 52 2048 128 59 = some (LI 324 59) from rfl)); rfl
  | 60, c, h => by cases Option.some.inj (h.symm.trans (show lyf 2 3 52 2048 128 60 = some (LI 129600 60) from rfl)); rfl
  | 61, c, h => by cases Option.some.inj (h.symm.trans (show lyf 2 3 52 2048 128 61 = some (LZ 324 61) from rfl)); rfl
  | 62, c, h => by cases Option.some.inj (h.symm.trans (show lyf 2 3 52 2048 128 62 = some (LZ 324 62) from rfl)); rfl
  | 63, c, h => by cases Option.some.inj (h.symm.trans (show lyf 2 3 52 2048 128 63 = some (LI 1280 63) from rfl)); rfl
  | 64, c, h => by cases Option.some.inj (h.symm.trans (show lyf 2 3 52 2048 128 64 = some (LI 8 64) from rfl)); rfl
  | 65, c, h => by cases Option.some.inj (h.symm.trans (show lyf 2 3 52 2048 128 65 = some (LI 8 65) from rfl)); rfl
  | 66, c, h => by cases Option.some.inj (h.symm.trans (show lyf 2 3 52 2048 128 66 = some (LI 8 66) from rfl)); rfl
  | 67, c, h => by cases Option.some.inj (h.symm.trans (show lyf 2 3 52 2048 128 67 = some (LI 8 67) from rfl)); rfl
  | 68, c, h => by cases Option.some.inj (h.symm.trans (show lyf 2 3 52 2048 128 68 = some (LI 1280 68) from rfl)); rfl
  | 69, c, h => by cases Option.some.inj (h.symm.trans (show lyf 2 3 52 2048 128 69 = some (LI 1280 69) from rfl)); rfl
  | 70, c, h => by cases Option.some.inj (h.symm.trans (show lyf 2 3 52 2048 128 70 = some (LZ 8 70) from rfl)); rfl
  | 71, c, h => by cases Option.some.inj (h.symm.trans (show lyf 2 3 52 2048 128 71 = some (LI 16384 71) from rfl)); rfl
  | 72, c, h => by cases Option.some.inj (h.symm.trans (show lyf 2 3 52 2048 128 72 = some (LI 16384 72) from rfl)); rfl
  | 73, c, h => by cases Option.some.inj (h.symm.trans (show lyf 2 3 52 2048 128 73 = some (LI 16384 73) from rfl)); rfl
  | 74, c, h => by cases Option.some.inj (h.symm.trans (show lyf 2 3 52 2048 128 74 = some (LI 16384 74) from rfl)); rfl
  | 75, c, h => by cases Option.some.inj (h.symm.trans (show lyf 2 3 52 2048 128 75 = some (LI 4096 75) from rfl)); rfl
  | 76, c, h => by cases Option.some.inj (h.symm.trans (show lyf 2 3 52 2048 128 76 = some (LI 4096 76) from rfl)); rfl
  | 77, c, h => by cases Option.some.inj (h.symm.trans (show lyf 2 3 52 2048 128 77 = some (LI 131072 77) from rfl)); rfl
  | 78, c, h => by cases Option.some.inj (h.symm.trans (show lyf 2 3 52 2048 128 78 = some (LI 4096 78) from rfl)); rfl
  | 79, c, h => by cases Option.some.inj (h.symm.trans (show lyf 2 3 52 2048 128 79 = some (LI 4096 79) from rfl)); rfl
  | 80, c, h => by cases Option.some.inj (h.symm.trans (show lyf 2 3 52 2048 128 80 = some (LI 4096 80) from rfl)); rfl
  | 81, c, h => by cases Option.some.inj (h.symm.trans (show lyf 2 3 52 2048 128 81 = some (LI 16384 81) from rfl)); rfl
  | 82, c, h => by cases Option.some.inj (h.symm.trans (show lyf 2 3 52 2048 128 82 = some (LI 16384 82) from rfl)); rfl
  | 83, c, h => by cases Option.some.inj (h.symm.trans (show lyf 2 3 52 2048 128 83 = some (LI 324 83) from rfl)); rfl
  | 84, c, h => by cases Option.some.inj (h.symm.trans (show lyf 2 3 52 2048 128 84 = some (LI 1296 84) from rfl)); rfl
  | 85, c, h => by cases Option.some.inj (h.symm.trans (show lyf 2 3 52 2048 128 85 = some (.inr (.inr (.inr ()))) from rfl)); rfl
  | n + 86, c, h => by
    have e : lyf 2 3 52 2048 128 (n + 86) = none := by
      unfold lyf
      rw [if_neg (by omega), if_neg (by omega), if_neg (by omega), if_neg (by omega), if_neg (by omega)]
      unfold tb
      rw [List.getElem?_eq_none (by show 86 ≤ n + 86; omega)]
      rfl
    rw [e] at h
    cases h
theorem gd0 : gd 2 3 52 := ⟨⟨by decide, by decide, rfl⟩, ⟨by decide, by decide, rfl⟩, ⟨by decide, by decide, rfl⟩, by decide, by decide, by decide⟩
theorem Wd0 : Wd HP0 s0 := ⟨⟨by decide, by decide, by decide⟩, 2, 3, 52, gd0, rep0, ⟨fld_r, fun _ _ => by show rng 0; omega⟩, lyf_inj gd0⟩
def d0 : Dk := ((fun _ => -1, fun _ _ => 0), 0, 0, (fun _ => -1, fun _ => none, [], 0), fun _ => (false, 0, [], 0, []), [], 0, 0, 0)
theorem neg1 : ¬ (0 : Int) ≤ -1 := by decide
theorem le06 : (0 : Int) ≤ 6 := by decide
theorem sum0 : ∀ l : List Nat, (l.map (fun _ => (0 : Int))).sum = 0 := by
  intro l
  induction l with
  | nil => rfl
  | cons a l ih => rw [List.map_cons, List.sum_cons, ih]; rfl
theorem pot0 : pot (fun _ => -1) (fun _ => none) = 0 := by
  unfold pot
  have e : (fun h : Nat => po (fun _ => -1) (fun _ => none) (h : Int)) = fun _ => 0 := by
    funext h
    unfold po
    rw [if_neg (fun z => absurd z.1 neg1)]
  rw [e]
  exact sum0 _
theorem gD0 {R : Nat} : gD R d0 := by
  refine ⟨⟨by decide, by decide, fun f => ?_, fun f => ?_, fun f i => ?_⟩, ⟨⟨?_, ?_, ⟨fun _ => 0, ?_, ?_⟩, ?_, ⟨List.nodup_nil, ?_⟩, ?_, ?_, ⟨by decide, by decide, by decide⟩, ?_, ?_⟩, ⟨?_, ?_⟩, ?_⟩, fun i hi => ⟨fun _ => ⟨rfl, rfl, rfl⟩, ⟨Int.le_refl 0, le06⟩, fun z => (by cases z), Nat.zero_le _, fun z hz => absurd hz List.not_mem_nil, fun z hz => absurd hz List.not_mem_nil, fun _ z hz => absurd hz List.not_mem_nil, fun z => absurd z (Nat.lt_irrefl 0)⟩, Nat.zero_le _⟩
  · exact ⟨fun z => absurd z neg1, fun z => by have h1 := z.1; have h2 : f < 0 := z.2; omega⟩
  · show (-1 : Int) ≤ 3
    decide
  · show (0 : Int) ≤ 0 ∧ (0 : Int) ≤ 2
    decide
  · intro h F z; cases z
  · intro h F z; cases z
  · intro h F z; cases z
  · intro h; exact Nat.zero_le _
  · intro h
    show (-1 : Int) ≤ 4
    decide
  · intro pre h post F z
    exact absurd z (by cases pre <;> intro q <;> cases q)
  · intro h
    exact ⟨fun z => (by obtain ⟨F, z⟩ := z; cases z), fun z => absurd z List.not_mem_nil⟩
  · intro h
    exact ⟨fun z => absurd z neg1, fun z => by
      rcases z with ⟨z1, z2⟩ | ⟨z1, z2⟩
      · have z3 : h < 0 := z2
        omega
      · have z3 : h < 24 + 0 := z2
        omega⟩
  · intro h z; exact absurd z List.not_mem_nil
  · intro h F z; cases z
  · show pot (fun _ => -1) (fun _ => none) + 0 ≤ 5 * 0
    rw [pot0]
    decide
  · show 2 * pot (fun _ => -1) (fun _ => none) + ((([] : List Int).length : Nat) : Int) ≤ 10 * 0
    rw [pot0]
    decide
  · intro h F z; cases z
theorem cD0 : cD s0 d0 := by
  refine ⟨⟨fun h z => absurd z neg1, ⟨Or.inl rfl, by decide, by decide, by decide⟩, rfl, rfl, rfl, fun k v z => (by cases z), rfl, fun h _ => gA0⟩, ⟨fun f z => absurd z neg1, fun f i => gA0, fun f _ => gA0⟩, rfl, fun i hi => ⟨fldS hi, fld0 (by omega) (by decide) (by decide), fld0 (by omega) (by decide) (by decide), fld0 (by omega) (by decide) (by decide), fld0 (by omega) (by decide) (by decide), fld0 (by omega) (by decide) (by decide), fun z => absurd z (Nat.lt_irrefl 0), True.intro, ?_⟩, ⟨Or.inl rfl, rfl, rfl, by decide, fun k v z => (by cases z)⟩, rfl, rfl⟩
  show 150 * (i : Int) = 150 * (i : Int) + ((il [] : Nat) : Int)
  rw [show il [] = 0 from rfl]
  omega
theorem rD0 : rD s0 d0 := by
  refine ⟨⟨fun h z => absurd z neg1, rfl, rfl, fun h _ _ => rfl⟩, fun f z => absurd z neg1, rfl, fun i hi => ⟨rfl, rfl, rfl, rfl, rfl, True.intro, fun t ht => absurd ht (Nat.not_lt_zero _), ?_⟩, ⟨rfl, rfl, fun k v z => (by cases z)⟩, rfl, rfl⟩
  show 160 * (i : Int) = 160 * (i : Int) + ((il [] : Nat) : Int)
  rw [show il [] = 0 from rfl]
  omega
theorem JR0 {R : Nat} : JR R 0 s0 := ⟨d0, gD0, cD0, rD0, by decide, by decide, by decide, by decide, by decide, by decide⟩
theorem K0 : K s0 = 8448 := rfl
theorem law_start {g : MG} {b0 L : Nat} {xs : Nat → Int32} {Q : MO → List MC → Prop} (hl : g.1.stackTraces = false) (hL : L ≤ 2048) (hQ : ∀ h, Q (.inl (some (iI 1))) h) : Ev g (some (b0, L, xs)) M_law 12 472 0 [(0, msc)] [] [] 552638 947719 Q := by
  show Ev g (some (b0, L, xs)) M_law 12 472 0 [(0, msc)] [] ([] ++ []) 552638 947719 Q
  refine y_new (h := []) (P := 0) (p := 0) (mc := 552637) (ms := 947710) (l2 := [cO 0 [mn, mn, mn, mn, mn, mn, mn, mi 0, mi 0]]) rfl d_law_0 nw_L_8 rfl rfl ?_
  refine e_dup d_law_3 rfl ?_
  refine e_invI (mc1 := 54) (ms1 := 8801) (mc2 := 552583) (ms2 := 938909) (d2 := 3) (w2 := 67) (av := []) (st' := [mr 0]) d_law_4 me_H_init l_L_49 rfl rfl (Nat.le_of_ble_eq_true rfl) rfl (Nat.le_of_ble_eq_true rfl) (Nat.le_of_ble_eq_true rfl) (Nat.le_of_ble_eq_true rfl) rfl (n_H (Nat.le_refl _) (Nat.le_refl _) (Q := fun o9 h9 => o9 = .inl none ∧ h9 = [] ++ [cO 0 [mr 4, mr 7, mr 13, mr 30, mr 36, mr 42, mr 51, mi 0, mi 0], cO 1 [mr 2, mr 3, iI 1200], cI 2048 (fun _ => 0), cI 2048 (fun _ => 0), cO 4 [mr 5, mr 6, mi 0], cI 16 (fun _ => 0), cI 48 (fun _ => 0), cO 3 [mr 1, mr 8, mr 9, mr 10, mr 11, mr 12, mi 0, mi 0, mi 0], cI 324 (fun _ => 0), cI 324 (fun _ => 0), cI 324 (fun _ => 0), cI 324 (fun _ => 0), cI 324 (fun _ => 0), cR 6 8 vS8, cO 6 [mr 1, iI 0, mr 15, mi 0, mi 0, mi 0, mi 0, mi 0, mi 0, mi 0], cI 91 (fun _ => 0), cO 6 [mr 1, iI 150, mr 17, mi 0, mi 0, mi 0, mi 0, mi 0, mi 0, mi 0], cI 91 (fun _ => 0), cO 6 [mr 1, iI 300, mr 19, mi 0, mi 0, mi 0, mi 0, mi 0, mi 0, mi 0], cI 91 (fun _ => 0), cO 6 [mr 1, iI 450, mr 21, mi 0, mi 0, mi 0, mi 0, mi 0, mi 0, mi 0], cI 91 (fun _ => 0), cO 6 [mr 1, iI 600, mr 23, mi 0, mi 0, mi 0, mi 0, mi 0, mi 0, mi 0], cI 91 (fun _ => 0), cO 6 [mr 1, iI 750, mr 25, mi 0, mi 0, mi 0, mi 0, mi 0, mi 0, mi 0], cI 91 (fun _ => 0), cO 6 [mr 1, iI 900, mr 27, mi 0, mi 0, mi 0, mi 0, mi 0, mi 0, mi 0], cI 91 (fun _ => 0), cO 6 [mr 1, iI 1050, mr 29, mi 0, mi 0, mi 0, mi 0, mi 0, mi 0, mi 0], cI 91 (fun _ => 0), cO 2 [mr 1, mr 7, mr 31, mr 32, mr 33, mr 34, mi 0, mi 0, mi 0, mi 0, mr 35, mi 0], cI 64 (fun _ => 0), cI 64 (fun _ => 0), cI 64 (fun _ => 0), cI 256 (fun _ => 0), cI 4 (fun _ => 0), cO 2 [mr 1, mr 7, mr 37, mr 38, mr 39, mr 40, mi 0, mi 0, mi 0, mi 0, mr 41, mi 0], cI 64 (fun _ => 0), cI 64 (fun _ => 0), cI 64 (fun _ => 0), cI 256 (fun _ => 0), cI 4 (fun _ => 0), cO 7 [mr 1, mr 7, mr 4, mr 30, mr 36, mr 45, mr 43, mr 44, mi 0], cI 4 (fun _ => 0), cI 4 (fun _ => 0), cO 2 [mr 1, mr 7, mr 46, mr 47, mr 48, mr 49, mi 0, mi 0, mi 0, mi 0, mr 50, mi 0], cI 64 (fun _ => 0), cI 64 (fun _ => 0), cI 64 (fun _ => 0), cI 256 (fun _ => 0), cI 4 (fun _ => 0), cO 5 [mr 52, mi 0, mi 0, mr 53, mr 54], cI 128 (fun _ => 0), cI 324 (fun _ => 0), cI 324 (fun _ => 0)]) ⟨rfl, rfl⟩) (fun r9 h9 hP9 => ?_) (fun E9 h9 hP9 => by cases hP9.1)
  obtain ⟨ho9, rfl⟩ := hP9
  cases ho9
  show Ev g (some (b0, L, xs)) M_law 12 472 7 [(0, msc)] [mr 0] ([] ++ [cO 0 [mr 4, mr 7, mr 13, mr 30, mr 36, mr 42, mr 51, mi 0, mi 0], cO 1 [mr 2, mr 3, iI 1200], cI 2048 (fun _ => 0), cI 2048 (fun _ => 0), cO 4 [mr 5, mr 6, mi 0], cI 16 (fun _ => 0), cI 48 (fun _ => 0), cO 3 [mr 1, mr 8, mr 9, mr 10, mr 11, mr 12, mi 0, mi 0, mi 0], cI 324 (fun _ => 0), cI 324 (fun _ => 0), cI 324 (fun _ => 0), cI 324 (fun _ => 0), cI 324 (fun _ => 0), cR 6 8 vS8, cO 6 [mr 1, iI 0, mr 15, mi 0, mi 0, mi 0, mi 0, mi 0, mi 0, mi 0], cI 91 (fun _ => 0), cO 6 [mr 1, iI 150, mr 17, mi 0, mi 0, mi 0, mi 0, mi 0, mi 0, mi 0], cI 91 (fun _ => 0), cO 6 [mr 1, iI 300, mr 19, mi 0, mi 0, mi 0, mi 0, mi 0, mi 0, mi 0], cI 91 (fun _ => 0), cO 6 [mr 1, iI 450, mr 21, mi 0, mi 0, mi 0, mi 0, mi 0, mi 0, mi 0], cI 91 (fun _ => 0), cO 6 [mr 1, iI 600, mr 23, mi 0, mi 0, mi 0, mi 0, mi 0, mi 0, mi 0], cI 91 (fun _ => 0), cO 6 [mr 1, iI 750, mr 25, mi 0, mi 0, mi 0, mi 0, mi 0, mi 0, mi 0], cI 91 (fun _ => 0), cO 6 [mr 1, iI 900, mr 27, mi 0, mi 0, mi 0, mi 0, mi 0, mi 0, mi 0], cI 91 (fun _ => 0), cO 6 [mr 1, iI 1050, mr 29, mi 0, mi 0, mi 0, mi 0, mi 0, mi 0, mi 0], cI 91 (fun _ => 0), cO 2 [mr 1, mr 7, mr 31, mr 32, mr 33, mr 34, mi 0, mi 0, mi 0, mi 0, mr 35, mi 0], cI 64 (fun _ => 0), cI 64 (fun _ => 0), cI 64 (fun _ => 0), cI 256 (fun _ => 0), cI 4 (fun _ => 0), cO 2 [mr 1, mr 7, mr 37, mr 38, mr 39, mr 40, mi 0, mi 0, mi 0, mi 0, mr 41, mi 0], cI 64 (fun _ => 0), cI 64 (fun _ => 0), cI 64 (fun _ => 0), cI 256 (fun _ => 0), cI 4 (fun _ => 0), cO 7 [mr 1, mr 7, mr 4, mr 30, mr 36, mr 45, mr 43, mr 44, mi 0], cI 4 (fun _ => 0), cI 4 (fun _ => 0), cO 2 [mr 1, mr 7, mr 46, mr 47, mr 48, mr 49, mi 0, mi 0, mi 0, mi 0, mr 50, mi 0], cI 64 (fun _ => 0), cI 64 (fun _ => 0), cI 64 (fun _ => 0), cI 256 (fun _ => 0), cI 4 (fun _ => 0), cO 5 [mr 52, mi 0, mi 0, mr 53, mr 54], cI 128 (fun _ => 0), cI 324 (fun _ => 0), cI 324 (fun _ => 0)]) 552583 938909 Q
  refine e_astore_n d_law_7 rfl (by decide) (lv2 := [(1, mr 0), (0, msc)]) rfl ?_
  refine y_new (h := []) (P := 0) (p := 55) (mc := 552582) (ms := 938869) (l2 := [cO 0 [mr 4, mr 7, mr 13, mr 30, mr 36, mr 42, mr 51, mi 0, mi 0], cO 1 [mr 2, mr 3, iI 1200], cI 2048 (fun _ => 0), cI 2048 (fun _ => 0), cO 4 [mr 5, mr 6, mi 0], cI 16 (fun _ => 0), cI 48 (fun _ => 0), cO 3 [mr 1, mr 8, mr 9, mr 10, mr 11, mr 12, mi 0, mi 0, mi 0], cI 324 (fun _ => 0), cI 324 (fun _ => 0), cI 324 (fun _ => 0), cI 324 (fun _ => 0), cI 324 (fun _ => 0), cR 6 8 vS8, cO 6 [mr 1, iI 0, mr 15, mi 0, mi 0, mi 0, mi 0, mi 0, mi 0, mi 0], cI 91 (fun _ => 0), cO 6 [mr 1, iI 150, mr 17, mi 0, mi 0, mi 0, mi 0, mi 0, mi 0, mi 0], cI 91 (fun _ => 0), cO 6 [mr 1, iI 300, mr 19, mi 0, mi 0, mi 0, mi 0, mi 0, mi 0, mi 0], cI 91 (fun _ => 0), cO 6 [mr 1, iI 450, mr 21, mi 0, mi 0, mi 0, mi 0, mi 0, mi 0, mi 0], cI 91 (fun _ => 0), cO 6 [mr 1, iI 600, mr 23, mi 0, mi 0, mi 0, mi 0, mi 0, mi 0, mi 0], cI 91 (fun _ => 0), cO 6 [mr 1, iI 750, mr 25, mi 0, mi 0, mi 0, mi 0, mi 0, mi 0, mi 0], cI 91 (fun _ => 0), cO 6 [mr 1, iI 900, mr 27, mi 0, mi 0, mi 0, mi 0, mi 0, mi 0, mi 0], cI 91 (fun _ => 0), cO 6 [mr 1, iI 1050, mr 29, mi 0, mi 0, mi 0, mi 0, mi 0, mi 0, mi 0], cI 91 (fun _ => 0), cO 2 [mr 1, mr 7, mr 31, mr 32, mr 33, mr 34, mi 0, mi 0, mi 0, mi 0, mr 35, mi 0], cI 64 (fun _ => 0), cI 64 (fun _ => 0), cI 64 (fun _ => 0), cI 256 (fun _ => 0), cI 4 (fun _ => 0), cO 2 [mr 1, mr 7, mr 37, mr 38, mr 39, mr 40, mi 0, mi 0, mi 0, mi 0, mr 41, mi 0], cI 64 (fun _ => 0), cI 64 (fun _ => 0), cI 64 (fun _ => 0), cI 256 (fun _ => 0), cI 4 (fun _ => 0), cO 7 [mr 1, mr 7, mr 4, mr 30, mr 36, mr 45, mr 43, mr 44, mi 0], cI 4 (fun _ => 0), cI 4 (fun _ => 0), cO 2 [mr 1, mr 7, mr 46, mr 47, mr 48, mr 49, mi 0, mi 0, mi 0, mi 0, mr 50, mi 0], cI 64 (fun _ => 0), cI 64 (fun _ => 0), cI 64 (fun _ => 0), cI 256 (fun _ => 0), cI 4 (fun _ => 0), cO 5 [mr 52, mi 0, mi 0, mr 53, mr 54], cI 128 (fun _ => 0), cI 324 (fun _ => 0), cI 324 (fun _ => 0), cO 8 [mi 0, mi 0, mi 0, mi 0, mn, mn, mn, mn, mn, mn, mn, mn, mn, mn, mn, mn, mn, mn, mn, mn, mn, mn, mn, mn, mn, mn, mn, mn, mn, mi 0, mi 0, mi 0, mn, mn, mn, mn, mi 0, mi 0, mi 0, mi 0]]) rfl d_law_8 nw_L_50 rfl rfl ?_
  refine e_dup d_law_11 rfl ?_
  refine e_invI (mc1 := 29) (ms1 := 386316) (mc2 := 552553) (ms2 := 552553) (d2 := 1) (w2 := 20) (av := []) (st' := [mr 55]) d_law_12 me_D_init l_L_52 rfl rfl (Nat.le_of_ble_eq_true rfl) rfl (Nat.le_of_ble_eq_true rfl) (Nat.le_of_ble_eq_true rfl) (Nat.le_of_ble_eq_true rfl) rfl (n_D (h := [cO 0 [mr 4, mr 7, mr 13, mr 30, mr 36, mr 42, mr 51, mi 0, mi 0], cO 1 [mr 2, mr 3, iI 1200], cI 2048 (fun _ => 0), cI 2048 (fun _ => 0), cO 4 [mr 5, mr 6, mi 0], cI 16 (fun _ => 0), cI 48 (fun _ => 0), cO 3 [mr 1, mr 8, mr 9, mr 10, mr 11, mr 12, mi 0, mi 0, mi 0], cI 324 (fun _ => 0), cI 324 (fun _ => 0), cI 324 (fun _ => 0), cI 324 (fun _ => 0), cI 324 (fun _ => 0), cR 6 8 vS8, cO 6 [mr 1, iI 0, mr 15, mi 0, mi 0, mi 0, mi 0, mi 0, mi 0, mi 0], cI 91 (fun _ => 0), cO 6 [mr 1, iI 150, mr 17, mi 0, mi 0, mi 0, mi 0, mi 0, mi 0, mi 0], cI 91 (fun _ => 0), cO 6 [mr 1, iI 300, mr 19, mi 0, mi 0, mi 0, mi 0, mi 0, mi 0, mi 0], cI 91 (fun _ => 0), cO 6 [mr 1, iI 450, mr 21, mi 0, mi 0, mi 0, mi 0, mi 0, mi 0, mi 0], cI 91 (fun _ => 0), cO 6 [mr 1, iI 600, mr 23, mi 0, mi 0, mi 0, mi 0, mi 0, mi 0, mi 0], cI 91 (fun _ => 0), cO 6 [mr 1, iI 750, mr 25, mi 0, mi 0, mi 0, mi 0, mi 0, mi 0, mi 0], cI 91 (fun _ => 0), cO 6 [mr 1, iI 900, mr 27, mi 0, mi 0, mi 0, mi 0, mi 0, mi 0, mi 0], cI 91 (fun _ => 0), cO 6 [mr 1, iI 1050, mr 29, mi 0, mi 0, mi 0, mi 0, mi 0, mi 0, mi 0], cI 91 (fun _ => 0), cO 2 [mr 1, mr 7, mr 31, mr 32, mr 33, mr 34, mi 0, mi 0, mi 0, mi 0, mr 35, mi 0], cI 64 (fun _ => 0), cI 64 (fun _ => 0), cI 64 (fun _ => 0), cI 256 (fun _ => 0), cI 4 (fun _ => 0), cO 2 [mr 1, mr 7, mr 37, mr 38, mr 39, mr 40, mi 0, mi 0, mi 0, mi 0, mr 41, mi 0], cI 64 (fun _ => 0), cI 64 (fun _ => 0), cI 64 (fun _ => 0), cI 256 (fun _ => 0), cI 4 (fun _ => 0), cO 7 [mr 1, mr 7, mr 4, mr 30, mr 36, mr 45, mr 43, mr 44, mi 0], cI 4 (fun _ => 0), cI 4 (fun _ => 0), cO 2 [mr 1, mr 7, mr 46, mr 47, mr 48, mr 49, mi 0, mi 0, mi 0, mi 0, mr 50, mi 0], cI 64 (fun _ => 0), cI 64 (fun _ => 0), cI 64 (fun _ => 0), cI 256 (fun _ => 0), cI 4 (fun _ => 0), cO 5 [mr 52, mi 0, mi 0, mr 53, mr 54], cI 128 (fun _ => 0), cI 324 (fun _ => 0), cI 324 (fun _ => 0)]) (P := 55) rfl (Nat.le_refl _) (Nat.le_refl _) (Q := fun o9 h9 => o9 = .inl none ∧ h9 = [] ++ [cO 0 [mr 4, mr 7, mr 13, mr 30, mr 36, mr 42, mr 51, mi 0, mi 0], cO 1 [mr 2, mr 3, iI 1200], cI 2048 (fun _ => 0), cI 2048 (fun _ => 0), cO 4 [mr 5, mr 6, mi 0], cI 16 (fun _ => 0), cI 48 (fun _ => 0), cO 3 [mr 1, mr 8, mr 9, mr 10, mr 11, mr 12, mi 0, mi 0, mi 0], cI 324 (fun _ => 0), cI 324 (fun _ => 0), cI 324 (fun _ => 0), cI 324 (fun _ => 0), cI 324 (fun _ => 0), cR 6 8 vS8, cO 6 [mr 1, iI 0, mr 15, mi 0, mi 0, mi 0, mi 0, mi 0, mi 0, mi 0], cI 91 (fun _ => 0), cO 6 [mr 1, iI 150, mr 17, mi 0, mi 0, mi 0, mi 0, mi 0, mi 0, mi 0], cI 91 (fun _ => 0), cO 6 [mr 1, iI 300, mr 19, mi 0, mi 0, mi 0, mi 0, mi 0, mi 0, mi 0], cI 91 (fun _ => 0), cO 6 [mr 1, iI 450, mr 21, mi 0, mi 0, mi 0, mi 0, mi 0, mi 0, mi 0], cI 91 (fun _ => 0), cO 6 [mr 1, iI 600, mr 23, mi 0, mi 0, mi 0, mi 0, mi 0, mi 0, mi 0], cI 91 (fun _ => 0), cO 6 [mr 1, iI 750, mr 25, mi 0, mi 0, mi 0, mi 0, mi 0, mi 0, mi 0], cI 91 (fun _ => 0), cO 6 [mr 1, iI 900, mr 27, mi 0, mi 0, mi 0, mi 0, mi 0, mi 0, mi 0], cI 91 (fun _ => 0), cO 6 [mr 1, iI 1050, mr 29, mi 0, mi 0, mi 0, mi 0, mi 0, mi 0, mi 0], cI 91 (fun _ => 0), cO 2 [mr 1, mr 7, mr 31, mr 32, mr 33, mr 34, mi 0, mi 0, mi 0, mi 0, mr 35, mi 0], cI 64 (fun _ => 0), cI 64 (fun _ => 0), cI 64 (fun _ => 0), cI 256 (fun _ => 0), cI 4 (fun _ => 0), cO 2 [mr 1, mr 7, mr 37, mr 38, mr 39, mr 40, mi 0, mi 0, mi 0, mi 0, mr 41, mi 0], cI 64 (fun _ => 0), cI 64 (fun _ => 0), cI 64 (fun _ => 0), cI 256 (fun _ => 0), cI 4 (fun _ => 0), cO 7 [mr 1, mr 7, mr 4, mr 30, mr 36, mr 45, mr 43, mr 44, mi 0], cI 4 (fun _ => 0), cI 4 (fun _ => 0), cO 2 [mr 1, mr 7, mr 46, mr 47, mr 48, mr 49, mi 0, mi 0, mi 0, mi 0, mr 50, mi 0], cI 64 (fun _ => 0), cI 64 (fun _ => 0), cI 64 (fun _ => 0), cI 256 (fun _ => 0), cI 4 (fun _ => 0), cO 5 [mr 52, mi 0, mi 0, mr 53, mr 54], cI 128 (fun _ => 0), cI 324 (fun _ => 0), cI 324 (fun _ => 0), cO 8 [mi 0, mi 0, mi 0, mi 0, mr 56, mr 57, mr 58, mr 59, mr 60, mr 61, mr 62, mr 63, mr 64, mr 65, mr 66, mr 67, mr 68, mr 69, mr 70, mr 71, mr 72, mr 73, mr 74, mr 75, mr 76, mr 77, mr 78, mr 79, mr 80, mi 0, mi 0, mi 0, mr 81, mr 82, mr 83, mr 84, mi 0, mi 0, mi 0, mi 0], cI 16 (fun _ => 0), cI 48 (fun _ => 0), cI 324 (fun _ => 0), cI 324 (fun _ => 0), cI 129600 (fun _ => 0), cZ 324 (fun _ => 0), cZ 324 (fun _ => 0), cI 1280 (fun _ => 0), cI 8 (fun _ => 0), cI 8 (fun _ => 0), cI 8 (fun _ => 0), cI 8 (fun _ => 0), cI 1280 (fun _ => 0), cI 1280 (fun _ => 0), cZ 8 (fun _ => 0), cI 16384 (fun _ => 0), cI 16384 (fun _ => 0), cI 16384 (fun _ => 0), cI 16384 (fun _ => 0), cI 4096 (fun _ => 0), cI 4096 (fun _ => 0), cI 131072 (fun _ => 0), cI 4096 (fun _ => 0), cI 4096 (fun _ => 0), cI 4096 (fun _ => 0), cI 16384 (fun _ => 0), cI 16384 (fun _ => 0), cI 324 (fun _ => 0), cI 1296 (fun _ => 0)]) ⟨rfl, rfl⟩) (fun r9 h9 hP9 => ?_) (fun E9 h9 hP9 => by cases hP9.1)
  obtain ⟨ho9, rfl⟩ := hP9
  cases ho9
  show Ev g (some (b0, L, xs)) M_law 12 472 15 [(1, mr 0), (0, msc)] [mr 55] ([] ++ [cO 0 [mr 4, mr 7, mr 13, mr 30, mr 36, mr 42, mr 51, mi 0, mi 0], cO 1 [mr 2, mr 3, iI 1200], cI 2048 (fun _ => 0), cI 2048 (fun _ => 0), cO 4 [mr 5, mr 6, mi 0], cI 16 (fun _ => 0), cI 48 (fun _ => 0), cO 3 [mr 1, mr 8, mr 9, mr 10, mr 11, mr 12, mi 0, mi 0, mi 0], cI 324 (fun _ => 0), cI 324 (fun _ => 0), cI 324 (fun _ => 0), cI 324 (fun _ => 0), cI 324 (fun _ => 0), cR 6 8 vS8, cO 6 [mr 1, iI 0, mr 15, mi 0, mi 0, mi 0, mi 0, mi 0, mi 0, mi 0], cI 91 (fun _ => 0), cO 6 [mr 1, iI 150, mr 17, mi 0, mi 0, mi 0, mi 0, mi 0, mi 0, mi 0], cI 91 (fun _ => 0), cO 6 [mr 1, iI 300, mr 19, mi 0, mi 0, mi 0, mi 0, mi 0, mi 0, mi 0], cI 91 (fun _ => 0), cO 6 [mr 1, iI 450, mr 21, mi 0, mi 0, mi 0, mi 0, mi 0, mi 0, mi 0], cI 91 (fun _ => 0), cO 6 [mr 1, iI 600, mr 23, mi 0, mi 0, mi 0, mi 0, mi 0, mi 0, mi 0], cI 91 (fun _ => 0), cO 6 [mr 1, iI 750, mr 25, mi 0, mi 0, mi 0, mi 0, mi 0, mi 0, mi 0], cI 91 (fun _ => 0), cO 6 [mr 1, iI 900, mr 27, mi 0, mi 0, mi 0, mi 0, mi 0, mi 0, mi 0], cI 91 (fun _ => 0), cO 6 [mr 1, iI 1050, mr 29, mi 0, mi 0, mi 0, mi 0, mi 0, mi 0, mi 0], cI 91 (fun _ => 0), cO 2 [mr 1, mr 7, mr 31, mr 32, mr 33, mr 34, mi 0, mi 0, mi 0, mi 0, mr 35, mi 0], cI 64 (fun _ => 0), cI 64 (fun _ => 0), cI 64 (fun _ => 0), cI 256 (fun _ => 0), cI 4 (fun _ => 0), cO 2 [mr 1, mr 7, mr 37, mr 38, mr 39, mr 40, mi 0, mi 0, mi 0, mi 0, mr 41, mi 0], cI 64 (fun _ => 0), cI 64 (fun _ => 0), cI 64 (fun _ => 0), cI 256 (fun _ => 0), cI 4 (fun _ => 0), cO 7 [mr 1, mr 7, mr 4, mr 30, mr 36, mr 45, mr 43, mr 44, mi 0], cI 4 (fun _ => 0), cI 4 (fun _ => 0), cO 2 [mr 1, mr 7, mr 46, mr 47, mr 48, mr 49, mi 0, mi 0, mi 0, mi 0, mr 50, mi 0], cI 64 (fun _ => 0), cI 64 (fun _ => 0), cI 64 (fun _ => 0), cI 256 (fun _ => 0), cI 4 (fun _ => 0), cO 5 [mr 52, mi 0, mi 0, mr 53, mr 54], cI 128 (fun _ => 0), cI 324 (fun _ => 0), cI 324 (fun _ => 0), cO 8 [mi 0, mi 0, mi 0, mi 0, mr 56, mr 57, mr 58, mr 59, mr 60, mr 61, mr 62, mr 63, mr 64, mr 65, mr 66, mr 67, mr 68, mr 69, mr 70, mr 71, mr 72, mr 73, mr 74, mr 75, mr 76, mr 77, mr 78, mr 79, mr 80, mi 0, mi 0, mi 0, mr 81, mr 82, mr 83, mr 84, mi 0, mi 0, mi 0, mi 0], cI 16 (fun _ => 0), cI 48 (fun _ => 0), cI 324 (fun _ => 0), cI 324 (fun _ => 0), cI 129600 (fun _ => 0), cZ 324 (fun _ => 0), cZ 324 (fun _ => 0), cI 1280 (fun _ => 0), cI 8 (fun _ => 0), cI 8 (fun _ => 0), cI 8 (fun _ => 0), cI 8 (fun _ => 0), cI 1280 (fun _ => 0), cI 1280 (fun _ => 0), cZ 8 (fun _ => 0), cI 16384 (fun _ => 0), cI 16384 (fun _ => 0), cI 16384 (fun _ => 0), cI 16384 (fun _ => 0), cI 4096 (fun _ => 0), cI 4096 (fun _ => 0), cI 131072 (fun _ => 0), cI 4096 (fun _ => 0), cI 4096 (fun _ => 0), cI 4096 (fun _ => 0), cI 16384 (fun _ => 0), cI 16384 (fun _ => 0), cI 324 (fun _ => 0), cI 1296 (fun _ => 0)]) 552553 552553 Q
  refine e_astore_n d_law_15 rfl (by decide) (lv2 := [(2, mr 55), (1, mr 0), (0, msc)]) rfl ?_
  refine e_iconst (v := iv 1) d_law_16 rfl ?_
  refine y_newL (h := []) (P := 0) (p := 85) (mc := 552552) (ms := 552552) (N := 1) (l2 := HP0) rfl d_law_17 (by decide) (by decide) (by decide) rfl rfl ?_
  refine e_astore_n d_law_19 rfl (by decide) (lv2 := [(3, mr 85), (2, mr 55), (1, mr 0), (0, msc)]) rfl ?_
  refine e_iconst (v := iv 0) d_law_20 rfl ?_
  refine e_istore d_law_21 (by decide) (lv2 := LV0 0) rfl ?_
  have k := law_loop (g := g) (b0 := b0) (xs := xs) (fu := 20000) (R := 400) (B := 561000) (d := 12) (w := 472) hl (Nat.le_refl _) (by decide) (by decide) hL (Nat.le_refl _) (by decide) (Nat.le_refl _) hQ 600 0 rfl HP0 s0 Wd0 JR0
  rw [K0] at k
  exact k
