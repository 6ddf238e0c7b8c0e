/-! ROWS OVER THE STORE: numbers are integers -/
theorem iv_toInt {x : Int} (h : rng x) : (iv x).toInt = x := Int32.toInt_ofInt_of_le (by omega) (by omega)
theorem iv_lt {x y : Int} (hx : rng x) (hy : rng y) : iv x < iv y ↔ x < y := by rw [Int32.lt_iff_toInt_lt, iv_toInt hx, iv_toInt hy]
theorem iv_le {x y : Int} (hx : rng x) (hy : rng y) : iv x ≤ iv y ↔ x ≤ y := by rw [Int32.le_iff_toInt_le, iv_toInt hx, iv_toInt hy]
theorem iv_eq {x y : Int} (hx : rng x) (hy : rng y) : iv x = iv y ↔ x = y := by rw [← Int32.toInt_inj, iv_toInt hx, iv_toInt hy]
theorem iv_cl {x : Int} (h0 : 0 ≤ x) (h : x < 2147483648) : (iv x).toNatClampNeg = x.toNat := Int32.toNatClampNeg_ofInt_of_le (by omega) (by omega)
theorem iv_in {x : Int} {n : Nat} (h0 : 0 ≤ x) (h : x < n) (hn : n < 2147483648) : vp_in (iv x) n := by
  rw [vp_in_iff, iv_toInt ⟨by omega, by omega⟩]
  exact ⟨h0, h⟩
theorem iv_nat (n : Nat) : iv (n : Int) = nI n := Int32.ofInt_eq_ofNat
theorem iv_of (x : Int32) : x = iv x.toInt := (Int32.ofInt_toInt x).symm
theorem iv_rng (x : Int32) : rng x.toInt := ⟨by have := Int32.le_toInt x; omega, by have := Int32.toInt_lt x; omega⟩
theorem iv_and3 (x : Int) : iv x &&& iv 3 = iv (x % 4) := by
  apply Int32.toBitVec_inj.mp
  apply BitVec.eq_of_toNat_eq
  rw [Int32.toBitVec_and, BitVec.toNat_and]
  show (BitVec.ofInt 32 x).toNat &&& 3 = (BitVec.ofInt 32 (x % 4)).toNat
  rw [BitVec.toNat_ofInt, BitVec.toNat_ofInt]
  have h1 := Nat.and_two_pow_sub_one_eq_mod (x % (2 ^ 32 : Nat)).toNat 2
  rw [show 2 ^ 2 - 1 = 3 from rfl] at h1
  rw [h1]
  omega
theorem iv_shr2 {x : Int} (hx : rng x) : iv x >>> (iv 2 &&& 31) = iv (x / 4) := by
  apply Int32.toBitVec_inj.mp
  rw [Int32.toBitVec_shiftRight]
  have h2 : ((iv 2 &&& 31 : Int32).toBitVec.smod 32) = 2#32 := by decide
  rw [h2]
  apply BitVec.eq_of_toInt_eq
  rw [show (iv x).toBitVec.sshiftRight' 2#32 = (iv x).toBitVec.sshiftRight 2 from rfl, BitVec.toInt_sshiftRight, show (iv x).toBitVec.toInt = x from iv_toInt hx, show (iv (x / 4)).toBitVec.toInt = x / 4 from iv_toInt (by omega), Int.shiftRight_eq_div_pow]
  rfl
theorem z_iadd {g : MG} {sc : MS} {M : MM} {d w pc : Nat} {lv : ML} {st : List MV} {h : List MC} {mc ms : Nat} {Q : MO → List MC → Prop} {x y : Int} (hd : decode M.2.1 pc = .ok (.iadd, 1)) (k : Ev g sc M d w (pc + 1) lv (iI (x + y) :: st) h mc ms Q) : Ev g sc M d w pc lv (iI y :: iI x :: st) h mc ms Q := by
  refine e_iadd hd ?_
  rw [← Int32.ofInt_add]
  exact k
theorem z_isub {g : MG} {sc : MS} {M : MM} {d w pc : Nat} {lv : ML} {st : List MV} {h : List MC} {mc ms : Nat} {Q : MO → List MC → Prop} {x y : Int} (hd : decode M.2.1 pc = .ok (.isub, 1)) (k : Ev g sc M d w (pc + 1) lv (iI (x - y) :: st) h mc ms Q) : Ev g sc M d w pc lv (iI y :: iI x :: st) h mc ms Q := by
  refine e_isub hd ?_
  rw [← Int32.ofInt_sub]
  exact k
theorem z_imul {g : MG} {sc : MS} {M : MM} {d w pc : Nat} {lv : ML} {st : List MV} {h : List MC} {mc ms : Nat} {Q : MO → List MC → Prop} {x y : Int} (hd : decode M.2.1 pc = .ok (.imul, 1)) (k : Ev g sc M d w (pc + 1) lv (iI (x * y) :: st) h mc ms Q) : Ev g sc M d w pc lv (iI y :: iI x :: st) h mc ms Q := by
  refine e_imul hd ?_
  rw [← Int32.ofInt_mul]
  exact k
theorem z_iinc {g : MG} {sc : MS} {M : MM} {d w pc : Nat} {lv : ML} {st : List MV} {h : List MC} {mc ms : Nat} {Q : MO → List MC → Prop} {i : Nat} {n x : Int} (hd : decode M.2.1 pc = .ok (.iinc i n, 3)) (hg : m_get lv i = some (iI x)) (hn : i < M.2.2.1) {lv2 : ML} (hlv2 : m_put lv i (iI (x + n)) = lv2) (k : Ev g sc M d w (pc + 3) lv2 st h mc ms Q) : Ev g sc M d w pc lv st h mc ms Q := e_iinc hd hg (Int32.ofInt_add x n).symm hn hlv2 k
theorem z_if_eq {g : MG} {sc : MS} {M : MM} {d w pc : Nat} {lv : ML} {st : List MV} {h : List MC} {mc ms : Nat} {Q : MO → List MC → Prop} {x off : Int} {tgt : Nat} (hd : decode M.2.1 pc = .ok (.ifCond .eq off, 3)) (ht : (pc : Int) + off = (tgt : Int)) (hx : rng x) (kt : x = 0 → Ev g sc M d w tgt lv st h mc ms Q) (kf : ¬ x = 0 → Ev g sc M d w (pc + 3) lv st h mc ms Q) : Ev g sc M d w pc lv (iI x :: st) h mc ms Q := by
  have h0 : rng 0 := by omega
  have key := iv_eq hx h0
  refine e_if_eq hd ht (fun q => kt ?_) (fun q => kf ?_)
  · exact key.mp q
  · exact fun z => q (key.mpr z)
theorem z_icmp_eq {g : MG} {sc : MS} {M : MM} {d w pc : Nat} {lv : ML} {st : List MV} {h : List MC} {mc ms : Nat} {Q : MO → List MC → Prop} {x y off : Int} {tgt : Nat} (hd : decode M.2.1 pc = .ok (.if_icmp .eq off, 3)) (ht : (pc : Int) + off = (tgt : Int)) (hx : rng x) (hy : rng y) (kt : x = y → Ev g sc M d w tgt lv st h mc ms Q) (kf : ¬ x = y → Ev g sc M d w (pc + 3) lv st h mc ms Q) : Ev g sc M d w pc lv (iI y :: iI x :: st) h mc ms Q := by
  have key := iv_eq hx hy
  refine e_icmp_eq hd ht (fun q => kt ?_) (fun q => kf ?_)
  · exact key.mp q
  · exact fun z => q (key.mpr z)
theorem z_if_ne {g : MG} {sc : MS} {M : MM} {d w pc : Nat} {lv : ML} {st : List MV} {h : List MC} {mc ms : Nat} {Q : MO → List MC → Prop} {x off : Int} {tgt : Nat} (hd : decode M.2.1 pc = .ok (.ifCond .ne off, 3)) (ht : (pc : Int) + off = (tgt : Int)) (hx : rng x) (kt : ¬ x = 0 → Ev g sc M d w tgt lv st h mc ms Q) (kf : x = 0 → Ev g sc M d w (pc + 3) lv st h mc ms Q) : Ev g sc M d w pc lv (iI x :: st) h mc ms Q := by
  have h0 : rng 0 := by omega
  have key := iv_eq hx h0
  refine e_if_ne hd ht (fun q => kt ?_) (fun q => kf ?_)
  · exact fun z => q (key.mpr z)
  · exact key.mp q
theorem z_icmp_ne {g : MG} {sc : MS} {M : MM} {d w pc : Nat} {lv : ML} {st : List MV} {h : List MC} {mc ms : Nat} {Q : MO → List MC → Prop} {x y off : Int} {tgt : Nat} (hd : decode M.2.1 pc = .ok (.if_icmp .ne off, 3)) (ht : (pc : Int) + off = (tgt : Int)) (hx : rng x) (hy : rng y) (kt : ¬ x = y → Ev g sc M d w tgt lv st h mc ms Q) (kf : x = y → Ev g sc M d w (pc + 3) lv st h mc ms Q) : Ev g sc M d w pc lv (iI y :: iI x :: st) h mc ms Q := by
  have key := iv_eq hx hy
  refine e_icmp_ne hd ht (fun q => kt ?_) (fun q => kf ?_)
  · exact fun z => q (key.mpr z)
  · exact key.mp q
theorem z_if_lt {g : MG} {sc : MS} {M : MM} {d w pc : Nat} {lv : ML} {st : List MV} {h : List MC} {mc ms : Nat} {Q : MO → List MC → Prop} {x off : Int} {tgt : Nat} (hd : decode M.2.1 pc = .ok (.ifCond .lt off, 3)) (ht : (pc : Int) + off = (tgt : Int)) (hx : rng x) (kt : x < 0 → Ev g sc M d w tgt lv st h mc ms Q) (kf : 0 ≤ x → Ev g sc M d w (pc + 3) lv st h mc ms Q) : Ev g sc M d w pc lv (iI x :: st) h mc ms Q := by
  have h0 : rng 0 := by omega
  have key := iv_lt hx h0
  refine e_if_lt hd ht (fun q => kt ?_) (fun q => kf ?_)
  · exact key.mp q
  · have q2 : ¬ (x < 0) := fun z => q (key.mpr z)
    omega
theorem z_icmp_lt {g : MG} {sc : MS} {M : MM} {d w pc : Nat} {lv : ML} {st : List MV} {h : List MC} {mc ms : Nat} {Q : MO → List MC → Prop} {x y off : Int} {tgt : Nat} (hd : decode M.2.1 pc = .ok (.if_icmp .lt off, 3)) (ht : (pc : Int) + off = (tgt : Int)) (hx : rng x) (hy : rng y) (kt : x < y → Ev g sc M d w tgt lv st h mc ms Q) (kf : y ≤ x → Ev g sc M d w (pc + 3) lv st h mc ms Q) : Ev g sc M d w pc lv (iI y :: iI x :: st) h mc ms Q := by
  have key := iv_lt hx hy
  refine e_icmp_lt hd ht (fun q => kt ?_) (fun q => kf ?_)
  · exact key.mp q
  · have q2 : ¬ (x < y) := fun z => q (key.mpr z)
    omega
theorem z_if_ge {g : MG} {sc : MS} {M : MM} {d w pc : Nat} {lv : ML} {st : List MV} {h : List MC} {mc ms : Nat} {Q : MO → List MC → Prop} {x off : Int} {tgt : Nat} (hd : decode M.2.1 pc = .ok (.ifCond .ge off, 3)) (ht : (pc : Int) + off = (tgt : Int)) (hx : rng x) (kt : 0 ≤ x → Ev g sc M d w tgt lv st h mc ms Q) (kf : x < 0 → Ev g sc M d w (pc + 3) lv st h mc ms Q) : Ev g sc M d w pc lv (iI x :: st) h mc ms Q := by
  have h0 : rng 0 := by omega
  have key := iv_le h0 hx
  refine e_if_ge hd ht (fun q => kt ?_) (fun q => kf ?_)
  · exact key.mp q
  · have q2 : ¬ (0 ≤ x) := fun z => q (key.mpr z)
    omega
theorem z_icmp_ge {g : MG} {sc : MS} {M : MM} {d w pc : Nat} {lv : ML} {st : List MV} {h : List MC} {mc ms : Nat} {Q : MO → List MC → Prop} {x y off : Int} {tgt : Nat} (hd : decode M.2.1 pc = .ok (.if_icmp .ge off, 3)) (ht : (pc : Int) + off = (tgt : Int)) (hx : rng x) (hy : rng y) (kt : y ≤ x → Ev g sc M d w tgt lv st h mc ms Q) (kf : x < y → Ev g sc M d w (pc + 3) lv st h mc ms Q) : Ev g sc M d w pc lv (iI y :: iI x :: st) h mc ms Q := by
  have key := iv_le hy hx
  refine e_icmp_ge hd ht (fun q => kt ?_) (fun q => kf ?_)
  · exact key.mp q
  · have q2 : ¬ (y ≤ x) := fun z => q (key.mpr z)
    omega
theorem z_if_gt {g : MG} {sc : MS} {M : MM} {d w pc : Nat} {lv : ML} {st : List MV} {h : List MC} {mc ms : Nat} {Q : MO → List MC → Prop} {x off : Int} {tgt : Nat} (hd : decode M.2.1 pc = .ok (.ifCond .gt off, 3)) (ht : (pc : Int) + off = (tgt : Int)) (hx : rng x) (kt : 0 < x → Ev g sc M d w tgt lv st h mc ms Q) (kf : x ≤ 0 → Ev g sc M d w (pc + 3) lv st h mc ms Q) : Ev g sc M d w pc lv (iI x :: st) h mc ms Q := by
  have h0 : rng 0 := by omega
  have key := iv_lt h0 hx
  refine e_if_gt hd ht (fun q => kt ?_) (fun q => kf ?_)
  · exact key.mp q
  · have q2 : ¬ (0 < x) := fun z => q (key.mpr z)
    omega
theorem z_icmp_gt {g : MG} {sc : MS} {M : MM} {d w pc : Nat} {lv : ML} {st : List MV} {h : List MC} {mc ms : Nat} {Q : MO → List MC → Prop} {x y off : Int} {tgt : Nat} (hd : decode M.2.1 pc = .ok (.if_icmp .gt off, 3)) (ht : (pc : Int) + off = (tgt : Int)) (hx : rng x) (hy : rng y) (kt : y < x → Ev g sc M d w tgt lv st h mc ms Q) (kf : x ≤ y → Ev g sc M d w (pc + 3) lv st h mc ms Q) : Ev g sc M d w pc lv (iI y :: iI x :: st) h mc ms Q := by
  have key := iv_lt hy hx
  refine e_icmp_gt hd ht (fun q => kt ?_) (fun q => kf ?_)
  · exact key.mp q
  · have q2 : ¬ (y < x) := fun z => q (key.mpr z)
    omega
theorem z_if_le {g : MG} {sc : MS} {M : MM} {d w pc : Nat} {lv : ML} {st : List MV} {h : List MC} {mc ms : Nat} {Q : MO → List MC → Prop} {x off : Int} {tgt : Nat} (hd : decode M.2.1 pc = .ok (.ifCond .le off, 3)) (ht : (pc : Int) + off = (tgt : Int)) (hx : rng x) (kt : x ≤ 0 → Ev g sc M d w tgt lv st h mc ms Q) (kf : 0 < x → Ev g sc M d w (pc + 3) lv st h mc ms Q) : Ev g sc M d w pc lv (iI x :: st) h mc ms Q := by
  have h0 : rng 0 := by omega
  have key := iv_le hx h0
  refine e_if_le hd ht (fun q => kt ?_) (fun q => kf ?_)
  · exact key.mp q
  · have q2 : ¬ (x ≤ 0) := fun z => q (key.mpr z)
    omega
theorem z_icmp_le {g : MG} {sc : MS} {M : MM} {d w pc : Nat} {lv : ML} {st : List MV} {h : List MC} {mc ms : Nat} {Q : MO → List MC → Prop} {x y off : Int} {tgt : Nat} (hd : decode M.2.1 pc = .ok (.if_icmp .le off, 3)) (ht : (pc : Int) + off = (tgt : Int)) (hx : rng x) (hy : rng y) (kt : x ≤ y → Ev g sc M d w tgt lv st h mc ms Q) (kf : y < x → Ev g sc M d w (pc + 3) lv st h mc ms Q) : Ev g sc M d w pc lv (iI y :: iI x :: st) h mc ms Q := by
  have key := iv_le hx hy
  refine e_icmp_le hd ht (fun q => kt ?_) (fun q => kf ?_)
  · exact key.mp q
  · have q2 : ¬ (x ≤ y) := fun z => q (key.mpr z)
    omega
theorem z_and3 {g : MG} {sc : MS} {M : MM} {d w pc : Nat} {lv : ML} {st : List MV} {h : List MC} {mc ms : Nat} {Q : MO → List MC → Prop} {x : Int} (hd : decode M.2.1 pc = .ok (.iand, 1)) (k : Ev g sc M d w (pc + 1) lv (iI (x % 4) :: st) h mc ms Q) : Ev g sc M d w pc lv (iI 3 :: iI x :: st) h mc ms Q := by
  refine e_iand hd ?_
  rw [iv_and3]
  exact k
theorem z_shr2 {g : MG} {sc : MS} {M : MM} {d w pc : Nat} {lv : ML} {st : List MV} {h : List MC} {mc ms : Nat} {Q : MO → List MC → Prop} {x : Int} (hd : decode M.2.1 pc = .ok (.ishr, 1)) (hx : rng x) (k : Ev g sc M d w (pc + 1) lv (iI (x / 4) :: st) h mc ms Q) : Ev g sc M d w pc lv (iI 2 :: iI x :: st) h mc ms Q := by
  refine e_ishr hd ?_
  rw [iv_shr2 hx]
  exact k
theorem z_gi {g : MG} {sc : MS} {M : MM} {d w pc : Nat} {lv : ML} {st : List MV} {h : List MC} {mc ms : Nat} {Q : MO → List MC → Prop} {ly : LY} {σ : SS} {i ci k p : Nat} {l : List (Option (Option Nat))} (hd : decode M.2.1 pc = .ok (.getfield i, 3)) (hf : m_fl M.1.cls i ci k) (hR : Rep ly h σ) (hp : ly p = some (.inr (.inr (.inl (ci, l))))) (hl : l[k]? = some none) (kk : Ev g sc M d w (pc + 3) lv (iI (σ.1 p k) :: st) h mc ms Q) : Ev g sc M d w pc lv (mr p :: st) h mc ms Q := by
  refine e_getfield hd hf (hR.at p _ hp) ?_ kk
  rw [s_f_at, hl, Nat.zero_add]
  rfl
theorem z_gr {g : MG} {sc : MS} {M : MM} {d w pc : Nat} {lv : ML} {st : List MV} {h : List MC} {mc ms : Nat} {Q : MO → List MC → Prop} {ly : LY} {σ : SS} {i ci k p : Nat} {r : Option Nat} {l : List (Option (Option Nat))} (hd : decode M.2.1 pc = .ok (.getfield i, 3)) (hf : m_fl M.1.cls i ci k) (hR : Rep ly h σ) (hp : ly p = some (.inr (.inr (.inl (ci, l))))) (hl : l[k]? = some (some r)) (kk : Ev g sc M d w (pc + 3) lv (.inr (.inr (.inl r)) :: st) h mc ms Q) : Ev g sc M d w pc lv (mr p :: st) h mc ms Q := by
  refine e_getfield hd hf (hR.at p _ hp) ?_ kk
  rw [s_f_at, hl]
  rfl
theorem z_pi {g : MG} {sc : MS} {M : MM} {d w pc : Nat} {lv : ML} {st : List MV} {h : List MC} {mc ms : Nat} {Q : MO → List MC → Prop} {ly : LY} {σ : SS} {i ci k p : Nat} {v : Int} {l : List (Option (Option Nat))} (hd : decode M.2.1 pc = .ok (.putfield i, 3)) (hf : m_fp M.1.cls i ci k .int false) (hR : Rep ly h σ) (hp : ly p = some (.inr (.inr (.inl (ci, l))))) (hl : l[k]? = some none) (hv : rng v) (kk : ∀ h : List MC, Rep ly h (sF σ p k v) → Ev g sc M d w (pc + 3) lv st h mc ms Q) : Ev g sc M d w pc lv (iI v :: mr p :: st) h mc ms Q := by
  refine e_putfield hd hf (hR.at p _ hp) ?_ (m_fits_i _) rfl (kk _ ?_)
  · rw [s_f_len]
    exact (List.getElem?_eq_some_iff.mp hl).1
  · have h9 := hR.setF (k := k) hp hv
    have e9 : s_c (sF σ p k v) p (.inr (.inr (.inl (ci, l)))) = cO ci ((s_f σ p 0 l).set k (iI v)) := by
      rw [s_f_set σ p v l 0 k hl, Nat.zero_add]
      rfl
    rw [e9] at h9
    exact h9
theorem z_ald {g : MG} {sc : MS} {M : MM} {d w pc : Nat} {lv : ML} {st : List MV} {h : List MC} {mc ms : Nat} {Q : MO → List MC → Prop} {ly : LY} {σ : SS} {p n id : Nat} {i : Int} (hd : decode M.2.1 pc = .ok (.iaload, 1)) (hR : Rep ly h σ) (hp : ly p = some (.inl (0, n, id))) (h0 : 0 ≤ i) (h1 : i < n) (hn : n < 2147483648) (kk : Ev g sc M d w (pc + 1) lv (iI (σ.2.1 id i) :: st) h mc ms Q) : Ev g sc M d w pc lv (iI i :: mr p :: st) h mc ms Q := by
  refine e_iaload hd (hR.at p _ hp) (iv_in h0 h1 hn) ?_
  rw [iv_cl h0 (by omega), Int.toNat_of_nonneg h0]
  exact kk
theorem z_bld {g : MG} {sc : MS} {M : MM} {d w pc : Nat} {lv : ML} {st : List MV} {h : List MC} {mc ms : Nat} {Q : MO → List MC → Prop} {ly : LY} {σ : SS} {p n id : Nat} {i : Int} (hd : decode M.2.1 pc = .ok (.baload, 1)) (hR : Rep ly h σ) (hp : ly p = some (.inl (1, n, id))) (h0 : 0 ≤ i) (h1 : i < n) (hn : n < 2147483648) (kk : Ev g sc M d w (pc + 1) lv (iI (σ.2.1 id i) :: st) h mc ms Q) : Ev g sc M d w pc lv (iI i :: mr p :: st) h mc ms Q := by
  refine e_baload hd (hR.at p _ hp) (iv_in h0 h1 hn) ?_
  rw [iv_cl h0 (by omega), Int.toNat_of_nonneg h0]
  exact kk
theorem s_upd {σ : SS} {p : Nat} {i v : Int} (h0 : 0 ≤ i) (h1 : i < 2147483648) : upd (fun j : Nat => iv (σ.2.1 p j)) (iv i).toNatClampNeg (iv v) = fun j : Nat => iv ((sA σ p i v).2.1 p j) := by
  rw [iv_cl h0 h1]
  funext j
  unfold upd sA
  by_cases hj : j = i.toNat
  · subst hj
    simp [Int.toNat_of_nonneg h0]
  · have h2 : ¬ (j : Int) = i := by omega
    simp [hj, h2]
theorem z_ast {g : MG} {sc : MS} {M : MM} {d w pc : Nat} {lv : ML} {st : List MV} {h : List MC} {mc ms : Nat} {Q : MO → List MC → Prop} {ly : LY} {σ : SS} {p n id : Nat} {i v : Int} (hd : decode M.2.1 pc = .ok (.iastore, 1)) (hR : Rep ly h σ) (hp : ly p = some (.inl (0, n, id))) (h0 : 0 ≤ i) (h1 : i < n) (hn : n < 2147483648) (hv : rng v) (kk : ∀ h : List MC, Rep ly h (sA σ id i v) → Ev g sc M d w (pc + 1) lv st h mc ms Q) : Ev g sc M d w pc lv (iI v :: iI i :: mr p :: st) h mc ms Q := by
  refine e_iastore hd (hR.at p _ hp) (iv_in h0 h1 hn) (kk _ ?_)
  rw [s_upd h0 (by omega)]
  exact hR.setA hp hv
theorem z_bst {g : MG} {sc : MS} {M : MM} {d w pc : Nat} {lv : ML} {st : List MV} {h : List MC} {mc ms : Nat} {Q : MO → List MC → Prop} {ly : LY} {σ : SS} {p n id : Nat} {i v : Int} (hd : decode M.2.1 pc = .ok (.bastore, 1)) (hR : Rep ly h σ) (hp : ly p = some (.inl (1, n, id))) (h0 : 0 ≤ i) (h1 : i < n) (hn : n < 2147483648) (hv : v = 0 ∨ v = 1) (kk : ∀ h : List MC, Rep ly h (sA σ id i v) → Ev g sc M d w (pc + 1) lv st h mc ms Q) : Ev g sc M d w pc lv (iI v :: iI i :: mr p :: st) h mc ms Q := by
  refine e_bastore hd (hR.at p _ hp) (iv_in h0 h1 hn) (by rcases hv with rfl | rfl <;> decide) (kk _ ?_)
  rw [s_upd h0 (by omega)]
  exact hR.setA hp (by omega)
theorem z_len {g : MG} {sc : MS} {M : MM} {d w pc : Nat} {lv : ML} {st : List MV} {h : List MC} {mc ms : Nat} {Q : MO → List MC → Prop} {ly : LY} {σ : SS} {p n id : Nat} (hd : decode M.2.1 pc = .ok (.arraylength, 1)) (hR : Rep ly h σ) (hp : ly p = some (.inl (0, n, id))) (kk : Ev g sc M d w (pc + 1) lv (iI (n : Int) :: st) h mc ms Q) : Ev g sc M d w pc lv (mr p :: st) h mc ms Q := by
  refine e_alenI hd (hR.at p _ hp) ?_
  rw [← Int32.ofInt_eq_ofNat]
  exact kk
theorem z_iret {g : MG} {sc : MS} {M : MM} {d w pc : Nat} {lv : ML} {h : List MC} {mc ms : Nat} {Q : MO → List MC → Prop} {x : Int} (hd : decode M.2.1 pc = .ok (.ireturn, 1)) (hret : M.2.2.2.1 = some .int) (kk : Q (.inl (some (iI x))) h) : Ev g sc M d w pc lv [iI x] h mc ms Q := e_ireturn hd hret rfl kk
theorem z_zret {g : MG} {sc : MS} {M : MM} {d w pc : Nat} {lv : ML} {h : List MC} {mc ms : Nat} {Q : MO → List MC → Prop} {x : Int} (hd : decode M.2.1 pc = .ok (.ireturn, 1)) (hret : M.2.2.2.1 = some .boolean) (hx : x = 0 ∨ x = 1) (kk : Q (.inl (some (iI x))) h) : Ev g sc M d w pc lv [iI x] h mc ms Q := e_ireturn hd hret (by rcases hx with rfl | rfl <;> decide) kk
/-! CONTRACTS AND CALLS -/
/-- a method's contract: F frames, L words of locals; its answer and heap have P, or it throws with X -/
def Ct (g : MG) (N : MM) (F L : Nat) (av : List MV) (h : List MC) (mc ms : Nat) (P : Option MV → List MC → Prop) (X : String → List MC → Prop) : Prop :=
  ∀ (d w : Nat) (Q : MO → List MC → Prop), F ≤ d → L ≤ w → (∀ r h9, P r h9 → Q (.inl r) h9) → (∀ E h9, X E h9 → Q (.inr E) h9) → Ev g none N d w 0 (m_args 0 av) [] h mc ms Q
abbrev noX : String → List MC → Prop := fun _ _ => False
theorem Ev.room {g : MG} {sc : MS} {M : MM} {d w pc : Nat} {lv : ML} {st : List MV} {h : List MC} {mc ms mc2 ms2 : Nat} {Q : MO → List MC → Prop} (h1 : mc2 ≤ mc) (h2 : ms2 ≤ ms) (k : Ev g sc M d w pc lv st h mc2 ms2 Q) : Ev g sc M d w pc lv st h mc ms Q := by
  intro p e R s m args below meth c A al0 H locs cells slots CT ST ls ws LV VS hF hSt hsc hR g1 g2 g3 g4 hA hK hP hD hS hW hal hls hlv hst
  exact k p e R s m args below meth c A al0 H locs cells slots CT ST ls ws LV VS hF hSt hsc hR (by omega) (by omega) g3 g4 hA hK hP hD hS hW hal hls hlv hst
theorem z_invV {g : MG} {sc : MS} {M N : MM} {F L d w pc : Nat} {lv : ML} {st' : List MV} {h : List MC} {mc ms mc1 ms1 mc2 ms2 : Nat} {Q : MO → List MC → Prop} {P : Option MV → List MC → Prop} {X : String → List MC → Prop} {i n r ci : Nat} {av : List MV} {fs : List MV} {T : u_T} {NN : Nat} (hd : decode M.2.1 pc = .ok (.invokevirtual i, 3)) (hN : m_me N n) (hl : m_lV M.1.cls i N) (hC : Ct g N F L (mr r :: av) h mc1 ms1 P X) {st : List MV} (hst0 : st = av.reverse ++ mr r :: st') (hn : av.length = n) (hsl : ((mr r :: av).map m_cat).sum ≤ N.2.2.1) (hns : av.all m_nsc = true) (h8 : (st'.map m_cat).sum ≤ 8) (hd2 : F + 1 ≤ d) (hw2 : 19 + N.2.2.1 + L ≤ w) (ho : h[r]? = some (cO ci fs)) (hci : m_cl[ci]? = some (N.1.cls, T, NN)) (hmc : mc1 + mc2 ≤ mc) (hms : ms1 + ms2 ≤ ms) (kr : ∀ (r : Option MV) (h9 : List MC), P r h9 → Ev g sc M d w (pc + 3) lv (r.toList ++ st') h9 mc2 ms2 Q) (kx : ∀ (E : String) (h9 : List MC), X E h9 → Ex g sc M d w pc lv h9 mc2 ms2 Q E) : Ev g sc M d w pc lv st h mc ms Q :=
  Ev.room hmc hms <| e_invV (Q9 := fun o h9 => match o with | .inl r => P r h9 | .inr E => X E h9) hd hN hl hst0 hn hsl hns h8 hd2 hw2 ho hci (hC F L _ (Nat.le_refl _) (Nat.le_refl _) (fun _ _ q => q) (fun _ _ q => q)) (fun r h9 q => kr r h9 q) (fun E h9 q => kx E h9 q)
theorem z_invS {g : MG} {sc : MS} {M N : MM} {F L d w pc : Nat} {lv : ML} {st' : List MV} {h : List MC} {mc ms mc1 ms1 mc2 ms2 : Nat} {Q : MO → List MC → Prop} {P : Option MV → List MC → Prop} {X : String → List MC → Prop} {i n : Nat} {av : List MV} (hd : decode M.2.1 pc = .ok (.invokestatic i, 3)) (hN : m_me N n) (hl : m_lS M.1.cls i N) (hC : Ct g N F L (av) h mc1 ms1 P X) {st : List MV} (hst0 : st = av.reverse ++ st') (hn : av.length = n) (hsl : ((av).map m_cat).sum ≤ N.2.2.1) (hns : av.all m_nsc = true) (h8 : (st'.map m_cat).sum ≤ 8) (hd2 : F + 1 ≤ d) (hw2 : 19 + N.2.2.1 + L ≤ w) (hmc : mc1 + mc2 ≤ mc) (hms : ms1 + ms2 ≤ ms) (kr : ∀ (r : Option MV) (h9 : List MC), P r h9 → Ev g sc M d w (pc + 3) lv (r.toList ++ st') h9 mc2 ms2 Q) (kx : ∀ (E : String) (h9 : List MC), X E h9 → Ex g sc M d w pc lv h9 mc2 ms2 Q E) : Ev g sc M d w pc lv st h mc ms Q :=
  Ev.room hmc hms <| e_invS (Q9 := fun o h9 => match o with | .inl r => P r h9 | .inr E => X E h9) hd hN hl hst0 hn hsl hns h8 hd2 hw2  (hC F L _ (Nat.le_refl _) (Nat.le_refl _) (fun _ _ q => q) (fun _ _ q => q)) (fun r h9 q => kr r h9 q) (fun E h9 q => kx E h9 q)
theorem z_invI {g : MG} {sc : MS} {M N : MM} {F L d w pc : Nat} {lv : ML} {st' : List MV} {h : List MC} {mc ms mc1 ms1 mc2 ms2 : Nat} {Q : MO → List MC → Prop} {P : Option MV → List MC → Prop} {X : String → List MC → Prop} {i n r : Nat} {av : List MV} {cc9 : MC} (hd : decode M.2.1 pc = .ok (.invokespecial i, 3)) (hN : m_me N n) (hl : m_lI M.1.cls i N) (hC : Ct g N F L (mr r :: av) h mc1 ms1 P X) {st : List MV} (hst0 : st = av.reverse ++ mr r :: st') (hn : av.length = n) (hsl : ((mr r :: av).map m_cat).sum ≤ N.2.2.1) (hns : av.all m_nsc = true) (h8 : (st'.map m_cat).sum ≤ 8) (hd2 : F + 1 ≤ d) (hw2 : 19 + N.2.2.1 + L ≤ w) (ho : h[r]? = some cc9) (hmc : mc1 + mc2 ≤ mc) (hms : ms1 + ms2 ≤ ms) (kr : ∀ (r : Option MV) (h9 : List MC), P r h9 → Ev g sc M d w (pc + 3) lv (r.toList ++ st') h9 mc2 ms2 Q) (kx : ∀ (E : String) (h9 : List MC), X E h9 → Ex g sc M d w pc lv h9 mc2 ms2 Q E) : Ev g sc M d w pc lv st h mc ms Q :=
  Ev.room hmc hms <| e_invI (Q9 := fun o h9 => match o with | .inl r => P r h9 | .inr E => X E h9) hd hN hl hst0 hn hsl hns h8 hd2 hw2 ho (hC F L _ (Nat.le_refl _) (Nat.le_refl _) (fun _ _ q => q) (fun _ _ q => q)) (fun r h9 q => kr r h9 q) (fun E h9 q => kx E h9 q)
