/-! THE SMALLEST METHODS, by hand: reading and writing past the ends, the arrays that grow, throws -/
theorem c_H_at {g : MG} {ly : LY} {h : List MC} {σ : SS} {p n id : Nat} {i : Int} (hR : Rep ly h σ) (hp : ly p = some (LI n id)) (hn : n < 2147483648) (hi : rng i) : Ct g M_H_at 0 0 [mr p, iI i] h 0 0 (fun r h9 => r = some (iI (gA σ id n i)) ∧ h9 = h) noX := by
  intro d w Q hF hL hQ hX
  show Ev g none M_H_at d w 0 [(0, mr p), (1, iI i)] [] h 0 0 Q
  refine e_iload_n d_H_at_0 rfl rfl ?_
  refine z_if_lt (tgt := 16) d_H_at_1 (by decide) hi (fun c1 => ?_) (fun c1 => ?_)
  · refine e_iconst (v := iv 0) d_H_at_16 rfl ?_
    exact z_iret d_H_at_17 rfl (hQ _ _ ⟨by unfold gA; rw [if_neg (by omega)], rfl⟩)
  · refine e_iload_n d_H_at_4 rfl rfl ?_
    refine e_aload_n d_H_at_5 rfl rfl ?_
    refine z_len d_H_at_6 hR hp ?_
    refine z_icmp_ge (tgt := 16) d_H_at_7 (by decide) hi (by omega) (fun c2 => ?_) (fun c2 => ?_)
    · refine e_iconst (v := iv 0) d_H_at_16 rfl ?_
      exact z_iret d_H_at_17 rfl (hQ _ _ ⟨by unfold gA; rw [if_neg (by omega)], rfl⟩)
    · refine e_aload_n d_H_at_10 rfl rfl ?_
      refine e_iload_n d_H_at_11 rfl rfl ?_
      refine z_ald d_H_at_12 hR hp c1 c2 hn ?_
      refine e_goto (tgt := 17) d_H_at_13 (by decide) ?_
      exact z_iret d_H_at_17 rfl (hQ _ _ ⟨by unfold gA; rw [if_pos (by omega)], rfl⟩)
theorem c_H_set {g : MG} {ly : LY} {h : List MC} {σ : SS} {p n id : Nat} {i v : Int} (hR : Rep ly h σ) (hp : ly p = some (LI n id)) (hn : n < 2147483648) (hi : rng i) (hv : rng v) : Ct g M_H_set 0 0 [mr p, iI i, iI v] h 0 0 (fun r h9 => r = none ∧ Rep ly h9 (gS σ id n i v)) noX := by
  intro d w Q hF hL hQ hX
  show Ev g none M_H_set d w 0 [(0, mr p), (1, iI i), (2, iI v)] [] h 0 0 Q
  refine e_iload_n d_H_set_0 rfl rfl ?_
  refine z_if_lt (tgt := 14) d_H_set_1 (by decide) hi (fun c1 => ?_) (fun c1 => ?_)
  · refine e_return d_H_set_14 rfl (hQ _ _ ⟨rfl, ?_⟩)
    unfold gS; rw [if_neg (by omega)]; exact hR
  · refine e_iload_n d_H_set_4 rfl rfl ?_
    refine e_aload_n d_H_set_5 rfl rfl ?_
    refine z_len d_H_set_6 hR hp ?_
    refine z_icmp_ge (tgt := 14) d_H_set_7 (by decide) hi (by omega) (fun c2 => ?_) (fun c2 => ?_)
    · refine e_return d_H_set_14 rfl (hQ _ _ ⟨rfl, ?_⟩)
      unfold gS; rw [if_neg (by omega)]; exact hR
    · refine e_aload_n d_H_set_10 rfl rfl ?_
      refine e_iload_n d_H_set_11 rfl rfl ?_
      refine e_iload_n d_H_set_12 rfl rfl ?_
      refine z_ast d_H_set_13 hR hp c1 c2 hn hv (fun h9 hR9 => ?_)
      refine e_return d_H_set_14 rfl (hQ _ _ ⟨rfl, ?_⟩)
      unfold gS; rw [if_pos (by omega)]; exact hR9
theorem w_at {g : MG} {sc : MS} {M : MM} {d w : Nat} {Q : MO → List MC → Prop} {α : Type} {G : α → Prop} {C : α → List MC → Nat → Nat → Prop} {pc : Nat} {lv : ML} {st : List MV} {h : List MC} {σ : SS} {m : Option (α × SS)} {j p n : Nat} {i : Int} (hd : decode M.2.1 pc = .ok (.invokestatic j, 3)) (hl : m_lS M.1.cls j M_H_at) (hW : Wd h σ) (hp : ia p n) (hi : rng i) (h8 : (st.map m_cat).sum ≤ 8) (hd2 : 1 ≤ d) (hw2 : 21 ≤ w) (kk : Ew g sc M d w Q G C (pc + 3) lv (iI (gA σ p n i) :: st) h σ m) : Ew g sc M d w Q G C pc lv (iI i :: mr p :: st) h σ m := by
  refine w_step (fun mc ms q => ?_) kk
  obtain ⟨-, a, b, c, hg, hR⟩ := hW
  refine z_invS (mc1 := 0) (ms1 := 0) (mc2 := mc) (ms2 := ms) (st' := st) (av := [mr p, iI i]) hd me_H_at hl (c_H_at hR (hp.2 a b c _ _ hg) hp.1 hi) rfl rfl (Nat.le_of_ble_eq_true rfl) rfl h8 hd2 hw2 (by omega) (by omega) (fun r h9 hP => ?_) (fun E h9 hE => hE.elim)
  obtain ⟨rfl, rfl⟩ := hP
  exact q
theorem gS_K {σ : SS} {p n : Nat} {i v : Int} : K (gS σ p n i v) = K σ := by unfold gS; split <;> rfl
theorem gS_f {σ : SS} {p n : Nat} {i v : Int} : (gS σ p n i v).1 = σ.1 := by unfold gS; split <;> rfl
theorem Wd.gs {h : List MC} {σ : SS} {p n : Nat} {i v : Int} (hW : Wd h σ) (hp : ia p n) (hv : rng v) : ∃ h1, Wd h1 (gS σ p n i v) := by
  unfold gS
  split
  · exact hW.setA hp hv
  · exact ⟨h, hW⟩
theorem w_set {g : MG} {sc : MS} {M : MM} {d w : Nat} {Q : MO → List MC → Prop} {α : Type} {G : α → Prop} {C : α → List MC → Nat → Nat → Prop} {pc : Nat} {lv : ML} {st : List MV} {h : List MC} {σ : SS} {m : SS → Option (α × SS)} {j p n : Nat} {i v : Int} (hd : decode M.2.1 pc = .ok (.invokestatic j, 3)) (hl : m_lS M.1.cls j M_H_set) (hW : Wd h σ) (hp : ia p n) (hi : rng i) (hv : rng v) (h8 : (st.map m_cat).sum ≤ 8) (hd2 : 1 ≤ d) (hw2 : 22 ≤ w) (kk : ∀ (h1 : List MC) (σ1 : SS), σ1 = gS σ p n i v → Wd h1 σ1 → Ew g sc M d w Q G C (pc + 3) lv st h1 σ1 (m σ1)) : Ew g sc M d w Q G C pc lv (iI v :: iI i :: mr p :: st) h σ (lb (gS σ p n i v) m) := by
  refine w_stepS gS_K (fun mc ms q => ?_) (hW.gs hp hv) kk
  obtain ⟨hn, a, b, c, hg, hR⟩ := hW
  refine z_invS (mc1 := 0) (ms1 := 0) (mc2 := mc) (ms2 := ms) (st' := st) (av := [mr p, iI i, iI v]) hd me_H_set hl (c_H_set hR (hp.2 a b c _ _ hg) hp.1 hi hv) rfl rfl (Nat.le_of_ble_eq_true rfl) rfl h8 hd2 hw2 (by omega) (by omega) (fun r h9 hP => ?_) (fun E h9 hE => hE.elim)
  obtain ⟨rfl, hP⟩ := hP
  exact q h9 ⟨by rw [gS_f]; exact hn, a, b, c, hg, by rw [gS_f]; exact hP⟩
/-! codeOf, sortOf, numberOf, and the reference's sort -/
theorem w_codeOf {g : MG} {sc : MS} {M : MM} {d w : Nat} {Q : MO → List MC → Prop} {α : Type} {G : α → Prop} {C : α → List MC → Nat → Nat → Prop} {pc : Nat} {lv : ML} {st : List MV} {h : List MC} {σ : SS} {m : Option (α × SS)} {j : Nat} {x y : Int} (hd : decode M.2.1 pc = .ok (.invokestatic j, 3)) (hl : m_lS M.1.cls j M_H_codeOf) (h8 : (st.map m_cat).sum ≤ 8) (hd2 : 1 ≤ d) (hw2 : 21 ≤ w) (kk : rng (4 * y + x) → Ew g sc M d w Q G C (pc + 3) lv (iI (4 * y + x) :: st) h σ m) : Ew g sc M d w Q G C pc lv (iI y :: iI x :: st) h σ (ck (rng (4 * y + x)) m) := by
  refine w_ck (fun c => w_step (fun mc ms q => ?_) (kk c))
  refine z_invS (N := M_H_codeOf) (F := 0) (L := 0) (P := fun r h9 => r = some (iI (4 * y + x)) ∧ h9 = h) (X := noX) (mc1 := 0) (ms1 := 0) (mc2 := mc) (ms2 := ms) (st' := st) (av := [iI x, iI y]) hd me_H_codeOf hl ?_ rfl rfl (Nat.le_of_ble_eq_true rfl) rfl h8 hd2 hw2 (by omega) (by omega) (fun r h9 hP => ?_) (fun E h9 hE => hE.elim)
  · intro d w Q hF hL hQ hX
    show Ev g none M_H_codeOf d w 0 [(0, iI x), (1, iI y)] [] h 0 0 Q
    refine e_iconst (v := iv 4) d_H_codeOf_0 rfl ?_
    refine e_iload_n d_H_codeOf_1 rfl rfl ?_
    refine z_imul d_H_codeOf_2 ?_
    refine e_iload_n d_H_codeOf_3 rfl rfl ?_
    refine z_iadd d_H_codeOf_4 ?_
    exact z_iret d_H_codeOf_5 rfl (hQ _ _ ⟨rfl, rfl⟩)
  · obtain ⟨rfl, rfl⟩ := hP
    exact q
theorem w_H_sortOf {g : MG} {sc : MS} {M : MM} {d w : Nat} {Q : MO → List MC → Prop} {α : Type} {G : α → Prop} {C : α → List MC → Nat → Nat → Prop} {pc : Nat} {lv : ML} {st : List MV} {h : List MC} {σ : SS} {m : Option (α × SS)} {j : Nat} {x : Int} (hd : decode M.2.1 pc = .ok (.invokestatic j, 3)) (hl : m_lS M.1.cls j M_H_sortOf) (h8 : (st.map m_cat).sum ≤ 8) (hd2 : 1 ≤ d) (hw2 : 20 ≤ w) (kk : Ew g sc M d w Q G C (pc + 3) lv (iI (x % 4) :: st) h σ m) : Ew g sc M d w Q G C pc lv (iI x :: st) h σ m := by
  refine w_step (fun mc ms q => ?_) kk
  refine z_invS (N := M_H_sortOf) (F := 0) (L := 0) (P := fun r h9 => r = some (iI (x % 4)) ∧ h9 = h) (X := noX) (mc1 := 0) (ms1 := 0) (mc2 := mc) (ms2 := ms) (st' := st) (av := [iI x]) hd me_H_sortOf hl ?_ rfl rfl (Nat.le_of_ble_eq_true rfl) rfl h8 hd2 hw2 (by omega) (by omega) (fun r h9 hP => ?_) (fun E h9 hE => hE.elim)
  · intro d w Q hF hL hQ hX
    show Ev g none M_H_sortOf d w 0 [(0, iI x)] [] h 0 0 Q
    refine e_iload_n d_H_sortOf_0 rfl rfl ?_
    refine e_iconst (v := iv 3) d_H_sortOf_1 rfl ?_
    refine z_and3 d_H_sortOf_2 ?_
    exact z_iret d_H_sortOf_3 rfl (hQ _ _ ⟨rfl, rfl⟩)
  · obtain ⟨rfl, rfl⟩ := hP
    exact q
theorem w_D_sort {g : MG} {sc : MS} {M : MM} {d w : Nat} {Q : MO → List MC → Prop} {α : Type} {G : α → Prop} {C : α → List MC → Nat → Nat → Prop} {pc : Nat} {lv : ML} {st : List MV} {h : List MC} {σ : SS} {m : Option (α × SS)} {j : Nat} {x : Int} (hd : decode M.2.1 pc = .ok (.invokestatic j, 3)) (hl : m_lS M.1.cls j M_D_sort) (h8 : (st.map m_cat).sum ≤ 8) (hd2 : 1 ≤ d) (hw2 : 20 ≤ w) (kk : Ew g sc M d w Q G C (pc + 3) lv (iI (x % 4) :: st) h σ m) : Ew g sc M d w Q G C pc lv (iI x :: st) h σ m := by
  refine w_step (fun mc ms q => ?_) kk
  refine z_invS (N := M_D_sort) (F := 0) (L := 0) (P := fun r h9 => r = some (iI (x % 4)) ∧ h9 = h) (X := noX) (mc1 := 0) (ms1 := 0) (mc2 := mc) (ms2 := ms) (st' := st) (av := [iI x]) hd me_D_sort hl ?_ rfl rfl (Nat.le_of_ble_eq_true rfl) rfl h8 hd2 hw2 (by omega) (by omega) (fun r h9 hP => ?_) (fun E h9 hE => hE.elim)
  · intro d w Q hF hL hQ hX
    show Ev g none M_D_sort d w 0 [(0, iI x)] [] h 0 0 Q
    refine e_iload_n d_D_sort_0 rfl rfl ?_
    refine e_iconst (v := iv 3) d_D_sort_1 rfl ?_
    refine z_and3 d_D_sort_2 ?_
    exact z_iret d_D_sort_3 rfl (hQ _ _ ⟨rfl, rfl⟩)
  · obtain ⟨rfl, rfl⟩ := hP
    exact q
theorem w_H_numberOf {g : MG} {sc : MS} {M : MM} {d w : Nat} {Q : MO → List MC → Prop} {α : Type} {G : α → Prop} {C : α → List MC → Nat → Nat → Prop} {pc : Nat} {lv : ML} {st : List MV} {h : List MC} {σ : SS} {m : Option (α × SS)} {j : Nat} {x : Int} (hd : decode M.2.1 pc = .ok (.invokestatic j, 3)) (hl : m_lS M.1.cls j M_H_numberOf) (hx : rng x) (h8 : (st.map m_cat).sum ≤ 8) (hd2 : 1 ≤ d) (hw2 : 20 ≤ w) (kk : Ew g sc M d w Q G C (pc + 3) lv (iI (x / 4) :: st) h σ m) : Ew g sc M d w Q G C pc lv (iI x :: st) h σ m := by
  refine w_step (fun mc ms q => ?_) kk
  refine z_invS (N := M_H_numberOf) (F := 0) (L := 0) (P := fun r h9 => r = some (iI (x / 4)) ∧ h9 = h) (X := noX) (mc1 := 0) (ms1 := 0) (mc2 := mc) (ms2 := ms) (st' := st) (av := [iI x]) hd me_H_numberOf hl ?_ rfl rfl (Nat.le_of_ble_eq_true rfl) rfl h8 hd2 hw2 (by omega) (by omega) (fun r h9 hP => ?_) (fun E h9 hE => hE.elim)
  · intro d w Q hF hL hQ hX
    show Ev g none M_H_numberOf d w 0 [(0, iI x)] [] h 0 0 Q
    refine e_iload_n d_H_numberOf_0 rfl rfl ?_
    refine e_iconst (v := iv 2) d_H_numberOf_1 rfl ?_
    refine z_shr2 d_H_numberOf_2 hx ?_
    exact z_iret d_H_numberOf_3 rfl (hQ _ _ ⟨rfl, rfl⟩)
  · obtain ⟨rfl, rfl⟩ := hP
    exact q
/-- Math.max -/
def mx (x y : Int) : Int := if x < y then y else x
theorem mx_rng {x y : Int} (hx : rng x) (hy : rng y) : rng (mx x y) := by unfold mx; split <;> assumption
theorem w_max {g : MG} {sc : MS} {M : MM} {d w : Nat} {Q : MO → List MC → Prop} {α : Type} {G : α → Prop} {C : α → List MC → Nat → Nat → Prop} {pc : Nat} {lv : ML} {st : List MV} {h : List MC} {σ : SS} {m : Option (α × SS)} {j : Nat} {x y : Int} (hd : decode M.2.1 pc = .ok (.invokestatic j, 3)) (hl : Cond.methodLink M.1.cls j Lib.Math.max.name ∈ m_Ts) (hx : rng x) (hy : rng y) (h8 : (st.map m_cat).sum ≤ 8) (hd2 : 1 ≤ d) (hw2 : 21 ≤ w) (kk : Ew g sc M d w Q G C (pc + 3) lv (iI (mx x y) :: st) h σ m) : Ew g sc M d w Q G C pc lv (iI y :: iI x :: st) h σ m := by
  refine w_step (fun mc ms q => e_mmax hd hl ms_max mi_Math mc_max h8 hd2 hw2 ?_) kk
  have e : (if iv x < iv y then iv y else iv x) = iv (mx x y) := by
    unfold mx
    by_cases c : x < y
    · rw [if_pos c, if_pos ((iv_lt hx hy).mpr c)]
    · rw [if_neg c, if_neg (fun z => c ((iv_lt hx hy).mp z))]
  rw [e]
  exact q
/-! THROWS: what was thrown is counted -/
theorem lyf_len {a b c n m p ci : Nat} {l : List (Option (Option Nat))} (h : lyf a b c n m p = some (LO ci l)) : l.length ≤ 99 := by
  unfold lyf at h
  split at h
  · cases h; exact Nat.le_of_ble_eq_true rfl
  · split at h
    · cases h; exact Nat.le_of_ble_eq_true rfl
    · split at h
      · cases h
      · split at h
        · cases h
        · split at h
          · cases h
          · have hp : p < 86 := by
              apply Decidable.byContradiction
              intro z
              unfold tb at h
              rw [List.getElem?_eq_none (by show 86 ≤ p; omega)] at h
              cases h
            have key : (List.range 86).all (fun p => match tb p with | some (.inr (.inr (.inl (_, l)))) => Nat.ble l.length 99 | _ => true) = true := by decide
            have h1 := List.all_eq_true.mp key p (List.mem_range.mpr hp)
            rw [h] at h1
            exact Nat.le_of_ble_eq_true h1
theorem s_f_lt {σ τ : SS} {p : Nat} : ∀ (l : List (Option (Option Nat))) (k : Nat), (∀ j, k ≤ j → j < k + l.length → σ.1 p j = τ.1 p j) → s_f σ p k l = s_f τ p k l := by
  intro l
  induction l with
  | nil => intro k _; rfl
  | cons a l ih =>
    intro k h
    have e1 := ih (k + 1) (fun j h1 h2 => h j (by omega) (by simp only [List.length_cons]; omega))
    cases a with
    | none => unfold s_f; rw [e1, h k (Nat.le_refl k) (by simp only [List.length_cons]; omega)]
    | some r => unfold s_f; rw [e1]
/-- the count is no field -/
theorem Rep.cnt {a b c n m : Nat} {h : List MC} {σ : SS} {p : Nat} {v : Int} (hR : Rep (lyf a b c n m) h σ) (hv : rng v) : Rep (lyf a b c n m) h (sF σ p 99 v) := by
  refine ⟨fun q c9 hq => ?_, ⟨sF_rng hR.2.1.1 hv, hR.2.1.2⟩, hR.2.2⟩
  rw [hR.at q c9 hq]
  rcases c9 with ⟨t, n, i⟩ | ⟨cj, n, f⟩ | ⟨cj, l⟩ | u
  · rfl
  · rfl
  · have h1 := lyf_len hq
    exact congrArg (fun z => some (cO cj z)) (s_f_lt l 0 (fun j _ h2 => (sF_other (fun z => by omega)).symm))
  · rfl
def thr (σ : SS) : SS := sF σ 0 99 (σ.1 0 99 + 1)
theorem Wd.thrw {h : List MC} {σ : SS} (hW : Wd h σ) (hv : rng (σ.1 0 99 + 1)) : Wd h (thr σ) := by
  obtain ⟨hn, a, b, c, hg, hR⟩ := hW
  have e1 : (thr σ).1 1 99 = σ.1 1 99 := sF_other (by decide)
  have e2 : (thr σ).1 51 99 = σ.1 51 99 := sF_other (by decide)
  have e3 : (thr σ).1 0 99 = σ.1 0 99 + 1 := sF_same _ _ _ _
  refine ⟨by rw [e1, e2, e3]; omega, a, b, c, hg, ?_⟩
  rw [e1, e2]
  exact hR.cnt hv
theorem w_throw {g : MG} {sc : MS} {M : MM} {d w : Nat} {Q : MO → List MC → Prop} {α : Type} {G : α → Prop} {C : α → List MC → Nat → Nat → Prop} {pc : Nat} {lv : ML} {st : List MV} {h : List MC} {σ : SS}  {a : α} {ik is ic : Nat} {cls text : String} {names : List String} (hl : g.1.stackTraces = false) (d0 : decode M.2.1 pc = .ok (.new ik, 3)) (d3 : decode M.2.1 (pc + 3) = .ok (.dup, 1)) (d4 : decode M.2.1 (pc + 4) = .ok (.ldc is, 2)) (d6 : decode M.2.1 (pc + 6) = .ok (.invokespecial ic, 3)) (d9 : decode M.2.1 (pc + 9) = .ok (.athrow, 1)) (hw : m_tw M.1.cls ik is ic cls text names) (hh : M.2.2.2.2 = []) (h8 : (st.map m_cat).sum ≤ 8) (hd6 : names.length + 4 ≤ d) (hw6 : 51 + 13 * (names.length + 1) ≤ w) (hW : Wd h σ) (ha : ∀ h' mc ms, C a h' mc ms → Q (.inr cls) h') (hG : G a) : Ew g sc M d w Q G C pc lv st h σ (ck (rng (σ.1 0 99 + 1)) (some (a, thr σ))) := by
  refine w_ck (fun z => ?_)
  intro a9 σ9 hm
  cases hm
  have hn := hW.1
  have e0 : K (thr σ) = K σ + 6 := by
    unfold K
    have e1 : (thr σ).1 1 99 = σ.1 1 99 := sF_other (by decide)
    have e2 : (thr σ).1 51 99 = σ.1 51 99 := sF_other (by decide)
    have e3 : (thr σ).1 0 99 = σ.1 0 99 + 1 := sF_same _ _ _ _
    rw [e1, e2, e3]
    omega
  exact ⟨⟨h, hW.thrw z⟩, by omega, hG, fun mc ms hc => e_throw hl d0 d3 d4 d6 d9 hw hh h8 hd6 hw6 (by omega) (by omega) (ha _ _ _ (hc h (hW.thrw z)))⟩
/-! THE ARRAYS THAT GROW -/
/-- Arrays.copyOf to a longer one -/
theorem c_copyOf {g : MG} {h : List MC} {r n0 N : Nat} {f : Nat → Int32} (ho : h[r]? = some (cI n0 f)) (h1 : n0 < N) (hN : N ≤ 1000000) : Ct g M_Ar_copyOf 1 26 [mr r, iI N] h 1 N (fun r9 h9 => r9 = some (mr h.length) ∧ h9 = h ++ [cI N (fun j => if j < n0 then f j else 0)]) noX := by
  intro d w Q hF hL hQ hX
  refine Ev.room (mc2 := 0 + 1) (ms2 := 0 + N) (by omega) (by omega) ?_
  show Ev g none M_Ar_copyOf d w 0 [(0, mr r), (1, iI N)] [] h (0 + 1) (0 + N) Q
  have hrN : rng (N : Int) := by omega
  have hlr : r < h.length := (List.getElem?_eq_some_iff.mp ho).1
  refine e_iload_n d_Ar_copyOf_0 rfl rfl ?_
  refine e_aload_n d_Ar_copyOf_1 rfl rfl ?_
  refine e_alenI d_Ar_copyOf_2 ho ?_
  rw [← Int32.ofInt_eq_ofNat]
  refine z_icmp_ne (tgt := 14) d_Ar_copyOf_3 (by decide) hrN (by omega) (fun c1 => ?_) (fun c1 => absurd c1 (by omega))
  refine e_iload_n d_Ar_copyOf_14 rfl rfl ?_
  refine e_newI d_Ar_copyOf_15 (fun z => ?_) ?_ hN ?_
  · have := (iv_lt hrN (by omega : rng 0)).mp z
    omega
  · rw [iv_cl (by omega) (by omega)]
    omega
  refine e_astore_n (lv2 := [(2, mr h.length), (0, mr r), (1, iI N)]) d_Ar_copyOf_17 rfl (by decide) rfl ?_
  refine e_aload_n d_Ar_copyOf_18 rfl rfl ?_
  refine e_iconst (v := iv 0) d_Ar_copyOf_19 rfl ?_
  refine e_aload_n d_Ar_copyOf_20 rfl rfl ?_
  refine e_iconst (v := iv 0) d_Ar_copyOf_21 rfl ?_
  refine e_aload_n d_Ar_copyOf_22 rfl rfl ?_
  refine e_alenI d_Ar_copyOf_23 (by rw [List.getElem?_append_left hlr]; exact ho) ?_
  rw [← Int32.ofInt_eq_ofNat]
  refine e_iload_n d_Ar_copyOf_24 rfl rfl ?_
  refine e_mmin d_Ar_copyOf_25 lm_Ar_304 ms_min mi_Math mc_min (Nat.le_of_ble_eq_true rfl) hF (Nat.le_trans (Nat.le_of_ble_eq_true rfl) hL) ?_
  rw [if_neg (fun z => by have := (iv_lt hrN (by omega : rng (n0 : Int))).mp z; omega)]
  refine e_copyi d_Ar_copyOf_28 ac_lk ac_nat ac_st ac_ini (r0 := r) (r1 := h.length) (n0 := n0) (n1 := N) (f := f) (f1 := fun _ => 0) (by rw [List.getElem?_append_left hlr]; exact ho) (by rw [List.getElem?_append_right (Nat.le_refl _), Nat.sub_self]; rfl) (by decide) (by decide) (fun z => ?_) ?_ ?_ (Nat.le_of_ble_eq_true rfl) hF hL ?_
  · have := (iv_lt (by omega : rng (n0 : Int)) (by omega : rng 0)).mp z
    omega
  · rw [iv_cl (by omega) (by omega), iv_cl (by omega) (by omega)]
    omega
  · rw [iv_cl (by omega) (by omega), iv_cl (by omega) (by omega)]
    omega
  refine e_aload_n d_Ar_copyOf_31 rfl rfl ?_
  refine e_areturn d_Ar_copyOf_32 rfl (Or.inr ⟨_, rfl⟩) (hQ _ _ ⟨rfl, ?_⟩)
  rw [List.set_append_right _ _ (Nat.le_refl _), Nat.sub_self]
  rw [iv_cl (by omega) (by omega), iv_cl (by omega) (by omega)]
  show h ++ [cI N _] = h ++ [cI N _]
  congr 3
  funext j
  unfold va_cpy
  by_cases c : j < n0
  · rw [if_pos (by omega), if_pos c]
    congr 1
    omega
  · rw [if_neg (by omega), if_neg c]
