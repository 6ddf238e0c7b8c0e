def l_D_write_18 (fu : Nat) (q : Nat) : Nat → Int → Int → SS → Option ((Unit) × SS)
  | 0, _, _, _ => none
  | n + 1, x4, x5, σ => if x5 < x4 then (ck (inb 16384 x5) (ck (inb 16384 x5) (lb (sA σ q x5 (σ.2.1 73 x5)) fun σ5 => ck (rng (x5 + 1)) (l_D_write_18 fu q n x4 (x5 + 1) σ5)))) else (some ((), σ))
def l_D_write_10 (fu : Nat) (q : Nat) : Nat → Int → Int → SS → Option ((Int) × SS)
  | 0, _, _, _ => none
  | n + 1, x3, x4, σ => if x4 < 0 then (some (x3, σ)) else (sq (l_D_write_18 fu q fu x4 0 σ) fun (z2 : Unit) σ3 => sq (f_D_again fu q x4 σ3) fun (a7 : Int) σ8 => l_D_write_10 fu q n x4 a7 σ8)
def f_D_write (fu : Nat) (q : Nat) (x2 : Int) (σ : SS) : Option (Int × SS) := sq (f_D_again fu q x2 σ) fun (a1 : Int) σ2 => sq (l_D_write_10 fu q fu x2 a1 σ2) fun (z6 : Int) σ7 => some (z6, σ7)
theorem w_D_write_18 {g : MG} {d w fu : Nat} {Q : MO → List MC → Prop} {q : Nat} (hF : 3 ≤ d) (hL : 78 ≤ w) (hq : ia q 16384) : ∀ (n : Nat) (x4 : Int) (x5 : Int) (σ : SS) (h : List MC), Wd h σ → rng x4 → rng x5 → Ew g none M_D_write d w Q gU (cJ g none M_D_write d w Q 42 (fun x => [(0, mr 55), (1, mr q), (4, iI x4)]) (fun x => [])) 18 [(0, mr 55), (1, mr q), (4, iI x4), (5, iI x5)] [] h σ (l_D_write_18 fu q n x4 x5 σ) := by
  intro n
  induction n with
  | zero =>
    intro x4 x5 σ h hW r4 r5 a9 σ9 hm
    rw [l_D_write_18] at hm
    cases hm
  | succ n ih =>
    intro x4 x5 σ h hW r4 r5
    rw [l_D_write_18]
    refine w_iload d_D_write_18 rfl ?_
    refine w_iload d_D_write_20 rfl ?_
    refine w_icmp_ge 42 d_D_write_22 (by decide) r5 r4 (fun c1 => ?_) (fun c1 => ?_)
    · refine w_aload_n d_D_write_25 rfl rfl ?_
      refine w_iload d_D_write_26 rfl ?_
      refine w_aload_n d_D_write_28 rfl rfl ?_
      refine w_gr d_D_write_29 f_D_63 hW or55_21 ?_
      refine w_iload d_D_write_32 rfl ?_
      refine w_ald d_D_write_34 hW ia73 (fun c2 => ?_)
      refine w_ast d_D_write_35 hW hq (hW.ra _ _) (fun c3 h4 σ5 e6 W7 => ?_)
      refine w_iinc [(5, iI (x5 + 1)), (0, mr 55), (1, mr q), (4, iI x4)] d_D_write_36 rfl (by decide) rfl (fun c8 => ?_)
      refine w_goto 18 d_D_write_39 (by decide) ?_
      exact w_sub (m_sc2 rfl (m_sc2 rfl (m_sc2 rfl (m_sc2 rfl (m_sn _))))) (ih x4 (x5 + 1) _ _ W7 r4 c8)
    · exact w_exit [(0, mr 55), (1, mr q), (4, iI x4)] (m_sc2 rfl (m_sc2 rfl (m_sc2 rfl (m_sn _)))) hW (fun _ _ _ k => k) True.intro
theorem w_D_write_10 {g : MG} {d w fu : Nat} {Q : MO → List MC → Prop} {q : Nat} (hF : 3 ≤ d) (hL : 78 ≤ w) (hq : ia q 16384) : ∀ (n : Nat) (x3 : Int) (x4 : Int) (σ : SS) (h : List MC), Wd h σ → rng x3 → rng x4 → Ew g none M_D_write d w Q rng (cJ g none M_D_write d w Q 56 (fun x => [(3, iI x)]) (fun x => [])) 10 [(0, mr 55), (1, mr q), (3, iI x3), (4, iI x4)] [] h σ (l_D_write_10 fu q n x3 x4 σ) := by
  intro n
  induction n with
  | zero =>
    intro x3 x4 σ h hW r3 r4 a9 σ9 hm
    rw [l_D_write_10] at hm
    cases hm
  | succ n ih =>
    intro x3 x4 σ h hW r3 r4
    rw [l_D_write_10]
    refine w_iload d_D_write_10 rfl ?_
    refine w_if_lt 56 d_D_write_12 (by decide) r4 (fun c1 => ?_) (fun c1 => ?_)
    · exact w_exit [(3, iI x3)] (m_sc2 rfl (m_sn _)) hW (fun _ _ _ k => k) r3
    · refine w_iconst d_D_write_15 ?_
      refine w_istore [(5, iI 0), (0, mr 55), (1, mr q), (3, iI x3), (4, iI x4)] d_D_write_16 (by decide) rfl ?_
      refine w_sq (G1 := gU) (J := 42) (lvJ := fun x => [(0, mr 55), (1, mr q), (4, iI x4)]) (stJ := fun x => []) (w_sub (m_sc2 rfl (m_sc2 rfl (m_sc2 rfl (m_sc2 rfl (m_sn _))))) (w_D_write_18 hF hL hq fu x4 0 _ _ hW r4 (show rng 0 by decide))) (fun z2 σ3 h4 W5 q6 => ?_)
      show Ew _ _ _ _ _ _ _ _ 42 [(0, mr 55), (1, mr q), (4, iI x4)] [] _ _ _
      refine w_iload d_D_write_42 rfl ?_
      refine w_istore_n [(3, iI x4), (0, mr 55), (1, mr q), (4, iI x4)] d_D_write_44 rfl (by decide) rfl ?_
      refine w_aload_n d_D_write_45 rfl rfl ?_
      refine w_aload_n d_D_write_46 rfl rfl ?_
      refine w_iload_n d_D_write_47 rfl rfl ?_
      refine w_cVI [mr q, iI x4] [] d_D_write_48 me_D_again l_D_137 W5 (c_D_again W5 hq r4) rfl rfl (Nat.le_of_ble_eq_true rfl) rfl (Nat.le_of_ble_eq_true rfl) (Nat.le_trans (Nat.le_of_ble_eq_true rfl) hF) (Nat.le_trans (Nat.le_of_ble_eq_true rfl) hL) ob55 ⟨_, _, rfl⟩ (fun a7 σ8 h9 W10 q11 => ?_)
      refine w_istore [(4, iI a7), (3, iI x4), (0, mr 55), (1, mr q)] d_D_write_51 (by decide) rfl ?_
      refine w_goto 10 d_D_write_53 (by decide) ?_
      exact w_sub (m_sc2 rfl (m_sc2 rfl (m_sc2 rfl (m_sc2 rfl (m_sn _))))) (ih x4 a7 _ _ W10 r4 q11)
theorem c_D_write {g : MG} {fu : Nat} {h : List MC} {σ : SS} {q : Nat} {x2 : Int} (hW : Wd h σ) (hq : ia q 16384) (r2 : rng x2) : Cw g M_D_write 3 78 [mr 55, mr q, iI x2] rng cI1 h σ (f_D_write fu q x2 σ) := by
  refine w_of (fun d w Q hF hL => ?_)
  unfold f_D_write
  show Ew g none M_D_write d w Q rng (cI1 Q) 0 [(0, mr 55), (1, mr q), (2, iI x2)] [] h σ _
  refine w_iload_n d_D_write_0 rfl rfl ?_
  refine w_istore_n [(3, iI x2), (0, mr 55), (1, mr q), (2, iI x2)] d_D_write_1 rfl (by decide) rfl ?_
  refine w_aload_n d_D_write_2 rfl rfl ?_
  refine w_aload_n d_D_write_3 rfl rfl ?_
  refine w_iload_n d_D_write_4 rfl rfl ?_
  refine w_cVI [mr q, iI x2] [] d_D_write_5 me_D_again l_D_137 hW (c_D_again hW hq r2) rfl rfl (Nat.le_of_ble_eq_true rfl) rfl (Nat.le_of_ble_eq_true rfl) (Nat.le_trans (Nat.le_of_ble_eq_true rfl) hF) (Nat.le_trans (Nat.le_of_ble_eq_true rfl) hL) ob55 ⟨_, _, rfl⟩ (fun a1 σ2 h3 W4 q5 => ?_)
  refine w_istore [(4, iI a1), (3, iI x2), (0, mr 55), (1, mr q), (2, iI x2)] d_D_write_8 (by decide) rfl ?_
  refine w_sq (G1 := rng) (J := 56) (lvJ := fun x => [(3, iI x)]) (stJ := fun x => []) (w_sub (m_sc2 rfl (m_sc2 rfl (m_sc2 rfl (m_sc2 rfl (m_sn _))))) (w_D_write_10 hF hL hq fu x2 a1 _ _ W4 r2 q5)) (fun z6 σ7 h8 W9 q10 => ?_)
  show Ew _ _ _ _ _ _ _ _ 56 [(3, iI z6)] [] _ _ _
  refine w_iload_n d_D_write_56 rfl rfl ?_
  exact w_iret d_D_write_57 rfl W9 (fun _ _ _ k => k) q10
def l_D_slot_2 (fu : Nat) (q : Nat) : Nat → Int → Int → SS → Option ((Unit) × SS)
  | 0, _, _, _ => none
  | n + 1, x2, x3, σ => ck (inb 8 x2) (if x3 < (σ.2.1 64 x2) then (ck (rng (160 * x2)) (ck (rng ((160 * x2) + x3)) (ck (inb 1280 ((160 * x2) + x3)) (ck (inb 16384 x3) (lb (sA σ q x3 (σ.2.1 63 ((160 * x2) + x3))) fun σ8 => ck (rng (x3 + 1)) (l_D_slot_2 fu q n x2 (x3 + 1) σ8)))))) else (some ((), σ)))
def f_D_slot (fu : Nat) (q : Nat) (x2 : Int) (σ : SS) : Option (Int × SS) := sq (l_D_slot_2 fu q fu x2 0 σ) fun (z1 : Unit) σ2 => ck (inb 8 x2) (sq (f_D_write fu q (σ2.2.1 64 x2) σ2) fun (a7 : Int) σ8 => some (a7, σ8))
theorem w_D_slot_2 {g : MG} {d w fu : Nat} {Q : MO → List MC → Prop} {q : Nat} (hF : 4 ≤ d) (hL : 103 ≤ w) (hq : ia q 16384) : ∀ (n : Nat) (x2 : Int) (x3 : Int) (σ : SS) (h : List MC), Wd h σ → rng x2 → rng x3 → Ew g none M_D_slot d w Q gU (cJ g none M_D_slot d w Q 33 (fun x => [(0, mr 55), (1, mr q), (2, iI x2)]) (fun x => [])) 2 [(0, mr 55), (1, mr q), (2, iI x2), (3, iI x3)] [] h σ (l_D_slot_2 fu q n x2 x3 σ) := by
  intro n
  induction n with
  | zero =>
    intro x2 x3 σ h hW r2 r3 a9 σ9 hm
    rw [l_D_slot_2] at hm
    cases hm
  | succ n ih =>
    intro x2 x3 σ h hW r2 r3
    rw [l_D_slot_2]
    refine w_iload_n d_D_slot_2 rfl rfl ?_
    refine w_aload_n d_D_slot_3 rfl rfl ?_
    refine w_gr d_D_slot_4 f_D_36 hW or55_12 ?_
    refine w_iload_n d_D_slot_7 rfl rfl ?_
    refine w_ald d_D_slot_8 hW ia64 (fun c1 => ?_)
    refine w_icmp_ge 33 d_D_slot_9 (by decide) r3 (hW.ra _ _) (fun c2 => ?_) (fun c2 => ?_)
    · refine w_aload_n d_D_slot_12 rfl rfl ?_
      refine w_iload_n d_D_slot_13 rfl rfl ?_
      refine w_aload_n d_D_slot_14 rfl rfl ?_
      refine w_gr d_D_slot_15 f_D_33 hW or55_11 ?_
      refine w_sipush d_D_slot_18 (by decide) ?_
      refine w_iload_n d_D_slot_21 rfl rfl ?_
      refine w_imul d_D_slot_22 (fun c3 => ?_)
      refine w_iload_n d_D_slot_23 rfl rfl ?_
      refine w_iadd d_D_slot_24 (fun c4 => ?_)
      refine w_ald d_D_slot_25 hW ia63 (fun c5 => ?_)
      refine w_ast d_D_slot_26 hW hq (hW.ra _ _) (fun c6 h7 σ8 e9 W10 => ?_)
      refine w_iinc [(3, iI (x3 + 1)), (0, mr 55), (1, mr q), (2, iI x2)] d_D_slot_27 rfl (by decide) rfl (fun c11 => ?_)
      refine w_goto 2 d_D_slot_30 (by decide) ?_
      exact w_sub (m_sc2 rfl (m_sc2 rfl (m_sc2 rfl (m_sc2 rfl (m_sn _))))) (ih x2 (x3 + 1) _ _ W10 r2 c11)
    · exact w_exit [(0, mr 55), (1, mr q), (2, iI x2)] (m_sc2 rfl (m_sc2 rfl (m_sc2 rfl (m_sn _)))) hW (fun _ _ _ k => k) True.intro
theorem c_D_slot {g : MG} {fu : Nat} {h : List MC} {σ : SS} {q : Nat} {x2 : Int} (hW : Wd h σ) (hq : ia q 16384) (r2 : rng x2) : Cw g M_D_slot 4 103 [mr 55, mr q, iI x2] rng cI1 h σ (f_D_slot fu q x2 σ) := by
  refine w_of (fun d w Q hF hL => ?_)
  unfold f_D_slot
  show Ew g none M_D_slot d w Q rng (cI1 Q) 0 [(0, mr 55), (1, mr q), (2, iI x2)] [] h σ _
  refine w_iconst d_D_slot_0 ?_
  refine w_istore_n [(3, iI 0), (0, mr 55), (1, mr q), (2, iI x2)] d_D_slot_1 rfl (by decide) rfl ?_
  refine w_sq (G1 := gU) (J := 33) (lvJ := fun x => [(0, mr 55), (1, mr q), (2, iI x2)]) (stJ := fun x => []) (w_sub (m_sc2 rfl (m_sc2 rfl (m_sc2 rfl (m_sc2 rfl (m_sn _))))) (w_D_slot_2 hF hL hq fu x2 0 _ _ hW r2 (show rng 0 by decide))) (fun z1 σ2 h3 W4 q5 => ?_)
  show Ew _ _ _ _ _ _ _ _ 33 [(0, mr 55), (1, mr q), (2, iI x2)] [] _ _ _
  refine w_aload_n d_D_slot_33 rfl rfl ?_
  refine w_aload_n d_D_slot_34 rfl rfl ?_
  refine w_aload_n d_D_slot_35 rfl rfl ?_
  refine w_gr d_D_slot_36 f_D_36 W4 or55_12 ?_
  refine w_iload_n d_D_slot_39 rfl rfl ?_
  refine w_ald d_D_slot_40 W4 ia64 (fun c6 => ?_)
  refine w_cVI [mr q, iI (σ2.2.1 64 x2)] [] d_D_slot_41 me_D_write l_D_141 W4 (c_D_write W4 hq (W4.ra _ _)) rfl rfl (Nat.le_of_ble_eq_true rfl) rfl (Nat.le_of_ble_eq_true rfl) (Nat.le_trans (Nat.le_of_ble_eq_true rfl) hF) (Nat.le_trans (Nat.le_of_ble_eq_true rfl) hL) ob55 ⟨_, _, rfl⟩ (fun a7 σ8 h9 W10 q11 => ?_)
  exact w_iret d_D_slot_44 rfl W10 (fun _ _ _ k => k) q11
def l_D_equation_38 (fu : Nat) : Nat → Int → Int → Int → Int → Int → Int → SS → Option ((Unit) × SS)
  | 0, _, _, _, _, _, _, _ => none
  | n + 1, x2, x3, x5, x6, x7, x8, σ => if x8 < x3 then (ck (rng (x7 + x8)) (ck (rng ((x7 + x8) - x2)) (ck (inb 16384 x8) (ck (inb 131072 ((x7 + x8) - x2)) (lb (sA σ 77 ((x7 + x8) - x2) (σ.2.1 71 x8)) fun σ7 => ck (rng (x8 + 1)) (l_D_equation_38 fu n x2 x3 x5 x6 x7 (x8 + 1) σ7)))))) else (some ((), σ))
def l_D_equation_89 (fu : Nat) : Nat → Int → Int → Int → Int → SS → Option ((Unit) × SS)
  | 0, _, _, _, _, _ => none
  | n + 1, x5, x6, x7, x8, σ => if x8 < x6 then (ck (rng (x7 + x8)) (ck (rng ((x7 + x8) - x5)) (ck (inb 16384 x8) (ck (inb 131072 ((x7 + x8) - x5)) (lb (sA σ 77 ((x7 + x8) - x5) (σ.2.1 72 x8)) fun σ7 => ck (rng (x8 + 1)) (l_D_equation_89 fu n x5 x6 x7 (x8 + 1) σ7)))))) else (some ((), σ))
def f_D_equation (fu : Nat) (x2 : Int) (x3 : Int) (x5 : Int) (x6 : Int) (σ : SS) : Option (Unit × SS) := sq (if (σ.1 55 31) = 0 then (some (0, σ)) else (ck (rng ((σ.1 55 31) - 1)) (ck (inb 4096 ((σ.1 55 31) - 1)) (some ((σ.2.1 80 ((σ.1 55 31) - 1)), σ))))) fun (z4 : Int) σ5 => ck (inb 4096 (σ5.1 55 31)) (lb (sA σ5 78 (σ5.1 55 31) z4) fun σ11 => sq (l_D_equation_38 fu fu x2 x3 x5 x6 z4 x2 σ11) fun (z14 : Unit) σ15 => ck (rng (x3 - x2)) (ck (rng (z4 + (x3 - x2))) (lb (z4 + (x3 - x2)) fun y21 => ck (inb 4096 (σ15.1 55 31)) (lb (sA σ15 79 (σ15.1 55 31) y21) fun σ25 => sq (l_D_equation_89 fu fu x5 x6 y21 x5 σ25) fun (z28 : Unit) σ29 => ck (rng (y21 + x6)) (ck (rng ((y21 + x6) - x5)) (ck (inb 4096 (σ29.1 55 31)) (lb (sA σ29 80 (σ29.1 55 31) ((y21 + x6) - x5)) fun σ37 => ck (rng ((σ37.1 55 31) + 1)) (lb (sF σ37 55 31 ((σ37.1 55 31) + 1)) fun σ42 => some ((), σ42)))))))))
theorem w_D_equation_38 {g : MG} {d w fu : Nat} {Q : MO → List MC → Prop} (hF : 0 ≤ d) (hL : 0 ≤ w) : ∀ (n : Nat) (x2 : Int) (x3 : Int) (x5 : Int) (x6 : Int) (x7 : Int) (x8 : Int) (σ : SS) (h : List MC), Wd h σ → rng x2 → rng x3 → rng x5 → rng x6 → rng x7 → rng x8 → Ew g none M_D_equation d w Q gU (cJ g none M_D_equation d w Q 66 (fun x => [(0, mr 55), (2, iI x2), (3, iI x3), (4, mr 72), (5, iI x5), (6, iI x6), (7, iI x7)]) (fun x => [])) 38 [(0, mr 55), (1, mr 71), (2, iI x2), (3, iI x3), (4, mr 72), (5, iI x5), (6, iI x6), (7, iI x7), (8, iI x8)] [] h σ (l_D_equation_38 fu n x2 x3 x5 x6 x7 x8 σ) := by
  intro n
  induction n with
  | zero =>
    intro x2 x3 x5 x6 x7 x8 σ h hW r2 r3 r5 r6 r7 r8 a9 σ9 hm
    rw [l_D_equation_38] at hm
    cases hm
  | succ n ih =>
    intro x2 x3 x5 x6 x7 x8 σ h hW r2 r3 r5 r6 r7 r8
    rw [l_D_equation_38]
    refine w_iload d_D_equation_38 rfl ?_
    refine w_iload_n d_D_equation_40 rfl rfl ?_
    refine w_icmp_ge 66 d_D_equation_41 (by decide) r8 r3 (fun c1 => ?_) (fun c1 => ?_)
    · refine w_aload_n d_D_equation_44 rfl rfl ?_
      refine w_gr d_D_equation_45 f_D_76 hW or55_25 ?_
      refine w_iload d_D_equation_48 rfl ?_
      refine w_iload d_D_equation_50 rfl ?_
      refine w_iadd d_D_equation_52 (fun c2 => ?_)
      refine w_iload_n d_D_equation_53 rfl rfl ?_
      refine w_isub d_D_equation_54 (fun c3 => ?_)
      refine w_aload_n d_D_equation_55 rfl rfl ?_
      refine w_iload d_D_equation_56 rfl ?_
      refine w_ald d_D_equation_58 hW ia71 (fun c4 => ?_)
      refine w_ast d_D_equation_59 hW ia77 (hW.ra _ _) (fun c5 h6 σ7 e8 W9 => ?_)
      refine w_iinc [(8, iI (x8 + 1)), (0, mr 55), (1, mr 71), (2, iI x2), (3, iI x3), (4, mr 72), (5, iI x5), (6, iI x6), (7, iI x7)] d_D_equation_60 rfl (by decide) rfl (fun c10 => ?_)
      refine w_goto 38 d_D_equation_63 (by decide) ?_
      exact w_sub (m_sc2 rfl (m_sc2 rfl (m_sc2 rfl (m_sc2 rfl (m_sc2 rfl (m_sc2 rfl (m_sc2 rfl (m_sc2 rfl (m_sc2 rfl (m_sn _)))))))))) (ih x2 x3 x5 x6 x7 (x8 + 1) _ _ W9 r2 r3 r5 r6 r7 c10)
    · exact w_exit [(0, mr 55), (2, iI x2), (3, iI x3), (4, mr 72), (5, iI x5), (6, iI x6), (7, iI x7)] (m_sc2 rfl (m_sc2 rfl (m_sc2 rfl (m_sc2 rfl (m_sc2 rfl (m_sc2 rfl (m_sc2 rfl (m_sn _)))))))) hW (fun _ _ _ k => k) True.intro
theorem w_D_equation_89 {g : MG} {d w fu : Nat} {Q : MO → List MC → Prop} (hF : 0 ≤ d) (hL : 0 ≤ w) : ∀ (n : Nat) (x5 : Int) (x6 : Int) (x7 : Int) (x8 : Int) (σ : SS) (h : List MC), Wd h σ → rng x5 → rng x6 → rng x7 → rng x8 → Ew g none M_D_equation d w Q gU (cJ g none M_D_equation d w Q 120 (fun x => [(0, mr 55), (5, iI x5), (6, iI x6), (7, iI x7)]) (fun x => [])) 89 [(0, mr 55), (4, mr 72), (5, iI x5), (6, iI x6), (7, iI x7), (8, iI x8)] [] h σ (l_D_equation_89 fu n x5 x6 x7 x8 σ) := by
  intro n
  induction n with
  | zero =>
    intro x5 x6 x7 x8 σ h hW r5 r6 r7 r8 a9 σ9 hm
    rw [l_D_equation_89] at hm
    cases hm
  | succ n ih =>
    intro x5 x6 x7 x8 σ h hW r5 r6 r7 r8
    rw [l_D_equation_89]
    refine w_iload d_D_equation_89 rfl ?_
    refine w_iload d_D_equation_91 rfl ?_
    refine w_icmp_ge 120 d_D_equation_93 (by decide) r8 r6 (fun c1 => ?_) (fun c1 => ?_)
    · refine w_aload_n d_D_equation_96 rfl rfl ?_
      refine w_gr d_D_equation_97 f_D_76 hW or55_25 ?_
      refine w_iload d_D_equation_100 rfl ?_
      refine w_iload d_D_equation_102 rfl ?_
      refine w_iadd d_D_equation_104 (fun c2 => ?_)
      refine w_iload d_D_equation_105 rfl ?_
      refine w_isub d_D_equation_107 (fun c3 => ?_)
      refine w_aload d_D_equation_108 rfl ?_
      refine w_iload d_D_equation_110 rfl ?_
      refine w_ald d_D_equation_112 hW ia72 (fun c4 => ?_)
      refine w_ast d_D_equation_113 hW ia77 (hW.ra _ _) (fun c5 h6 σ7 e8 W9 => ?_)
      refine w_iinc [(8, iI (x8 + 1)), (0, mr 55), (4, mr 72), (5, iI x5), (6, iI x6), (7, iI x7)] d_D_equation_114 rfl (by decide) rfl (fun c10 => ?_)
      refine w_goto 89 d_D_equation_117 (by decide) ?_
      exact w_sub (m_sc2 rfl (m_sc2 rfl (m_sc2 rfl (m_sc2 rfl (m_sc2 rfl (m_sc2 rfl (m_sn _))))))) (ih x5 x6 x7 (x8 + 1) _ _ W9 r5 r6 r7 c10)
    · exact w_exit [(0, mr 55), (5, iI x5), (6, iI x6), (7, iI x7)] (m_sc2 rfl (m_sc2 rfl (m_sc2 rfl (m_sc2 rfl (m_sn _))))) hW (fun _ _ _ k => k) True.intro
theorem c_D_equation {g : MG} {fu : Nat} {h : List MC} {σ : SS} {x2 : Int} {x3 : Int} {x5 : Int} {x6 : Int} (hW : Wd h σ) (r2 : rng x2) (r3 : rng x3) (r5 : rng x5) (r6 : rng x6) : Cw g M_D_equation 0 0 [mr 55, mr 71, iI x2, iI x3, mr 72, iI x5, iI x6] gU cU1 h σ (f_D_equation fu x2 x3 x5 x6 σ) := by
  refine w_of (fun d w Q hF hL => ?_)
  unfold f_D_equation
  show Ew g none M_D_equation d w Q gU (cU1 Q) 0 [(0, mr 55), (1, mr 71), (2, iI x2), (3, iI x3), (4, mr 72), (5, iI x5), (6, iI x6)] [] h σ _
  refine w_aload_n d_D_equation_0 rfl rfl ?_
  refine w_gi d_D_equation_1 f_D_151 hW oi55_31 ?_
  refine w_sq (G1 := rng) (J := 22) (lvJ := fun x => [(0, mr 55), (1, mr 71), (2, iI x2), (3, iI x3), (4, mr 72), (5, iI x5), (6, iI x6)]) (stJ := fun x => [iI x]) ?_ (fun z4 σ5 h6 W7 q8 => ?_)
  · refine w_if_ne 11 d_D_equation_4 (by decide) (hW.rf _ _) (fun c1 => ?_) (fun c1 => ?_)
    · refine w_iconst d_D_equation_7 ?_
      refine w_goto 22 d_D_equation_8 (by decide) ?_
      exact w_exit [(0, mr 55), (1, mr 71), (2, iI x2), (3, iI x3), (4, mr 72), (5, iI x5), (6, iI x6)] (m_sc2 rfl (m_sc2 rfl (m_sc2 rfl (m_sc2 rfl (m_sc2 rfl (m_sc2 rfl (m_sc2 rfl (m_sn _)))))))) hW (fun _ _ _ k => k) (show rng 0 by decide)
    · refine w_aload_n d_D_equation_11 rfl rfl ?_
      refine w_gr d_D_equation_12 f_D_85 hW or55_28 ?_
      refine w_aload_n d_D_equation_15 rfl rfl ?_
      refine w_gi d_D_equation_16 f_D_151 hW oi55_31 ?_
      refine w_iconst d_D_equation_19 ?_
      refine w_isub d_D_equation_20 (fun c2 => ?_)
      refine w_ald d_D_equation_21 hW ia80 (fun c3 => ?_)
      exact w_exit [(0, mr 55), (1, mr 71), (2, iI x2), (3, iI x3), (4, mr 72), (5, iI x5), (6, iI x6)] (m_sc2 rfl (m_sc2 rfl (m_sc2 rfl (m_sc2 rfl (m_sc2 rfl (m_sc2 rfl (m_sc2 rfl (m_sn _)))))))) hW (fun _ _ _ k => k) (hW.ra _ _)
  · show Ew _ _ _ _ _ _ _ _ 22 [(0, mr 55), (1, mr 71), (2, iI x2), (3, iI x3), (4, mr 72), (5, iI x5), (6, iI x6)] [iI z4] _ _ _
    refine w_istore [(7, iI z4), (0, mr 55), (1, mr 71), (2, iI x2), (3, iI x3), (4, mr 72), (5, iI x5), (6, iI x6)] d_D_equation_22 (by decide) rfl ?_
    refine w_aload_n d_D_equation_24 rfl rfl ?_
    refine w_gr d_D_equation_25 f_D_79 W7 or55_26 ?_
    refine w_aload_n d_D_equation_28 rfl rfl ?_
    refine w_gi d_D_equation_29 f_D_151 W7 oi55_31 ?_
    refine w_iload d_D_equation_32 rfl ?_
    refine w_ast d_D_equation_34 W7 ia78 q8 (fun c9 h10 σ11 e12 W13 => ?_)
    refine w_iload_n d_D_equation_35 rfl rfl ?_
    refine w_istore [(8, iI x2), (7, iI z4), (0, mr 55), (1, mr 71), (2, iI x2), (3, iI x3), (4, mr 72), (5, iI x5), (6, iI x6)] d_D_equation_36 (by decide) rfl ?_
    refine w_sq (G1 := gU) (J := 66) (lvJ := fun x => [(0, mr 55), (2, iI x2), (3, iI x3), (4, mr 72), (5, iI x5), (6, iI x6), (7, iI z4)]) (stJ := fun x => []) (w_sub (m_sc2 rfl (m_sc2 rfl (m_sc2 rfl (m_sc2 rfl (m_sc2 rfl (m_sc2 rfl (m_sc2 rfl (m_sc2 rfl (m_sc2 rfl (m_sn _)))))))))) (w_D_equation_38 hF hL fu x2 x3 x5 x6 z4 x2 _ _ W13 r2 r3 r5 r6 q8 r2)) (fun z14 σ15 h16 W17 q18 => ?_)
    show Ew _ _ _ _ _ _ _ _ 66 [(0, mr 55), (2, iI x2), (3, iI x3), (4, mr 72), (5, iI x5), (6, iI x6), (7, iI z4)] [] _ _ _
    refine w_iload d_D_equation_66 rfl ?_
    refine w_iload_n d_D_equation_68 rfl rfl ?_
    refine w_iload_n d_D_equation_69 rfl rfl ?_
    refine w_isub d_D_equation_70 (fun c19 => ?_)
    refine w_iadd d_D_equation_71 (fun c20 => ?_)
    refine w_top (fun y21 e22 => ?_)
    have ry21 : rng y21 := e22 ▸ c20
    refine w_istore [(7, iI y21), (0, mr 55), (2, iI x2), (3, iI x3), (4, mr 72), (5, iI x5), (6, iI x6)] d_D_equation_72 (by decide) rfl ?_
    refine w_aload_n d_D_equation_74 rfl rfl ?_
    refine w_gr d_D_equation_75 f_D_82 W17 or55_27 ?_
    refine w_aload_n d_D_equation_78 rfl rfl ?_
    refine w_gi d_D_equation_79 f_D_151 W17 oi55_31 ?_
    refine w_iload d_D_equation_82 rfl ?_
    refine w_ast d_D_equation_84 W17 ia79 ry21 (fun c23 h24 σ25 e26 W27 => ?_)
    refine w_iload d_D_equation_85 rfl ?_
    refine w_istore [(8, iI x5), (7, iI y21), (0, mr 55), (2, iI x2), (3, iI x3), (4, mr 72), (5, iI x5), (6, iI x6)] d_D_equation_87 (by decide) rfl ?_
    refine w_sq (G1 := gU) (J := 120) (lvJ := fun x => [(0, mr 55), (5, iI x5), (6, iI x6), (7, iI y21)]) (stJ := fun x => []) (w_sub (m_sc2 rfl (m_sc2 rfl (m_sc2 rfl (m_sc2 rfl (m_sc2 rfl (m_sc2 rfl (m_sn _))))))) (w_D_equation_89 hF hL fu x5 x6 y21 x5 _ _ W27 r5 r6 ry21 r5)) (fun z28 σ29 h30 W31 q32 => ?_)
    show Ew _ _ _ _ _ _ _ _ 120 [(0, mr 55), (5, iI x5), (6, iI x6), (7, iI y21)] [] _ _ _
    refine w_aload_n d_D_equation_120 rfl rfl ?_
    refine w_gr d_D_equation_121 f_D_85 W31 or55_28 ?_
    refine w_aload_n d_D_equation_124 rfl rfl ?_
    refine w_gi d_D_equation_125 f_D_151 W31 oi55_31 ?_
    refine w_iload d_D_equation_128 rfl ?_
    refine w_iload d_D_equation_130 rfl ?_
    refine w_iadd d_D_equation_132 (fun c33 => ?_)
    refine w_iload d_D_equation_133 rfl ?_
    refine w_isub d_D_equation_135 (fun c34 => ?_)
    refine w_ast d_D_equation_136 W31 ia80 c34 (fun c35 h36 σ37 e38 W39 => ?_)
    refine w_aload_n d_D_equation_137 rfl rfl ?_
    refine w_dup d_D_equation_138 rfl ?_
    refine w_gi d_D_equation_139 f_D_151 W39 oi55_31 ?_
    refine w_iconst d_D_equation_142 ?_
    refine w_iadd d_D_equation_143 (fun c40 => ?_)
    refine w_pi d_D_equation_144 p_D_151 W39 oi55_31 (by decide) c40 (fun h41 σ42 e43 W44 => ?_)
    exact w_ret d_D_equation_147 rfl W44 (fun _ _ _ k => k) True.intro
def f_D_isFull (σ : SS) : Option (Int × SS) := ck (rng ((σ.1 55 2) + (σ.1 55 3))) (if ((σ.1 55 2) + (σ.1 55 3)) = 300 then (some (1, σ)) else (some (0, σ)))
theorem c_D_isFull {g : MG} {h : List MC} {σ : SS} (hW : Wd h σ) : Cw g M_D_isFull 0 0 [mr 55] rng cI1 h σ (f_D_isFull σ) := by
  refine w_of (fun d w Q hF hL => ?_)
  unfold f_D_isFull
  show Ew g none M_D_isFull d w Q rng (cI1 Q) 0 [(0, mr 55)] [] h σ _
  refine w_aload_n d_D_isFull_0 rfl rfl ?_
  refine w_gi d_D_isFull_1 f_D_111 hW oi55_2 ?_
  refine w_aload_n d_D_isFull_4 rfl rfl ?_
  refine w_gi d_D_isFull_5 f_D_144 hW oi55_3 ?_
  refine w_iadd d_D_isFull_8 (fun c1 => ?_)
  refine w_sipush d_D_isFull_9 (by decide) ?_
  refine w_icmp_ne 19 d_D_isFull_12 (by decide) c1 (show rng 300 by decide) (fun c2 => ?_) (fun c2 => ?_)
  · refine w_iconst d_D_isFull_15 ?_
    refine w_goto 20 d_D_isFull_16 (by decide) ?_
    exact w_zret d_D_isFull_20 rfl (by decide) hW (fun _ _ _ k => k) (show rng 1 by decide)
  · refine w_iconst d_D_isFull_19 ?_
    exact w_zret d_D_isFull_20 rfl (by decide) hW (fun _ _ _ k => k) (show rng 0 by decide)
def f_D_make (x1 : Int) (σ : SS) : Option (Int × SS) := ck (rng (24 + (σ.1 55 3))) (lb (24 + (σ.1 55 3)) fun y2 => ck (rng ((σ.1 55 3) + 1)) (lb (sF σ 55 3 ((σ.1 55 3) + 1)) fun σ6 => ck (inb 324 y2) (lb (sA σ6 58 y2 x1) fun σ11 => ck (inb 324 y2) (lb (sA σ11 61 y2 0) fun σ16 => some (y2, σ16)))))
theorem c_D_make {g : MG} {h : List MC} {σ : SS} {x1 : Int} (hW : Wd h σ) (r1 : rng x1) : Cw g M_D_make 0 0 [mr 55, iI x1] rng cI1 h σ (f_D_make x1 σ) := by
  refine w_of (fun d w Q hF hL => ?_)
  unfold f_D_make
  show Ew g none M_D_make d w Q rng (cI1 Q) 0 [(0, mr 55), (1, iI x1)] [] h σ _
  refine w_bipush d_D_make_0 (by decide) ?_
  refine w_aload_n d_D_make_2 rfl rfl ?_
  refine w_gi d_D_make_3 f_D_144 hW oi55_3 ?_
  refine w_iadd d_D_make_6 (fun c1 => ?_)
  refine w_top (fun y2 e3 => ?_)
  have ry2 : rng y2 := e3 ▸ c1
  refine w_istore_n [(2, iI y2), (0, mr 55), (1, iI x1)] d_D_make_7 rfl (by decide) rfl ?_
  refine w_aload_n d_D_make_8 rfl rfl ?_
  refine w_dup d_D_make_9 rfl ?_
  refine w_gi d_D_make_10 f_D_144 hW oi55_3 ?_
  refine w_iconst d_D_make_13 ?_
  refine w_iadd d_D_make_14 (fun c4 => ?_)
  refine w_pi d_D_make_15 p_D_144 hW oi55_3 (by decide) c4 (fun h5 σ6 e7 W8 => ?_)
  refine w_aload_n d_D_make_18 rfl rfl ?_
  refine w_gr d_D_make_19 f_D_16 W8 or55_6 ?_
  refine w_iload_n d_D_make_22 rfl rfl ?_
  refine w_iload_n d_D_make_23 rfl rfl ?_
  refine w_ast d_D_make_24 W8 ia58 r1 (fun c9 h10 σ11 e12 W13 => ?_)
  refine w_aload_n d_D_make_25 rfl rfl ?_
  refine w_gr d_D_make_26 f_D_26 W13 or55_9 ?_
  refine w_iload_n d_D_make_29 rfl rfl ?_
  refine w_iconst d_D_make_30 ?_
  refine w_bst d_D_make_31 W13 za61 (by decide) (fun c14 h15 σ16 e17 W18 => ?_)
  refine w_iload_n d_D_make_32 rfl rfl ?_
  exact w_iret d_D_make_33 rfl W18 (fun _ _ _ k => k) ry2
def l_D_pass_25 (fu : Nat) : Nat → Int → Int → Int → SS → Option ((Unit) × SS)
  | 0, _, _, _, _ => none
  | n + 1, x1, x4, x5, σ => if x5 < x4 then (ck (rng (400 * x1)) (ck (rng ((400 * x1) + 1)) (ck (rng (((400 * x1) + 1) + x5)) (ck (inb 16384 x5) (ck (rng (4 * (σ.2.1 81 x5))) (ck (inb 129600 (((400 * x1) + 1) + x5)) (lb (sA σ 60 (((400 * x1) + 1) + x5) (4 * (σ.2.1 81 x5))) fun σ9 => ck (rng (x5 + 1)) (l_D_pass_25 fu n x1 x4 (x5 + 1) σ9)))))))) else (some ((), σ))
def f_D_pass (fu : Nat) (x1 : Int) (x2 : Int) (x4 : Int) (σ : SS) : Option (Unit × SS) := ck (inb 324 x1) (lb (sA σ 61 x1 1) fun σ3 => ck (rng (400 * x1)) (ck (rng (4 * x2)) (ck (rng ((4 * x2) + 2)) (ck (inb 129600 (400 * x1)) (lb (sA σ3 60 (400 * x1) ((4 * x2) + 2)) fun σ11 => sq (l_D_pass_25 fu fu x1 x4 0 σ11) fun (z14 : Unit) σ15 => ck (rng (1 + x4)) (ck (inb 324 x1) (lb (sA σ15 59 x1 (1 + x4)) fun σ22 => some ((), σ22))))))))
theorem w_D_pass_25 {g : MG} {d w fu : Nat} {Q : MO → List MC → Prop} (hF : 0 ≤ d) (hL : 0 ≤ w) : ∀ (n : Nat) (x1 : Int) (x4 : Int) (x5 : Int) (σ : SS) (h : List MC), Wd h σ → rng x1 → rng x4 → rng x5 → Ew g none M_D_pass d w Q gU (cJ g none M_D_pass d w Q 59 (fun x => [(0, mr 55), (1, iI x1), (4, iI x4)]) (fun x => [])) 25 [(0, mr 55), (1, iI x1), (3, mr 81), (4, iI x4), (5, iI x5)] [] h σ (l_D_pass_25 fu n x1 x4 x5 σ) := by
  intro n
  induction n with
  | zero =>
    intro x1 x4 x5 σ h hW r1 r4 r5 a9 σ9 hm
    rw [l_D_pass_25] at hm
    cases hm
  | succ n ih =>
    intro x1 x4 x5 σ h hW r1 r4 r5
    rw [l_D_pass_25]
    refine w_iload d_D_pass_25 rfl ?_
    refine w_iload d_D_pass_27 rfl ?_
    refine w_icmp_ge 59 d_D_pass_29 (by decide) r5 r4 (fun c1 => ?_) (fun c1 => ?_)
    · refine w_aload_n d_D_pass_32 rfl rfl ?_
      refine w_gr d_D_pass_33 f_D_23 hW or55_8 ?_
      refine w_sipush d_D_pass_36 (by decide) ?_
      refine w_iload_n d_D_pass_39 rfl rfl ?_
      refine w_imul d_D_pass_40 (fun c2 => ?_)
      refine w_iconst d_D_pass_41 ?_
      refine w_iadd d_D_pass_42 (fun c3 => ?_)
      refine w_iload d_D_pass_43 rfl ?_
      refine w_iadd d_D_pass_45 (fun c4 => ?_)
      refine w_iconst d_D_pass_46 ?_
      refine w_aload_n d_D_pass_47 rfl rfl ?_
      refine w_iload d_D_pass_48 rfl ?_
      refine w_ald d_D_pass_50 hW ia81 (fun c5 => ?_)
      refine w_imul d_D_pass_51 (fun c6 => ?_)
      refine w_ast d_D_pass_52 hW ia60 c6 (fun c7 h8 σ9 e10 W11 => ?_)
      refine w_iinc [(5, iI (x5 + 1)), (0, mr 55), (1, iI x1), (3, mr 81), (4, iI x4)] d_D_pass_53 rfl (by decide) rfl (fun c12 => ?_)
      refine w_goto 25 d_D_pass_56 (by decide) ?_
      exact w_sub (m_sc2 rfl (m_sc2 rfl (m_sc2 rfl (m_sc2 rfl (m_sc2 rfl (m_sn _)))))) (ih x1 x4 (x5 + 1) _ _ W11 r1 r4 c12)
    · exact w_exit [(0, mr 55), (1, iI x1), (4, iI x4)] (m_sc2 rfl (m_sc2 rfl (m_sc2 rfl (m_sn _)))) hW (fun _ _ _ k => k) True.intro
theorem c_D_pass {g : MG} {fu : Nat} {h : List MC} {σ : SS} {x1 : Int} {x2 : Int} {x4 : Int} (hW : Wd h σ) (r1 : rng x1) (r2 : rng x2) (r4 : rng x4) : Cw g M_D_pass 0 0 [mr 55, iI x1, iI x2, mr 81, iI x4] gU cU1 h σ (f_D_pass fu x1 x2 x4 σ) := by
  refine w_of (fun d w Q hF hL => ?_)
  unfold f_D_pass
  show Ew g none M_D_pass d w Q gU (cU1 Q) 0 [(0, mr 55), (1, iI x1), (2, iI x2), (3, mr 81), (4, iI x4)] [] h σ _
  refine w_aload_n d_D_pass_0 rfl rfl ?_
  refine w_gr d_D_pass_1 f_D_26 hW or55_9 ?_
  refine w_iload_n d_D_pass_4 rfl rfl ?_
  refine w_iconst d_D_pass_5 ?_
  refine w_bst d_D_pass_6 hW za61 (by decide) (fun c1 h2 σ3 e4 W5 => ?_)
  refine w_aload_n d_D_pass_7 rfl rfl ?_
  refine w_gr d_D_pass_8 f_D_23 W5 or55_8 ?_
  refine w_sipush d_D_pass_11 (by decide) ?_
  refine w_iload_n d_D_pass_14 rfl rfl ?_
  refine w_imul d_D_pass_15 (fun c6 => ?_)
  refine w_iconst d_D_pass_16 ?_
  refine w_iload_n d_D_pass_17 rfl rfl ?_
  refine w_imul d_D_pass_18 (fun c7 => ?_)
  refine w_iconst d_D_pass_19 ?_
  refine w_iadd d_D_pass_20 (fun c8 => ?_)
  refine w_ast d_D_pass_21 W5 ia60 c8 (fun c9 h10 σ11 e12 W13 => ?_)
  refine w_iconst d_D_pass_22 ?_
  refine w_istore [(5, iI 0), (0, mr 55), (1, iI x1), (2, iI x2), (3, mr 81), (4, iI x4)] d_D_pass_23 (by decide) rfl ?_
  refine w_sq (G1 := gU) (J := 59) (lvJ := fun x => [(0, mr 55), (1, iI x1), (4, iI x4)]) (stJ := fun x => []) (w_sub (m_sc2 rfl (m_sc2 rfl (m_sc2 rfl (m_sc2 rfl (m_sc2 rfl (m_sn _)))))) (w_D_pass_25 hF hL fu x1 x4 0 _ _ W13 r1 r4 (show rng 0 by decide))) (fun z14 σ15 h16 W17 q18 => ?_)
  show Ew _ _ _ _ _ _ _ _ 59 [(0, mr 55), (1, iI x1), (4, iI x4)] [] _ _ _
  refine w_aload_n d_D_pass_59 rfl rfl ?_
  refine w_gr d_D_pass_60 f_D_19 W17 or55_7 ?_
  refine w_iload_n d_D_pass_63 rfl rfl ?_
  refine w_iconst d_D_pass_64 ?_
  refine w_iload d_D_pass_65 rfl ?_
  refine w_iadd d_D_pass_67 (fun c19 => ?_)
  refine w_ast d_D_pass_68 W17 ia59 c19 (fun c20 h21 σ22 e23 W24 => ?_)
  exact w_ret d_D_pass_69 rfl W24 (fun _ _ _ k => k) True.intro
def l_D_same_13 (fu : Nat) : Nat → Int → Int → Int → SS → Option ((Int) × SS)
  | 0, _, _, _, _ => none
  | n + 1, x1, x2, x3, σ => ck (inb 324 x1) (if x3 < (σ.2.1 58 x1) then (ck (rng (1 + x3)) (ck (inb 16384 (1 + x3)) (ck (rng (1 + x3)) (ck (inb 16384 (1 + x3)) (sq (if (σ.2.1 71 (1 + x3)) = (σ.2.1 72 (1 + x3)) then (ck (inb 16384 x2) (lb (sA σ 81 x2 x3) fun σ10 => ck (rng (x2 + 1)) (some ((x2 + 1), σ10)))) else (some (x2, σ))) fun (z14 : Int) σ15 => ck (rng (x3 + 1)) (l_D_same_13 fu n x1 z14 (x3 + 1) σ15)))))) else (some (x2, σ)))
def f_D_same (fu : Nat) (σ : SS) : Option (Int × SS) := ck (inb 16384 0) (lb ((σ.2.1 71 0) / 4) fun y2 => sq (l_D_same_13 fu fu y2 0 0 σ) fun (z4 : Int) σ5 => ck (inb 324 y2) (if z4 = (σ5.2.1 58 y2) then (some (0, σ5)) else (sq (f_D_isFull σ5) fun (a11 : Int) σ12 => if a11 = 0 then (sq (f_D_make z4 σ12) fun (a17 : Int) σ18 => sq (f_D_pass fu y2 a17 z4 σ18) fun (a22 : Unit) σ23 => some (0, σ23)) else (some (5, σ12)))))
theorem w_D_same_13 {g : MG} {d w fu : Nat} {Q : MO → List MC → Prop} (hF : 1 ≤ d) (hL : 25 ≤ w) : ∀ (n : Nat) (x1 : Int) (x2 : Int) (x3 : Int) (σ : SS) (h : List MC), Wd h σ → rng x1 → rng x2 → rng x3 → Ew g none M_D_same d w Q rng (cJ g none M_D_same d w Q 61 (fun x => [(0, mr 55), (1, iI x1), (2, iI x)]) (fun x => [])) 13 [(0, mr 55), (1, iI x1), (2, iI x2), (3, iI x3)] [] h σ (l_D_same_13 fu n x1 x2 x3 σ) := by
  intro n
  induction n with
  | zero =>
    intro x1 x2 x3 σ h hW r1 r2 r3 a9 σ9 hm
    rw [l_D_same_13] at hm
    cases hm
  | succ n ih =>
    intro x1 x2 x3 σ h hW r1 r2 r3
    rw [l_D_same_13]
    refine w_iload_n d_D_same_13 rfl rfl ?_
    refine w_aload_n d_D_same_14 rfl rfl ?_
    refine w_gr d_D_same_15 f_D_16 hW or55_6 ?_
    refine w_iload_n d_D_same_18 rfl rfl ?_
    refine w_ald d_D_same_19 hW ia58 (fun c1 => ?_)
    refine w_icmp_ge 61 d_D_same_20 (by decide) r3 (hW.ra _ _) (fun c2 => ?_) (fun c2 => ?_)
    · refine w_aload_n d_D_same_23 rfl rfl ?_
      refine w_gr d_D_same_24 f_D_57 hW or55_19 ?_
      refine w_iconst d_D_same_27 ?_
      refine w_iload_n d_D_same_28 rfl rfl ?_
      refine w_iadd d_D_same_29 (fun c3 => ?_)
      refine w_ald d_D_same_30 hW ia71 (fun c4 => ?_)
      refine w_aload_n d_D_same_31 rfl rfl ?_
      refine w_gr d_D_same_32 f_D_60 hW or55_20 ?_
      refine w_iconst d_D_same_35 ?_
      refine w_iload_n d_D_same_36 rfl rfl ?_
      refine w_iadd d_D_same_37 (fun c5 => ?_)
      refine w_ald d_D_same_38 hW ia72 (fun c6 => ?_)
      refine w_sq (G1 := rng) (J := 55) (lvJ := fun x => [(0, mr 55), (1, iI x1), (2, iI x), (3, iI x3)]) (stJ := fun x => []) ?_ (fun z14 σ15 h16 W17 q18 => ?_)
      · refine w_icmp_eq 45 d_D_same_39 (by decide) (hW.ra _ _) (hW.ra _ _) (fun c7 => ?_) (fun c7 => ?_)
        · refine w_aload_n d_D_same_45 rfl rfl ?_
          refine w_gr d_D_same_46 f_D_88 hW or55_32 ?_
          refine w_iload_n d_D_same_49 rfl rfl ?_
          refine w_iload_n d_D_same_50 rfl rfl ?_
          refine w_ast d_D_same_51 hW ia81 r3 (fun c8 h9 σ10 e11 W12 => ?_)
          refine w_iinc [(2, iI (x2 + 1)), (0, mr 55), (1, iI x1), (3, iI x3)] d_D_same_52 rfl (by decide) rfl (fun c13 => ?_)
          exact w_exit [(0, mr 55), (1, iI x1), (2, iI (x2 + 1)), (3, iI x3)] (m_sc2 rfl (m_sc2 rfl (m_sc2 rfl (m_sc2 rfl (m_sn _))))) W12 (fun _ _ _ k => k) c13
        · refine w_goto 55 d_D_same_42 (by decide) ?_
          exact w_exit [(0, mr 55), (1, iI x1), (2, iI x2), (3, iI x3)] (m_sc2 rfl (m_sc2 rfl (m_sc2 rfl (m_sc2 rfl (m_sn _))))) hW (fun _ _ _ k => k) r2
      · show Ew _ _ _ _ _ _ _ _ 55 [(0, mr 55), (1, iI x1), (2, iI z14), (3, iI x3)] [] _ _ _
        refine w_iinc [(3, iI (x3 + 1)), (0, mr 55), (1, iI x1), (2, iI z14)] d_D_same_55 rfl (by decide) rfl (fun c19 => ?_)
        refine w_goto 13 d_D_same_58 (by decide) ?_
        exact w_sub (m_sc2 rfl (m_sc2 rfl (m_sc2 rfl (m_sc2 rfl (m_sn _))))) (ih x1 z14 (x3 + 1) _ _ W17 r1 q18 c19)
    · exact w_exit [(0, mr 55), (1, iI x1), (2, iI x2)] (m_sc2 rfl (m_sc2 rfl (m_sc2 rfl (m_sn _)))) hW (fun _ _ _ k => k) r2
theorem c_D_same {g : MG} {fu : Nat} {h : List MC} {σ : SS} (hW : Wd h σ) : Cw g M_D_same 1 25 [mr 55] rng cI1 h σ (f_D_same fu σ) := by
  refine w_of (fun d w Q hF hL => ?_)
  unfold f_D_same
  show Ew g none M_D_same d w Q rng (cI1 Q) 0 [(0, mr 55)] [] h σ _
  refine w_aload_n d_D_same_0 rfl rfl ?_
  refine w_gr d_D_same_1 f_D_57 hW or55_19 ?_
  refine w_iconst d_D_same_4 ?_
  refine w_ald d_D_same_5 hW ia71 (fun c1 => ?_)
  refine w_iconst d_D_same_6 ?_
  refine w_shr2 d_D_same_7 (hW.ra _ _) ?_
  refine w_top (fun y2 e3 => ?_)
  have ry2 : rng y2 := e3 ▸ (rng4 (hW.ra _ _))
  refine w_istore_n [(1, iI y2), (0, mr 55)] d_D_same_8 rfl (by decide) rfl ?_
  refine w_iconst d_D_same_9 ?_
  refine w_istore_n [(2, iI 0), (1, iI y2), (0, mr 55)] d_D_same_10 rfl (by decide) rfl ?_
  refine w_iconst d_D_same_11 ?_
  refine w_istore_n [(3, iI 0), (2, iI 0), (1, iI y2), (0, mr 55)] d_D_same_12 rfl (by decide) rfl ?_
  refine w_sq (G1 := rng) (J := 61) (lvJ := fun x => [(0, mr 55), (1, iI y2), (2, iI x)]) (stJ := fun x => []) (w_sub (m_sc2 rfl (m_sc2 rfl (m_sc2 rfl (m_sc2 rfl (m_sn _))))) (w_D_same_13 hF hL fu y2 0 0 _ _ hW ry2 (show rng 0 by decide) (show rng 0 by decide))) (fun z4 σ5 h6 W7 q8 => ?_)
  show Ew _ _ _ _ _ _ _ _ 61 [(0, mr 55), (1, iI y2), (2, iI z4)] [] _ _ _
  refine w_iload_n d_D_same_61 rfl rfl ?_
  refine w_aload_n d_D_same_62 rfl rfl ?_
  refine w_gr d_D_same_63 f_D_16 W7 or55_6 ?_
  refine w_iload_n d_D_same_66 rfl rfl ?_
  refine w_ald d_D_same_67 W7 ia58 (fun c9 => ?_)
  refine w_icmp_ne 73 d_D_same_68 (by decide) q8 (W7.ra _ _) (fun c10 => ?_) (fun c10 => ?_)
  · refine w_iconst d_D_same_71 ?_
    exact w_iret d_D_same_72 rfl W7 (fun _ _ _ k => k) (show rng 0 by decide)
  · refine w_aload_n d_D_same_73 rfl rfl ?_
    refine w_cVI [] [] d_D_same_74 me_D_isFull l_D_181 W7 (c_D_isFull W7 ) rfl rfl (Nat.le_of_ble_eq_true rfl) rfl (Nat.le_of_ble_eq_true rfl) (Nat.le_trans (Nat.le_of_ble_eq_true rfl) hF) (Nat.le_trans (Nat.le_of_ble_eq_true rfl) hL) ob55 ⟨_, _, rfl⟩ (fun a11 σ12 h13 W14 q15 => ?_)
    refine w_if_eq 82 d_D_same_77 (by decide) q15 (fun c16 => ?_) (fun c16 => ?_)
    · refine w_aload_n d_D_same_82 rfl rfl ?_
      refine w_iload_n d_D_same_83 rfl rfl ?_
      refine w_aload_n d_D_same_84 rfl rfl ?_
      refine w_iload_n d_D_same_85 rfl rfl ?_
      refine w_cVI [iI z4] [iI y2, mr 55] d_D_same_86 me_D_make l_D_185 W14 (c_D_make W14 q8) rfl rfl (Nat.le_of_ble_eq_true rfl) rfl (Nat.le_of_ble_eq_true rfl) (Nat.le_trans (Nat.le_of_ble_eq_true rfl) hF) (Nat.le_trans (Nat.le_of_ble_eq_true rfl) hL) ob55 ⟨_, _, rfl⟩ (fun a17 σ18 h19 W20 q21 => ?_)
      refine w_aload_n d_D_same_89 rfl rfl ?_
      refine w_gr d_D_same_90 f_D_88 W20 or55_32 ?_
      refine w_iload_n d_D_same_93 rfl rfl ?_
      refine w_cVU [iI y2, iI a17, mr 81, iI z4] [] d_D_same_94 me_D_pass l_D_188 W20 (c_D_pass W20 ry2 q21 q8) rfl rfl (Nat.le_of_ble_eq_true rfl) rfl (Nat.le_of_ble_eq_true rfl) (Nat.le_trans (Nat.le_of_ble_eq_true rfl) hF) (Nat.le_trans (Nat.le_of_ble_eq_true rfl) hL) ob55 ⟨_, _, rfl⟩ (fun a22 σ23 h24 W25 q26 => ?_)
      refine w_iconst d_D_same_97 ?_
      exact w_iret d_D_same_98 rfl W25 (fun _ _ _ k => k) (show rng 0 by decide)
    · refine w_iconst d_D_same_80 ?_
      exact w_iret d_D_same_81 rfl W14 (fun _ _ _ k => k) (show rng 5 by decide)
def l_D_find_3 (fu : Nat) (q : Nat) : Nat → Int → Int → Int → Int → SS → Option ((Int ⊕ (Unit)) × SS)
  | 0, _, _, _, _, _ => none
  | n + 1, x1, x2, x3, x4, σ => if x4 < x2 then (ck (rng (x1 + x4)) (ck (inb 16384 (x1 + x4)) (if (σ.2.1 q (x1 + x4)) = x3 then (some (.inl x4, σ)) else (ck (rng (x4 + 1)) (l_D_find_3 fu q n x1 x2 x3 (x4 + 1) σ))))) else (some (.inr (), σ))
def f_D_find (fu : Nat) (q : Nat) (x1 : Int) (x2 : Int) (x3 : Int) (σ : SS) : Option (Int × SS) := sr (l_D_find_3 fu q fu x1 x2 x3 0 σ) fun (z1 : Unit) σ2 => some ((-1), σ2)
theorem w_D_find_3 {g : MG} {d w fu : Nat} {Q : MO → List MC → Prop} {q : Nat} (hF : 0 ≤ d) (hL : 0 ≤ w) (hq : ia q 16384) : ∀ (n : Nat) (x1 : Int) (x2 : Int) (x3 : Int) (x4 : Int) (σ : SS) (h : List MC), Wd h σ → rng x1 → rng x2 → rng x3 → rng x4 → Ew g none M_D_find d w Q (gS2 rng gU) (cS2 (cI1 Q) (cJ g none M_D_find d w Q 28 (fun x => []) (fun x => []))) 3 [(0, mr q), (1, iI x1), (2, iI x2), (3, iI x3), (4, iI x4)] [] h σ (l_D_find_3 fu q n x1 x2 x3 x4 σ) := by
  intro n
  induction n with
  | zero =>
    intro x1 x2 x3 x4 σ h hW r1 r2 r3 r4 a9 σ9 hm
    rw [l_D_find_3] at hm
    cases hm
  | succ n ih =>
    intro x1 x2 x3 x4 σ h hW r1 r2 r3 r4
    rw [l_D_find_3]
    refine w_iload d_D_find_3 rfl ?_
    refine w_iload_n d_D_find_5 rfl rfl ?_
    refine w_icmp_ge 28 d_D_find_6 (by decide) r4 r2 (fun c1 => ?_) (fun c1 => ?_)
    · refine w_aload_n d_D_find_9 rfl rfl ?_
      refine w_iload_n d_D_find_10 rfl rfl ?_
      refine w_iload d_D_find_11 rfl ?_
      refine w_iadd d_D_find_13 (fun c2 => ?_)
      refine w_ald d_D_find_14 hW hq (fun c3 => ?_)
      refine w_iload_n d_D_find_15 rfl rfl ?_
      refine w_icmp_ne 22 d_D_find_16 (by decide) (hW.ra _ _) r3 (fun c4 => ?_) (fun c4 => ?_)
      · refine w_iload d_D_find_19 rfl ?_
        exact w_iret d_D_find_21 rfl hW (fun _ _ _ k => k) r4
      · refine w_iinc [(4, iI (x4 + 1)), (0, mr q), (1, iI x1), (2, iI x2), (3, iI x3)] d_D_find_22 rfl (by decide) rfl (fun c5 => ?_)
        refine w_goto 3 d_D_find_25 (by decide) ?_
        exact w_sub (m_sc2 rfl (m_sc2 rfl (m_sc2 rfl (m_sc2 rfl (m_sc2 rfl (m_sn _)))))) (ih x1 x2 x3 (x4 + 1) _ _ hW r1 r2 r3 c5)
    · exact w_exit [] (m_sn _) hW (fun _ _ _ k => k) True.intro
theorem c_D_find {g : MG} {fu : Nat} {h : List MC} {σ : SS} {q : Nat} {x1 : Int} {x2 : Int} {x3 : Int} (hW : Wd h σ) (hq : ia q 16384) (r1 : rng x1) (r2 : rng x2) (r3 : rng x3) : Cw g M_D_find 0 0 [mr q, iI x1, iI x2, iI x3] rng cI1 h σ (f_D_find fu q x1 x2 x3 σ) := by
  refine w_of (fun d w Q hF hL => ?_)
  unfold f_D_find
  show Ew g none M_D_find d w Q rng (cI1 Q) 0 [(0, mr q), (1, iI x1), (2, iI x2), (3, iI x3)] [] h σ _
  refine w_iconst d_D_find_0 ?_
  refine w_istore [(4, iI 0), (0, mr q), (1, iI x1), (2, iI x2), (3, iI x3)] d_D_find_1 (by decide) rfl ?_
  refine w_sr (G1 := gU) (J := 28) (lvJ := fun x => []) (stJ := fun x => []) (w_sub (m_sc2 rfl (m_sc2 rfl (m_sc2 rfl (m_sc2 rfl (m_sc2 rfl (m_sn _)))))) (w_D_find_3 hF hL hq fu x1 x2 x3 0 _ _ hW r1 r2 r3 (show rng 0 by decide))) (fun z1 σ2 h3 W4 q5 => ?_)
  show Ew _ _ _ _ _ _ _ _ 28 [] [] _ _ _
  refine w_iconst d_D_find_28 ?_
  exact w_iret d_D_find_29 rfl W4 (fun _ _ _ k => k) (show rng (-1) by decide)
def l_D_both_23 (fu : Nat) : Nat → Int → Int → Int → Int → SS → Option ((Int) × SS)
  | 0, _, _, _, _, _ => none
  | n + 1, x1, x2, x3, x4, σ => ck (inb 324 x1) (if x4 < (σ.2.1 58 x1) then (ck (inb 324 x2) (ck (rng (1 + x4)) (ck (inb 16384 (1 + x4)) (sq (f_D_find fu 72 1 (σ.2.1 58 x2) (σ.2.1 71 (1 + x4)) σ) fun (a6 : Int) σ7 => sq (if a6 < 0 then (some (x3, σ7)) else (ck (inb 16384 x3) (lb (sA σ7 81 x3 x4) fun σ14 => ck (rng (8 + x3)) (ck (inb 324 x2) (ck (rng (1 + x4)) (ck (inb 16384 (1 + x4)) (sq (f_D_find fu 72 1 (σ14.2.1 58 x2) (σ14.2.1 71 (1 + x4)) σ14) fun (a21 : Int) σ22 => ck (inb 16384 (8 + x3)) (lb (sA σ22 81 (8 + x3) a21) fun σ28 => ck (rng (x3 + 1)) (some ((x3 + 1), σ28)))))))))) fun (z32 : Int) σ33 => ck (rng (x4 + 1)) (l_D_both_23 fu n x1 x2 z32 (x4 + 1) σ33))))) else (some (x3, σ)))
def l_D_both_143 (fu : Nat) : Nat → Int → Int → Int → Int → SS → Option ((Unit) × SS)
  | 0, _, _, _, _, _ => none
  | n + 1, x2, x3, x4, x5, σ => if x5 < x3 then (ck (rng (8 + x5)) (ck (inb 16384 (8 + x5)) (ck (inb 16384 x5) (lb (sA σ 81 x5 (σ.2.1 81 (8 + x5))) fun σ6 => ck (rng (x5 + 1)) (l_D_both_143 fu n x2 x3 x4 (x5 + 1) σ6))))) else (some ((), σ))
def f_D_both (fu : Nat) (σ : SS) : Option (Int × SS) := ck (inb 16384 0) (lb ((σ.2.1 71 0) / 4) fun y2 => ck (inb 16384 0) (lb ((σ.2.1 72 0) / 4) fun y5 => sq (l_D_both_23 fu fu y2 y5 0 0 σ) fun (z7 : Int) σ8 => sq (f_D_isFull σ8) fun (a12 : Int) σ13 => if a12 = 0 then (sq (f_D_make z7 σ13) fun (a18 : Int) σ19 => sq (f_D_pass fu y2 a18 z7 σ19) fun (a23 : Unit) σ24 => sq (l_D_both_143 fu fu y5 z7 a18 0 σ24) fun (z28 : Unit) σ29 => sq (f_D_pass fu y5 a18 z7 σ29) fun (a33 : Unit) σ34 => some (0, σ34)) else (some (5, σ13))))
theorem w_D_both_23 {g : MG} {d w fu : Nat} {Q : MO → List MC → Prop} (hF : 1 ≤ d) (hL : 25 ≤ w) : ∀ (n : Nat) (x1 : Int) (x2 : Int) (x3 : Int) (x4 : Int) (σ : SS) (h : List MC), Wd h σ → rng x1 → rng x2 → rng x3 → rng x4 → Ew g none M_D_both d w Q rng (cJ g none M_D_both d w Q 112 (fun x => [(0, mr 55), (1, iI x1), (2, iI x2), (3, iI x)]) (fun x => [])) 23 [(0, mr 55), (1, iI x1), (2, iI x2), (3, iI x3), (4, iI x4)] [] h σ (l_D_both_23 fu n x1 x2 x3 x4 σ) := by
  intro n
  induction n with
  | zero =>
    intro x1 x2 x3 x4 σ h hW r1 r2 r3 r4 a9 σ9 hm
    rw [l_D_both_23] at hm
    cases hm
  | succ n ih =>
    intro x1 x2 x3 x4 σ h hW r1 r2 r3 r4
    rw [l_D_both_23]
    refine w_iload d_D_both_23 rfl ?_
    refine w_aload_n d_D_both_25 rfl rfl ?_
    refine w_gr d_D_both_26 f_D_16 hW or55_6 ?_
    refine w_iload_n d_D_both_29 rfl rfl ?_
    refine w_ald d_D_both_30 hW ia58 (fun c1 => ?_)
    refine w_icmp_ge 112 d_D_both_31 (by decide) r4 (hW.ra _ _) (fun c2 => ?_) (fun c2 => ?_)
    · refine w_aload_n d_D_both_34 rfl rfl ?_
      refine w_gr d_D_both_35 f_D_60 hW or55_20 ?_
      refine w_iconst d_D_both_38 ?_
      refine w_aload_n d_D_both_39 rfl rfl ?_
      refine w_gr d_D_both_40 f_D_16 hW or55_6 ?_
      refine w_iload_n d_D_both_43 rfl rfl ?_
      refine w_ald d_D_both_44 hW ia58 (fun c3 => ?_)
      refine w_aload_n d_D_both_45 rfl rfl ?_
      refine w_gr d_D_both_46 f_D_57 hW or55_19 ?_
      refine w_iconst d_D_both_49 ?_
      refine w_iload d_D_both_50 rfl ?_
      refine w_iadd d_D_both_52 (fun c4 => ?_)
      refine w_ald d_D_both_53 hW ia71 (fun c5 => ?_)
      refine w_cSI [mr 72, iI 1, iI (σ.2.1 58 x2), iI (σ.2.1 71 (1 + x4))] [] d_D_both_54 me_D_find l_D_192 hW (c_D_find hW ia72 (show rng 1 by decide) (hW.ra _ _) (hW.ra _ _)) rfl rfl (Nat.le_of_ble_eq_true rfl) rfl (Nat.le_of_ble_eq_true rfl) (Nat.le_trans (Nat.le_of_ble_eq_true rfl) hF) (Nat.le_trans (Nat.le_of_ble_eq_true rfl) hL) (fun a6 σ7 h8 W9 q10 => ?_)
      refine w_sq (G1 := rng) (J := 106) (lvJ := fun x => [(0, mr 55), (1, iI x1), (2, iI x2), (3, iI x), (4, iI x4)]) (stJ := fun x => []) ?_ (fun z32 σ33 h34 W35 q36 => ?_)
      · refine w_if_ge 63 d_D_both_57 (by decide) q10 (fun c11 => ?_) (fun c11 => ?_)
        · refine w_goto 106 d_D_both_60 (by decide) ?_
          exact w_exit [(0, mr 55), (1, iI x1), (2, iI x2), (3, iI x3), (4, iI x4)] (m_sc2 rfl (m_sc2 rfl (m_sc2 rfl (m_sc2 rfl (m_sc2 rfl (m_sn _)))))) W9 (fun _ _ _ k => k) r3
        · refine w_aload_n d_D_both_63 rfl rfl ?_
          refine w_gr d_D_both_64 f_D_88 W9 or55_32 ?_
          refine w_iload_n d_D_both_67 rfl rfl ?_
          refine w_iload d_D_both_68 rfl ?_
          refine w_ast d_D_both_70 W9 ia81 r4 (fun c12 h13 σ14 e15 W16 => ?_)
          refine w_aload_n d_D_both_71 rfl rfl ?_
          refine w_gr d_D_both_72 f_D_88 W16 or55_32 ?_
          refine w_bipush d_D_both_75 (by decide) ?_
          refine w_iload_n d_D_both_77 rfl rfl ?_
          refine w_iadd d_D_both_78 (fun c17 => ?_)
          refine w_aload_n d_D_both_79 rfl rfl ?_
          refine w_gr d_D_both_80 f_D_60 W16 or55_20 ?_
          refine w_iconst d_D_both_83 ?_
          refine w_aload_n d_D_both_84 rfl rfl ?_
          refine w_gr d_D_both_85 f_D_16 W16 or55_6 ?_
          refine w_iload_n d_D_both_88 rfl rfl ?_
          refine w_ald d_D_both_89 W16 ia58 (fun c18 => ?_)
          refine w_aload_n d_D_both_90 rfl rfl ?_
          refine w_gr d_D_both_91 f_D_57 W16 or55_19 ?_
          refine w_iconst d_D_both_94 ?_
          refine w_iload d_D_both_95 rfl ?_
          refine w_iadd d_D_both_97 (fun c19 => ?_)
          refine w_ald d_D_both_98 W16 ia71 (fun c20 => ?_)
          refine w_cSI [mr 72, iI 1, iI (σ14.2.1 58 x2), iI (σ14.2.1 71 (1 + x4))] [iI (8 + x3), mr 81] d_D_both_99 me_D_find l_D_192 W16 (c_D_find W16 ia72 (show rng 1 by decide) (W16.ra _ _) (W16.ra _ _)) rfl rfl (Nat.le_of_ble_eq_true rfl) rfl (Nat.le_of_ble_eq_true rfl) (Nat.le_trans (Nat.le_of_ble_eq_true rfl) hF) (Nat.le_trans (Nat.le_of_ble_eq_true rfl) hL) (fun a21 σ22 h23 W24 q25 => ?_)
          refine w_ast d_D_both_102 W24 ia81 q25 (fun c26 h27 σ28 e29 W30 => ?_)
          refine w_iinc [(3, iI (x3 + 1)), (0, mr 55), (1, iI x1), (2, iI x2), (4, iI x4)] d_D_both_103 rfl (by decide) rfl (fun c31 => ?_)
          exact w_exit [(0, mr 55), (1, iI x1), (2, iI x2), (3, iI (x3 + 1)), (4, iI x4)] (m_sc2 rfl (m_sc2 rfl (m_sc2 rfl (m_sc2 rfl (m_sc2 rfl (m_sn _)))))) W30 (fun _ _ _ k => k) c31
      · show Ew _ _ _ _ _ _ _ _ 106 [(0, mr 55), (1, iI x1), (2, iI x2), (3, iI z32), (4, iI x4)] [] _ _ _
        refine w_iinc [(4, iI (x4 + 1)), (0, mr 55), (1, iI x1), (2, iI x2), (3, iI z32)] d_D_both_106 rfl (by decide) rfl (fun c37 => ?_)
        refine w_goto 23 d_D_both_109 (by decide) ?_
        exact w_sub (m_sc2 rfl (m_sc2 rfl (m_sc2 rfl (m_sc2 rfl (m_sc2 rfl (m_sn _)))))) (ih x1 x2 z32 (x4 + 1) _ _ W35 r1 r2 q36 c37)
    · exact w_exit [(0, mr 55), (1, iI x1), (2, iI x2), (3, iI x3)] (m_sc2 rfl (m_sc2 rfl (m_sc2 rfl (m_sc2 rfl (m_sn _))))) hW (fun _ _ _ k => k) r3
theorem w_D_both_143 {g : MG} {d w fu : Nat} {Q : MO → List MC → Prop} (hF : 1 ≤ d) (hL : 25 ≤ w) : ∀ (n : Nat) (x2 : Int) (x3 : Int) (x4 : Int) (x5 : Int) (σ : SS) (h : List MC), Wd h σ → rng x2 → rng x3 → rng x4 → rng x5 → Ew g none M_D_both d w Q gU (cJ g none M_D_both d w Q 172 (fun x => [(0, mr 55), (2, iI x2), (3, iI x3), (4, iI x4)]) (fun x => [])) 143 [(0, mr 55), (2, iI x2), (3, iI x3), (4, iI x4), (5, iI x5)] [] h σ (l_D_both_143 fu n x2 x3 x4 x5 σ) := by
  intro n
  induction n with
  | zero =>
    intro x2 x3 x4 x5 σ h hW r2 r3 r4 r5 a9 σ9 hm
    rw [l_D_both_143] at hm
    cases hm
  | succ n ih =>
    intro x2 x3 x4 x5 σ h hW r2 r3 r4 r5
    rw [l_D_both_143]
    refine w_iload d_D_both_143 rfl ?_
    refine w_iload_n d_D_both_145 rfl rfl ?_
    refine w_icmp_ge 172 d_D_both_146 (by decide) r5 r3 (fun c1 => ?_) (fun c1 => ?_)
    · refine w_aload_n d_D_both_149 rfl rfl ?_
      refine w_gr d_D_both_150 f_D_88 hW or55_32 ?_
      refine w_iload d_D_both_153 rfl ?_
      refine w_aload_n d_D_both_155 rfl rfl ?_
      refine w_gr d_D_both_156 f_D_88 hW or55_32 ?_
      refine w_bipush d_D_both_159 (by decide) ?_
      refine w_iload d_D_both_161 rfl ?_
      refine w_iadd d_D_both_163 (fun c2 => ?_)
      refine w_ald d_D_both_164 hW ia81 (fun c3 => ?_)
      refine w_ast d_D_both_165 hW ia81 (hW.ra _ _) (fun c4 h5 σ6 e7 W8 => ?_)
      refine w_iinc [(5, iI (x5 + 1)), (0, mr 55), (2, iI x2), (3, iI x3), (4, iI x4)] d_D_both_166 rfl (by decide) rfl (fun c9 => ?_)
      refine w_goto 143 d_D_both_169 (by decide) ?_
      exact w_sub (m_sc2 rfl (m_sc2 rfl (m_sc2 rfl (m_sc2 rfl (m_sc2 rfl (m_sn _)))))) (ih x2 x3 x4 (x5 + 1) _ _ W8 r2 r3 r4 c9)
    · exact w_exit [(0, mr 55), (2, iI x2), (3, iI x3), (4, iI x4)] (m_sc2 rfl (m_sc2 rfl (m_sc2 rfl (m_sc2 rfl (m_sn _))))) hW (fun _ _ _ k => k) True.intro
theorem c_D_both {g : MG} {fu : Nat} {h : List MC} {σ : SS} (hW : Wd h σ) : Cw g M_D_both 1 25 [mr 55] rng cI1 h σ (f_D_both fu σ) := by
  refine w_of (fun d w Q hF hL => ?_)
  unfold f_D_both
  show Ew g none M_D_both d w Q rng (cI1 Q) 0 [(0, mr 55)] [] h σ _
  refine w_aload_n d_D_both_0 rfl rfl ?_
  refine w_gr d_D_both_1 f_D_57 hW or55_19 ?_
  refine w_iconst d_D_both_4 ?_
  refine w_ald d_D_both_5 hW ia71 (fun c1 => ?_)
  refine w_iconst d_D_both_6 ?_
  refine w_shr2 d_D_both_7 (hW.ra _ _) ?_
  refine w_top (fun y2 e3 => ?_)
  have ry2 : rng y2 := e3 ▸ (rng4 (hW.ra _ _))
  refine w_istore_n [(1, iI y2), (0, mr 55)] d_D_both_8 rfl (by decide) rfl ?_
  refine w_aload_n d_D_both_9 rfl rfl ?_
  refine w_gr d_D_both_10 f_D_60 hW or55_20 ?_
  refine w_iconst d_D_both_13 ?_
  refine w_ald d_D_both_14 hW ia72 (fun c4 => ?_)
  refine w_iconst d_D_both_15 ?_
  refine w_shr2 d_D_both_16 (hW.ra _ _) ?_
  refine w_top (fun y5 e6 => ?_)
  have ry5 : rng y5 := e6 ▸ (rng4 (hW.ra _ _))
  refine w_istore_n [(2, iI y5), (1, iI y2), (0, mr 55)] d_D_both_17 rfl (by decide) rfl ?_
  refine w_iconst d_D_both_18 ?_
  refine w_istore_n [(3, iI 0), (2, iI y5), (1, iI y2), (0, mr 55)] d_D_both_19 rfl (by decide) rfl ?_
  refine w_iconst d_D_both_20 ?_
  refine w_istore [(4, iI 0), (3, iI 0), (2, iI y5), (1, iI y2), (0, mr 55)] d_D_both_21 (by decide) rfl ?_
  refine w_sq (G1 := rng) (J := 112) (lvJ := fun x => [(0, mr 55), (1, iI y2), (2, iI y5), (3, iI x)]) (stJ := fun x => []) (w_sub (m_sc2 rfl (m_sc2 rfl (m_sc2 rfl (m_sc2 rfl (m_sc2 rfl (m_sn _)))))) (w_D_both_23 hF hL fu y2 y5 0 0 _ _ hW ry2 ry5 (show rng 0 by decide) (show rng 0 by decide))) (fun z7 σ8 h9 W10 q11 => ?_)
  show Ew _ _ _ _ _ _ _ _ 112 [(0, mr 55), (1, iI y2), (2, iI y5), (3, iI z7)] [] _ _ _
  refine w_aload_n d_D_both_112 rfl rfl ?_
  refine w_cVI [] [] d_D_both_113 me_D_isFull l_D_181 W10 (c_D_isFull W10 ) rfl rfl (Nat.le_of_ble_eq_true rfl) rfl (Nat.le_of_ble_eq_true rfl) (Nat.le_trans (Nat.le_of_ble_eq_true rfl) hF) (Nat.le_trans (Nat.le_of_ble_eq_true rfl) hL) ob55 ⟨_, _, rfl⟩ (fun a12 σ13 h14 W15 q16 => ?_)
  refine w_if_eq 121 d_D_both_116 (by decide) q16 (fun c17 => ?_) (fun c17 => ?_)
  · refine w_aload_n d_D_both_121 rfl rfl ?_
    refine w_iload_n d_D_both_122 rfl rfl ?_
    refine w_cVI [iI z7] [] d_D_both_123 me_D_make l_D_185 W15 (c_D_make W15 q11) rfl rfl (Nat.le_of_ble_eq_true rfl) rfl (Nat.le_of_ble_eq_true rfl) (Nat.le_trans (Nat.le_of_ble_eq_true rfl) hF) (Nat.le_trans (Nat.le_of_ble_eq_true rfl) hL) ob55 ⟨_, _, rfl⟩ (fun a18 σ19 h20 W21 q22 => ?_)
    refine w_istore [(4, iI a18), (0, mr 55), (1, iI y2), (2, iI y5), (3, iI z7)] d_D_both_126 (by decide) rfl ?_
    refine w_aload_n d_D_both_128 rfl rfl ?_
    refine w_iload_n d_D_both_129 rfl rfl ?_
    refine w_iload d_D_both_130 rfl ?_
    refine w_aload_n d_D_both_132 rfl rfl ?_
    refine w_gr d_D_both_133 f_D_88 W21 or55_32 ?_
    refine w_iload_n d_D_both_136 rfl rfl ?_
    refine w_cVU [iI y2, iI a18, mr 81, iI z7] [] d_D_both_137 me_D_pass l_D_188 W21 (c_D_pass W21 ry2 q22 q11) rfl rfl (Nat.le_of_ble_eq_true rfl) rfl (Nat.le_of_ble_eq_true rfl) (Nat.le_trans (Nat.le_of_ble_eq_true rfl) hF) (Nat.le_trans (Nat.le_of_ble_eq_true rfl) hL) ob55 ⟨_, _, rfl⟩ (fun a23 σ24 h25 W26 q27 => ?_)
    refine w_iconst d_D_both_140 ?_
    refine w_istore [(5, iI 0), (4, iI a18), (0, mr 55), (1, iI y2), (2, iI y5), (3, iI z7)] d_D_both_141 (by decide) rfl ?_
    refine w_sq (G1 := gU) (J := 172) (lvJ := fun x => [(0, mr 55), (2, iI y5), (3, iI z7), (4, iI a18)]) (stJ := fun x => []) (w_sub (m_sc2 rfl (m_sc2 rfl (m_sc2 rfl (m_sc2 rfl (m_sc2 rfl (m_sn _)))))) (w_D_both_143 hF hL fu y5 z7 a18 0 _ _ W26 ry5 q11 q22 (show rng 0 by decide))) (fun z28 σ29 h30 W31 q32 => ?_)
    show Ew _ _ _ _ _ _ _ _ 172 [(0, mr 55), (2, iI y5), (3, iI z7), (4, iI a18)] [] _ _ _
    refine w_aload_n d_D_both_172 rfl rfl ?_
    refine w_iload_n d_D_both_173 rfl rfl ?_
    refine w_iload d_D_both_174 rfl ?_
    refine w_aload_n d_D_both_176 rfl rfl ?_
    refine w_gr d_D_both_177 f_D_88 W31 or55_32 ?_
    refine w_iload_n d_D_both_180 rfl rfl ?_
    refine w_cVU [iI y5, iI a18, mr 81, iI z7] [] d_D_both_181 me_D_pass l_D_188 W31 (c_D_pass W31 ry5 q22 q11) rfl rfl (Nat.le_of_ble_eq_true rfl) rfl (Nat.le_of_ble_eq_true rfl) (Nat.le_trans (Nat.le_of_ble_eq_true rfl) hF) (Nat.le_trans (Nat.le_of_ble_eq_true rfl) hL) ob55 ⟨_, _, rfl⟩ (fun a33 σ34 h35 W36 q37 => ?_)
    refine w_iconst d_D_both_184 ?_
    exact w_iret d_D_both_185 rfl W36 (fun _ _ _ k => k) (show rng 0 by decide)
  · refine w_iconst d_D_both_119 ?_
    exact w_iret d_D_both_120 rfl W15 (fun _ _ _ k => k) (show rng 5 by decide)
def l_D_hindrance_110 (fu : Nat) (q : Nat) (r : Nat) : Nat → Int → Int → Int → Int → Int → SS → Option ((Int ⊕ (Unit)) × SS)
  | 0, _, _, _, _, _, _ => none
  | n + 1, x3, x4, x5, x6, x7, σ => ck (inb 324 x6) (if x7 < (σ.2.1 58 x6) then (ck (rng (x5 + 1)) (ck (rng ((x5 + 1) + x7)) (ck (inb 16384 ((x5 + 1) + x7)) (ck (inb 16384 x5) (ck (rng (((σ.2.1 r ((x5 + 1) + x7)) / 4) - (σ.2.1 74 x5))) (lb (((σ.2.1 r ((x5 + 1) + x7)) / 4) - (σ.2.1 74 x5)) fun y8 => srr (if y8 < 0 then (some (.inr (), σ)) else (ck (inb 324 x4) (ck (rng (4 * y8)) (sq (f_D_find fu q 1 (σ.2.1 58 x4) (4 * y8) σ) fun (a13 : Int) σ14 => if a13 < 0 then (some (.inl x5, σ14)) else (some (.inr (), σ14)))))) fun (z19 : Unit) σ20 => ck (rng (x7 + 1)) (l_D_hindrance_110 fu q r n x3 x4 x5 x6 (x7 + 1) σ20))))))) else (some (.inr (), σ)))
def l_D_hindrance_17 (fu : Nat) (q : Nat) (r : Nat) : Nat → Int → Int → Int → SS → Option ((Int ⊕ (Unit)) × SS)
  | 0, _, _, _, _ => none
  | n + 1, x3, x4, x5, σ => if x5 < x3 then (ck (inb 16384 x5) (lb ((σ.2.1 r x5) / 4) fun y3 => ck (inb 16384 x5) (srr (if ((σ.2.1 r x5) % 4) = 0 then (ck (inb 16384 x5) (if y3 < (σ.2.1 74 x5) then (some (.inr (), σ)) else (ck (inb 324 x4) (ck (inb 16384 x5) (ck (rng (y3 - (σ.2.1 74 x5))) (ck (rng (4 * (y3 - (σ.2.1 74 x5)))) (sq (f_D_find fu q 1 (σ.2.1 58 x4) (4 * (y3 - (σ.2.1 74 x5))) σ) fun (a13 : Int) σ14 => if a13 < 0 then (some (.inl x5, σ14)) else (some (.inr (), σ14))))))))) else (some (.inr (), σ))) fun (z19 : Unit) σ20 => ck (inb 16384 x5) (srr (if ((σ20.2.1 r x5) % 4) = 2 then (if y3 = x4 then (some (.inl x5, σ20)) else (srr (l_D_hindrance_110 fu q r fu x3 x4 x5 y3 0 σ20) fun (z27 : Unit) σ28 => ck (inb 324 y3) (ck (rng (x5 + (σ28.2.1 58 y3))) (lb (x5 + (σ28.2.1 58 y3)) fun y34 => some (.inr y34, σ28))))) else (some (.inr x5, σ20))) fun (z36 : Int) σ37 => ck (rng (z36 + 1)) (l_D_hindrance_17 fu q r n x3 x4 (z36 + 1) σ37))))) else (some (.inr (), σ))
def f_D_hindrance (fu : Nat) (q : Nat) (r : Nat) (x3 : Int) (σ : SS) : Option (Int × SS) := ck (inb 16384 0) (lb ((σ.2.1 q 0) / 4) fun y2 => sq (f_D_measure fu r 16384 0 x3 σ) fun (a4 : Unit) σ5 => sr (l_D_hindrance_17 fu q r fu x3 y2 0 σ5) fun (z9 : Unit) σ10 => some ((-1), σ10))
theorem w_D_hindrance_110 {g : MG} {d w fu : Nat} {Q : MO → List MC → Prop} {q : Nat} {r : Nat} (hF : 2 ≤ d) (hL : 49 ≤ w) (hq : ia q 16384) (hr : ia r 16384) : ∀ (n : Nat) (x3 : Int) (x4 : Int) (x5 : Int) (x6 : Int) (x7 : Int) (σ : SS) (h : List MC), Wd h σ → rng x3 → rng x4 → rng x5 → rng x6 → rng x7 → Ew g none M_D_hindrance d w Q (gS2 rng gU) (cS2 (cI1 Q) (cJ g none M_D_hindrance d w Q 176 (fun x => [(0, mr 55), (1, mr q), (2, mr r), (3, iI x3), (4, iI x4), (5, iI x5), (6, iI x6)]) (fun x => []))) 110 [(0, mr 55), (1, mr q), (2, mr r), (3, iI x3), (4, iI x4), (5, iI x5), (6, iI x6), (7, iI x7)] [] h σ (l_D_hindrance_110 fu q r n x3 x4 x5 x6 x7 σ) := by
  intro n
  induction n with
  | zero =>
    intro x3 x4 x5 x6 x7 σ h hW r3 r4 r5 r6 r7 a9 σ9 hm
    rw [l_D_hindrance_110] at hm
    cases hm
  | succ n ih =>
    intro x3 x4 x5 x6 x7 σ h hW r3 r4 r5 r6 r7
    rw [l_D_hindrance_110]
    refine w_iload d_D_hindrance_110 rfl ?_
    refine w_aload_n d_D_hindrance_112 rfl rfl ?_
    refine w_gr d_D_hindrance_113 f_D_16 hW or55_6 ?_
    refine w_iload d_D_hindrance_116 rfl ?_
    refine w_ald d_D_hindrance_118 hW ia58 (fun c1 => ?_)
    refine w_icmp_ge 176 d_D_hindrance_119 (by decide) r7 (hW.ra _ _) (fun c2 => ?_) (fun c2 => ?_)
    · refine w_aload_n d_D_hindrance_122 rfl rfl ?_
      refine w_iload d_D_hindrance_123 rfl ?_
      refine w_iconst d_D_hindrance_125 ?_
      refine w_iadd d_D_hindrance_126 (fun c3 => ?_)
      refine w_iload d_D_hindrance_127 rfl ?_
      refine w_iadd d_D_hindrance_129 (fun c4 => ?_)
      refine w_ald d_D_hindrance_130 hW hr (fun c5 => ?_)
      refine w_iconst d_D_hindrance_131 ?_
      refine w_shr2 d_D_hindrance_132 (hW.ra _ _) ?_
      refine w_aload_n d_D_hindrance_133 rfl rfl ?_
      refine w_gr d_D_hindrance_134 f_D_66 hW or55_22 ?_
      refine w_iload d_D_hindrance_137 rfl ?_
      refine w_ald d_D_hindrance_139 hW ia74 (fun c6 => ?_)
      refine w_isub d_D_hindrance_140 (fun c7 => ?_)
      refine w_top (fun y8 e9 => ?_)
      have ry8 : rng y8 := e9 ▸ c7
      refine w_istore [(8, iI y8), (0, mr 55), (1, mr q), (2, mr r), (3, iI x3), (4, iI x4), (5, iI x5), (6, iI x6), (7, iI x7)] d_D_hindrance_141 (by decide) rfl ?_
      refine w_iload d_D_hindrance_143 rfl ?_
      refine w_srr (G1 := gU) (J := 170) (lvJ := fun x => [(0, mr 55), (1, mr q), (2, mr r), (3, iI x3), (4, iI x4), (5, iI x5), (6, iI x6), (7, iI x7)]) (stJ := fun x => []) ?_ (fun z19 σ20 h21 W22 q23 => ?_)
      · refine w_if_lt 170 d_D_hindrance_145 (by decide) ry8 (fun c10 => ?_) (fun c10 => ?_)
        · exact w_exit [(0, mr 55), (1, mr q), (2, mr r), (3, iI x3), (4, iI x4), (5, iI x5), (6, iI x6), (7, iI x7)] (m_sc2 rfl (m_sc2 rfl (m_sc2 rfl (m_sc2 rfl (m_sc2 rfl (m_sc2 rfl (m_sc2 rfl (m_sc2 rfl (m_sn _))))))))) hW (fun _ _ _ k => k) True.intro
        · refine w_aload_n d_D_hindrance_148 rfl rfl ?_
          refine w_iconst d_D_hindrance_149 ?_
          refine w_aload_n d_D_hindrance_150 rfl rfl ?_
          refine w_gr d_D_hindrance_151 f_D_16 hW or55_6 ?_
          refine w_iload d_D_hindrance_154 rfl ?_
          refine w_ald d_D_hindrance_156 hW ia58 (fun c11 => ?_)
          refine w_iconst d_D_hindrance_157 ?_
          refine w_iload d_D_hindrance_158 rfl ?_
          refine w_imul d_D_hindrance_160 (fun c12 => ?_)
          refine w_cSI [mr q, iI 1, iI (σ.2.1 58 x4), iI (4 * y8)] [] d_D_hindrance_161 me_D_find l_D_192 hW (c_D_find hW hq (show rng 1 by decide) (hW.ra _ _) c12) rfl rfl (Nat.le_of_ble_eq_true rfl) rfl (Nat.le_of_ble_eq_true rfl) (Nat.le_trans (Nat.le_of_ble_eq_true rfl) hF) (Nat.le_trans (Nat.le_of_ble_eq_true rfl) hL) (fun a13 σ14 h15 W16 q17 => ?_)
          refine w_if_ge 170 d_D_hindrance_164 (by decide) q17 (fun c18 => ?_) (fun c18 => ?_)
          · refine w_iload d_D_hindrance_167 rfl ?_
            exact w_iret d_D_hindrance_169 rfl W16 (fun _ _ _ k => k) r5
          · exact w_exit [(0, mr 55), (1, mr q), (2, mr r), (3, iI x3), (4, iI x4), (5, iI x5), (6, iI x6), (7, iI x7)] (m_sc2 rfl (m_sc2 rfl (m_sc2 rfl (m_sc2 rfl (m_sc2 rfl (m_sc2 rfl (m_sc2 rfl (m_sc2 rfl (m_sn _))))))))) W16 (fun _ _ _ k => k) True.intro
      · show Ew _ _ _ _ _ _ _ _ 170 [(0, mr 55), (1, mr q), (2, mr r), (3, iI x3), (4, iI x4), (5, iI x5), (6, iI x6), (7, iI x7)] [] _ _ _
        refine w_iinc [(7, iI (x7 + 1)), (0, mr 55), (1, mr q), (2, mr r), (3, iI x3), (4, iI x4), (5, iI x5), (6, iI x6)] d_D_hindrance_170 rfl (by decide) rfl (fun c24 => ?_)
        refine w_goto 110 d_D_hindrance_173 (by decide) ?_
        exact w_sub (m_sc2 rfl (m_sc2 rfl (m_sc2 rfl (m_sc2 rfl (m_sc2 rfl (m_sc2 rfl (m_sc2 rfl (m_sc2 rfl (m_sn _))))))))) (ih x3 x4 x5 x6 (x7 + 1) _ _ W22 r3 r4 r5 r6 c24)
    · exact w_exit [(0, mr 55), (1, mr q), (2, mr r), (3, iI x3), (4, iI x4), (5, iI x5), (6, iI x6)] (m_sc2 rfl (m_sc2 rfl (m_sc2 rfl (m_sc2 rfl (m_sc2 rfl (m_sc2 rfl (m_sc2 rfl (m_sn _)))))))) hW (fun _ _ _ k => k) True.intro
theorem w_D_hindrance_17 {g : MG} {d w fu : Nat} {Q : MO → List MC → Prop} {q : Nat} {r : Nat} (hF : 2 ≤ d) (hL : 49 ≤ w) (hq : ia q 16384) (hr : ia r 16384) : ∀ (n : Nat) (x3 : Int) (x4 : Int) (x5 : Int) (σ : SS) (h : List MC), Wd h σ → rng x3 → rng x4 → rng x5 → Ew g none M_D_hindrance d w Q (gS2 rng gU) (cS2 (cI1 Q) (cJ g none M_D_hindrance d w Q 194 (fun x => []) (fun x => []))) 17 [(0, mr 55), (1, mr q), (2, mr r), (3, iI x3), (4, iI x4), (5, iI x5)] [] h σ (l_D_hindrance_17 fu q r n x3 x4 x5 σ) := by
  intro n
  induction n with
  | zero =>
    intro x3 x4 x5 σ h hW r3 r4 r5 a9 σ9 hm
    rw [l_D_hindrance_17] at hm
    cases hm
  | succ n ih =>
    intro x3 x4 x5 σ h hW r3 r4 r5
    rw [l_D_hindrance_17]
    refine w_iload d_D_hindrance_17 rfl ?_
    refine w_iload_n d_D_hindrance_19 rfl rfl ?_
    refine w_icmp_ge 194 d_D_hindrance_20 (by decide) r5 r3 (fun c1 => ?_) (fun c1 => ?_)
    · refine w_aload_n d_D_hindrance_23 rfl rfl ?_
      refine w_iload d_D_hindrance_24 rfl ?_
      refine w_ald d_D_hindrance_26 hW hr (fun c2 => ?_)
      refine w_iconst d_D_hindrance_27 ?_
      refine w_shr2 d_D_hindrance_28 (hW.ra _ _) ?_
      refine w_top (fun y3 e4 => ?_)
      have ry3 : rng y3 := e4 ▸ (rng4 (hW.ra _ _))
      refine w_istore [(6, iI y3), (0, mr 55), (1, mr q), (2, mr r), (3, iI x3), (4, iI x4), (5, iI x5)] d_D_hindrance_29 (by decide) rfl ?_
      refine w_aload_n d_D_hindrance_31 rfl rfl ?_
      refine w_iload d_D_hindrance_32 rfl ?_
      refine w_ald d_D_hindrance_34 hW hr (fun c5 => ?_)
      refine w_D_sort d_D_hindrance_35 l_D_129 (Nat.le_of_ble_eq_true rfl) (Nat.le_trans (Nat.le_of_ble_eq_true rfl) hF) (Nat.le_trans (Nat.le_of_ble_eq_true rfl) hL) ?_
      refine w_srr (G1 := gU) (J := 83) (lvJ := fun x => [(0, mr 55), (1, mr q), (2, mr r), (3, iI x3), (4, iI x4), (5, iI x5), (6, iI y3)]) (stJ := fun x => []) ?_ (fun z19 σ20 h21 W22 q23 => ?_)
      · refine w_if_ne 83 d_D_hindrance_38 (by decide) (rngm _) (fun c6 => ?_) (fun c6 => ?_)
        · refine w_iload d_D_hindrance_41 rfl ?_
          refine w_aload_n d_D_hindrance_43 rfl rfl ?_
          refine w_gr d_D_hindrance_44 f_D_66 hW or55_22 ?_
          refine w_iload d_D_hindrance_47 rfl ?_
          refine w_ald d_D_hindrance_49 hW ia74 (fun c7 => ?_)
          refine w_icmp_lt 83 d_D_hindrance_50 (by decide) ry3 (hW.ra _ _) (fun c8 => ?_) (fun c8 => ?_)
          · exact w_exit [(0, mr 55), (1, mr q), (2, mr r), (3, iI x3), (4, iI x4), (5, iI x5), (6, iI y3)] (m_sc2 rfl (m_sc2 rfl (m_sc2 rfl (m_sc2 rfl (m_sc2 rfl (m_sc2 rfl (m_sc2 rfl (m_sn _)))))))) hW (fun _ _ _ k => k) True.intro
          · refine w_aload_n d_D_hindrance_53 rfl rfl ?_
            refine w_iconst d_D_hindrance_54 ?_
            refine w_aload_n d_D_hindrance_55 rfl rfl ?_
            refine w_gr d_D_hindrance_56 f_D_16 hW or55_6 ?_
            refine w_iload d_D_hindrance_59 rfl ?_
            refine w_ald d_D_hindrance_61 hW ia58 (fun c9 => ?_)
            refine w_iconst d_D_hindrance_62 ?_
            refine w_iload d_D_hindrance_63 rfl ?_
            refine w_aload_n d_D_hindrance_65 rfl rfl ?_
            refine w_gr d_D_hindrance_66 f_D_66 hW or55_22 ?_
            refine w_iload d_D_hindrance_69 rfl ?_
            refine w_ald d_D_hindrance_71 hW ia74 (fun c10 => ?_)
            refine w_isub d_D_hindrance_72 (fun c11 => ?_)
            refine w_imul d_D_hindrance_73 (fun c12 => ?_)
            refine w_cSI [mr q, iI 1, iI (σ.2.1 58 x4), iI (4 * (y3 - (σ.2.1 74 x5)))] [] d_D_hindrance_74 me_D_find l_D_192 hW (c_D_find hW hq (show rng 1 by decide) (hW.ra _ _) c12) rfl rfl (Nat.le_of_ble_eq_true rfl) rfl (Nat.le_of_ble_eq_true rfl) (Nat.le_trans (Nat.le_of_ble_eq_true rfl) hF) (Nat.le_trans (Nat.le_of_ble_eq_true rfl) hL) (fun a13 σ14 h15 W16 q17 => ?_)
            refine w_if_ge 83 d_D_hindrance_77 (by decide) q17 (fun c18 => ?_) (fun c18 => ?_)
            · refine w_iload d_D_hindrance_80 rfl ?_
              exact w_iret d_D_hindrance_82 rfl W16 (fun _ _ _ k => k) r5
            · exact w_exit [(0, mr 55), (1, mr q), (2, mr r), (3, iI x3), (4, iI x4), (5, iI x5), (6, iI y3)] (m_sc2 rfl (m_sc2 rfl (m_sc2 rfl (m_sc2 rfl (m_sc2 rfl (m_sc2 rfl (m_sc2 rfl (m_sn _)))))))) W16 (fun _ _ _ k => k) True.intro
        · exact w_exit [(0, mr 55), (1, mr q), (2, mr r), (3, iI x3), (4, iI x4), (5, iI x5), (6, iI y3)] (m_sc2 rfl (m_sc2 rfl (m_sc2 rfl (m_sc2 rfl (m_sc2 rfl (m_sc2 rfl (m_sc2 rfl (m_sn _)))))))) hW (fun _ _ _ k => k) True.intro
      · show Ew _ _ _ _ _ _ _ _ 83 [(0, mr 55), (1, mr q), (2, mr r), (3, iI x3), (4, iI x4), (5, iI x5), (6, iI y3)] [] _ _ _
        refine w_aload_n d_D_hindrance_83 rfl rfl ?_
        refine w_iload d_D_hindrance_84 rfl ?_
        refine w_ald d_D_hindrance_86 W22 hr (fun c24 => ?_)
        refine w_D_sort d_D_hindrance_87 l_D_129 (Nat.le_of_ble_eq_true rfl) (Nat.le_trans (Nat.le_of_ble_eq_true rfl) hF) (Nat.le_trans (Nat.le_of_ble_eq_true rfl) hL) ?_
        refine w_iconst d_D_hindrance_90 ?_
        refine w_srr (G1 := rng) (J := 188) (lvJ := fun x => [(0, mr 55), (1, mr q), (2, mr r), (3, iI x3), (4, iI x4), (5, iI x)]) (stJ := fun x => []) ?_ (fun z36 σ37 h38 W39 q40 => ?_)
        · refine w_icmp_eq 97 d_D_hindrance_91 (by decide) (rngm _) (show rng 2 by decide) (fun c25 => ?_) (fun c25 => ?_)
          · refine w_iload d_D_hindrance_97 rfl ?_
            refine w_iload d_D_hindrance_99 rfl ?_
            refine w_icmp_ne 107 d_D_hindrance_101 (by decide) ry3 r4 (fun c26 => ?_) (fun c26 => ?_)
            · refine w_iload d_D_hindrance_104 rfl ?_
              exact w_iret d_D_hindrance_106 rfl W22 (fun _ _ _ k => k) r5
            · refine w_iconst d_D_hindrance_107 ?_
              refine w_istore [(7, iI 0), (0, mr 55), (1, mr q), (2, mr r), (3, iI x3), (4, iI x4), (5, iI x5), (6, iI y3)] d_D_hindrance_108 (by decide) rfl ?_
              refine w_srr (G1 := gU) (J := 176) (lvJ := fun x => [(0, mr 55), (1, mr q), (2, mr r), (3, iI x3), (4, iI x4), (5, iI x5), (6, iI y3)]) (stJ := fun x => []) (w_sub (m_sc2 rfl (m_sc2 rfl (m_sc2 rfl (m_sc2 rfl (m_sc2 rfl (m_sc2 rfl (m_sc2 rfl (m_sc2 rfl (m_sn _))))))))) (w_D_hindrance_110 hF hL hq hr fu x3 x4 x5 y3 0 _ _ W22 r3 r4 r5 ry3 (show rng 0 by decide))) (fun z27 σ28 h29 W30 q31 => ?_)
              show Ew _ _ _ _ _ _ _ _ 176 [(0, mr 55), (1, mr q), (2, mr r), (3, iI x3), (4, iI x4), (5, iI x5), (6, iI y3)] [] _ _ _
              refine w_iload d_D_hindrance_176 rfl ?_
              refine w_aload_n d_D_hindrance_178 rfl rfl ?_
              refine w_gr d_D_hindrance_179 f_D_16 W30 or55_6 ?_
              refine w_iload d_D_hindrance_182 rfl ?_
              refine w_ald d_D_hindrance_184 W30 ia58 (fun c32 => ?_)
              refine w_iadd d_D_hindrance_185 (fun c33 => ?_)
              refine w_top (fun y34 e35 => ?_)
              have ry34 : rng y34 := e35 ▸ c33
              refine w_istore [(5, iI y34), (0, mr 55), (1, mr q), (2, mr r), (3, iI x3), (4, iI x4), (6, iI y3)] d_D_hindrance_186 (by decide) rfl ?_
              exact w_exit [(0, mr 55), (1, mr q), (2, mr r), (3, iI x3), (4, iI x4), (5, iI y34)] (m_sc2 rfl (m_sc2 rfl (m_sc2 rfl (m_sc2 rfl (m_sc2 rfl (m_sc2 rfl (m_sn _))))))) W30 (fun _ _ _ k => k) ry34
          · refine w_goto 188 d_D_hindrance_94 (by decide) ?_
            exact w_exit [(0, mr 55), (1, mr q), (2, mr r), (3, iI x3), (4, iI x4), (5, iI x5)] (m_sc2 rfl (m_sc2 rfl (m_sc2 rfl (m_sc2 rfl (m_sc2 rfl (m_sc2 rfl (m_sn _))))))) W22 (fun _ _ _ k => k) r5
        · show Ew _ _ _ _ _ _ _ _ 188 [(0, mr 55), (1, mr q), (2, mr r), (3, iI x3), (4, iI x4), (5, iI z36)] [] _ _ _
          refine w_iinc [(5, iI (z36 + 1)), (0, mr 55), (1, mr q), (2, mr r), (3, iI x3), (4, iI x4)] d_D_hindrance_188 rfl (by decide) rfl (fun c41 => ?_)
          refine w_goto 17 d_D_hindrance_191 (by decide) ?_
          exact w_sub (m_sc2 rfl (m_sc2 rfl (m_sc2 rfl (m_sc2 rfl (m_sc2 rfl (m_sc2 rfl (m_sn _))))))) (ih x3 x4 (z36 + 1) _ _ W39 r3 r4 c41)
    · exact w_exit [] (m_sn _) hW (fun _ _ _ k => k) True.intro
theorem c_D_hindrance {g : MG} {fu : Nat} {h : List MC} {σ : SS} {q : Nat} {r : Nat} {x3 : Int} (hW : Wd h σ) (hq : ia q 16384) (hr : ia r 16384) (r3 : rng x3) : Cw g M_D_hindrance 2 49 [mr 55, mr q, mr r, iI x3] rng cI1 h σ (f_D_hindrance fu q r x3 σ) := by
  refine w_of (fun d w Q hF hL => ?_)
  unfold f_D_hindrance
  show Ew g none M_D_hindrance d w Q rng (cI1 Q) 0 [(0, mr 55), (1, mr q), (2, mr r), (3, iI x3)] [] h σ _
  refine w_aload_n d_D_hindrance_0 rfl rfl ?_
  refine w_iconst d_D_hindrance_1 ?_
  refine w_ald d_D_hindrance_2 hW hq (fun c1 => ?_)
  refine w_iconst d_D_hindrance_3 ?_
  refine w_shr2 d_D_hindrance_4 (hW.ra _ _) ?_
  refine w_top (fun y2 e3 => ?_)
  have ry2 : rng y2 := e3 ▸ (rng4 (hW.ra _ _))
  refine w_istore [(4, iI y2), (0, mr 55), (1, mr q), (2, mr r), (3, iI x3)] d_D_hindrance_5 (by decide) rfl ?_
  refine w_aload_n d_D_hindrance_7 rfl rfl ?_
  refine w_aload_n d_D_hindrance_8 rfl rfl ?_
  refine w_iconst d_D_hindrance_9 ?_
  refine w_iload_n d_D_hindrance_10 rfl rfl ?_
  refine w_cVU [mr r, iI 0, iI x3] [] d_D_hindrance_11 me_D_measure l_D_133 hW (c_D_measure hW hr (show rng 0 by decide) r3) rfl rfl (Nat.le_of_ble_eq_true rfl) rfl (Nat.le_of_ble_eq_true rfl) (Nat.le_trans (Nat.le_of_ble_eq_true rfl) hF) (Nat.le_trans (Nat.le_of_ble_eq_true rfl) hL) ob55 ⟨_, _, rfl⟩ (fun a4 σ5 h6 W7 q8 => ?_)
  refine w_iconst d_D_hindrance_14 ?_
  refine w_istore [(5, iI 0), (4, iI y2), (0, mr 55), (1, mr q), (2, mr r), (3, iI x3)] d_D_hindrance_15 (by decide) rfl ?_
  refine w_sr (G1 := gU) (J := 194) (lvJ := fun x => []) (stJ := fun x => []) (w_sub (m_sc2 rfl (m_sc2 rfl (m_sc2 rfl (m_sc2 rfl (m_sc2 rfl (m_sc2 rfl (m_sn _))))))) (w_D_hindrance_17 hF hL hq hr fu x3 y2 0 _ _ W7 r3 ry2 (show rng 0 by decide))) (fun z9 σ10 h11 W12 q13 => ?_)
  show Ew _ _ _ _ _ _ _ _ 194 [] [] _ _ _
  refine w_iconst d_D_hindrance_194 ?_
  exact w_iret d_D_hindrance_195 rfl W12 (fun _ _ _ k => k) (show rng (-1) by decide)
