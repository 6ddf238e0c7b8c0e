def f_D_isWhole (x1 : Int) (σ : SS) : Option (Int × SS) := ck (inb 8 x1) (if (σ.2.1 70 x1) = 0 then (some (0, σ)) else (ck (inb 8 x1) (if (σ.2.1 67 x1) = 0 then (some (1, σ)) else (some (0, σ)))))
theorem c_D_isWhole {g : MG} {h : List MC} {σ : SS} {x1 : Int} (hW : Wd h σ) (r1 : rng x1) : Cw g M_D_isWhole 0 0 [mr 55, iI x1] rng cI1 h σ (f_D_isWhole x1 σ) := by
  refine w_of (fun d w Q hF hL => ?_)
  unfold f_D_isWhole
  show Ew g none M_D_isWhole d w Q rng (cI1 Q) 0 [(0, mr 55), (1, iI x1)] [] h σ _
  refine w_aload_n d_D_isWhole_0 rfl rfl ?_
  refine w_gr d_D_isWhole_1 f_D_54 hW or55_18 ?_
  refine w_iload_n d_D_isWhole_4 rfl rfl ?_
  refine w_bld d_D_isWhole_5 hW za70 (fun c1 => ?_)
  refine w_if_eq 22 d_D_isWhole_6 (by decide) (hW.ra _ _) (fun c2 => ?_) (fun c2 => ?_)
  · refine w_iconst d_D_isWhole_22 ?_
    exact w_zret d_D_isWhole_23 rfl (by decide) hW (fun _ _ _ k => k) (show rng 0 by decide)
  · refine w_aload_n d_D_isWhole_9 rfl rfl ?_
    refine w_gr d_D_isWhole_10 f_D_45 hW or55_15 ?_
    refine w_iload_n d_D_isWhole_13 rfl rfl ?_
    refine w_ald d_D_isWhole_14 hW ia67 (fun c3 => ?_)
    refine w_if_ne 22 d_D_isWhole_15 (by decide) (hW.ra _ _) (fun c4 => ?_) (fun c4 => ?_)
    · refine w_iconst d_D_isWhole_18 ?_
      refine w_goto 23 d_D_isWhole_19 (by decide) ?_
      exact w_zret d_D_isWhole_23 rfl (by decide) hW (fun _ _ _ k => k) (show rng 1 by decide)
    · refine w_iconst d_D_isWhole_22 ?_
      exact w_zret d_D_isWhole_23 rfl (by decide) hW (fun _ _ _ k => k) (show rng 0 by decide)
def f_D_refuses (x1 : Int) (x2 : Int) (σ : SS) : Option (Int × SS) := sq (f_D_isSlot x1 σ) fun (a1 : Int) σ2 => sq (if a1 = 0 then (some (0, σ2)) else (sq (f_D_isSlot x2 σ2) fun (a7 : Int) σ8 => if a7 = 0 then (some (0, σ8)) else (some (1, σ8)))) fun (z13 : Int) σ14 => sq (if z13 = 0 then (some (1, σ14)) else (some (0, σ14))) fun (z19 : Int) σ20 => sq (if z13 = 0 then (some (0, σ20)) else (sq (f_D_isWhole x1 σ20) fun (a25 : Int) σ26 => if a25 = 0 then (some (1, σ26)) else (sq (f_D_isWhole x2 σ26) fun (a31 : Int) σ32 => if a31 = 0 then (some (1, σ32)) else (ck (inb 8 x1) (ck (inb 8 x2) (if (σ32.2.1 66 x1) = (σ32.2.1 66 x2) then (some (0, σ32)) else (some (1, σ32)))))))) fun (z40 : Int) σ41 => sq (f_D_fails z19 z40 σ41) fun (a45 : Int) σ46 => ck (a45 = 0 ∨ a45 = 1) (some (a45, σ46))
theorem c_D_refuses {g : MG} {h : List MC} {σ : SS} {x1 : Int} {x2 : Int} (hW : Wd h σ) (r1 : rng x1) (r2 : rng x2) : Cw g M_D_refuses 1 22 [mr 55, iI x1, iI x2] rng cI1 h σ (f_D_refuses x1 x2 σ) := by
  refine w_of (fun d w Q hF hL => ?_)
  unfold f_D_refuses
  show Ew g none M_D_refuses d w Q rng (cI1 Q) 0 [(0, mr 55), (1, iI x1), (2, iI x2)] [] h σ _
  refine w_iload_n d_D_refuses_0 rfl rfl ?_
  refine w_cSI [iI x1] [] d_D_refuses_1 me_D_isSlot l_D_114 hW (c_D_isSlot hW r1) rfl rfl (Nat.le_of_ble_eq_true rfl) rfl (Nat.le_of_ble_eq_true rfl) (Nat.le_trans (Nat.le_of_ble_eq_true rfl) hF) (Nat.le_trans (Nat.le_of_ble_eq_true rfl) hL) (fun a1 σ2 h3 W4 q5 => ?_)
  refine w_sq (G1 := rng) (J := 19) (lvJ := fun x => [(0, mr 55), (1, iI x1), (2, iI x2)]) (stJ := fun x => [iI x]) ?_ (fun z13 σ14 h15 W16 q17 => ?_)
  · refine w_if_eq 18 d_D_refuses_4 (by decide) q5 (fun c6 => ?_) (fun c6 => ?_)
    · refine w_iconst d_D_refuses_18 ?_
      exact w_exit [(0, mr 55), (1, iI x1), (2, iI x2)] (m_sc2 rfl (m_sc2 rfl (m_sc2 rfl (m_sn _)))) W4 (fun _ _ _ k => k) (show rng 0 by decide)
    · refine w_iload_n d_D_refuses_7 rfl rfl ?_
      refine w_cSI [iI x2] [] d_D_refuses_8 me_D_isSlot l_D_114 W4 (c_D_isSlot W4 r2) rfl rfl (Nat.le_of_ble_eq_true rfl) rfl (Nat.le_of_ble_eq_true rfl) (Nat.le_trans (Nat.le_of_ble_eq_true rfl) hF) (Nat.le_trans (Nat.le_of_ble_eq_true rfl) hL) (fun a7 σ8 h9 W10 q11 => ?_)
      refine w_if_eq 18 d_D_refuses_11 (by decide) q11 (fun c12 => ?_) (fun c12 => ?_)
      · refine w_iconst d_D_refuses_18 ?_
        exact w_exit [(0, mr 55), (1, iI x1), (2, iI x2)] (m_sc2 rfl (m_sc2 rfl (m_sc2 rfl (m_sn _)))) W10 (fun _ _ _ k => k) (show rng 0 by decide)
      · refine w_iconst d_D_refuses_14 ?_
        refine w_goto 19 d_D_refuses_15 (by decide) ?_
        exact w_exit [(0, mr 55), (1, iI x1), (2, iI x2)] (m_sc2 rfl (m_sc2 rfl (m_sc2 rfl (m_sn _)))) W10 (fun _ _ _ k => k) (show rng 1 by decide)
  · show Ew _ _ _ _ _ _ _ _ 19 [(0, mr 55), (1, iI x1), (2, iI x2)] [iI z13] _ _ _
    refine w_istore_n [(3, iI z13), (0, mr 55), (1, iI x1), (2, iI x2)] d_D_refuses_19 rfl (by decide) rfl ?_
    refine w_aload_n d_D_refuses_20 rfl rfl ?_
    refine w_iload_n d_D_refuses_21 rfl rfl ?_
    refine w_sq (G1 := rng) (J := 30) (lvJ := fun x => [(0, mr 55), (1, iI x1), (2, iI x2), (3, iI z13)]) (stJ := fun x => [iI x, mr 55]) ?_ (fun z19 σ20 h21 W22 q23 => ?_)
    · refine w_if_ne 29 d_D_refuses_22 (by decide) q17 (fun c18 => ?_) (fun c18 => ?_)
      · refine w_iconst d_D_refuses_25 ?_
        refine w_goto 30 d_D_refuses_26 (by decide) ?_
        exact w_exit [(0, mr 55), (1, iI x1), (2, iI x2), (3, iI z13)] (m_sc2 rfl (m_sc2 rfl (m_sc2 rfl (m_sc2 rfl (m_sn _))))) W16 (fun _ _ _ k => k) (show rng 1 by decide)
      · refine w_iconst d_D_refuses_29 ?_
        exact w_exit [(0, mr 55), (1, iI x1), (2, iI x2), (3, iI z13)] (m_sc2 rfl (m_sc2 rfl (m_sc2 rfl (m_sc2 rfl (m_sn _))))) W16 (fun _ _ _ k => k) (show rng 0 by decide)
    · show Ew _ _ _ _ _ _ _ _ 30 [(0, mr 55), (1, iI x1), (2, iI x2), (3, iI z13)] [iI z19, mr 55] _ _ _
      refine w_iload_n d_D_refuses_30 rfl rfl ?_
      refine w_sq (G1 := rng) (J := 70) (lvJ := fun x => []) (stJ := fun x => [iI x, iI z19, mr 55]) ?_ (fun z40 σ41 h42 W43 q44 => ?_)
      · refine w_if_eq 69 d_D_refuses_31 (by decide) q17 (fun c24 => ?_) (fun c24 => ?_)
        · refine w_iconst d_D_refuses_69 ?_
          exact w_exit [] (m_sn _) W22 (fun _ _ _ k => k) (show rng 0 by decide)
        · refine w_aload_n d_D_refuses_34 rfl rfl ?_
          refine w_iload_n d_D_refuses_35 rfl rfl ?_
          refine w_cVI [iI x1] [iI z19, mr 55] d_D_refuses_36 me_D_isWhole l_D_202 W22 (c_D_isWhole W22 r1) rfl rfl (Nat.le_of_ble_eq_true rfl) rfl (Nat.le_of_ble_eq_true rfl) (Nat.le_trans (Nat.le_of_ble_eq_true rfl) hF) (Nat.le_trans (Nat.le_of_ble_eq_true rfl) hL) ob55 ⟨_, _, rfl⟩ (fun a25 σ26 h27 W28 q29 => ?_)
          refine w_if_eq 65 d_D_refuses_39 (by decide) q29 (fun c30 => ?_) (fun c30 => ?_)
          · refine w_iconst d_D_refuses_65 ?_
            refine w_goto 70 d_D_refuses_66 (by decide) ?_
            exact w_exit [] (m_sn _) W28 (fun _ _ _ k => k) (show rng 1 by decide)
          · refine w_aload_n d_D_refuses_42 rfl rfl ?_
            refine w_iload_n d_D_refuses_43 rfl rfl ?_
            refine w_cVI [iI x2] [iI z19, mr 55] d_D_refuses_44 me_D_isWhole l_D_202 W28 (c_D_isWhole W28 r2) rfl rfl (Nat.le_of_ble_eq_true rfl) rfl (Nat.le_of_ble_eq_true rfl) (Nat.le_trans (Nat.le_of_ble_eq_true rfl) hF) (Nat.le_trans (Nat.le_of_ble_eq_true rfl) hL) ob55 ⟨_, _, rfl⟩ (fun a31 σ32 h33 W34 q35 => ?_)
            refine w_if_eq 65 d_D_refuses_47 (by decide) q35 (fun c36 => ?_) (fun c36 => ?_)
            · refine w_iconst d_D_refuses_65 ?_
              refine w_goto 70 d_D_refuses_66 (by decide) ?_
              exact w_exit [] (m_sn _) W34 (fun _ _ _ k => k) (show rng 1 by decide)
            · refine w_aload_n d_D_refuses_50 rfl rfl ?_
              refine w_gr d_D_refuses_51 f_D_42 W34 or55_14 ?_
              refine w_iload_n d_D_refuses_54 rfl rfl ?_
              refine w_ald d_D_refuses_55 W34 ia66 (fun c37 => ?_)
              refine w_aload_n d_D_refuses_56 rfl rfl ?_
              refine w_gr d_D_refuses_57 f_D_42 W34 or55_14 ?_
              refine w_iload_n d_D_refuses_60 rfl rfl ?_
              refine w_ald d_D_refuses_61 W34 ia66 (fun c38 => ?_)
              refine w_icmp_eq 69 d_D_refuses_62 (by decide) (W34.ra _ _) (W34.ra _ _) (fun c39 => ?_) (fun c39 => ?_)
              · refine w_iconst d_D_refuses_69 ?_
                exact w_exit [] (m_sn _) W34 (fun _ _ _ k => k) (show rng 0 by decide)
              · refine w_iconst d_D_refuses_65 ?_
                refine w_goto 70 d_D_refuses_66 (by decide) ?_
                exact w_exit [] (m_sn _) W34 (fun _ _ _ k => k) (show rng 1 by decide)
      · show Ew _ _ _ _ _ _ _ _ 70 [] [iI z40, iI z19, mr 55] _ _ _
        refine w_cVI [iI z19, iI z40] [] d_D_refuses_70 me_D_fails l_D_104 W43 (c_D_fails W43 q23 q44) rfl rfl (Nat.le_of_ble_eq_true rfl) rfl (Nat.le_of_ble_eq_true rfl) (Nat.le_trans (Nat.le_of_ble_eq_true rfl) hF) (Nat.le_trans (Nat.le_of_ble_eq_true rfl) hL) ob55 ⟨_, _, rfl⟩ (fun a45 σ46 h47 W48 q49 => ?_)
        refine w_ck (fun b50 => ?_)
        exact w_zret d_D_refuses_73 rfl b50 W48 (fun _ _ _ k => k) q49
def l_D_measure_74 (fu : Nat) (q nq : Nat) : Nat → Int → Int → Int → Int → Int → Int → Int → Int → SS → Option ((Int) × SS)
  | 0, _, _, _, _, _, _, _, _, _ => none
  | n + 1, x2, x3, x4, x5, x6, x7, x8, x9, σ => if x9 < 0 then (some (x4, σ)) else (ck (rng (3 * x8)) (ck (rng ((3 * x8) + x9)) (ck (inb 48 ((3 * x8) + x9)) (ck (rng (x7 + (σ.2.1 57 ((3 * x8) + x9)))) (ck (inb 4096 x4) (lb (sA σ 75 x4 (x7 + (σ.2.1 57 ((3 * x8) + x9)))) fun σ8 => ck (rng (x4 + 1)) (ck (rng (x9 + (-1))) (l_D_measure_74 fu q nq n x2 x3 (x4 + 1) x5 x6 x7 x8 (x9 + (-1)) σ8))))))))
def l_D_measure_125 (fu : Nat) (q nq : Nat) : Nat → Int → Int → Int → Int → Int → Int → Int → SS → Option ((Unit) × SS)
  | 0, _, _, _, _, _, _, _, _ => none
  | n + 1, x2, x3, x4, x5, x7, x8, x9, σ => ck (inb 324 x8) (if x9 < (σ.2.1 58 x8) then (ck (rng (x5 + 1)) (ck (rng ((x5 + 1) + x9)) (ck (inb 16384 ((x5 + 1) + x9)) (lb (sA σ 74 ((x5 + 1) + x9) x7) fun σ7 => ck (rng (x9 + 1)) (l_D_measure_125 fu q nq n x2 x3 x4 x5 x7 x8 (x9 + 1) σ7))))) else (some ((), σ)))
def l_D_measure_13 (fu : Nat) (q nq : Nat) : Nat → Int → Int → Int → Int → SS → Option ((Unit) × SS)
  | 0, _, _, _, _, _ => none
  | n + 1, x2, x3, x4, x5, σ => if x5 < x3 then (ck (rng (x2 + x5)) (ck (inb nq (x2 + x5)) (lb (σ.2.1 q (x2 + x5)) fun y4 => ck (rng (x4 + (-1))) (ck (inb 4096 (x4 + (-1))) (lb (σ.2.1 75 (x4 + (-1))) fun y8 => ck (inb 16384 x5) (lb (sA σ 74 x5 y8) fun σ12 => lb (y4 / 4) fun y15 => sq (if (y4 % 4) = 1 then (ck (inb 16 y15) (ck (rng ((σ12.2.1 56 y15) - 1)) (lb ((σ12.2.1 56 y15) - 1) fun y20 => sq (l_D_measure_74 fu q nq fu x2 x3 (x4 + (-1)) x5 y4 y8 y15 y20 σ12) fun (z22 : Int) σ23 => some (z22, σ23)))) else (some ((x4 + (-1)), σ12))) fun (z27 : Int) σ28 => sq (if (y4 % 4) = 2 then (sq (l_D_measure_125 fu q nq fu x2 x3 z27 x5 y8 y15 0 σ28) fun (z33 : Unit) σ34 => ck (inb 324 y15) (ck (rng (x5 + (σ34.2.1 58 y15))) (lb (x5 + (σ34.2.1 58 y15)) fun y40 => some (y40, σ34)))) else (some (x5, σ28))) fun (z42 : Int) σ43 => ck (rng (z42 + 1)) (l_D_measure_13 fu q nq n x2 x3 z27 (z42 + 1) σ43))))))) else (some ((), σ))
def f_D_measure (fu : Nat) (q nq : Nat) (x2 : Int) (x3 : Int) (σ : SS) : Option (Unit × SS) := ck (inb 4096 0) (lb (sA σ 75 0 0) fun σ3 => sq (l_D_measure_13 fu q nq fu x2 x3 1 0 σ3) fun (z6 : Unit) σ7 => some ((), σ7))
theorem w_D_measure_74 {g : MG} {d w fu : Nat} {Q : MO → List MC → Prop} {q nq : Nat} (hF : 1 ≤ d) (hL : 20 ≤ w) (hq : ia q nq) : ∀ (n : Nat) (x2 : Int) (x3 : Int) (x4 : Int) (x5 : Int) (x6 : Int) (x7 : Int) (x8 : Int) (x9 : Int) (σ : SS) (h : List MC), Wd h σ → rng x2 → rng x3 → rng x4 → rng x5 → rng x6 → rng x7 → rng x8 → rng x9 → Ew g none M_D_measure d w Q rng (cJ g none M_D_measure d w Q 110 (fun x => [(0, mr 55), (1, mr q), (2, iI x2), (3, iI x3), (4, iI x), (5, iI x5), (6, iI x6), (7, iI x7), (8, iI x8)]) (fun x => [])) 74 [(0, mr 55), (1, mr q), (2, iI x2), (3, iI x3), (4, iI x4), (5, iI x5), (6, iI x6), (7, iI x7), (8, iI x8), (9, iI x9)] [] h σ (l_D_measure_74 fu q nq n x2 x3 x4 x5 x6 x7 x8 x9 σ) := by
  intro n
  induction n with
  | zero =>
    intro x2 x3 x4 x5 x6 x7 x8 x9 σ h hW r2 r3 r4 r5 r6 r7 r8 r9 a9 σ9 hm
    rw [l_D_measure_74] at hm
    cases hm
  | succ n ih =>
    intro x2 x3 x4 x5 x6 x7 x8 x9 σ h hW r2 r3 r4 r5 r6 r7 r8 r9
    rw [l_D_measure_74]
    refine w_iload d_D_measure_74 rfl ?_
    refine w_if_lt 110 d_D_measure_76 (by decide) r9 (fun c1 => ?_) (fun c1 => ?_)
    · exact w_exit [(0, mr 55), (1, mr q), (2, iI x2), (3, iI x3), (4, iI x4), (5, iI x5), (6, iI x6), (7, iI x7), (8, iI x8)] (m_sc2 rfl (m_sc2 rfl (m_sc2 rfl (m_sc2 rfl (m_sc2 rfl (m_sc2 rfl (m_sc2 rfl (m_sc2 rfl (m_sc2 rfl (m_sn _)))))))))) hW (fun _ _ _ k => k) r4
    · refine w_aload_n d_D_measure_79 rfl rfl ?_
      refine w_gr d_D_measure_80 f_D_69 hW or55_23 ?_
      refine w_iload d_D_measure_83 rfl ?_
      refine w_iload d_D_measure_85 rfl ?_
      refine w_aload_n d_D_measure_87 rfl rfl ?_
      refine w_gr d_D_measure_88 f_D_13 hW or55_5 ?_
      refine w_iconst d_D_measure_91 ?_
      refine w_iload d_D_measure_92 rfl ?_
      refine w_imul d_D_measure_94 (fun c2 => ?_)
      refine w_iload d_D_measure_95 rfl ?_
      refine w_iadd d_D_measure_97 (fun c3 => ?_)
      refine w_ald d_D_measure_98 hW ia57 (fun c4 => ?_)
      refine w_iadd d_D_measure_99 (fun c5 => ?_)
      refine w_ast d_D_measure_100 hW ia75 c5 (fun c6 h7 σ8 e9 W10 => ?_)
      refine w_iinc [(4, iI (x4 + 1)), (0, mr 55), (1, mr q), (2, iI x2), (3, iI x3), (5, iI x5), (6, iI x6), (7, iI x7), (8, iI x8), (9, iI x9)] d_D_measure_101 rfl (by decide) rfl (fun c11 => ?_)
      refine w_iinc [(9, iI (x9 + (-1))), (4, iI (x4 + 1)), (0, mr 55), (1, mr q), (2, iI x2), (3, iI x3), (5, iI x5), (6, iI x6), (7, iI x7), (8, iI x8)] d_D_measure_104 rfl (by decide) rfl (fun c12 => ?_)
      refine w_goto 74 d_D_measure_107 (by decide) ?_
      exact w_sub (m_sc2 rfl (m_sc2 rfl (m_sc2 rfl (m_sc2 rfl (m_sc2 rfl (m_sc2 rfl (m_sc2 rfl (m_sc2 rfl (m_sc2 rfl (m_sc2 rfl (m_sn _))))))))))) (ih x2 x3 (x4 + 1) x5 x6 x7 x8 (x9 + (-1)) _ _ W10 r2 r3 c11 r5 r6 r7 r8 c12)
theorem w_D_measure_125 {g : MG} {d w fu : Nat} {Q : MO → List MC → Prop} {q nq : Nat} (hF : 1 ≤ d) (hL : 20 ≤ w) (hq : ia q nq) : ∀ (n : Nat) (x2 : Int) (x3 : Int) (x4 : Int) (x5 : Int) (x7 : Int) (x8 : Int) (x9 : Int) (σ : SS) (h : List MC), Wd h σ → rng x2 → rng x3 → rng x4 → rng x5 → rng x7 → rng x8 → rng x9 → Ew g none M_D_measure d w Q gU (cJ g none M_D_measure d w Q 157 (fun x => [(0, mr 55), (1, mr q), (2, iI x2), (3, iI x3), (4, iI x4), (5, iI x5), (8, iI x8)]) (fun x => [])) 125 [(0, mr 55), (1, mr q), (2, iI x2), (3, iI x3), (4, iI x4), (5, iI x5), (7, iI x7), (8, iI x8), (9, iI x9)] [] h σ (l_D_measure_125 fu q nq n x2 x3 x4 x5 x7 x8 x9 σ) := by
  intro n
  induction n with
  | zero =>
    intro x2 x3 x4 x5 x7 x8 x9 σ h hW r2 r3 r4 r5 r7 r8 r9 a9 σ9 hm
    rw [l_D_measure_125] at hm
    cases hm
  | succ n ih =>
    intro x2 x3 x4 x5 x7 x8 x9 σ h hW r2 r3 r4 r5 r7 r8 r9
    rw [l_D_measure_125]
    refine w_iload d_D_measure_125 rfl ?_
    refine w_aload_n d_D_measure_127 rfl rfl ?_
    refine w_gr d_D_measure_128 f_D_16 hW or55_6 ?_
    refine w_iload d_D_measure_131 rfl ?_
    refine w_ald d_D_measure_133 hW ia58 (fun c1 => ?_)
    refine w_icmp_ge 157 d_D_measure_134 (by decide) r9 (hW.ra _ _) (fun c2 => ?_) (fun c2 => ?_)
    · refine w_aload_n d_D_measure_137 rfl rfl ?_
      refine w_gr d_D_measure_138 f_D_66 hW or55_22 ?_
      refine w_iload d_D_measure_141 rfl ?_
      refine w_iconst d_D_measure_143 ?_
      refine w_iadd d_D_measure_144 (fun c3 => ?_)
      refine w_iload d_D_measure_145 rfl ?_
      refine w_iadd d_D_measure_147 (fun c4 => ?_)
      refine w_iload d_D_measure_148 rfl ?_
      refine w_ast d_D_measure_150 hW ia74 r7 (fun c5 h6 σ7 e8 W9 => ?_)
      refine w_iinc [(9, iI (x9 + 1)), (0, mr 55), (1, mr q), (2, iI x2), (3, iI x3), (4, iI x4), (5, iI x5), (7, iI x7), (8, iI x8)] d_D_measure_151 rfl (by decide) rfl (fun c10 => ?_)
      refine w_goto 125 d_D_measure_154 (by decide) ?_
      exact w_sub (m_sc2 rfl (m_sc2 rfl (m_sc2 rfl (m_sc2 rfl (m_sc2 rfl (m_sc2 rfl (m_sc2 rfl (m_sc2 rfl (m_sc2 rfl (m_sn _)))))))))) (ih x2 x3 x4 x5 x7 x8 (x9 + 1) _ _ W9 r2 r3 r4 r5 r7 r8 c10)
    · exact w_exit [(0, mr 55), (1, mr q), (2, iI x2), (3, iI x3), (4, iI x4), (5, iI x5), (8, iI x8)] (m_sc2 rfl (m_sc2 rfl (m_sc2 rfl (m_sc2 rfl (m_sc2 rfl (m_sc2 rfl (m_sc2 rfl (m_sn _)))))))) hW (fun _ _ _ k => k) True.intro
theorem w_D_measure_13 {g : MG} {d w fu : Nat} {Q : MO → List MC → Prop} {q nq : Nat} (hF : 1 ≤ d) (hL : 20 ≤ w) (hq : ia q nq) : ∀ (n : Nat) (x2 : Int) (x3 : Int) (x4 : Int) (x5 : Int) (σ : SS) (h : List MC), Wd h σ → rng x2 → rng x3 → rng x4 → rng x5 → Ew g none M_D_measure d w Q gU (cJ g none M_D_measure d w Q 175 (fun x => []) (fun x => [])) 13 [(0, mr 55), (1, mr q), (2, iI x2), (3, iI x3), (4, iI x4), (5, iI x5)] [] h σ (l_D_measure_13 fu q nq n x2 x3 x4 x5 σ) := by
  intro n
  induction n with
  | zero =>
    intro x2 x3 x4 x5 σ h hW r2 r3 r4 r5 a9 σ9 hm
    rw [l_D_measure_13] at hm
    cases hm
  | succ n ih =>
    intro x2 x3 x4 x5 σ h hW r2 r3 r4 r5
    rw [l_D_measure_13]
    refine w_iload d_D_measure_13 rfl ?_
    refine w_iload_n d_D_measure_15 rfl rfl ?_
    refine w_icmp_ge 175 d_D_measure_16 (by decide) r5 r3 (fun c1 => ?_) (fun c1 => ?_)
    · refine w_aload_n d_D_measure_19 rfl rfl ?_
      refine w_iload_n d_D_measure_20 rfl rfl ?_
      refine w_iload d_D_measure_21 rfl ?_
      refine w_iadd d_D_measure_23 (fun c2 => ?_)
      refine w_ald d_D_measure_24 hW hq (fun c3 => ?_)
      refine w_top (fun y4 e5 => ?_)
      have ry4 : rng y4 := e5 ▸ (hW.ra _ _)
      refine w_istore [(6, iI y4), (0, mr 55), (1, mr q), (2, iI x2), (3, iI x3), (4, iI x4), (5, iI x5)] d_D_measure_25 (by decide) rfl ?_
      refine w_iinc [(4, iI (x4 + (-1))), (6, iI y4), (0, mr 55), (1, mr q), (2, iI x2), (3, iI x3), (5, iI x5)] d_D_measure_27 rfl (by decide) rfl (fun c6 => ?_)
      refine w_aload_n d_D_measure_30 rfl rfl ?_
      refine w_gr d_D_measure_31 f_D_69 hW or55_23 ?_
      refine w_iload d_D_measure_34 rfl ?_
      refine w_ald d_D_measure_36 hW ia75 (fun c7 => ?_)
      refine w_top (fun y8 e9 => ?_)
      have ry8 : rng y8 := e9 ▸ (hW.ra _ _)
      refine w_istore [(7, iI y8), (4, iI (x4 + (-1))), (6, iI y4), (0, mr 55), (1, mr q), (2, iI x2), (3, iI x3), (5, iI x5)] d_D_measure_37 (by decide) rfl ?_
      refine w_aload_n d_D_measure_39 rfl rfl ?_
      refine w_gr d_D_measure_40 f_D_66 hW or55_22 ?_
      refine w_iload d_D_measure_43 rfl ?_
      refine w_iload d_D_measure_45 rfl ?_
      refine w_ast d_D_measure_47 hW ia74 ry8 (fun c10 h11 σ12 e13 W14 => ?_)
      refine w_iload d_D_measure_48 rfl ?_
      refine w_iconst d_D_measure_50 ?_
      refine w_shr2 d_D_measure_51 ry4 ?_
      refine w_top (fun y15 e16 => ?_)
      have ry15 : rng y15 := e16 ▸ (rng4 ry4)
      refine w_istore [(8, iI y15), (7, iI y8), (4, iI (x4 + (-1))), (6, iI y4), (0, mr 55), (1, mr q), (2, iI x2), (3, iI x3), (5, iI x5)] d_D_measure_52 (by decide) rfl ?_
      refine w_iload d_D_measure_54 rfl ?_
      refine w_D_sort d_D_measure_56 l_D_129 (Nat.le_of_ble_eq_true rfl) (Nat.le_trans (Nat.le_of_ble_eq_true rfl) hF) (Nat.le_trans (Nat.le_of_ble_eq_true rfl) hL) ?_
      refine w_iconst d_D_measure_59 ?_
      refine w_sq (G1 := rng) (J := 110) (lvJ := fun x => [(0, mr 55), (1, mr q), (2, iI x2), (3, iI x3), (4, iI x), (5, iI x5), (6, iI y4), (7, iI y8), (8, iI y15)]) (stJ := fun x => []) ?_ (fun z27 σ28 h29 W30 q31 => ?_)
      · refine w_icmp_ne 110 d_D_measure_60 (by decide) (rngm _) (show rng 1 by decide) (fun c17 => ?_) (fun c17 => ?_)
        · refine w_aload_n d_D_measure_63 rfl rfl ?_
          refine w_gr d_D_measure_64 f_D_7 W14 or55_4 ?_
          refine w_iload d_D_measure_67 rfl ?_
          refine w_ald d_D_measure_69 W14 ia56 (fun c18 => ?_)
          refine w_iconst d_D_measure_70 ?_
          refine w_isub d_D_measure_71 (fun c19 => ?_)
          refine w_top (fun y20 e21 => ?_)
          have ry20 : rng y20 := e21 ▸ c19
          refine w_istore [(9, iI y20), (8, iI y15), (7, iI y8), (4, iI (x4 + (-1))), (6, iI y4), (0, mr 55), (1, mr q), (2, iI x2), (3, iI x3), (5, iI x5)] d_D_measure_72 (by decide) rfl ?_
          refine w_sq (G1 := rng) (J := 110) (lvJ := fun x => [(0, mr 55), (1, mr q), (2, iI x2), (3, iI x3), (4, iI x), (5, iI x5), (6, iI y4), (7, iI y8), (8, iI y15)]) (stJ := fun x => []) (w_sub (m_sc2 rfl (m_sc2 rfl (m_sc2 rfl (m_sc2 rfl (m_sc2 rfl (m_sc2 rfl (m_sc2 rfl (m_sc2 rfl (m_sc2 rfl (m_sc2 rfl (m_sn _))))))))))) (w_D_measure_74 hF hL hq fu x2 x3 (x4 + (-1)) x5 y4 y8 y15 y20 _ _ W14 r2 r3 c6 r5 ry4 ry8 ry15 ry20)) (fun z22 σ23 h24 W25 q26 => ?_)
          show Ew _ _ _ _ _ _ _ _ 110 [(0, mr 55), (1, mr q), (2, iI x2), (3, iI x3), (4, iI z22), (5, iI x5), (6, iI y4), (7, iI y8), (8, iI y15)] [] _ _ _
          exact w_exit [(0, mr 55), (1, mr q), (2, iI x2), (3, iI x3), (4, iI z22), (5, iI x5), (6, iI y4), (7, iI y8), (8, iI y15)] (m_sc2 rfl (m_sc2 rfl (m_sc2 rfl (m_sc2 rfl (m_sc2 rfl (m_sc2 rfl (m_sc2 rfl (m_sc2 rfl (m_sc2 rfl (m_sn _)))))))))) W25 (fun _ _ _ k => k) q26
        · exact w_exit [(0, mr 55), (1, mr q), (2, iI x2), (3, iI x3), (4, iI (x4 + (-1))), (5, iI x5), (6, iI y4), (7, iI y8), (8, iI y15)] (m_sc2 rfl (m_sc2 rfl (m_sc2 rfl (m_sc2 rfl (m_sc2 rfl (m_sc2 rfl (m_sc2 rfl (m_sc2 rfl (m_sc2 rfl (m_sn _)))))))))) W14 (fun _ _ _ k => k) c6
      · show Ew _ _ _ _ _ _ _ _ 110 [(0, mr 55), (1, mr q), (2, iI x2), (3, iI x3), (4, iI z27), (5, iI x5), (6, iI y4), (7, iI y8), (8, iI y15)] [] _ _ _
        refine w_iload d_D_measure_110 rfl ?_
        refine w_D_sort d_D_measure_112 l_D_129 (Nat.le_of_ble_eq_true rfl) (Nat.le_trans (Nat.le_of_ble_eq_true rfl) hF) (Nat.le_trans (Nat.le_of_ble_eq_true rfl) hL) ?_
        refine w_iconst d_D_measure_115 ?_
        refine w_sq (G1 := rng) (J := 169) (lvJ := fun x => [(0, mr 55), (1, mr q), (2, iI x2), (3, iI x3), (4, iI z27), (5, iI x)]) (stJ := fun x => []) ?_ (fun z42 σ43 h44 W45 q46 => ?_)
        · refine w_icmp_eq 122 d_D_measure_116 (by decide) (rngm _) (show rng 2 by decide) (fun c32 => ?_) (fun c32 => ?_)
          · refine w_iconst d_D_measure_122 ?_
            refine w_istore [(9, iI 0), (0, mr 55), (1, mr q), (2, iI x2), (3, iI x3), (4, iI z27), (5, iI x5), (6, iI y4), (7, iI y8), (8, iI y15)] d_D_measure_123 (by decide) rfl ?_
            refine w_sq (G1 := gU) (J := 157) (lvJ := fun x => [(0, mr 55), (1, mr q), (2, iI x2), (3, iI x3), (4, iI z27), (5, iI x5), (8, iI y15)]) (stJ := fun x => []) (w_sub (m_sc2 rfl (m_sc2 rfl (m_sc2 rfl (m_sc2 rfl (m_sc2 rfl (m_sc2 rfl (m_sc2 rfl (m_sc2 rfl (m_sc2 rfl (m_sn _)))))))))) (w_D_measure_125 hF hL hq fu x2 x3 z27 x5 y8 y15 0 _ _ W30 r2 r3 q31 r5 ry8 ry15 (show rng 0 by decide))) (fun z33 σ34 h35 W36 q37 => ?_)
            show Ew _ _ _ _ _ _ _ _ 157 [(0, mr 55), (1, mr q), (2, iI x2), (3, iI x3), (4, iI z27), (5, iI x5), (8, iI y15)] [] _ _ _
            refine w_iload d_D_measure_157 rfl ?_
            refine w_aload_n d_D_measure_159 rfl rfl ?_
            refine w_gr d_D_measure_160 f_D_16 W36 or55_6 ?_
            refine w_iload d_D_measure_163 rfl ?_
            refine w_ald d_D_measure_165 W36 ia58 (fun c38 => ?_)
            refine w_iadd d_D_measure_166 (fun c39 => ?_)
            refine w_top (fun y40 e41 => ?_)
            have ry40 : rng y40 := e41 ▸ c39
            refine w_istore [(5, iI y40), (0, mr 55), (1, mr q), (2, iI x2), (3, iI x3), (4, iI z27), (8, iI y15)] d_D_measure_167 (by decide) rfl ?_
            exact w_exit [(0, mr 55), (1, mr q), (2, iI x2), (3, iI x3), (4, iI z27), (5, iI y40)] (m_sc2 rfl (m_sc2 rfl (m_sc2 rfl (m_sc2 rfl (m_sc2 rfl (m_sc2 rfl (m_sn _))))))) W36 (fun _ _ _ k => k) ry40
          · refine w_goto 169 d_D_measure_119 (by decide) ?_
            exact w_exit [(0, mr 55), (1, mr q), (2, iI x2), (3, iI x3), (4, iI z27), (5, iI x5)] (m_sc2 rfl (m_sc2 rfl (m_sc2 rfl (m_sc2 rfl (m_sc2 rfl (m_sc2 rfl (m_sn _))))))) W30 (fun _ _ _ k => k) r5
        · show Ew _ _ _ _ _ _ _ _ 169 [(0, mr 55), (1, mr q), (2, iI x2), (3, iI x3), (4, iI z27), (5, iI z42)] [] _ _ _
          refine w_iinc [(5, iI (z42 + 1)), (0, mr 55), (1, mr q), (2, iI x2), (3, iI x3), (4, iI z27)] d_D_measure_169 rfl (by decide) rfl (fun c47 => ?_)
          refine w_goto 13 d_D_measure_172 (by decide) ?_
          exact w_sub (m_sc2 rfl (m_sc2 rfl (m_sc2 rfl (m_sc2 rfl (m_sc2 rfl (m_sc2 rfl (m_sn _))))))) (ih x2 x3 z27 (z42 + 1) _ _ W45 r2 r3 q31 c47)
    · exact w_exit [] (m_sn _) hW (fun _ _ _ k => k) True.intro
theorem c_D_measure {g : MG} {fu : Nat} {h : List MC} {σ : SS} {q nq : Nat} {x2 : Int} {x3 : Int} (hW : Wd h σ) (hq : ia q nq) (r2 : rng x2) (r3 : rng x3) : Cw g M_D_measure 1 20 [mr 55, mr q, iI x2, iI x3] gU cU1 h σ (f_D_measure fu q nq x2 x3 σ) := by
  refine w_of (fun d w Q hF hL => ?_)
  unfold f_D_measure
  show Ew g none M_D_measure d w Q gU (cU1 Q) 0 [(0, mr 55), (1, mr q), (2, iI x2), (3, iI x3)] [] h σ _
  refine w_iconst d_D_measure_0 ?_
  refine w_istore [(4, iI 1), (0, mr 55), (1, mr q), (2, iI x2), (3, iI x3)] d_D_measure_1 (by decide) rfl ?_
  refine w_aload_n d_D_measure_3 rfl rfl ?_
  refine w_gr d_D_measure_4 f_D_69 hW or55_23 ?_
  refine w_iconst d_D_measure_7 ?_
  refine w_iconst d_D_measure_8 ?_
  refine w_ast d_D_measure_9 hW ia75 (show rng 0 by decide) (fun c1 h2 σ3 e4 W5 => ?_)
  refine w_iconst d_D_measure_10 ?_
  refine w_istore [(5, iI 0), (4, iI 1), (0, mr 55), (1, mr q), (2, iI x2), (3, iI x3)] d_D_measure_11 (by decide) rfl ?_
  refine w_sq (G1 := gU) (J := 175) (lvJ := fun x => []) (stJ := fun x => []) (w_sub (m_sc2 rfl (m_sc2 rfl (m_sc2 rfl (m_sc2 rfl (m_sc2 rfl (m_sc2 rfl (m_sn _))))))) (w_D_measure_13 hF hL hq fu x2 x3 1 0 _ _ W5 r2 r3 (show rng 1 by decide) (show rng 0 by decide))) (fun z6 σ7 h8 W9 q10 => ?_)
  show Ew _ _ _ _ _ _ _ _ 175 [] [] _ _ _
  exact w_ret d_D_measure_175 rfl W9 (fun _ _ _ k => k) True.intro
def l_D_again_59 (fu : Nat) (q : Nat) : Nat → Int → Int → Int → Int → Int → Int → SS → Option ((Unit) × SS)
  | 0, _, _, _, _, _, _, _ => none
  | n + 1, x2, x3, x4, x5, x6, x7, σ => ck (inb 16384 x5) (if ((σ.2.1 q x5) % 4) = 2 then (ck (inb 324 x6) (if x7 < (σ.2.1 58 x6) then (ck (rng (x3 + x7)) (ck (rng (x5 + 1)) (ck (rng ((x5 + 1) + x7)) (ck (inb 16384 ((x5 + 1) + x7)) (ck (inb 16384 (x3 + x7)) (lb (sA σ 73 (x3 + x7) (σ.2.1 q ((x5 + 1) + x7))) fun σ11 => ck (rng (x7 + 1)) (l_D_again_59 fu q n x2 x3 x4 x5 x6 (x7 + 1) σ11))))))) else (some ((), σ)))) else (some ((), σ)))
def l_D_again_188 (fu : Nat) (q : Nat) : Nat → Int → Int → Int → Int → Int → Int → SS → Option ((Int) × SS)
  | 0, _, _, _, _, _, _, _ => none
  | n + 1, x2, x3, x4, x5, x6, x7, σ => ck (inb 324 x6) (if x7 < (σ.2.1 59 x6) then (ck (rng (400 * x6)) (ck (rng ((400 * x6) + x7)) (ck (inb 129600 ((400 * x6) + x7)) (lb (σ.2.1 60 ((400 * x6) + x7)) fun y6 => ck (inb 16384 x7) (ck (rng ((y6 / 4) - (σ.2.1 74 x7))) (lb ((y6 / 4) - (σ.2.1 74 x7)) fun y10 => sq (if (y6 % 4) = 0 then (if y10 < 0 then (some (y6, σ)) else (ck (rng (x5 + 1)) (ck (rng ((x5 + 1) + y10)) (ck (inb 16384 ((x5 + 1) + y10)) (ck (inb 16384 x7) (ck (rng (((σ.2.1 q ((x5 + 1) + y10)) / 4) + (σ.2.1 74 x7))) (ck (rng (4 * (((σ.2.1 q ((x5 + 1) + y10)) / 4) + (σ.2.1 74 x7)))) (some ((4 * (((σ.2.1 q ((x5 + 1) + y10)) / 4) + (σ.2.1 74 x7))), σ))))))))) else (some (y6, σ))) fun (z20 : Int) σ21 => ck (inb 16384 x3) (lb (sA σ21 73 x3 z20) fun σ27 => ck (rng (x3 + 1)) (ck (rng (x7 + 1)) (l_D_again_188 fu q n x2 (x3 + 1) x4 x5 x6 (x7 + 1) σ27))))))))) else (some (x3, σ)))
def l_D_again_8 (fu : Nat) (q : Nat) : Nat → Int → Int → Int → Int → SS → Option ((Int × Int) × SS)
  | 0, _, _, _, _, _ => none
  | n + 1, x2, x3, x4, x5, σ => if x5 < x2 then (ck (inb 16384 x5) (lb ((σ.2.1 q x5) / 4) fun y3 => ck (inb 16384 x5) (sq (if ((σ.2.1 q x5) % 4) = 2 then (ck (inb 324 y3) (if (σ.2.1 61 y3) = 0 then (ck (inb 16384 x5) (ck (inb 16384 x3) (lb (sA σ 73 x3 (σ.2.1 q x5)) fun σ12 => ck (rng (x3 + 1)) (sq (l_D_again_59 fu q fu x2 (x3 + 1) x4 x5 y3 0 σ12) fun (z16 : Unit) σ17 => ck (inb 16384 x5) (sq (if ((σ17.2.1 q x5) % 4) = 2 then (ck (inb 324 y3) (some ((σ17.2.1 58 y3), σ17))) else (some (0, σ17))) fun (z24 : Int) σ25 => ck (rng ((x3 + 1) + z24)) (lb ((x3 + 1) + z24) fun y30 => ck (inb 16384 x5) (sq (if ((σ25.2.1 q x5) % 4) = 2 then (ck (inb 324 y3) (some ((σ25.2.1 58 y3), σ25))) else (some (0, σ25))) fun (z35 : Int) σ36 => ck (rng (x5 + z35)) (lb (x5 + z35) fun y41 => some ((y30, x4, y41), σ36))))))))) else (ck (rng (400 * y3)) (ck (inb 324 y3) (sq (f_D_measure fu 60 129600 (400 * y3) (σ.2.1 59 y3) σ) fun (a45 : Unit) σ46 => sq (l_D_again_188 fu q fu x2 x3 1 x5 y3 0 σ46) fun (z50 : Int) σ51 => ck (inb 324 y3) (ck (rng (x5 + (σ51.2.1 58 y3))) (lb (x5 + (σ51.2.1 58 y3)) fun y57 => some ((z50, 1, y57), σ51)))))))) else (ck (inb 16384 x5) (ck (inb 16384 x3) (lb (sA σ 73 x3 (σ.2.1 q x5)) fun σ62 => ck (rng (x3 + 1)) (sq (l_D_again_59 fu q fu x2 (x3 + 1) x4 x5 y3 0 σ62) fun (z66 : Unit) σ67 => ck (inb 16384 x5) (sq (if ((σ67.2.1 q x5) % 4) = 2 then (ck (inb 324 y3) (some ((σ67.2.1 58 y3), σ67))) else (some (0, σ67))) fun (z74 : Int) σ75 => ck (rng ((x3 + 1) + z74)) (lb ((x3 + 1) + z74) fun y80 => ck (inb 16384 x5) (sq (if ((σ75.2.1 q x5) % 4) = 2 then (ck (inb 324 y3) (some ((σ75.2.1 58 y3), σ75))) else (some (0, σ75))) fun (z85 : Int) σ86 => ck (rng (x5 + z85)) (lb (x5 + z85) fun y91 => some ((y80, x4, y91), σ86)))))))))) fun (z93 : Int × Int × Int) σ94 => ck (rng (z93.2.2 + 1)) (l_D_again_8 fu q n x2 z93.1 z93.2.1 (z93.2.2 + 1) σ94)))) else (some ((x3, x4), σ))
def f_D_again (fu : Nat) (q : Nat) (x2 : Int) (σ : SS) : Option (Int × SS) := sq (l_D_again_8 fu q fu x2 0 0 0 σ) fun (z1 : Int × Int) σ2 => if z1.2 = 0 then (some ((-1), σ2)) else (some (z1.1, σ2))
theorem w_D_again_59 {g : MG} {d w fu : Nat} {Q : MO → List MC → Prop} {q : Nat} (hF : 2 ≤ d) (hL : 49 ≤ w) (hq : ia q 16384) : ∀ (n : Nat) (x2 : Int) (x3 : Int) (x4 : Int) (x5 : Int) (x6 : Int) (x7 : Int) (σ : SS) (h : List MC), Wd h σ → rng x2 → rng x3 → rng x4 → rng x5 → rng x6 → rng x7 → Ew g none M_D_again d w Q gU (cJ g none M_D_again d w Q 106 (fun x => [(0, mr 55), (1, mr q), (2, iI x2), (3, iI x3), (4, iI x4), (5, iI x5), (6, iI x6)]) (fun x => [])) 59 [(0, mr 55), (1, mr q), (2, iI x2), (3, iI x3), (4, iI x4), (5, iI x5), (6, iI x6), (7, iI x7)] [] h σ (l_D_again_59 fu q n x2 x3 x4 x5 x6 x7 σ) := by
  intro n
  induction n with
  | zero =>
    intro x2 x3 x4 x5 x6 x7 σ h hW r2 r3 r4 r5 r6 r7 a9 σ9 hm
    rw [l_D_again_59] at hm
    cases hm
  | succ n ih =>
    intro x2 x3 x4 x5 x6 x7 σ h hW r2 r3 r4 r5 r6 r7
    rw [l_D_again_59]
    refine w_aload_n d_D_again_59 rfl rfl ?_
    refine w_iload d_D_again_60 rfl ?_
    refine w_ald d_D_again_62 hW hq (fun c1 => ?_)
    refine w_D_sort d_D_again_63 l_D_129 (Nat.le_of_ble_eq_true rfl) (Nat.le_trans (Nat.le_of_ble_eq_true rfl) hF) (Nat.le_trans (Nat.le_of_ble_eq_true rfl) hL) ?_
    refine w_iconst d_D_again_66 ?_
    refine w_icmp_ne 106 d_D_again_67 (by decide) (rngm _) (show rng 2 by decide) (fun c2 => ?_) (fun c2 => ?_)
    · refine w_iload d_D_again_70 rfl ?_
      refine w_aload_n d_D_again_72 rfl rfl ?_
      refine w_gr d_D_again_73 f_D_16 hW or55_6 ?_
      refine w_iload d_D_again_76 rfl ?_
      refine w_ald d_D_again_78 hW ia58 (fun c3 => ?_)
      refine w_icmp_ge 106 d_D_again_79 (by decide) r7 (hW.ra _ _) (fun c4 => ?_) (fun c4 => ?_)
      · refine w_aload_n d_D_again_82 rfl rfl ?_
        refine w_gr d_D_again_83 f_D_63 hW or55_21 ?_
        refine w_iload_n d_D_again_86 rfl rfl ?_
        refine w_iload d_D_again_87 rfl ?_
        refine w_iadd d_D_again_89 (fun c5 => ?_)
        refine w_aload_n d_D_again_90 rfl rfl ?_
        refine w_iload d_D_again_91 rfl ?_
        refine w_iconst d_D_again_93 ?_
        refine w_iadd d_D_again_94 (fun c6 => ?_)
        refine w_iload d_D_again_95 rfl ?_
        refine w_iadd d_D_again_97 (fun c7 => ?_)
        refine w_ald d_D_again_98 hW hq (fun c8 => ?_)
        refine w_ast d_D_again_99 hW ia73 (hW.ra _ _) (fun c9 h10 σ11 e12 W13 => ?_)
        refine w_iinc [(7, iI (x7 + 1)), (0, mr 55), (1, mr q), (2, iI x2), (3, iI x3), (4, iI x4), (5, iI x5), (6, iI x6)] d_D_again_100 rfl (by decide) rfl (fun c14 => ?_)
        refine w_goto 59 d_D_again_103 (by decide) ?_
        exact w_sub (m_sc2 rfl (m_sc2 rfl (m_sc2 rfl (m_sc2 rfl (m_sc2 rfl (m_sc2 rfl (m_sc2 rfl (m_sc2 rfl (m_sn _))))))))) (ih x2 x3 x4 x5 x6 (x7 + 1) _ _ W13 r2 r3 r4 r5 r6 c14)
      · exact w_exit [(0, mr 55), (1, mr q), (2, iI x2), (3, iI x3), (4, iI x4), (5, iI x5), (6, iI x6)] (m_sc2 rfl (m_sc2 rfl (m_sc2 rfl (m_sc2 rfl (m_sc2 rfl (m_sc2 rfl (m_sc2 rfl (m_sn _)))))))) hW (fun _ _ _ k => k) True.intro
    · exact w_exit [(0, mr 55), (1, mr q), (2, iI x2), (3, iI x3), (4, iI x4), (5, iI x5), (6, iI x6)] (m_sc2 rfl (m_sc2 rfl (m_sc2 rfl (m_sc2 rfl (m_sc2 rfl (m_sc2 rfl (m_sc2 rfl (m_sn _)))))))) hW (fun _ _ _ k => k) True.intro
theorem w_D_again_188 {g : MG} {d w fu : Nat} {Q : MO → List MC → Prop} {q : Nat} (hF : 2 ≤ d) (hL : 49 ≤ w) (hq : ia q 16384) : ∀ (n : Nat) (x2 : Int) (x3 : Int) (x4 : Int) (x5 : Int) (x6 : Int) (x7 : Int) (σ : SS) (h : List MC), Wd h σ → rng x2 → rng x3 → rng x4 → rng x5 → rng x6 → rng x7 → Ew g none M_D_again d w Q rng (cJ g none M_D_again d w Q 284 (fun x => [(0, mr 55), (1, mr q), (2, iI x2), (3, iI x), (4, iI x4), (5, iI x5), (6, iI x6)]) (fun x => [])) 188 [(0, mr 55), (1, mr q), (2, iI x2), (3, iI x3), (4, iI x4), (5, iI x5), (6, iI x6), (7, iI x7)] [] h σ (l_D_again_188 fu q n x2 x3 x4 x5 x6 x7 σ) := by
  intro n
  induction n with
  | zero =>
    intro x2 x3 x4 x5 x6 x7 σ h hW r2 r3 r4 r5 r6 r7 a9 σ9 hm
    rw [l_D_again_188] at hm
    cases hm
  | succ n ih =>
    intro x2 x3 x4 x5 x6 x7 σ h hW r2 r3 r4 r5 r6 r7
    rw [l_D_again_188]
    refine w_iload d_D_again_188 rfl ?_
    refine w_aload_n d_D_again_190 rfl rfl ?_
    refine w_gr d_D_again_191 f_D_19 hW or55_7 ?_
    refine w_iload d_D_again_194 rfl ?_
    refine w_ald d_D_again_196 hW ia59 (fun c1 => ?_)
    refine w_icmp_ge 284 d_D_again_197 (by decide) r7 (hW.ra _ _) (fun c2 => ?_) (fun c2 => ?_)
    · refine w_aload_n d_D_again_200 rfl rfl ?_
      refine w_gr d_D_again_201 f_D_23 hW or55_8 ?_
      refine w_sipush d_D_again_204 (by decide) ?_
      refine w_iload d_D_again_207 rfl ?_
      refine w_imul d_D_again_209 (fun c3 => ?_)
      refine w_iload d_D_again_210 rfl ?_
      refine w_iadd d_D_again_212 (fun c4 => ?_)
      refine w_ald d_D_again_213 hW ia60 (fun c5 => ?_)
      refine w_top (fun y6 e7 => ?_)
      have ry6 : rng y6 := e7 ▸ (hW.ra _ _)
      refine w_istore [(8, iI y6), (0, mr 55), (1, mr q), (2, iI x2), (3, iI x3), (4, iI x4), (5, iI x5), (6, iI x6), (7, iI x7)] d_D_again_214 (by decide) rfl ?_
      refine w_iload d_D_again_216 rfl ?_
      refine w_iconst d_D_again_218 ?_
      refine w_shr2 d_D_again_219 ry6 ?_
      refine w_aload_n d_D_again_220 rfl rfl ?_
      refine w_gr d_D_again_221 f_D_66 hW or55_22 ?_
      refine w_iload d_D_again_224 rfl ?_
      refine w_ald d_D_again_226 hW ia74 (fun c8 => ?_)
      refine w_isub d_D_again_227 (fun c9 => ?_)
      refine w_top (fun y10 e11 => ?_)
      have ry10 : rng y10 := e11 ▸ c9
      refine w_istore [(9, iI y10), (8, iI y6), (0, mr 55), (1, mr q), (2, iI x2), (3, iI x3), (4, iI x4), (5, iI x5), (6, iI x6), (7, iI x7)] d_D_again_228 (by decide) rfl ?_
      refine w_aload_n d_D_again_230 rfl rfl ?_
      refine w_gr d_D_again_231 f_D_63 hW or55_21 ?_
      refine w_iload_n d_D_again_234 rfl rfl ?_
      refine w_iload d_D_again_235 rfl ?_
      refine w_D_sort d_D_again_237 l_D_129 (Nat.le_of_ble_eq_true rfl) (Nat.le_trans (Nat.le_of_ble_eq_true rfl) hF) (Nat.le_trans (Nat.le_of_ble_eq_true rfl) hL) ?_
      refine w_sq (G1 := rng) (J := 274) (lvJ := fun x => [(0, mr 55), (1, mr q), (2, iI x2), (3, iI x3), (4, iI x4), (5, iI x5), (6, iI x6), (7, iI x7)]) (stJ := fun x => [iI x, iI x3, mr 73]) ?_ (fun z20 σ21 h22 W23 q24 => ?_)
      · refine w_if_ne 248 d_D_again_240 (by decide) (rngm _) (fun c12 => ?_) (fun c12 => ?_)
        · refine w_iload d_D_again_243 rfl ?_
          refine w_if_ge 253 d_D_again_245 (by decide) ry10 (fun c13 => ?_) (fun c13 => ?_)
          · refine w_iload d_D_again_248 rfl ?_
            refine w_goto 274 d_D_again_250 (by decide) ?_
            exact w_exit [(0, mr 55), (1, mr q), (2, iI x2), (3, iI x3), (4, iI x4), (5, iI x5), (6, iI x6), (7, iI x7)] (m_sc2 rfl (m_sc2 rfl (m_sc2 rfl (m_sc2 rfl (m_sc2 rfl (m_sc2 rfl (m_sc2 rfl (m_sc2 rfl (m_sn _))))))))) hW (fun _ _ _ k => k) ry6
          · refine w_iconst d_D_again_253 ?_
            refine w_aload_n d_D_again_254 rfl rfl ?_
            refine w_iload d_D_again_255 rfl ?_
            refine w_iconst d_D_again_257 ?_
            refine w_iadd d_D_again_258 (fun c14 => ?_)
            refine w_iload d_D_again_259 rfl ?_
            refine w_iadd d_D_again_261 (fun c15 => ?_)
            refine w_ald d_D_again_262 hW hq (fun c16 => ?_)
            refine w_iconst d_D_again_263 ?_
            refine w_shr2 d_D_again_264 (hW.ra _ _) ?_
            refine w_aload_n d_D_again_265 rfl rfl ?_
            refine w_gr d_D_again_266 f_D_66 hW or55_22 ?_
            refine w_iload d_D_again_269 rfl ?_
            refine w_ald d_D_again_271 hW ia74 (fun c17 => ?_)
            refine w_iadd d_D_again_272 (fun c18 => ?_)
            refine w_imul d_D_again_273 (fun c19 => ?_)
            exact w_exit [(0, mr 55), (1, mr q), (2, iI x2), (3, iI x3), (4, iI x4), (5, iI x5), (6, iI x6), (7, iI x7)] (m_sc2 rfl (m_sc2 rfl (m_sc2 rfl (m_sc2 rfl (m_sc2 rfl (m_sc2 rfl (m_sc2 rfl (m_sc2 rfl (m_sn _))))))))) hW (fun _ _ _ k => k) c19
        · refine w_iload d_D_again_248 rfl ?_
          refine w_goto 274 d_D_again_250 (by decide) ?_
          exact w_exit [(0, mr 55), (1, mr q), (2, iI x2), (3, iI x3), (4, iI x4), (5, iI x5), (6, iI x6), (7, iI x7)] (m_sc2 rfl (m_sc2 rfl (m_sc2 rfl (m_sc2 rfl (m_sc2 rfl (m_sc2 rfl (m_sc2 rfl (m_sc2 rfl (m_sn _))))))))) hW (fun _ _ _ k => k) ry6
      · show Ew _ _ _ _ _ _ _ _ 274 [(0, mr 55), (1, mr q), (2, iI x2), (3, iI x3), (4, iI x4), (5, iI x5), (6, iI x6), (7, iI x7)] [iI z20, iI x3, mr 73] _ _ _
        refine w_ast d_D_again_274 W23 ia73 q24 (fun c25 h26 σ27 e28 W29 => ?_)
        refine w_iinc [(3, iI (x3 + 1)), (0, mr 55), (1, mr q), (2, iI x2), (4, iI x4), (5, iI x5), (6, iI x6), (7, iI x7)] d_D_again_275 rfl (by decide) rfl (fun c30 => ?_)
        refine w_iinc [(7, iI (x7 + 1)), (3, iI (x3 + 1)), (0, mr 55), (1, mr q), (2, iI x2), (4, iI x4), (5, iI x5), (6, iI x6)] d_D_again_278 rfl (by decide) rfl (fun c31 => ?_)
        refine w_goto 188 d_D_again_281 (by decide) ?_
        exact w_sub (m_sc2 rfl (m_sc2 rfl (m_sc2 rfl (m_sc2 rfl (m_sc2 rfl (m_sc2 rfl (m_sc2 rfl (m_sc2 rfl (m_sn _))))))))) (ih x2 (x3 + 1) x4 x5 x6 (x7 + 1) _ _ W29 r2 c30 r4 r5 r6 c31)
    · exact w_exit [(0, mr 55), (1, mr q), (2, iI x2), (3, iI x3), (4, iI x4), (5, iI x5), (6, iI x6)] (m_sc2 rfl (m_sc2 rfl (m_sc2 rfl (m_sc2 rfl (m_sc2 rfl (m_sc2 rfl (m_sc2 rfl (m_sn _)))))))) hW (fun _ _ _ k => k) r3
theorem w_D_again_8 {g : MG} {d w fu : Nat} {Q : MO → List MC → Prop} {q : Nat} (hF : 2 ≤ d) (hL : 49 ≤ w) (hq : ia q 16384) : ∀ (n : Nat) (x2 : Int) (x3 : Int) (x4 : Int) (x5 : Int) (σ : SS) (h : List MC), Wd h σ → rng x2 → rng x3 → rng x4 → rng x5 → Ew g none M_D_again d w Q (fun x => rng x.1 ∧ rng x.2) (cJ g none M_D_again d w Q 302 (fun x => [(3, iI x.1), (4, iI x.2)]) (fun x => [])) 8 [(0, mr 55), (1, mr q), (2, iI x2), (3, iI x3), (4, iI x4), (5, iI x5)] [] h σ (l_D_again_8 fu q n x2 x3 x4 x5 σ) := by
  intro n
  induction n with
  | zero =>
    intro x2 x3 x4 x5 σ h hW r2 r3 r4 r5 a9 σ9 hm
    rw [l_D_again_8] at hm
    cases hm
  | succ n ih =>
    intro x2 x3 x4 x5 σ h hW r2 r3 r4 r5
    rw [l_D_again_8]
    refine w_iload d_D_again_8 rfl ?_
    refine w_iload_n d_D_again_10 rfl rfl ?_
    refine w_icmp_ge 302 d_D_again_11 (by decide) r5 r2 (fun c1 => ?_) (fun c1 => ?_)
    · refine w_aload_n d_D_again_14 rfl rfl ?_
      refine w_iload d_D_again_15 rfl ?_
      refine w_ald d_D_again_17 hW hq (fun c2 => ?_)
      refine w_iconst d_D_again_18 ?_
      refine w_shr2 d_D_again_19 (hW.ra _ _) ?_
      refine w_top (fun y3 e4 => ?_)
      have ry3 : rng y3 := e4 ▸ (rng4 (hW.ra _ _))
      refine w_istore [(6, iI y3), (0, mr 55), (1, mr q), (2, iI x2), (3, iI x3), (4, iI x4), (5, iI x5)] d_D_again_20 (by decide) rfl ?_
      refine w_aload_n d_D_again_22 rfl rfl ?_
      refine w_iload d_D_again_23 rfl ?_
      refine w_ald d_D_again_25 hW hq (fun c5 => ?_)
      refine w_D_sort d_D_again_26 l_D_129 (Nat.le_of_ble_eq_true rfl) (Nat.le_trans (Nat.le_of_ble_eq_true rfl) hF) (Nat.le_trans (Nat.le_of_ble_eq_true rfl) hL) ?_
      refine w_iconst d_D_again_29 ?_
      refine w_sq (G1 := (fun x => rng x.1 ∧ rng x.2.1 ∧ rng x.2.2)) (J := 296) (lvJ := fun x => [(0, mr 55), (1, mr q), (2, iI x2), (3, iI x.1), (4, iI x.2.1), (5, iI x.2.2)]) (stJ := fun x => []) ?_ (fun z93 σ94 h95 W96 q97 => ?_)
      · refine w_icmp_ne 43 d_D_again_30 (by decide) (rngm _) (show rng 2 by decide) (fun c6 => ?_) (fun c6 => ?_)
        · refine w_aload_n d_D_again_33 rfl rfl ?_
          refine w_gr d_D_again_34 f_D_26 hW or55_9 ?_
          refine w_iload d_D_again_37 rfl ?_
          refine w_bld d_D_again_39 hW za61 (fun c7 => ?_)
          refine w_if_ne 161 d_D_again_40 (by decide) (hW.ra _ _) (fun c8 => ?_) (fun c8 => ?_)
          · refine w_aload_n d_D_again_43 rfl rfl ?_
            refine w_gr d_D_again_44 f_D_63 hW or55_21 ?_
            refine w_iload_n d_D_again_47 rfl rfl ?_
            refine w_aload_n d_D_again_48 rfl rfl ?_
            refine w_iload d_D_again_49 rfl ?_
            refine w_ald d_D_again_51 hW hq (fun c9 => ?_)
            refine w_ast d_D_again_52 hW ia73 (hW.ra _ _) (fun c10 h11 σ12 e13 W14 => ?_)
            refine w_iinc [(3, iI (x3 + 1)), (6, iI y3), (0, mr 55), (1, mr q), (2, iI x2), (4, iI x4), (5, iI x5)] d_D_again_53 rfl (by decide) rfl (fun c15 => ?_)
            refine w_iconst d_D_again_56 ?_
            refine w_istore [(7, iI 0), (3, iI (x3 + 1)), (6, iI y3), (0, mr 55), (1, mr q), (2, iI x2), (4, iI x4), (5, iI x5)] d_D_again_57 (by decide) rfl ?_
            refine w_sq (G1 := gU) (J := 106) (lvJ := fun x => [(0, mr 55), (1, mr q), (2, iI x2), (3, iI (x3 + 1)), (4, iI x4), (5, iI x5), (6, iI y3)]) (stJ := fun x => []) (w_sub (m_sc2 rfl (m_sc2 rfl (m_sc2 rfl (m_sc2 rfl (m_sc2 rfl (m_sc2 rfl (m_sc2 rfl (m_sc2 rfl (m_sn _))))))))) (w_D_again_59 hF hL hq fu x2 (x3 + 1) x4 x5 y3 0 _ _ W14 r2 c15 r4 r5 ry3 (show rng 0 by decide))) (fun z16 σ17 h18 W19 q20 => ?_)
            show Ew _ _ _ _ _ _ _ _ 106 [(0, mr 55), (1, mr q), (2, iI x2), (3, iI (x3 + 1)), (4, iI x4), (5, iI x5), (6, iI y3)] [] _ _ _
            refine w_iload_n d_D_again_106 rfl rfl ?_
            refine w_aload_n d_D_again_107 rfl rfl ?_
            refine w_iload d_D_again_108 rfl ?_
            refine w_ald d_D_again_110 W19 hq (fun c21 => ?_)
            refine w_D_sort d_D_again_111 l_D_129 (Nat.le_of_ble_eq_true rfl) (Nat.le_trans (Nat.le_of_ble_eq_true rfl) hF) (Nat.le_trans (Nat.le_of_ble_eq_true rfl) hL) ?_
            refine w_iconst d_D_again_114 ?_
            refine w_sq (G1 := rng) (J := 129) (lvJ := fun x => [(0, mr 55), (1, mr q), (2, iI x2), (4, iI x4), (5, iI x5), (6, iI y3)]) (stJ := fun x => [iI x, iI (x3 + 1)]) ?_ (fun z24 σ25 h26 W27 q28 => ?_)
            · refine w_icmp_ne 128 d_D_again_115 (by decide) (rngm _) (show rng 2 by decide) (fun c22 => ?_) (fun c22 => ?_)
              · refine w_aload_n d_D_again_118 rfl rfl ?_
                refine w_gr d_D_again_119 f_D_16 W19 or55_6 ?_
                refine w_iload d_D_again_122 rfl ?_
                refine w_ald d_D_again_124 W19 ia58 (fun c23 => ?_)
                refine w_goto 129 d_D_again_125 (by decide) ?_
                exact w_exit [(0, mr 55), (1, mr q), (2, iI x2), (4, iI x4), (5, iI x5), (6, iI y3)] (m_sc2 rfl (m_sc2 rfl (m_sc2 rfl (m_sc2 rfl (m_sc2 rfl (m_sc2 rfl (m_sn _))))))) W19 (fun _ _ _ k => k) (W19.ra _ _)
              · refine w_iconst d_D_again_128 ?_
                exact w_exit [(0, mr 55), (1, mr q), (2, iI x2), (4, iI x4), (5, iI x5), (6, iI y3)] (m_sc2 rfl (m_sc2 rfl (m_sc2 rfl (m_sc2 rfl (m_sc2 rfl (m_sc2 rfl (m_sn _))))))) W19 (fun _ _ _ k => k) (show rng 0 by decide)
            · show Ew _ _ _ _ _ _ _ _ 129 [(0, mr 55), (1, mr q), (2, iI x2), (4, iI x4), (5, iI x5), (6, iI y3)] [iI z24, iI (x3 + 1)] _ _ _
              refine w_iadd d_D_again_129 (fun c29 => ?_)
              refine w_top (fun y30 e31 => ?_)
              have ry30 : rng y30 := e31 ▸ c29
              refine w_istore_n [(3, iI y30), (0, mr 55), (1, mr q), (2, iI x2), (4, iI x4), (5, iI x5), (6, iI y3)] d_D_again_130 rfl (by decide) rfl ?_
              refine w_iload d_D_again_131 rfl ?_
              refine w_aload_n d_D_again_133 rfl rfl ?_
              refine w_iload d_D_again_134 rfl ?_
              refine w_ald d_D_again_136 W27 hq (fun c32 => ?_)
              refine w_D_sort d_D_again_137 l_D_129 (Nat.le_of_ble_eq_true rfl) (Nat.le_trans (Nat.le_of_ble_eq_true rfl) hF) (Nat.le_trans (Nat.le_of_ble_eq_true rfl) hL) ?_
              refine w_iconst d_D_again_140 ?_
              refine w_sq (G1 := rng) (J := 155) (lvJ := fun x => [(0, mr 55), (1, mr q), (2, iI x2), (3, iI y30), (4, iI x4)]) (stJ := fun x => [iI x, iI x5]) ?_ (fun z35 σ36 h37 W38 q39 => ?_)
              · refine w_icmp_ne 154 d_D_again_141 (by decide) (rngm _) (show rng 2 by decide) (fun c33 => ?_) (fun c33 => ?_)
                · refine w_aload_n d_D_again_144 rfl rfl ?_
                  refine w_gr d_D_again_145 f_D_16 W27 or55_6 ?_
                  refine w_iload d_D_again_148 rfl ?_
                  refine w_ald d_D_again_150 W27 ia58 (fun c34 => ?_)
                  refine w_goto 155 d_D_again_151 (by decide) ?_
                  exact w_exit [(0, mr 55), (1, mr q), (2, iI x2), (3, iI y30), (4, iI x4)] (m_sc2 rfl (m_sc2 rfl (m_sc2 rfl (m_sc2 rfl (m_sc2 rfl (m_sn _)))))) W27 (fun _ _ _ k => k) (W27.ra _ _)
                · refine w_iconst d_D_again_154 ?_
                  exact w_exit [(0, mr 55), (1, mr q), (2, iI x2), (3, iI y30), (4, iI x4)] (m_sc2 rfl (m_sc2 rfl (m_sc2 rfl (m_sc2 rfl (m_sc2 rfl (m_sn _)))))) W27 (fun _ _ _ k => k) (show rng 0 by decide)
              · show Ew _ _ _ _ _ _ _ _ 155 [(0, mr 55), (1, mr q), (2, iI x2), (3, iI y30), (4, iI x4)] [iI z35, iI x5] _ _ _
                refine w_iadd d_D_again_155 (fun c40 => ?_)
                refine w_top (fun y41 e42 => ?_)
                have ry41 : rng y41 := e42 ▸ c40
                refine w_istore [(5, iI y41), (0, mr 55), (1, mr q), (2, iI x2), (3, iI y30), (4, iI x4)] d_D_again_156 (by decide) rfl ?_
                refine w_goto 296 d_D_again_158 (by decide) ?_
                exact w_exit [(0, mr 55), (1, mr q), (2, iI x2), (3, iI y30), (4, iI x4), (5, iI y41)] (m_sc2 rfl (m_sc2 rfl (m_sc2 rfl (m_sc2 rfl (m_sc2 rfl (m_sc2 rfl (m_sn _))))))) W38 (fun _ _ _ k => k) (And.intro ry30 (And.intro r4 ry41))
          · refine w_iconst d_D_again_161 ?_
            refine w_istore [(4, iI 1), (6, iI y3), (0, mr 55), (1, mr q), (2, iI x2), (3, iI x3), (5, iI x5)] d_D_again_162 (by decide) rfl ?_
            refine w_aload_n d_D_again_164 rfl rfl ?_
            refine w_aload_n d_D_again_165 rfl rfl ?_
            refine w_gr d_D_again_166 f_D_23 hW or55_8 ?_
            refine w_sipush d_D_again_169 (by decide) ?_
            refine w_iload d_D_again_172 rfl ?_
            refine w_imul d_D_again_174 (fun c43 => ?_)
            refine w_aload_n d_D_again_175 rfl rfl ?_
            refine w_gr d_D_again_176 f_D_19 hW or55_7 ?_
            refine w_iload d_D_again_179 rfl ?_
            refine w_ald d_D_again_181 hW ia59 (fun c44 => ?_)
            refine w_cVU [mr 60, iI (400 * y3), iI (σ.2.1 59 y3)] [] d_D_again_182 me_D_measure l_D_133 hW (c_D_measure hW ia60 c43 (hW.ra _ _)) rfl rfl (Nat.le_of_ble_eq_true rfl) rfl (Nat.le_of_ble_eq_true rfl) (Nat.le_trans (Nat.le_of_ble_eq_true rfl) hF) (Nat.le_trans (Nat.le_of_ble_eq_true rfl) hL) ob55 ⟨_, _, rfl⟩ (fun a45 σ46 h47 W48 q49 => ?_)
            refine w_iconst d_D_again_185 ?_
            refine w_istore [(7, iI 0), (4, iI 1), (6, iI y3), (0, mr 55), (1, mr q), (2, iI x2), (3, iI x3), (5, iI x5)] d_D_again_186 (by decide) rfl ?_
            refine w_sq (G1 := rng) (J := 284) (lvJ := fun x => [(0, mr 55), (1, mr q), (2, iI x2), (3, iI x), (4, iI 1), (5, iI x5), (6, iI y3)]) (stJ := fun x => []) (w_sub (m_sc2 rfl (m_sc2 rfl (m_sc2 rfl (m_sc2 rfl (m_sc2 rfl (m_sc2 rfl (m_sc2 rfl (m_sc2 rfl (m_sn _))))))))) (w_D_again_188 hF hL hq fu x2 x3 1 x5 y3 0 _ _ W48 r2 r3 (show rng 1 by decide) r5 ry3 (show rng 0 by decide))) (fun z50 σ51 h52 W53 q54 => ?_)
            show Ew _ _ _ _ _ _ _ _ 284 [(0, mr 55), (1, mr q), (2, iI x2), (3, iI z50), (4, iI 1), (5, iI x5), (6, iI y3)] [] _ _ _
            refine w_iload d_D_again_284 rfl ?_
            refine w_aload_n d_D_again_286 rfl rfl ?_
            refine w_gr d_D_again_287 f_D_16 W53 or55_6 ?_
            refine w_iload d_D_again_290 rfl ?_
            refine w_ald d_D_again_292 W53 ia58 (fun c55 => ?_)
            refine w_iadd d_D_again_293 (fun c56 => ?_)
            refine w_top (fun y57 e58 => ?_)
            have ry57 : rng y57 := e58 ▸ c56
            refine w_istore [(5, iI y57), (0, mr 55), (1, mr q), (2, iI x2), (3, iI z50), (4, iI 1), (6, iI y3)] d_D_again_294 (by decide) rfl ?_
            exact w_exit [(0, mr 55), (1, mr q), (2, iI x2), (3, iI z50), (4, iI 1), (5, iI y57)] (m_sc2 rfl (m_sc2 rfl (m_sc2 rfl (m_sc2 rfl (m_sc2 rfl (m_sc2 rfl (m_sn _))))))) W53 (fun _ _ _ k => k) (And.intro q54 (And.intro (show rng 1 by decide) ry57))
        · refine w_aload_n d_D_again_43 rfl rfl ?_
          refine w_gr d_D_again_44 f_D_63 hW or55_21 ?_
          refine w_iload_n d_D_again_47 rfl rfl ?_
          refine w_aload_n d_D_again_48 rfl rfl ?_
          refine w_iload d_D_again_49 rfl ?_
          refine w_ald d_D_again_51 hW hq (fun c59 => ?_)
          refine w_ast d_D_again_52 hW ia73 (hW.ra _ _) (fun c60 h61 σ62 e63 W64 => ?_)
          refine w_iinc [(3, iI (x3 + 1)), (6, iI y3), (0, mr 55), (1, mr q), (2, iI x2), (4, iI x4), (5, iI x5)] d_D_again_53 rfl (by decide) rfl (fun c65 => ?_)
          refine w_iconst d_D_again_56 ?_
          refine w_istore [(7, iI 0), (3, iI (x3 + 1)), (6, iI y3), (0, mr 55), (1, mr q), (2, iI x2), (4, iI x4), (5, iI x5)] d_D_again_57 (by decide) rfl ?_
          refine w_sq (G1 := gU) (J := 106) (lvJ := fun x => [(0, mr 55), (1, mr q), (2, iI x2), (3, iI (x3 + 1)), (4, iI x4), (5, iI x5), (6, iI y3)]) (stJ := fun x => []) (w_sub (m_sc2 rfl (m_sc2 rfl (m_sc2 rfl (m_sc2 rfl (m_sc2 rfl (m_sc2 rfl (m_sc2 rfl (m_sc2 rfl (m_sn _))))))))) (w_D_again_59 hF hL hq fu x2 (x3 + 1) x4 x5 y3 0 _ _ W64 r2 c65 r4 r5 ry3 (show rng 0 by decide))) (fun z66 σ67 h68 W69 q70 => ?_)
          show Ew _ _ _ _ _ _ _ _ 106 [(0, mr 55), (1, mr q), (2, iI x2), (3, iI (x3 + 1)), (4, iI x4), (5, iI x5), (6, iI y3)] [] _ _ _
          refine w_iload_n d_D_again_106 rfl rfl ?_
          refine w_aload_n d_D_again_107 rfl rfl ?_
          refine w_iload d_D_again_108 rfl ?_
          refine w_ald d_D_again_110 W69 hq (fun c71 => ?_)
          refine w_D_sort d_D_again_111 l_D_129 (Nat.le_of_ble_eq_true rfl) (Nat.le_trans (Nat.le_of_ble_eq_true rfl) hF) (Nat.le_trans (Nat.le_of_ble_eq_true rfl) hL) ?_
          refine w_iconst d_D_again_114 ?_
          refine w_sq (G1 := rng) (J := 129) (lvJ := fun x => [(0, mr 55), (1, mr q), (2, iI x2), (4, iI x4), (5, iI x5), (6, iI y3)]) (stJ := fun x => [iI x, iI (x3 + 1)]) ?_ (fun z74 σ75 h76 W77 q78 => ?_)
          · refine w_icmp_ne 128 d_D_again_115 (by decide) (rngm _) (show rng 2 by decide) (fun c72 => ?_) (fun c72 => ?_)
            · refine w_aload_n d_D_again_118 rfl rfl ?_
              refine w_gr d_D_again_119 f_D_16 W69 or55_6 ?_
              refine w_iload d_D_again_122 rfl ?_
              refine w_ald d_D_again_124 W69 ia58 (fun c73 => ?_)
              refine w_goto 129 d_D_again_125 (by decide) ?_
              exact w_exit [(0, mr 55), (1, mr q), (2, iI x2), (4, iI x4), (5, iI x5), (6, iI y3)] (m_sc2 rfl (m_sc2 rfl (m_sc2 rfl (m_sc2 rfl (m_sc2 rfl (m_sc2 rfl (m_sn _))))))) W69 (fun _ _ _ k => k) (W69.ra _ _)
            · refine w_iconst d_D_again_128 ?_
              exact w_exit [(0, mr 55), (1, mr q), (2, iI x2), (4, iI x4), (5, iI x5), (6, iI y3)] (m_sc2 rfl (m_sc2 rfl (m_sc2 rfl (m_sc2 rfl (m_sc2 rfl (m_sc2 rfl (m_sn _))))))) W69 (fun _ _ _ k => k) (show rng 0 by decide)
          · show Ew _ _ _ _ _ _ _ _ 129 [(0, mr 55), (1, mr q), (2, iI x2), (4, iI x4), (5, iI x5), (6, iI y3)] [iI z74, iI (x3 + 1)] _ _ _
            refine w_iadd d_D_again_129 (fun c79 => ?_)
            refine w_top (fun y80 e81 => ?_)
            have ry80 : rng y80 := e81 ▸ c79
            refine w_istore_n [(3, iI y80), (0, mr 55), (1, mr q), (2, iI x2), (4, iI x4), (5, iI x5), (6, iI y3)] d_D_again_130 rfl (by decide) rfl ?_
            refine w_iload d_D_again_131 rfl ?_
            refine w_aload_n d_D_again_133 rfl rfl ?_
            refine w_iload d_D_again_134 rfl ?_
            refine w_ald d_D_again_136 W77 hq (fun c82 => ?_)
            refine w_D_sort d_D_again_137 l_D_129 (Nat.le_of_ble_eq_true rfl) (Nat.le_trans (Nat.le_of_ble_eq_true rfl) hF) (Nat.le_trans (Nat.le_of_ble_eq_true rfl) hL) ?_
            refine w_iconst d_D_again_140 ?_
            refine w_sq (G1 := rng) (J := 155) (lvJ := fun x => [(0, mr 55), (1, mr q), (2, iI x2), (3, iI y80), (4, iI x4)]) (stJ := fun x => [iI x, iI x5]) ?_ (fun z85 σ86 h87 W88 q89 => ?_)
            · refine w_icmp_ne 154 d_D_again_141 (by decide) (rngm _) (show rng 2 by decide) (fun c83 => ?_) (fun c83 => ?_)
              · refine w_aload_n d_D_again_144 rfl rfl ?_
                refine w_gr d_D_again_145 f_D_16 W77 or55_6 ?_
                refine w_iload d_D_again_148 rfl ?_
                refine w_ald d_D_again_150 W77 ia58 (fun c84 => ?_)
                refine w_goto 155 d_D_again_151 (by decide) ?_
                exact w_exit [(0, mr 55), (1, mr q), (2, iI x2), (3, iI y80), (4, iI x4)] (m_sc2 rfl (m_sc2 rfl (m_sc2 rfl (m_sc2 rfl (m_sc2 rfl (m_sn _)))))) W77 (fun _ _ _ k => k) (W77.ra _ _)
              · refine w_iconst d_D_again_154 ?_
                exact w_exit [(0, mr 55), (1, mr q), (2, iI x2), (3, iI y80), (4, iI x4)] (m_sc2 rfl (m_sc2 rfl (m_sc2 rfl (m_sc2 rfl (m_sc2 rfl (m_sn _)))))) W77 (fun _ _ _ k => k) (show rng 0 by decide)
            · show Ew _ _ _ _ _ _ _ _ 155 [(0, mr 55), (1, mr q), (2, iI x2), (3, iI y80), (4, iI x4)] [iI z85, iI x5] _ _ _
              refine w_iadd d_D_again_155 (fun c90 => ?_)
              refine w_top (fun y91 e92 => ?_)
              have ry91 : rng y91 := e92 ▸ c90
              refine w_istore [(5, iI y91), (0, mr 55), (1, mr q), (2, iI x2), (3, iI y80), (4, iI x4)] d_D_again_156 (by decide) rfl ?_
              refine w_goto 296 d_D_again_158 (by decide) ?_
              exact w_exit [(0, mr 55), (1, mr q), (2, iI x2), (3, iI y80), (4, iI x4), (5, iI y91)] (m_sc2 rfl (m_sc2 rfl (m_sc2 rfl (m_sc2 rfl (m_sc2 rfl (m_sc2 rfl (m_sn _))))))) W88 (fun _ _ _ k => k) (And.intro ry80 (And.intro r4 ry91))
      · show Ew _ _ _ _ _ _ _ _ 296 [(0, mr 55), (1, mr q), (2, iI x2), (3, iI z93.1), (4, iI z93.2.1), (5, iI z93.2.2)] [] _ _ _
        refine w_iinc [(5, iI (z93.2.2 + 1)), (0, mr 55), (1, mr q), (2, iI x2), (3, iI z93.1), (4, iI z93.2.1)] d_D_again_296 rfl (by decide) rfl (fun c98 => ?_)
        refine w_goto 8 d_D_again_299 (by decide) ?_
        exact w_sub (m_sc2 rfl (m_sc2 rfl (m_sc2 rfl (m_sc2 rfl (m_sc2 rfl (m_sc2 rfl (m_sn _))))))) (ih x2 z93.1 z93.2.1 (z93.2.2 + 1) _ _ W96 r2 q97.1 q97.2.1 c98)
    · exact w_exit [(3, iI x3), (4, iI x4)] (m_sc2 rfl (m_sc2 rfl (m_sn _))) hW (fun _ _ _ k => k) (And.intro r3 r4)
theorem c_D_again {g : MG} {fu : Nat} {h : List MC} {σ : SS} {q : Nat} {x2 : Int} (hW : Wd h σ) (hq : ia q 16384) (r2 : rng x2) : Cw g M_D_again 2 49 [mr 55, mr q, iI x2] rng cI1 h σ (f_D_again fu q x2 σ) := by
  refine w_of (fun d w Q hF hL => ?_)
  unfold f_D_again
  show Ew g none M_D_again d w Q rng (cI1 Q) 0 [(0, mr 55), (1, mr q), (2, iI x2)] [] h σ _
  refine w_iconst d_D_again_0 ?_
  refine w_istore_n [(3, iI 0), (0, mr 55), (1, mr q), (2, iI x2)] d_D_again_1 rfl (by decide) rfl ?_
  refine w_iconst d_D_again_2 ?_
  refine w_istore [(4, iI 0), (3, iI 0), (0, mr 55), (1, mr q), (2, iI x2)] d_D_again_3 (by decide) rfl ?_
  refine w_iconst d_D_again_5 ?_
  refine w_istore [(5, iI 0), (4, iI 0), (3, iI 0), (0, mr 55), (1, mr q), (2, iI x2)] d_D_again_6 (by decide) rfl ?_
  refine w_sq (G1 := (fun x => rng x.1 ∧ rng x.2)) (J := 302) (lvJ := fun x => [(3, iI x.1), (4, iI x.2)]) (stJ := fun x => []) (w_sub (m_sc2 rfl (m_sc2 rfl (m_sc2 rfl (m_sc2 rfl (m_sc2 rfl (m_sc2 rfl (m_sn _))))))) (w_D_again_8 hF hL hq fu x2 0 0 0 _ _ hW r2 (show rng 0 by decide) (show rng 0 by decide) (show rng 0 by decide))) (fun z1 σ2 h3 W4 q5 => ?_)
  show Ew _ _ _ _ _ _ _ _ 302 [(3, iI z1.1), (4, iI z1.2)] [] _ _ _
  refine w_iload d_D_again_302 rfl ?_
  refine w_if_eq 311 d_D_again_304 (by decide) q5.2 (fun c6 => ?_) (fun c6 => ?_)
  · refine w_iconst d_D_again_311 ?_
    exact w_iret d_D_again_312 rfl W4 (fun _ _ _ k => k) (show rng (-1) by decide)
  · refine w_iload_n d_D_again_307 rfl rfl ?_
    refine w_goto 312 d_D_again_308 (by decide) ?_
    exact w_iret d_D_again_312 rfl W4 (fun _ _ _ k => k) q5.1
