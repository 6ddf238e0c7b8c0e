def l_D_sizeOf_5 (fu : Nat) (q : Nat) : Nat → Int → Int → Int → SS → Option ((Int) × SS)
  | 0, _, _, _, _ => none
  | n + 1, x1, x3, x4, σ => if x4 < x1 then (ck (rng (x3 + 1)) (ck (inb 16384 x4) (sq (if ((σ.2.1 q x4) % 4) = 2 then (ck (inb 16384 x4) (ck (inb 324 ((σ.2.1 q x4) / 4)) (ck (rng (x4 + (σ.2.1 58 ((σ.2.1 q x4) / 4)))) (lb (x4 + (σ.2.1 58 ((σ.2.1 q x4) / 4))) fun y8 => some (y8, σ))))) else (some (x4, σ))) fun (z10 : Int) σ11 => ck (rng (z10 + 1)) (l_D_sizeOf_5 fu q n x1 (x3 + 1) (z10 + 1) σ11)))) else (some (x3, σ))
def f_D_sizeOf (fu : Nat) (q : Nat) (x1 : Int) (σ : SS) : Option (Int × SS) := sq (l_D_sizeOf_5 fu q fu x1 0 0 σ) fun (z1 : Int) σ2 => some (z1, σ2)
theorem w_D_sizeOf_5 {g : MG} {d w fu : Nat} {Q : MO → List MC → Prop} {q : Nat} (hF : 1 ≤ d) (hL : 20 ≤ w) (hq : ia q 16384) : ∀ (n : Nat) (x1 : Int) (x3 : Int) (x4 : Int) (σ : SS) (h : List MC), Wd h σ → rng x1 → rng x3 → rng x4 → Ew g none M_D_sizeOf d w Q rng (cJ g none M_D_sizeOf d w Q 44 (fun x => [(3, iI x)]) (fun x => [])) 5 [(0, mr q), (1, iI x1), (2, mr 58), (3, iI x3), (4, iI x4)] [] h σ (l_D_sizeOf_5 fu q n x1 x3 x4 σ) := by
  intro n
  induction n with
  | zero =>
    intro x1 x3 x4 σ h hW r1 r3 r4 a9 σ9 hm
    rw [l_D_sizeOf_5] at hm
    cases hm
  | succ n ih =>
    intro x1 x3 x4 σ h hW r1 r3 r4
    rw [l_D_sizeOf_5]
    refine w_iload d_D_sizeOf_5 rfl ?_
    refine w_iload_n d_D_sizeOf_7 rfl rfl ?_
    refine w_icmp_ge 44 d_D_sizeOf_8 (by decide) r4 r1 (fun c1 => ?_) (fun c1 => ?_)
    · refine w_iinc [(3, iI (x3 + 1)), (0, mr q), (1, iI x1), (2, mr 58), (4, iI x4)] d_D_sizeOf_11 rfl (by decide) rfl (fun c2 => ?_)
      refine w_aload_n d_D_sizeOf_14 rfl rfl ?_
      refine w_iload d_D_sizeOf_15 rfl ?_
      refine w_ald d_D_sizeOf_17 hW hq (fun c3 => ?_)
      refine w_D_sort d_D_sizeOf_18 l_D_129 (Nat.le_of_ble_eq_true rfl) (Nat.le_trans (Nat.le_of_ble_eq_true rfl) hF) (Nat.le_trans (Nat.le_of_ble_eq_true rfl) hL) ?_
      refine w_iconst d_D_sizeOf_21 ?_
      refine w_sq (G1 := rng) (J := 38) (lvJ := fun x => [(0, mr q), (1, iI x1), (2, mr 58), (3, iI (x3 + 1)), (4, iI x)]) (stJ := fun x => []) ?_ (fun z10 σ11 h12 W13 q14 => ?_)
      · refine w_icmp_ne 38 d_D_sizeOf_22 (by decide) (rngm _) (show rng 2 by decide) (fun c4 => ?_) (fun c4 => ?_)
        · refine w_iload d_D_sizeOf_25 rfl ?_
          refine w_aload_n d_D_sizeOf_27 rfl rfl ?_
          refine w_aload_n d_D_sizeOf_28 rfl rfl ?_
          refine w_iload d_D_sizeOf_29 rfl ?_
          refine w_ald d_D_sizeOf_31 hW hq (fun c5 => ?_)
          refine w_iconst d_D_sizeOf_32 ?_
          refine w_shr2 d_D_sizeOf_33 (hW.ra _ _) ?_
          refine w_ald d_D_sizeOf_34 hW ia58 (fun c6 => ?_)
          refine w_iadd d_D_sizeOf_35 (fun c7 => ?_)
          refine w_top (fun y8 e9 => ?_)
          have ry8 : rng y8 := e9 ▸ c7
          refine w_istore [(4, iI y8), (3, iI (x3 + 1)), (0, mr q), (1, iI x1), (2, mr 58)] d_D_sizeOf_36 (by decide) rfl ?_
          exact w_exit [(0, mr q), (1, iI x1), (2, mr 58), (3, iI (x3 + 1)), (4, iI y8)] (m_sc2 rfl (m_sc2 rfl (m_sc2 rfl (m_sc2 rfl (m_sc2 rfl (m_sn _)))))) hW (fun _ _ _ k => k) ry8
        · exact w_exit [(0, mr q), (1, iI x1), (2, mr 58), (3, iI (x3 + 1)), (4, iI x4)] (m_sc2 rfl (m_sc2 rfl (m_sc2 rfl (m_sc2 rfl (m_sc2 rfl (m_sn _)))))) hW (fun _ _ _ k => k) r4
      · show Ew _ _ _ _ _ _ _ _ 38 [(0, mr q), (1, iI x1), (2, mr 58), (3, iI (x3 + 1)), (4, iI z10)] [] _ _ _
        refine w_iinc [(4, iI (z10 + 1)), (0, mr q), (1, iI x1), (2, mr 58), (3, iI (x3 + 1))] d_D_sizeOf_38 rfl (by decide) rfl (fun c15 => ?_)
        refine w_goto 5 d_D_sizeOf_41 (by decide) ?_
        exact w_sub (m_sc2 rfl (m_sc2 rfl (m_sc2 rfl (m_sc2 rfl (m_sc2 rfl (m_sn _)))))) (ih x1 (x3 + 1) (z10 + 1) _ _ W13 r1 c2 c15)
    · exact w_exit [(3, iI x3)] (m_sc2 rfl (m_sn _)) hW (fun _ _ _ k => k) r3
theorem c_D_sizeOf {g : MG} {fu : Nat} {h : List MC} {σ : SS} {q : Nat} {x1 : Int} (hW : Wd h σ) (hq : ia q 16384) (r1 : rng x1) : Cw g M_D_sizeOf 1 20 [mr q, iI x1, mr 58] rng cI1 h σ (f_D_sizeOf fu q x1 σ) := by
  refine w_of (fun d w Q hF hL => ?_)
  unfold f_D_sizeOf
  show Ew g none M_D_sizeOf d w Q rng (cI1 Q) 0 [(0, mr q), (1, iI x1), (2, mr 58)] [] h σ _
  refine w_iconst d_D_sizeOf_0 ?_
  refine w_istore_n [(3, iI 0), (0, mr q), (1, iI x1), (2, mr 58)] d_D_sizeOf_1 rfl (by decide) rfl ?_
  refine w_iconst d_D_sizeOf_2 ?_
  refine w_istore [(4, iI 0), (3, iI 0), (0, mr q), (1, iI x1), (2, mr 58)] d_D_sizeOf_3 (by decide) rfl ?_
  refine w_sq (G1 := rng) (J := 44) (lvJ := fun x => [(3, iI x)]) (stJ := fun x => []) (w_sub (m_sc2 rfl (m_sc2 rfl (m_sc2 rfl (m_sc2 rfl (m_sc2 rfl (m_sn _)))))) (w_D_sizeOf_5 hF hL hq fu x1 0 0 _ _ hW r1 (show rng 0 by decide) (show rng 0 by decide))) (fun z1 σ2 h3 W4 q5 => ?_)
  show Ew _ _ _ _ _ _ _ _ 44 [(3, iI z1)] [] _ _ _
  refine w_iload_n d_D_sizeOf_44 rfl rfl ?_
  exact w_iret d_D_sizeOf_45 rfl W4 (fun _ _ _ k => k) q5
def l_D_fullSize_13 (fu : Nat) : Nat → Int → Int → SS → Option ((Unit) × SS)
  | 0, _, _, _ => none
  | n + 1, x1, x2, σ => ck (inb 324 x1) (if x2 < (σ.2.1 59 x1) then (ck (rng (400 * x1)) (ck (rng ((400 * x1) + x2)) (ck (inb 129600 ((400 * x1) + x2)) (ck (inb 16384 x2) (lb (sA σ 72 x2 (σ.2.1 60 ((400 * x1) + x2))) fun σ8 => ck (rng (x2 + 1)) (l_D_fullSize_13 fu n x1 (x2 + 1) σ8)))))) else (some ((), σ)))
def f_D_fullSize (fu : Nat) (x1 : Int) (σ : SS) : Option (Int × SS) := ck (inb 324 x1) (if (σ.2.1 61 x1) = 0 then (some (1, σ)) else (sq (l_D_fullSize_13 fu fu x1 0 σ) fun (z3 : Unit) σ4 => ck (inb 324 x1) (sq (f_D_write fu 72 (σ4.2.1 59 x1) σ4) fun (a9 : Int) σ10 => sq (f_D_sizeOf fu 72 a9 σ10) fun (a14 : Int) σ15 => some (a14, σ15))))
theorem w_D_fullSize_13 {g : MG} {d w fu : Nat} {Q : MO → List MC → Prop} (hF : 4 ≤ d) (hL : 103 ≤ w) : ∀ (n : Nat) (x1 : Int) (x2 : Int) (σ : SS) (h : List MC), Wd h σ → rng x1 → rng x2 → Ew g none M_D_fullSize d w Q gU (cJ g none M_D_fullSize d w Q 47 (fun x => [(0, mr 55), (1, iI x1)]) (fun x => [])) 13 [(0, mr 55), (1, iI x1), (2, iI x2)] [] h σ (l_D_fullSize_13 fu n x1 x2 σ) := by
  intro n
  induction n with
  | zero =>
    intro x1 x2 σ h hW r1 r2 a9 σ9 hm
    rw [l_D_fullSize_13] at hm
    cases hm
  | succ n ih =>
    intro x1 x2 σ h hW r1 r2
    rw [l_D_fullSize_13]
    refine w_iload_n d_D_fullSize_13 rfl rfl ?_
    refine w_aload_n d_D_fullSize_14 rfl rfl ?_
    refine w_gr d_D_fullSize_15 f_D_19 hW or55_7 ?_
    refine w_iload_n d_D_fullSize_18 rfl rfl ?_
    refine w_ald d_D_fullSize_19 hW ia59 (fun c1 => ?_)
    refine w_icmp_ge 47 d_D_fullSize_20 (by decide) r2 (hW.ra _ _) (fun c2 => ?_) (fun c2 => ?_)
    · refine w_aload_n d_D_fullSize_23 rfl rfl ?_
      refine w_gr d_D_fullSize_24 f_D_60 hW or55_20 ?_
      refine w_iload_n d_D_fullSize_27 rfl rfl ?_
      refine w_aload_n d_D_fullSize_28 rfl rfl ?_
      refine w_gr d_D_fullSize_29 f_D_23 hW or55_8 ?_
      refine w_sipush d_D_fullSize_32 (by decide) ?_
      refine w_iload_n d_D_fullSize_35 rfl rfl ?_
      refine w_imul d_D_fullSize_36 (fun c3 => ?_)
      refine w_iload_n d_D_fullSize_37 rfl rfl ?_
      refine w_iadd d_D_fullSize_38 (fun c4 => ?_)
      refine w_ald d_D_fullSize_39 hW ia60 (fun c5 => ?_)
      refine w_ast d_D_fullSize_40 hW ia72 (hW.ra _ _) (fun c6 h7 σ8 e9 W10 => ?_)
      refine w_iinc [(2, iI (x2 + 1)), (0, mr 55), (1, iI x1)] d_D_fullSize_41 rfl (by decide) rfl (fun c11 => ?_)
      refine w_goto 13 d_D_fullSize_44 (by decide) ?_
      exact w_sub (m_sc2 rfl (m_sc2 rfl (m_sc2 rfl (m_sn _)))) (ih x1 (x2 + 1) _ _ W10 r1 c11)
    · exact w_exit [(0, mr 55), (1, iI x1)] (m_sc2 rfl (m_sc2 rfl (m_sn _))) hW (fun _ _ _ k => k) True.intro
theorem c_D_fullSize {g : MG} {fu : Nat} {h : List MC} {σ : SS} {x1 : Int} (hW : Wd h σ) (r1 : rng x1) : Cw g M_D_fullSize 4 103 [mr 55, iI x1] rng cI1 h σ (f_D_fullSize fu x1 σ) := by
  refine w_of (fun d w Q hF hL => ?_)
  unfold f_D_fullSize
  show Ew g none M_D_fullSize d w Q rng (cI1 Q) 0 [(0, mr 55), (1, iI x1)] [] h σ _
  refine w_aload_n d_D_fullSize_0 rfl rfl ?_
  refine w_gr d_D_fullSize_1 f_D_26 hW or55_9 ?_
  refine w_iload_n d_D_fullSize_4 rfl rfl ?_
  refine w_bld d_D_fullSize_5 hW za61 (fun c1 => ?_)
  refine w_if_ne 11 d_D_fullSize_6 (by decide) (hW.ra _ _) (fun c2 => ?_) (fun c2 => ?_)
  · refine w_iconst d_D_fullSize_9 ?_
    exact w_iret d_D_fullSize_10 rfl hW (fun _ _ _ k => k) (show rng 1 by decide)
  · refine w_iconst d_D_fullSize_11 ?_
    refine w_istore_n [(2, iI 0), (0, mr 55), (1, iI x1)] d_D_fullSize_12 rfl (by decide) rfl ?_
    refine w_sq (G1 := gU) (J := 47) (lvJ := fun x => [(0, mr 55), (1, iI x1)]) (stJ := fun x => []) (w_sub (m_sc2 rfl (m_sc2 rfl (m_sc2 rfl (m_sn _)))) (w_D_fullSize_13 hF hL fu x1 0 _ _ hW r1 (show rng 0 by decide))) (fun z3 σ4 h5 W6 q7 => ?_)
    show Ew _ _ _ _ _ _ _ _ 47 [(0, mr 55), (1, iI x1)] [] _ _ _
    refine w_aload_n d_D_fullSize_47 rfl rfl ?_
    refine w_gr d_D_fullSize_48 f_D_60 W6 or55_20 ?_
    refine w_aload_n d_D_fullSize_51 rfl rfl ?_
    refine w_aload_n d_D_fullSize_52 rfl rfl ?_
    refine w_gr d_D_fullSize_53 f_D_60 W6 or55_20 ?_
    refine w_aload_n d_D_fullSize_56 rfl rfl ?_
    refine w_gr d_D_fullSize_57 f_D_19 W6 or55_7 ?_
    refine w_iload_n d_D_fullSize_60 rfl rfl ?_
    refine w_ald d_D_fullSize_61 W6 ia59 (fun c8 => ?_)
    refine w_cVI [mr 72, iI (σ4.2.1 59 x1)] [mr 72] d_D_fullSize_62 me_D_write l_D_141 W6 (c_D_write W6 ia72 (W6.ra _ _)) rfl rfl (Nat.le_of_ble_eq_true rfl) rfl (Nat.le_of_ble_eq_true rfl) (Nat.le_trans (Nat.le_of_ble_eq_true rfl) hF) (Nat.le_trans (Nat.le_of_ble_eq_true rfl) hL) ob55 ⟨_, _, rfl⟩ (fun a9 σ10 h11 W12 q13 => ?_)
    refine w_aload_n d_D_fullSize_65 rfl rfl ?_
    refine w_gr d_D_fullSize_66 f_D_16 W12 or55_6 ?_
    refine w_cSI [mr 72, iI a9, mr 58] [] d_D_fullSize_69 me_D_sizeOf l_D_147 W12 (c_D_sizeOf W12 ia72 q13) rfl rfl (Nat.le_of_ble_eq_true rfl) rfl (Nat.le_of_ble_eq_true rfl) (Nat.le_trans (Nat.le_of_ble_eq_true rfl) hF) (Nat.le_trans (Nat.le_of_ble_eq_true rfl) hL) (fun a14 σ15 h16 W17 q18 => ?_)
    exact w_iret d_D_fullSize_72 rfl W17 (fun _ _ _ k => k) q18
def l_D_fill_69 (fu : Nat) (q : Nat) (r : Nat) : Nat → Int → Int → Int → Int → Int → Int → SS → Option ((Int) × SS)
  | 0, _, _, _, _, _, _, _ => none
  | n + 1, x4, x5, x6, x7, x8, x9, σ => ck (inb 324 x7) (if x9 < (σ.2.1 58 x7) then (ck (rng (x6 + 1)) (ck (rng ((x6 + 1) + x9)) (ck (inb 16384 ((x6 + 1) + x9)) (ck (inb 16384 x6) (ck (rng (((σ.2.1 r ((x6 + 1) + x9)) / 4) - (σ.2.1 74 x6))) (lb (((σ.2.1 r ((x6 + 1) + x9)) / 4) - (σ.2.1 74 x6)) fun y8 => sq (if y8 < 0 then (ck (inb 16384 x8) (lb (sA σ 81 x8 x9) fun σ13 => ck (rng (x8 + 1)) (some ((x8 + 1), σ13)))) else (ck (inb 324 x4) (ck (rng (4 * y8)) (sq (f_D_find fu q 1 (σ.2.1 58 x4) (4 * y8) σ) fun (a19 : Int) σ20 => if a19 < 0 then (some (x8, σ20)) else (ck (inb 16384 x8) (lb (sA σ20 81 x8 x9) fun σ27 => ck (rng (x8 + 1)) (some ((x8 + 1), σ27)))))))) fun (z31 : Int) σ32 => ck (rng (x9 + 1)) (l_D_fill_69 fu q r n x4 x5 x6 x7 z31 (x9 + 1) σ32))))))) else (some (x8, σ)))
def l_D_fill_20 (fu : Nat) (q : Nat) (r : Nat) : Nat → Int → Int → Int → SS → Option ((Int ⊕ (Int)) × SS)
  | 0, _, _, _, _ => none
  | n + 1, x4, x5, x6, σ => if x6 < 0 then (some (.inr x5, σ)) else (ck (inb 16384 x6) (lb ((σ.2.1 r x6) / 4) fun y3 => ck (inb 16384 x6) (if ((σ.2.1 r x6) % 4) = 0 then (some (.inl 2, σ)) else (if y3 = x4 then (some (.inl 3, σ)) else (sq (f_D_isFull σ) fun (a8 : Int) σ9 => if a8 = 0 then (sq (l_D_fill_69 fu q r fu x4 x5 x6 y3 0 0 σ9) fun (z14 : Int) σ15 => sq (f_D_make z14 σ15) fun (a19 : Int) σ20 => sq (f_D_pass fu y3 a19 z14 σ20) fun (a24 : Unit) σ25 => sq (f_D_write fu r x5 σ25) fun (a29 : Int) σ30 => sq (f_D_hindrance fu q r a29 σ30) fun (a34 : Int) σ35 => l_D_fill_20 fu q r n x4 a29 a34 σ35) else (some (.inl 5, σ9)))))))
def l_D_fill_207 (fu : Nat) (q : Nat) (r : Nat) : Nat → Int → Int → Int → SS → Option ((Unit) × SS)
  | 0, _, _, _, _ => none
  | n + 1, x4, x5, x7, σ => if x7 < x5 then (ck (inb 16384 x7) (ck (inb 16384 x7) (ck (rng (((σ.2.1 r x7) / 4) - (σ.2.1 74 x7))) (lb (((σ.2.1 r x7) / 4) - (σ.2.1 74 x7)) fun y5 => ck (rng (400 * x4)) (ck (rng ((400 * x4) + x7)) (ck (inb 16384 x7) (sq (if ((σ.2.1 r x7) % 4) = 0 then (if y5 < 0 then (ck (inb 16384 x7) (some ((σ.2.1 r x7), σ))) else (ck (inb 324 x4) (ck (rng (4 * y5)) (sq (f_D_find fu q 1 (σ.2.1 58 x4) (4 * y5) σ) fun (a15 : Int) σ16 => ck (inb 16384 x7) (ck (rng (a15 + (σ16.2.1 74 x7))) (ck (rng (4 * (a15 + (σ16.2.1 74 x7)))) (some ((4 * (a15 + (σ16.2.1 74 x7))), σ16)))))))) else (ck (inb 16384 x7) (some ((σ.2.1 r x7), σ)))) fun (z24 : Int) σ25 => ck (inb 129600 ((400 * x4) + x7)) (lb (sA σ25 60 ((400 * x4) + x7) z24) fun σ31 => ck (rng (x7 + 1)) (l_D_fill_207 fu q r n x4 x5 (x7 + 1) σ31))))))))) else (some ((), σ))
def l_D_fill_318 (fu : Nat) : Nat → Int → SS → Option ((Int ⊕ (Unit)) × SS)
  | 0, _, _ => none
  | n + 1, x7, σ => ck (rng (24 + (σ.1 55 3))) (if x7 < (24 + (σ.1 55 3)) then (srr (if x7 < (σ.1 55 2) then (sq (f_D_fullSize fu x7 σ) fun (a4 : Int) σ5 => if 80 < a4 then (some (.inl 4, σ5)) else (some (.inr (), σ5))) else (if x7 < 24 then (some (.inr (), σ)) else (sq (f_D_fullSize fu x7 σ) fun (a11 : Int) σ12 => if 80 < a11 then (some (.inl 4, σ12)) else (some (.inr (), σ12))))) fun (z17 : Unit) σ18 => ck (rng (x7 + 1)) (l_D_fill_318 fu n (x7 + 1) σ18)) else (some (.inr (), σ)))
def f_D_fill (fu : Nat) (q : Nat) (r : Nat) (x3 : Int) (σ : SS) : Option (Int × SS) := ck (inb 16384 0) (lb ((σ.2.1 q 0) / 4) fun y2 => sq (f_D_hindrance fu q r x3 σ) fun (a4 : Int) σ5 => sr (l_D_fill_20 fu q r fu y2 x3 a4 σ5) fun (z9 : Int) σ10 => sq (f_D_sizeOf fu r z9 σ10) fun (a14 : Int) σ15 => if 80 < a14 then (some (4, σ15)) else (sq (l_D_fill_207 fu q r fu y2 z9 0 σ15) fun (z20 : Unit) σ21 => ck (inb 324 y2) (lb (sA σ21 59 y2 z9) fun σ27 => ck (inb 324 y2) (lb (sA σ27 61 y2 1) fun σ32 => sr (l_D_fill_318 fu fu 0 σ32) fun (z35 : Unit) σ36 => some (0, σ36)))))
theorem w_D_fill_69 {g : MG} {d w fu : Nat} {Q : MO → List MC → Prop} {q : Nat} {r : Nat} (hF : 5 ≤ d) (hL : 125 ≤ w) (hq : ia q 16384) (hr : ia r 16384) : ∀ (n : Nat) (x4 : Int) (x5 : Int) (x6 : Int) (x7 : Int) (x8 : Int) (x9 : Int) (σ : SS) (h : List MC), Wd h σ → rng x4 → rng x5 → rng x6 → rng x7 → rng x8 → rng x9 → Ew g none M_D_fill d w Q rng (cJ g none M_D_fill d w Q 147 (fun x => [(0, mr 55), (1, mr q), (2, mr r), (4, iI x4), (5, iI x5), (7, iI x7), (8, iI x)]) (fun x => [])) 69 [(0, mr 55), (1, mr q), (2, mr r), (4, iI x4), (5, iI x5), (6, iI x6), (7, iI x7), (8, iI x8), (9, iI x9)] [] h σ (l_D_fill_69 fu q r n x4 x5 x6 x7 x8 x9 σ) := by
  intro n
  induction n with
  | zero =>
    intro x4 x5 x6 x7 x8 x9 σ h hW r4 r5 r6 r7 r8 r9 a9 σ9 hm
    rw [l_D_fill_69] at hm
    cases hm
  | succ n ih =>
    intro x4 x5 x6 x7 x8 x9 σ h hW r4 r5 r6 r7 r8 r9
    rw [l_D_fill_69]
    refine w_iload d_D_fill_69 rfl ?_
    refine w_aload_n d_D_fill_71 rfl rfl ?_
    refine w_gr d_D_fill_72 f_D_16 hW or55_6 ?_
    refine w_iload d_D_fill_75 rfl ?_
    refine w_ald d_D_fill_77 hW ia58 (fun c1 => ?_)
    refine w_icmp_ge 147 d_D_fill_78 (by decide) r9 (hW.ra _ _) (fun c2 => ?_) (fun c2 => ?_)
    · refine w_aload_n d_D_fill_81 rfl rfl ?_
      refine w_iload d_D_fill_82 rfl ?_
      refine w_iconst d_D_fill_84 ?_
      refine w_iadd d_D_fill_85 (fun c3 => ?_)
      refine w_iload d_D_fill_86 rfl ?_
      refine w_iadd d_D_fill_88 (fun c4 => ?_)
      refine w_ald d_D_fill_89 hW hr (fun c5 => ?_)
      refine w_iconst d_D_fill_90 ?_
      refine w_shr2 d_D_fill_91 (hW.ra _ _) ?_
      refine w_aload_n d_D_fill_92 rfl rfl ?_
      refine w_gr d_D_fill_93 f_D_66 hW or55_22 ?_
      refine w_iload d_D_fill_96 rfl ?_
      refine w_ald d_D_fill_98 hW ia74 (fun c6 => ?_)
      refine w_isub d_D_fill_99 (fun c7 => ?_)
      refine w_top (fun y8 e9 => ?_)
      have ry8 : rng y8 := e9 ▸ c7
      refine w_istore [(10, iI y8), (0, mr 55), (1, mr q), (2, mr r), (4, iI x4), (5, iI x5), (6, iI x6), (7, iI x7), (8, iI x8), (9, iI x9)] d_D_fill_100 (by decide) rfl ?_
      refine w_iload d_D_fill_102 rfl ?_
      refine w_sq (G1 := rng) (J := 141) (lvJ := fun x => [(0, mr 55), (1, mr q), (2, mr r), (4, iI x4), (5, iI x5), (6, iI x6), (7, iI x7), (8, iI x), (9, iI x9)]) (stJ := fun x => []) ?_ (fun z31 σ32 h33 W34 q35 => ?_)
      · refine w_if_lt 129 d_D_fill_104 (by decide) ry8 (fun c10 => ?_) (fun c10 => ?_)
        · refine w_aload_n d_D_fill_129 rfl rfl ?_
          refine w_gr d_D_fill_130 f_D_88 hW or55_32 ?_
          refine w_iload d_D_fill_133 rfl ?_
          refine w_iload d_D_fill_135 rfl ?_
          refine w_ast d_D_fill_137 hW ia81 r9 (fun c11 h12 σ13 e14 W15 => ?_)
          refine w_iinc [(8, iI (x8 + 1)), (10, iI y8), (0, mr 55), (1, mr q), (2, mr r), (4, iI x4), (5, iI x5), (6, iI x6), (7, iI x7), (9, iI x9)] d_D_fill_138 rfl (by decide) rfl (fun c16 => ?_)
          exact w_exit [(0, mr 55), (1, mr q), (2, mr r), (4, iI x4), (5, iI x5), (6, iI x6), (7, iI x7), (8, iI (x8 + 1)), (9, iI x9)] (m_sc2 rfl (m_sc2 rfl (m_sc2 rfl (m_sc2 rfl (m_sc2 rfl (m_sc2 rfl (m_sc2 rfl (m_sc2 rfl (m_sc2 rfl (m_sn _)))))))))) W15 (fun _ _ _ k => k) c16
        · refine w_aload_n d_D_fill_107 rfl rfl ?_
          refine w_iconst d_D_fill_108 ?_
          refine w_aload_n d_D_fill_109 rfl rfl ?_
          refine w_gr d_D_fill_110 f_D_16 hW or55_6 ?_
          refine w_iload d_D_fill_113 rfl ?_
          refine w_ald d_D_fill_115 hW ia58 (fun c17 => ?_)
          refine w_iconst d_D_fill_116 ?_
          refine w_iload d_D_fill_117 rfl ?_
          refine w_imul d_D_fill_119 (fun c18 => ?_)
          refine w_cSI [mr q, iI 1, iI (σ.2.1 58 x4), iI (4 * y8)] [] d_D_fill_120 me_D_find l_D_192 hW (c_D_find hW hq (show rng 1 by decide) (hW.ra _ _) c18) rfl rfl (Nat.le_of_ble_eq_true rfl) rfl (Nat.le_of_ble_eq_true rfl) (Nat.le_trans (Nat.le_of_ble_eq_true rfl) hF) (Nat.le_trans (Nat.le_of_ble_eq_true rfl) hL) (fun a19 σ20 h21 W22 q23 => ?_)
          refine w_if_ge 129 d_D_fill_123 (by decide) q23 (fun c24 => ?_) (fun c24 => ?_)
          · refine w_goto 141 d_D_fill_126 (by decide) ?_
            exact w_exit [(0, mr 55), (1, mr q), (2, mr r), (4, iI x4), (5, iI x5), (6, iI x6), (7, iI x7), (8, iI x8), (9, iI x9)] (m_sc2 rfl (m_sc2 rfl (m_sc2 rfl (m_sc2 rfl (m_sc2 rfl (m_sc2 rfl (m_sc2 rfl (m_sc2 rfl (m_sc2 rfl (m_sn _)))))))))) W22 (fun _ _ _ k => k) r8
          · refine w_aload_n d_D_fill_129 rfl rfl ?_
            refine w_gr d_D_fill_130 f_D_88 W22 or55_32 ?_
            refine w_iload d_D_fill_133 rfl ?_
            refine w_iload d_D_fill_135 rfl ?_
            refine w_ast d_D_fill_137 W22 ia81 r9 (fun c25 h26 σ27 e28 W29 => ?_)
            refine w_iinc [(8, iI (x8 + 1)), (10, iI y8), (0, mr 55), (1, mr q), (2, mr r), (4, iI x4), (5, iI x5), (6, iI x6), (7, iI x7), (9, iI x9)] d_D_fill_138 rfl (by decide) rfl (fun c30 => ?_)
            exact w_exit [(0, mr 55), (1, mr q), (2, mr r), (4, iI x4), (5, iI x5), (6, iI x6), (7, iI x7), (8, iI (x8 + 1)), (9, iI x9)] (m_sc2 rfl (m_sc2 rfl (m_sc2 rfl (m_sc2 rfl (m_sc2 rfl (m_sc2 rfl (m_sc2 rfl (m_sc2 rfl (m_sc2 rfl (m_sn _)))))))))) W29 (fun _ _ _ k => k) c30
      · show Ew _ _ _ _ _ _ _ _ 141 [(0, mr 55), (1, mr q), (2, mr r), (4, iI x4), (5, iI x5), (6, iI x6), (7, iI x7), (8, iI z31), (9, iI x9)] [] _ _ _
        refine w_iinc [(9, iI (x9 + 1)), (0, mr 55), (1, mr q), (2, mr r), (4, iI x4), (5, iI x5), (6, iI x6), (7, iI x7), (8, iI z31)] d_D_fill_141 rfl (by decide) rfl (fun c36 => ?_)
        refine w_goto 69 d_D_fill_144 (by decide) ?_
        exact w_sub (m_sc2 rfl (m_sc2 rfl (m_sc2 rfl (m_sc2 rfl (m_sc2 rfl (m_sc2 rfl (m_sc2 rfl (m_sc2 rfl (m_sc2 rfl (m_sn _)))))))))) (ih x4 x5 x6 x7 z31 (x9 + 1) _ _ W34 r4 r5 r6 r7 q35 c36)
    · exact w_exit [(0, mr 55), (1, mr q), (2, mr r), (4, iI x4), (5, iI x5), (7, iI x7), (8, iI x8)] (m_sc2 rfl (m_sc2 rfl (m_sc2 rfl (m_sc2 rfl (m_sc2 rfl (m_sc2 rfl (m_sc2 rfl (m_sn _)))))))) hW (fun _ _ _ k => k) r8
theorem w_D_fill_20 {g : MG} {d w fu : Nat} {Q : MO → List MC → Prop} {q : Nat} {r : Nat} (hF : 5 ≤ d) (hL : 125 ≤ w) (hq : ia q 16384) (hr : ia r 16384) : ∀ (n : Nat) (x4 : Int) (x5 : Int) (x6 : Int) (σ : SS) (h : List MC), Wd h σ → rng x4 → rng x5 → rng x6 → Ew g none M_D_fill d w Q (gS2 rng rng) (cS2 (cI1 Q) (cJ g none M_D_fill d w Q 187 (fun x => [(0, mr 55), (1, mr q), (2, mr r), (4, iI x4), (5, iI x)]) (fun x => []))) 20 [(0, mr 55), (1, mr q), (2, mr r), (4, iI x4), (5, iI x5), (6, iI x6)] [] h σ (l_D_fill_20 fu q r n x4 x5 x6 σ) := by
  intro n
  induction n with
  | zero =>
    intro x4 x5 x6 σ h hW r4 r5 r6 a9 σ9 hm
    rw [l_D_fill_20] at hm
    cases hm
  | succ n ih =>
    intro x4 x5 x6 σ h hW r4 r5 r6
    rw [l_D_fill_20]
    refine w_iload d_D_fill_20 rfl ?_
    refine w_if_lt 187 d_D_fill_22 (by decide) r6 (fun c1 => ?_) (fun c1 => ?_)
    · exact w_exit [(0, mr 55), (1, mr q), (2, mr r), (4, iI x4), (5, iI x5)] (m_sc2 rfl (m_sc2 rfl (m_sc2 rfl (m_sc2 rfl (m_sc2 rfl (m_sn _)))))) hW (fun _ _ _ k => k) r5
    · refine w_aload_n d_D_fill_25 rfl rfl ?_
      refine w_iload d_D_fill_26 rfl ?_
      refine w_ald d_D_fill_28 hW hr (fun c2 => ?_)
      refine w_iconst d_D_fill_29 ?_
      refine w_shr2 d_D_fill_30 (hW.ra _ _) ?_
      refine w_top (fun y3 e4 => ?_)
      have ry3 : rng y3 := e4 ▸ (rng4 (hW.ra _ _))
      refine w_istore [(7, iI y3), (0, mr 55), (1, mr q), (2, mr r), (4, iI x4), (5, iI x5), (6, iI x6)] d_D_fill_31 (by decide) rfl ?_
      refine w_aload_n d_D_fill_33 rfl rfl ?_
      refine w_iload d_D_fill_34 rfl ?_
      refine w_ald d_D_fill_36 hW hr (fun c5 => ?_)
      refine w_D_sort d_D_fill_37 l_D_129 (Nat.le_of_ble_eq_true rfl) (Nat.le_trans (Nat.le_of_ble_eq_true rfl) hF) (Nat.le_trans (Nat.le_of_ble_eq_true rfl) hL) ?_
      refine w_if_ne 45 d_D_fill_40 (by decide) (rngm _) (fun c6 => ?_) (fun c6 => ?_)
      · refine w_iconst d_D_fill_43 ?_
        exact w_iret d_D_fill_44 rfl hW (fun _ _ _ k => k) (show rng 2 by decide)
      · refine w_iload d_D_fill_45 rfl ?_
        refine w_iload d_D_fill_47 rfl ?_
        refine w_icmp_ne 54 d_D_fill_49 (by decide) ry3 r4 (fun c7 => ?_) (fun c7 => ?_)
        · refine w_iconst d_D_fill_52 ?_
          exact w_iret d_D_fill_53 rfl hW (fun _ _ _ k => k) (show rng 3 by decide)
        · refine w_aload_n d_D_fill_54 rfl rfl ?_
          refine w_cVI [] [] d_D_fill_55 me_D_isFull l_D_181 hW (c_D_isFull hW ) rfl rfl (Nat.le_of_ble_eq_true rfl) rfl (Nat.le_of_ble_eq_true rfl) (Nat.le_trans (Nat.le_of_ble_eq_true rfl) hF) (Nat.le_trans (Nat.le_of_ble_eq_true rfl) hL) ob55 ⟨_, _, rfl⟩ (fun a8 σ9 h10 W11 q12 => ?_)
          refine w_if_eq 63 d_D_fill_58 (by decide) q12 (fun c13 => ?_) (fun c13 => ?_)
          · refine w_iconst d_D_fill_63 ?_
            refine w_istore [(8, iI 0), (7, iI y3), (0, mr 55), (1, mr q), (2, mr r), (4, iI x4), (5, iI x5), (6, iI x6)] d_D_fill_64 (by decide) rfl ?_
            refine w_iconst d_D_fill_66 ?_
            refine w_istore [(9, iI 0), (8, iI 0), (7, iI y3), (0, mr 55), (1, mr q), (2, mr r), (4, iI x4), (5, iI x5), (6, iI x6)] d_D_fill_67 (by decide) rfl ?_
            refine w_sq (G1 := rng) (J := 147) (lvJ := fun x => [(0, mr 55), (1, mr q), (2, mr r), (4, iI x4), (5, iI x5), (7, iI y3), (8, iI x)]) (stJ := fun x => []) (w_sub (m_sc2 rfl (m_sc2 rfl (m_sc2 rfl (m_sc2 rfl (m_sc2 rfl (m_sc2 rfl (m_sc2 rfl (m_sc2 rfl (m_sc2 rfl (m_sn _)))))))))) (w_D_fill_69 hF hL hq hr fu x4 x5 x6 y3 0 0 _ _ W11 r4 r5 r6 ry3 (show rng 0 by decide) (show rng 0 by decide))) (fun z14 σ15 h16 W17 q18 => ?_)
            show Ew _ _ _ _ _ _ _ _ 147 [(0, mr 55), (1, mr q), (2, mr r), (4, iI x4), (5, iI x5), (7, iI y3), (8, iI z14)] [] _ _ _
            refine w_aload_n d_D_fill_147 rfl rfl ?_
            refine w_iload d_D_fill_148 rfl ?_
            refine w_aload_n d_D_fill_150 rfl rfl ?_
            refine w_iload d_D_fill_151 rfl ?_
            refine w_cVI [iI z14] [iI y3, mr 55] d_D_fill_153 me_D_make l_D_185 W17 (c_D_make W17 q18) rfl rfl (Nat.le_of_ble_eq_true rfl) rfl (Nat.le_of_ble_eq_true rfl) (Nat.le_trans (Nat.le_of_ble_eq_true rfl) hF) (Nat.le_trans (Nat.le_of_ble_eq_true rfl) hL) ob55 ⟨_, _, rfl⟩ (fun a19 σ20 h21 W22 q23 => ?_)
            refine w_aload_n d_D_fill_156 rfl rfl ?_
            refine w_gr d_D_fill_157 f_D_88 W22 or55_32 ?_
            refine w_iload d_D_fill_160 rfl ?_
            refine w_cVU [iI y3, iI a19, mr 81, iI z14] [] d_D_fill_162 me_D_pass l_D_188 W22 (c_D_pass W22 ry3 q23 q18) rfl rfl (Nat.le_of_ble_eq_true rfl) rfl (Nat.le_of_ble_eq_true rfl) (Nat.le_trans (Nat.le_of_ble_eq_true rfl) hF) (Nat.le_trans (Nat.le_of_ble_eq_true rfl) hL) ob55 ⟨_, _, rfl⟩ (fun a24 σ25 h26 W27 q28 => ?_)
            refine w_aload_n d_D_fill_165 rfl rfl ?_
            refine w_aload_n d_D_fill_166 rfl rfl ?_
            refine w_iload d_D_fill_167 rfl ?_
            refine w_cVI [mr r, iI x5] [] d_D_fill_169 me_D_write l_D_141 W27 (c_D_write W27 hr r5) rfl rfl (Nat.le_of_ble_eq_true rfl) rfl (Nat.le_of_ble_eq_true rfl) (Nat.le_trans (Nat.le_of_ble_eq_true rfl) hF) (Nat.le_trans (Nat.le_of_ble_eq_true rfl) hL) ob55 ⟨_, _, rfl⟩ (fun a29 σ30 h31 W32 q33 => ?_)
            refine w_istore [(5, iI a29), (0, mr 55), (1, mr q), (2, mr r), (4, iI x4), (7, iI y3), (8, iI z14)] d_D_fill_172 (by decide) rfl ?_
            refine w_aload_n d_D_fill_174 rfl rfl ?_
            refine w_aload_n d_D_fill_175 rfl rfl ?_
            refine w_aload_n d_D_fill_176 rfl rfl ?_
            refine w_iload d_D_fill_177 rfl ?_
            refine w_cVI [mr q, mr r, iI a29] [] d_D_fill_179 me_D_hindrance l_D_196 W32 (c_D_hindrance W32 hq hr q33) rfl rfl (Nat.le_of_ble_eq_true rfl) rfl (Nat.le_of_ble_eq_true rfl) (Nat.le_trans (Nat.le_of_ble_eq_true rfl) hF) (Nat.le_trans (Nat.le_of_ble_eq_true rfl) hL) ob55 ⟨_, _, rfl⟩ (fun a34 σ35 h36 W37 q38 => ?_)
            refine w_istore [(6, iI a34), (5, iI a29), (0, mr 55), (1, mr q), (2, mr r), (4, iI x4), (7, iI y3), (8, iI z14)] d_D_fill_182 (by decide) rfl ?_
            refine w_goto 20 d_D_fill_184 (by decide) ?_
            exact w_sub (m_sc2 rfl (m_sc2 rfl (m_sc2 rfl (m_sc2 rfl (m_sc2 rfl (m_sc2 rfl (m_sn _))))))) (ih x4 a29 a34 _ _ W37 r4 q33 q38)
          · refine w_iconst d_D_fill_61 ?_
            exact w_iret d_D_fill_62 rfl W11 (fun _ _ _ k => k) (show rng 5 by decide)
theorem w_D_fill_207 {g : MG} {d w fu : Nat} {Q : MO → List MC → Prop} {q : Nat} {r : Nat} (hF : 5 ≤ d) (hL : 125 ≤ w) (hq : ia q 16384) (hr : ia r 16384) : ∀ (n : Nat) (x4 : Int) (x5 : Int) (x7 : Int) (σ : SS) (h : List MC), Wd h σ → rng x4 → rng x5 → rng x7 → Ew g none M_D_fill d w Q gU (cJ g none M_D_fill d w Q 298 (fun x => [(0, mr 55), (4, iI x4), (5, iI x5)]) (fun x => [])) 207 [(0, mr 55), (1, mr q), (2, mr r), (4, iI x4), (5, iI x5), (7, iI x7)] [] h σ (l_D_fill_207 fu q r n x4 x5 x7 σ) := by
  intro n
  induction n with
  | zero =>
    intro x4 x5 x7 σ h hW r4 r5 r7 a9 σ9 hm
    rw [l_D_fill_207] at hm
    cases hm
  | succ n ih =>
    intro x4 x5 x7 σ h hW r4 r5 r7
    rw [l_D_fill_207]
    refine w_iload d_D_fill_207 rfl ?_
    refine w_iload d_D_fill_209 rfl ?_
    refine w_icmp_ge 298 d_D_fill_211 (by decide) r7 r5 (fun c1 => ?_) (fun c1 => ?_)
    · refine w_aload_n d_D_fill_214 rfl rfl ?_
      refine w_iload d_D_fill_215 rfl ?_
      refine w_ald d_D_fill_217 hW hr (fun c2 => ?_)
      refine w_iconst d_D_fill_218 ?_
      refine w_shr2 d_D_fill_219 (hW.ra _ _) ?_
      refine w_aload_n d_D_fill_220 rfl rfl ?_
      refine w_gr d_D_fill_221 f_D_66 hW or55_22 ?_
      refine w_iload d_D_fill_224 rfl ?_
      refine w_ald d_D_fill_226 hW ia74 (fun c3 => ?_)
      refine w_isub d_D_fill_227 (fun c4 => ?_)
      refine w_top (fun y5 e6 => ?_)
      have ry5 : rng y5 := e6 ▸ c4
      refine w_istore [(8, iI y5), (0, mr 55), (1, mr q), (2, mr r), (4, iI x4), (5, iI x5), (7, iI x7)] d_D_fill_228 (by decide) rfl ?_
      refine w_aload_n d_D_fill_230 rfl rfl ?_
      refine w_gr d_D_fill_231 f_D_23 hW or55_8 ?_
      refine w_sipush d_D_fill_234 (by decide) ?_
      refine w_iload d_D_fill_237 rfl ?_
      refine w_imul d_D_fill_239 (fun c7 => ?_)
      refine w_iload d_D_fill_240 rfl ?_
      refine w_iadd d_D_fill_242 (fun c8 => ?_)
      refine w_aload_n d_D_fill_243 rfl rfl ?_
      refine w_iload d_D_fill_244 rfl ?_
      refine w_ald d_D_fill_246 hW hr (fun c9 => ?_)
      refine w_D_sort d_D_fill_247 l_D_129 (Nat.le_of_ble_eq_true rfl) (Nat.le_trans (Nat.le_of_ble_eq_true rfl) hF) (Nat.le_trans (Nat.le_of_ble_eq_true rfl) hL) ?_
      refine w_sq (G1 := rng) (J := 291) (lvJ := fun x => [(0, mr 55), (1, mr q), (2, mr r), (4, iI x4), (5, iI x5), (7, iI x7)]) (stJ := fun x => [iI x, iI ((400 * x4) + x7), mr 60]) ?_ (fun z24 σ25 h26 W27 q28 => ?_)
      · refine w_if_ne 258 d_D_fill_250 (by decide) (rngm _) (fun c10 => ?_) (fun c10 => ?_)
        · refine w_iload d_D_fill_253 rfl ?_
          refine w_if_ge 265 d_D_fill_255 (by decide) ry5 (fun c11 => ?_) (fun c11 => ?_)
          · refine w_aload_n d_D_fill_258 rfl rfl ?_
            refine w_iload d_D_fill_259 rfl ?_
            refine w_ald d_D_fill_261 hW hr (fun c12 => ?_)
            refine w_goto 291 d_D_fill_262 (by decide) ?_
            exact w_exit [(0, mr 55), (1, mr q), (2, mr r), (4, iI x4), (5, iI x5), (7, iI x7)] (m_sc2 rfl (m_sc2 rfl (m_sc2 rfl (m_sc2 rfl (m_sc2 rfl (m_sc2 rfl (m_sn _))))))) hW (fun _ _ _ k => k) (hW.ra _ _)
          · refine w_iconst d_D_fill_265 ?_
            refine w_aload_n d_D_fill_266 rfl rfl ?_
            refine w_iconst d_D_fill_267 ?_
            refine w_aload_n d_D_fill_268 rfl rfl ?_
            refine w_gr d_D_fill_269 f_D_16 hW or55_6 ?_
            refine w_iload d_D_fill_272 rfl ?_
            refine w_ald d_D_fill_274 hW ia58 (fun c13 => ?_)
            refine w_iconst d_D_fill_275 ?_
            refine w_iload d_D_fill_276 rfl ?_
            refine w_imul d_D_fill_278 (fun c14 => ?_)
            refine w_cSI [mr q, iI 1, iI (σ.2.1 58 x4), iI (4 * y5)] [iI 4, iI ((400 * x4) + x7), mr 60] d_D_fill_279 me_D_find l_D_192 hW (c_D_find hW hq (show rng 1 by decide) (hW.ra _ _) c14) rfl rfl (Nat.le_of_ble_eq_true rfl) rfl (Nat.le_of_ble_eq_true rfl) (Nat.le_trans (Nat.le_of_ble_eq_true rfl) hF) (Nat.le_trans (Nat.le_of_ble_eq_true rfl) hL) (fun a15 σ16 h17 W18 q19 => ?_)
            refine w_aload_n d_D_fill_282 rfl rfl ?_
            refine w_gr d_D_fill_283 f_D_66 W18 or55_22 ?_
            refine w_iload d_D_fill_286 rfl ?_
            refine w_ald d_D_fill_288 W18 ia74 (fun c20 => ?_)
            refine w_iadd d_D_fill_289 (fun c21 => ?_)
            refine w_imul d_D_fill_290 (fun c22 => ?_)
            exact w_exit [(0, mr 55), (1, mr q), (2, mr r), (4, iI x4), (5, iI x5), (7, iI x7)] (m_sc2 rfl (m_sc2 rfl (m_sc2 rfl (m_sc2 rfl (m_sc2 rfl (m_sc2 rfl (m_sn _))))))) W18 (fun _ _ _ k => k) c22
        · refine w_aload_n d_D_fill_258 rfl rfl ?_
          refine w_iload d_D_fill_259 rfl ?_
          refine w_ald d_D_fill_261 hW hr (fun c23 => ?_)
          refine w_goto 291 d_D_fill_262 (by decide) ?_
          exact w_exit [(0, mr 55), (1, mr q), (2, mr r), (4, iI x4), (5, iI x5), (7, iI x7)] (m_sc2 rfl (m_sc2 rfl (m_sc2 rfl (m_sc2 rfl (m_sc2 rfl (m_sc2 rfl (m_sn _))))))) hW (fun _ _ _ k => k) (hW.ra _ _)
      · show Ew _ _ _ _ _ _ _ _ 291 [(0, mr 55), (1, mr q), (2, mr r), (4, iI x4), (5, iI x5), (7, iI x7)] [iI z24, iI ((400 * x4) + x7), mr 60] _ _ _
        refine w_ast d_D_fill_291 W27 ia60 q28 (fun c29 h30 σ31 e32 W33 => ?_)
        refine w_iinc [(7, iI (x7 + 1)), (0, mr 55), (1, mr q), (2, mr r), (4, iI x4), (5, iI x5)] d_D_fill_292 rfl (by decide) rfl (fun c34 => ?_)
        refine w_goto 207 d_D_fill_295 (by decide) ?_
        exact w_sub (m_sc2 rfl (m_sc2 rfl (m_sc2 rfl (m_sc2 rfl (m_sc2 rfl (m_sc2 rfl (m_sn _))))))) (ih x4 x5 (x7 + 1) _ _ W33 r4 r5 c34)
    · exact w_exit [(0, mr 55), (4, iI x4), (5, iI x5)] (m_sc2 rfl (m_sc2 rfl (m_sc2 rfl (m_sn _)))) hW (fun _ _ _ k => k) True.intro
theorem w_D_fill_318 {g : MG} {d w fu : Nat} {Q : MO → List MC → Prop} (hF : 5 ≤ d) (hL : 125 ≤ w) : ∀ (n : Nat) (x7 : Int) (σ : SS) (h : List MC), Wd h σ → rng x7 → Ew g none M_D_fill d w Q (gS2 rng gU) (cS2 (cI1 Q) (cJ g none M_D_fill d w Q 365 (fun x => []) (fun x => []))) 318 [(0, mr 55), (7, iI x7)] [] h σ (l_D_fill_318 fu n x7 σ) := by
  intro n
  induction n with
  | zero =>
    intro x7 σ h hW r7 a9 σ9 hm
    rw [l_D_fill_318] at hm
    cases hm
  | succ n ih =>
    intro x7 σ h hW r7
    rw [l_D_fill_318]
    refine w_iload d_D_fill_318 rfl ?_
    refine w_bipush d_D_fill_320 (by decide) ?_
    refine w_aload_n d_D_fill_322 rfl rfl ?_
    refine w_gi d_D_fill_323 f_D_144 hW oi55_3 ?_
    refine w_iadd d_D_fill_326 (fun c1 => ?_)
    refine w_icmp_ge 365 d_D_fill_327 (by decide) r7 c1 (fun c2 => ?_) (fun c2 => ?_)
    · refine w_iload d_D_fill_330 rfl ?_
      refine w_aload_n d_D_fill_332 rfl rfl ?_
      refine w_gi d_D_fill_333 f_D_111 hW oi55_2 ?_
      refine w_srr (G1 := gU) (J := 359) (lvJ := fun x => [(0, mr 55), (7, iI x7)]) (stJ := fun x => []) ?_ (fun z17 σ18 h19 W20 q21 => ?_)
      · refine w_icmp_lt 346 d_D_fill_336 (by decide) r7 (hW.rf _ _) (fun c3 => ?_) (fun c3 => ?_)
        · refine w_aload_n d_D_fill_346 rfl rfl ?_
          refine w_iload d_D_fill_347 rfl ?_
          refine w_cVI [iI x7] [] d_D_fill_349 me_D_fullSize l_D_199 hW (c_D_fullSize hW r7) rfl rfl (Nat.le_of_ble_eq_true rfl) rfl (Nat.le_of_ble_eq_true rfl) (Nat.le_trans (Nat.le_of_ble_eq_true rfl) hF) (Nat.le_trans (Nat.le_of_ble_eq_true rfl) hL) ob55 ⟨_, _, rfl⟩ (fun a4 σ5 h6 W7 q8 => ?_)
          refine w_bipush d_D_fill_352 (by decide) ?_
          refine w_icmp_le 359 d_D_fill_354 (by decide) q8 (show rng 80 by decide) (fun c9 => ?_) (fun c9 => ?_)
          · refine w_iconst d_D_fill_357 ?_
            exact w_iret d_D_fill_358 rfl W7 (fun _ _ _ k => k) (show rng 4 by decide)
          · exact w_exit [(0, mr 55), (7, iI x7)] (m_sc2 rfl (m_sc2 rfl (m_sn _))) W7 (fun _ _ _ k => k) True.intro
        · refine w_iload d_D_fill_339 rfl ?_
          refine w_bipush d_D_fill_341 (by decide) ?_
          refine w_icmp_lt 359 d_D_fill_343 (by decide) r7 (show rng 24 by decide) (fun c10 => ?_) (fun c10 => ?_)
          · exact w_exit [(0, mr 55), (7, iI x7)] (m_sc2 rfl (m_sc2 rfl (m_sn _))) hW (fun _ _ _ k => k) True.intro
          · refine w_aload_n d_D_fill_346 rfl rfl ?_
            refine w_iload d_D_fill_347 rfl ?_
            refine w_cVI [iI x7] [] d_D_fill_349 me_D_fullSize l_D_199 hW (c_D_fullSize hW r7) rfl rfl (Nat.le_of_ble_eq_true rfl) rfl (Nat.le_of_ble_eq_true rfl) (Nat.le_trans (Nat.le_of_ble_eq_true rfl) hF) (Nat.le_trans (Nat.le_of_ble_eq_true rfl) hL) ob55 ⟨_, _, rfl⟩ (fun a11 σ12 h13 W14 q15 => ?_)
            refine w_bipush d_D_fill_352 (by decide) ?_
            refine w_icmp_le 359 d_D_fill_354 (by decide) q15 (show rng 80 by decide) (fun c16 => ?_) (fun c16 => ?_)
            · refine w_iconst d_D_fill_357 ?_
              exact w_iret d_D_fill_358 rfl W14 (fun _ _ _ k => k) (show rng 4 by decide)
            · exact w_exit [(0, mr 55), (7, iI x7)] (m_sc2 rfl (m_sc2 rfl (m_sn _))) W14 (fun _ _ _ k => k) True.intro
      · show Ew _ _ _ _ _ _ _ _ 359 [(0, mr 55), (7, iI x7)] [] _ _ _
        refine w_iinc [(7, iI (x7 + 1)), (0, mr 55)] d_D_fill_359 rfl (by decide) rfl (fun c22 => ?_)
        refine w_goto 318 d_D_fill_362 (by decide) ?_
        exact w_sub (m_sc2 rfl (m_sc2 rfl (m_sn _))) (ih (x7 + 1) _ _ W20 c22)
    · exact w_exit [] (m_sn _) hW (fun _ _ _ k => k) True.intro
theorem c_D_fill {g : MG} {fu : Nat} {h : List MC} {σ : SS} {q : Nat} {r : Nat} {x3 : Int} (hW : Wd h σ) (hq : ia q 16384) (hr : ia r 16384) (r3 : rng x3) : Cw g M_D_fill 5 125 [mr 55, mr q, mr r, iI x3] rng cI1 h σ (f_D_fill fu q r x3 σ) := by
  refine w_of (fun d w Q hF hL => ?_)
  unfold f_D_fill
  show Ew g none M_D_fill d w Q rng (cI1 Q) 0 [(0, mr 55), (1, mr q), (2, mr r), (3, iI x3)] [] h σ _
  refine w_aload_n d_D_fill_0 rfl rfl ?_
  refine w_iconst d_D_fill_1 ?_
  refine w_ald d_D_fill_2 hW hq (fun c1 => ?_)
  refine w_iconst d_D_fill_3 ?_
  refine w_shr2 d_D_fill_4 (hW.ra _ _) ?_
  refine w_top (fun y2 e3 => ?_)
  have ry2 : rng y2 := e3 ▸ (rng4 (hW.ra _ _))
  refine w_istore [(4, iI y2), (0, mr 55), (1, mr q), (2, mr r), (3, iI x3)] d_D_fill_5 (by decide) rfl ?_
  refine w_iload_n d_D_fill_7 rfl rfl ?_
  refine w_istore [(5, iI x3), (4, iI y2), (0, mr 55), (1, mr q), (2, mr r), (3, iI x3)] d_D_fill_8 (by decide) rfl ?_
  refine w_aload_n d_D_fill_10 rfl rfl ?_
  refine w_aload_n d_D_fill_11 rfl rfl ?_
  refine w_aload_n d_D_fill_12 rfl rfl ?_
  refine w_iload d_D_fill_13 rfl ?_
  refine w_cVI [mr q, mr r, iI x3] [] d_D_fill_15 me_D_hindrance l_D_196 hW (c_D_hindrance hW hq hr r3) rfl rfl (Nat.le_of_ble_eq_true rfl) rfl (Nat.le_of_ble_eq_true rfl) (Nat.le_trans (Nat.le_of_ble_eq_true rfl) hF) (Nat.le_trans (Nat.le_of_ble_eq_true rfl) hL) ob55 ⟨_, _, rfl⟩ (fun a4 σ5 h6 W7 q8 => ?_)
  refine w_istore [(6, iI a4), (5, iI x3), (4, iI y2), (0, mr 55), (1, mr q), (2, mr r), (3, iI x3)] d_D_fill_18 (by decide) rfl ?_
  refine w_sr (G1 := rng) (J := 187) (lvJ := fun x => [(0, mr 55), (1, mr q), (2, mr r), (4, iI y2), (5, iI x)]) (stJ := fun x => []) (w_sub (m_sc2 rfl (m_sc2 rfl (m_sc2 rfl (m_sc2 rfl (m_sc2 rfl (m_sc2 rfl (m_sn _))))))) (w_D_fill_20 hF hL hq hr fu y2 x3 a4 _ _ W7 ry2 r3 q8)) (fun z9 σ10 h11 W12 q13 => ?_)
  show Ew _ _ _ _ _ _ _ _ 187 [(0, mr 55), (1, mr q), (2, mr r), (4, iI y2), (5, iI z9)] [] _ _ _
  refine w_aload_n d_D_fill_187 rfl rfl ?_
  refine w_iload d_D_fill_188 rfl ?_
  refine w_aload_n d_D_fill_190 rfl rfl ?_
  refine w_gr d_D_fill_191 f_D_16 W12 or55_6 ?_
  refine w_cSI [mr r, iI z9, mr 58] [] d_D_fill_194 me_D_sizeOf l_D_147 W12 (c_D_sizeOf W12 hr q13) rfl rfl (Nat.le_of_ble_eq_true rfl) rfl (Nat.le_of_ble_eq_true rfl) (Nat.le_trans (Nat.le_of_ble_eq_true rfl) hF) (Nat.le_trans (Nat.le_of_ble_eq_true rfl) hL) (fun a14 σ15 h16 W17 q18 => ?_)
  refine w_bipush d_D_fill_197 (by decide) ?_
  refine w_icmp_le 204 d_D_fill_199 (by decide) q18 (show rng 80 by decide) (fun c19 => ?_) (fun c19 => ?_)
  · refine w_iconst d_D_fill_202 ?_
    exact w_iret d_D_fill_203 rfl W17 (fun _ _ _ k => k) (show rng 4 by decide)
  · refine w_iconst d_D_fill_204 ?_
    refine w_istore [(7, iI 0), (0, mr 55), (1, mr q), (2, mr r), (4, iI y2), (5, iI z9)] d_D_fill_205 (by decide) rfl ?_
    refine w_sq (G1 := gU) (J := 298) (lvJ := fun x => [(0, mr 55), (4, iI y2), (5, iI z9)]) (stJ := fun x => []) (w_sub (m_sc2 rfl (m_sc2 rfl (m_sc2 rfl (m_sc2 rfl (m_sc2 rfl (m_sc2 rfl (m_sn _))))))) (w_D_fill_207 hF hL hq hr fu y2 z9 0 _ _ W17 ry2 q13 (show rng 0 by decide))) (fun z20 σ21 h22 W23 q24 => ?_)
    show Ew _ _ _ _ _ _ _ _ 298 [(0, mr 55), (4, iI y2), (5, iI z9)] [] _ _ _
    refine w_aload_n d_D_fill_298 rfl rfl ?_
    refine w_gr d_D_fill_299 f_D_19 W23 or55_7 ?_
    refine w_iload d_D_fill_302 rfl ?_
    refine w_iload d_D_fill_304 rfl ?_
    refine w_ast d_D_fill_306 W23 ia59 q13 (fun c25 h26 σ27 e28 W29 => ?_)
    refine w_aload_n d_D_fill_307 rfl rfl ?_
    refine w_gr d_D_fill_308 f_D_26 W29 or55_9 ?_
    refine w_iload d_D_fill_311 rfl ?_
    refine w_iconst d_D_fill_313 ?_
    refine w_bst d_D_fill_314 W29 za61 (by decide) (fun c30 h31 σ32 e33 W34 => ?_)
    refine w_iconst d_D_fill_315 ?_
    refine w_istore [(7, iI 0), (0, mr 55), (4, iI y2), (5, iI z9)] d_D_fill_316 (by decide) rfl ?_
    refine w_sr (G1 := gU) (J := 365) (lvJ := fun x => []) (stJ := fun x => []) (w_sub (m_sc2 rfl (m_sc2 rfl (m_sn _))) (w_D_fill_318 hF hL fu 0 _ _ W34 (show rng 0 by decide))) (fun z35 σ36 h37 W38 q39 => ?_)
    show Ew _ _ _ _ _ _ _ _ 365 [] [] _ _ _
    refine w_iconst d_D_fill_365 ?_
    exact w_iret d_D_fill_366 rfl W38 (fun _ _ _ k => k) (show rng 0 by decide)
def l_D_partEnd_5 (fu : Nat) (q : Nat) : Nat → Int → Int → SS → Option ((Int) × SS)
  | 0, _, _, _ => none
  | n + 1, x3, x4, σ => if 0 < x3 then (ck (inb 16384 x4) (lb ((σ.2.1 q x4) / 4) fun y3 => ck (inb 16384 x4) (sq (if ((σ.2.1 q x4) % 4) = 1 then (ck (inb 16 y3) (ck (rng ((σ.2.1 56 y3) - 1)) (some (((σ.2.1 56 y3) - 1), σ)))) else (some ((-1), σ))) fun (z9 : Int) σ10 => ck (rng (x3 + z9)) (lb (x3 + z9) fun y15 => ck (inb 16384 x4) (sq (if ((σ10.2.1 q x4) % 4) = 2 then (ck (inb 324 y3) (ck (rng (1 + (σ10.2.1 58 y3))) (some ((1 + (σ10.2.1 58 y3)), σ10)))) else (some (1, σ10))) fun (z21 : Int) σ22 => ck (rng (x4 + z21)) (lb (x4 + z21) fun y27 => l_D_partEnd_5 fu q n y15 y27 σ22)))))) else (some (x4, σ))
def f_D_partEnd (fu : Nat) (q : Nat) (x2 : Int) (σ : SS) : Option (Int × SS) := sq (l_D_partEnd_5 fu q fu 1 x2 σ) fun (z1 : Int) σ2 => some (z1, σ2)
theorem w_D_partEnd_5 {g : MG} {d w fu : Nat} {Q : MO → List MC → Prop} {q : Nat} (hF : 1 ≤ d) (hL : 20 ≤ w) (hq : ia q 16384) : ∀ (n : Nat) (x3 : Int) (x4 : Int) (σ : SS) (h : List MC), Wd h σ → rng x3 → rng x4 → Ew g none M_D_partEnd d w Q rng (cJ g none M_D_partEnd d w Q 76 (fun x => [(4, iI x)]) (fun x => [])) 5 [(0, mr 55), (1, mr q), (3, iI x3), (4, iI x4)] [] h σ (l_D_partEnd_5 fu q n x3 x4 σ) := by
  intro n
  induction n with
  | zero =>
    intro x3 x4 σ h hW r3 r4 a9 σ9 hm
    rw [l_D_partEnd_5] at hm
    cases hm
  | succ n ih =>
    intro x3 x4 σ h hW r3 r4
    rw [l_D_partEnd_5]
    refine w_iload_n d_D_partEnd_5 rfl rfl ?_
    refine w_if_le 76 d_D_partEnd_6 (by decide) r3 (fun c1 => ?_) (fun c1 => ?_)
    · refine w_aload_n d_D_partEnd_9 rfl rfl ?_
      refine w_iload d_D_partEnd_10 rfl ?_
      refine w_ald d_D_partEnd_12 hW hq (fun c2 => ?_)
      refine w_iconst d_D_partEnd_13 ?_
      refine w_shr2 d_D_partEnd_14 (hW.ra _ _) ?_
      refine w_top (fun y3 e4 => ?_)
      have ry3 : rng y3 := e4 ▸ (rng4 (hW.ra _ _))
      refine w_istore [(5, iI y3), (0, mr 55), (1, mr q), (3, iI x3), (4, iI x4)] d_D_partEnd_15 (by decide) rfl ?_
      refine w_iload_n d_D_partEnd_17 rfl rfl ?_
      refine w_aload_n d_D_partEnd_18 rfl rfl ?_
      refine w_iload d_D_partEnd_19 rfl ?_
      refine w_ald d_D_partEnd_21 hW hq (fun c5 => ?_)
      refine w_D_sort d_D_partEnd_22 l_D_129 (Nat.le_of_ble_eq_true rfl) (Nat.le_trans (Nat.le_of_ble_eq_true rfl) hF) (Nat.le_trans (Nat.le_of_ble_eq_true rfl) hL) ?_
      refine w_iconst d_D_partEnd_25 ?_
      refine w_sq (G1 := rng) (J := 42) (lvJ := fun x => [(0, mr 55), (1, mr q), (4, iI x4), (5, iI y3)]) (stJ := fun x => [iI x, iI x3]) ?_ (fun z9 σ10 h11 W12 q13 => ?_)
      · refine w_icmp_ne 41 d_D_partEnd_26 (by decide) (rngm _) (show rng 1 by decide) (fun c6 => ?_) (fun c6 => ?_)
        · refine w_aload_n d_D_partEnd_29 rfl rfl ?_
          refine w_gr d_D_partEnd_30 f_D_7 hW or55_4 ?_
          refine w_iload d_D_partEnd_33 rfl ?_
          refine w_ald d_D_partEnd_35 hW ia56 (fun c7 => ?_)
          refine w_iconst d_D_partEnd_36 ?_
          refine w_isub d_D_partEnd_37 (fun c8 => ?_)
          refine w_goto 42 d_D_partEnd_38 (by decide) ?_
          exact w_exit [(0, mr 55), (1, mr q), (4, iI x4), (5, iI y3)] (m_sc2 rfl (m_sc2 rfl (m_sc2 rfl (m_sc2 rfl (m_sn _))))) hW (fun _ _ _ k => k) c8
        · refine w_iconst d_D_partEnd_41 ?_
          exact w_exit [(0, mr 55), (1, mr q), (4, iI x4), (5, iI y3)] (m_sc2 rfl (m_sc2 rfl (m_sc2 rfl (m_sc2 rfl (m_sn _))))) hW (fun _ _ _ k => k) (show rng (-1) by decide)
      · show Ew _ _ _ _ _ _ _ _ 42 [(0, mr 55), (1, mr q), (4, iI x4), (5, iI y3)] [iI z9, iI x3] _ _ _
        refine w_iadd d_D_partEnd_42 (fun c14 => ?_)
        refine w_top (fun y15 e16 => ?_)
        have ry15 : rng y15 := e16 ▸ c14
        refine w_istore_n [(3, iI y15), (0, mr 55), (1, mr q), (4, iI x4), (5, iI y3)] d_D_partEnd_43 rfl (by decide) rfl ?_
        refine w_iload d_D_partEnd_44 rfl ?_
        refine w_aload_n d_D_partEnd_46 rfl rfl ?_
        refine w_iload d_D_partEnd_47 rfl ?_
        refine w_ald d_D_partEnd_49 W12 hq (fun c17 => ?_)
        refine w_D_sort d_D_partEnd_50 l_D_129 (Nat.le_of_ble_eq_true rfl) (Nat.le_trans (Nat.le_of_ble_eq_true rfl) hF) (Nat.le_trans (Nat.le_of_ble_eq_true rfl) hL) ?_
        refine w_iconst d_D_partEnd_53 ?_
        refine w_sq (G1 := rng) (J := 70) (lvJ := fun x => [(0, mr 55), (1, mr q), (3, iI y15)]) (stJ := fun x => [iI x, iI x4]) ?_ (fun z21 σ22 h23 W24 q25 => ?_)
        · refine w_icmp_ne 69 d_D_partEnd_54 (by decide) (rngm _) (show rng 2 by decide) (fun c18 => ?_) (fun c18 => ?_)
          · refine w_iconst d_D_partEnd_57 ?_
            refine w_aload_n d_D_partEnd_58 rfl rfl ?_
            refine w_gr d_D_partEnd_59 f_D_16 W12 or55_6 ?_
            refine w_iload d_D_partEnd_62 rfl ?_
            refine w_ald d_D_partEnd_64 W12 ia58 (fun c19 => ?_)
            refine w_iadd d_D_partEnd_65 (fun c20 => ?_)
            refine w_goto 70 d_D_partEnd_66 (by decide) ?_
            exact w_exit [(0, mr 55), (1, mr q), (3, iI y15)] (m_sc2 rfl (m_sc2 rfl (m_sc2 rfl (m_sn _)))) W12 (fun _ _ _ k => k) c20
          · refine w_iconst d_D_partEnd_69 ?_
            exact w_exit [(0, mr 55), (1, mr q), (3, iI y15)] (m_sc2 rfl (m_sc2 rfl (m_sc2 rfl (m_sn _)))) W12 (fun _ _ _ k => k) (show rng 1 by decide)
        · show Ew _ _ _ _ _ _ _ _ 70 [(0, mr 55), (1, mr q), (3, iI y15)] [iI z21, iI x4] _ _ _
          refine w_iadd d_D_partEnd_70 (fun c26 => ?_)
          refine w_top (fun y27 e28 => ?_)
          have ry27 : rng y27 := e28 ▸ c26
          refine w_istore [(4, iI y27), (0, mr 55), (1, mr q), (3, iI y15)] d_D_partEnd_71 (by decide) rfl ?_
          refine w_goto 5 d_D_partEnd_73 (by decide) ?_
          exact w_sub (m_sc2 rfl (m_sc2 rfl (m_sc2 rfl (m_sc2 rfl (m_sn _))))) (ih y15 y27 _ _ W24 ry15 ry27)
    · exact w_exit [(4, iI x4)] (m_sc2 rfl (m_sn _)) hW (fun _ _ _ k => k) r4
theorem c_D_partEnd {g : MG} {fu : Nat} {h : List MC} {σ : SS} {q : Nat} {x2 : Int} (hW : Wd h σ) (hq : ia q 16384) (r2 : rng x2) : Cw g M_D_partEnd 1 20 [mr 55, mr q, iI x2] rng cI1 h σ (f_D_partEnd fu q x2 σ) := by
  refine w_of (fun d w Q hF hL => ?_)
  unfold f_D_partEnd
  show Ew g none M_D_partEnd d w Q rng (cI1 Q) 0 [(0, mr 55), (1, mr q), (2, iI x2)] [] h σ _
  refine w_iconst d_D_partEnd_0 ?_
  refine w_istore_n [(3, iI 1), (0, mr 55), (1, mr q), (2, iI x2)] d_D_partEnd_1 rfl (by decide) rfl ?_
  refine w_iload_n d_D_partEnd_2 rfl rfl ?_
  refine w_istore [(4, iI x2), (3, iI 1), (0, mr 55), (1, mr q), (2, iI x2)] d_D_partEnd_3 (by decide) rfl ?_
  refine w_sq (G1 := rng) (J := 76) (lvJ := fun x => [(4, iI x)]) (stJ := fun x => []) (w_sub (m_sc2 rfl (m_sc2 rfl (m_sc2 rfl (m_sc2 rfl (m_sn _))))) (w_D_partEnd_5 hF hL hq fu 1 x2 _ _ hW (show rng 1 by decide) r2)) (fun z1 σ2 h3 W4 q5 => ?_)
  show Ew _ _ _ _ _ _ _ _ 76 [(4, iI z1)] [] _ _ _
  refine w_iload d_D_partEnd_76 rfl ?_
  exact w_iret d_D_partEnd_78 rfl W4 (fun _ _ _ k => k) q5
def l_D_parts_22 (fu : Nat) : Nat → Int → Int → Int → Int → SS → Option ((Int × Int) × SS)
  | 0, _, _, _, _, _ => none
  | n + 1, x3, x4, x5, x6, σ => if x6 < x3 then (sq (f_D_partEnd fu 71 x4 σ) fun (a2 : Int) σ3 => sq (f_D_partEnd fu 72 x5 σ3) fun (a7 : Int) σ8 => ck (rng (x6 + 1)) (l_D_parts_22 fu n x3 a2 a7 (x6 + 1) σ8)) else (some ((x4, x5), σ))
def l_D_parts_9 (fu : Nat) : Nat → Int → SS → Option ((Unit) × SS)
  | 0, _, _ => none
  | n + 1, x3, σ => if 0 < x3 then (sq (l_D_parts_22 fu fu x3 1 1 1 σ) fun (z2 : Int × Int) σ3 => sq (f_D_partEnd fu 71 z2.1 σ3) fun (a7 : Int) σ8 => sq (f_D_partEnd fu 72 z2.2 σ8) fun (a12 : Int) σ13 => sq (f_D_equation fu z2.1 a7 z2.2 a12 σ13) fun (a17 : Unit) σ18 => ck (rng (x3 + (-1))) (l_D_parts_9 fu n (x3 + (-1)) σ18)) else (some ((), σ))
def f_D_parts (fu : Nat) (x1 : Int) (σ : SS) : Option (Int × SS) := ck (inb 16 x1) (lb (σ.2.1 56 x1) fun y2 => sq (l_D_parts_9 fu fu y2 σ) fun (z4 : Unit) σ5 => some (0, σ5))
theorem w_D_parts_22 {g : MG} {d w fu : Nat} {Q : MO → List MC → Prop} (hF : 2 ≤ d) (hL : 45 ≤ w) : ∀ (n : Nat) (x3 : Int) (x4 : Int) (x5 : Int) (x6 : Int) (σ : SS) (h : List MC), Wd h σ → rng x3 → rng x4 → rng x5 → rng x6 → Ew g none M_D_parts d w Q (fun x => rng x.1 ∧ rng x.2) (cJ g none M_D_parts d w Q 58 (fun x => [(0, mr 55), (3, iI x3), (4, iI x.1), (5, iI x.2)]) (fun x => [])) 22 [(0, mr 55), (3, iI x3), (4, iI x4), (5, iI x5), (6, iI x6)] [] h σ (l_D_parts_22 fu n x3 x4 x5 x6 σ) := by
  intro n
  induction n with
  | zero =>
    intro x3 x4 x5 x6 σ h hW r3 r4 r5 r6 a9 σ9 hm
    rw [l_D_parts_22] at hm
    cases hm
  | succ n ih =>
    intro x3 x4 x5 x6 σ h hW r3 r4 r5 r6
    rw [l_D_parts_22]
    refine w_iload d_D_parts_22 rfl ?_
    refine w_iload_n d_D_parts_24 rfl rfl ?_
    refine w_icmp_ge 58 d_D_parts_25 (by decide) r6 r3 (fun c1 => ?_) (fun c1 => ?_)
    · refine w_aload_n d_D_parts_28 rfl rfl ?_
      refine w_aload_n d_D_parts_29 rfl rfl ?_
      refine w_gr d_D_parts_30 f_D_57 hW or55_19 ?_
      refine w_iload d_D_parts_33 rfl ?_
      refine w_cVI [mr 71, iI x4] [] d_D_parts_35 me_D_partEnd l_D_174 hW (c_D_partEnd hW ia71 r4) rfl rfl (Nat.le_of_ble_eq_true rfl) rfl (Nat.le_of_ble_eq_true rfl) (Nat.le_trans (Nat.le_of_ble_eq_true rfl) hF) (Nat.le_trans (Nat.le_of_ble_eq_true rfl) hL) ob55 ⟨_, _, rfl⟩ (fun a2 σ3 h4 W5 q6 => ?_)
      refine w_istore [(4, iI a2), (0, mr 55), (3, iI x3), (5, iI x5), (6, iI x6)] d_D_parts_38 (by decide) rfl ?_
      refine w_aload_n d_D_parts_40 rfl rfl ?_
      refine w_aload_n d_D_parts_41 rfl rfl ?_
      refine w_gr d_D_parts_42 f_D_60 W5 or55_20 ?_
      refine w_iload d_D_parts_45 rfl ?_
      refine w_cVI [mr 72, iI x5] [] d_D_parts_47 me_D_partEnd l_D_174 W5 (c_D_partEnd W5 ia72 r5) rfl rfl (Nat.le_of_ble_eq_true rfl) rfl (Nat.le_of_ble_eq_true rfl) (Nat.le_trans (Nat.le_of_ble_eq_true rfl) hF) (Nat.le_trans (Nat.le_of_ble_eq_true rfl) hL) ob55 ⟨_, _, rfl⟩ (fun a7 σ8 h9 W10 q11 => ?_)
      refine w_istore [(5, iI a7), (4, iI a2), (0, mr 55), (3, iI x3), (6, iI x6)] d_D_parts_50 (by decide) rfl ?_
      refine w_iinc [(6, iI (x6 + 1)), (5, iI a7), (4, iI a2), (0, mr 55), (3, iI x3)] d_D_parts_52 rfl (by decide) rfl (fun c12 => ?_)
      refine w_goto 22 d_D_parts_55 (by decide) ?_
      exact w_sub (m_sc2 rfl (m_sc2 rfl (m_sc2 rfl (m_sc2 rfl (m_sc2 rfl (m_sn _)))))) (ih x3 a2 a7 (x6 + 1) _ _ W10 r3 q6 q11 c12)
    · exact w_exit [(0, mr 55), (3, iI x3), (4, iI x4), (5, iI x5)] (m_sc2 rfl (m_sc2 rfl (m_sc2 rfl (m_sc2 rfl (m_sn _))))) hW (fun _ _ _ k => k) (And.intro r4 r5)
theorem w_D_parts_9 {g : MG} {d w fu : Nat} {Q : MO → List MC → Prop} (hF : 2 ≤ d) (hL : 45 ≤ w) : ∀ (n : Nat) (x3 : Int) (σ : SS) (h : List MC), Wd h σ → rng x3 → Ew g none M_D_parts d w Q gU (cJ g none M_D_parts d w Q 100 (fun x => []) (fun x => [])) 9 [(0, mr 55), (3, iI x3)] [] h σ (l_D_parts_9 fu n x3 σ) := by
  intro n
  induction n with
  | zero =>
    intro x3 σ h hW r3 a9 σ9 hm
    rw [l_D_parts_9] at hm
    cases hm
  | succ n ih =>
    intro x3 σ h hW r3
    rw [l_D_parts_9]
    refine w_iload_n d_D_parts_9 rfl rfl ?_
    refine w_if_le 100 d_D_parts_10 (by decide) r3 (fun c1 => ?_) (fun c1 => ?_)
    · refine w_iconst d_D_parts_13 ?_
      refine w_istore [(4, iI 1), (0, mr 55), (3, iI x3)] d_D_parts_14 (by decide) rfl ?_
      refine w_iconst d_D_parts_16 ?_
      refine w_istore [(5, iI 1), (4, iI 1), (0, mr 55), (3, iI x3)] d_D_parts_17 (by decide) rfl ?_
      refine w_iconst d_D_parts_19 ?_
      refine w_istore [(6, iI 1), (5, iI 1), (4, iI 1), (0, mr 55), (3, iI x3)] d_D_parts_20 (by decide) rfl ?_
      refine w_sq (G1 := (fun x => rng x.1 ∧ rng x.2)) (J := 58) (lvJ := fun x => [(0, mr 55), (3, iI x3), (4, iI x.1), (5, iI x.2)]) (stJ := fun x => []) (w_sub (m_sc2 rfl (m_sc2 rfl (m_sc2 rfl (m_sc2 rfl (m_sc2 rfl (m_sn _)))))) (w_D_parts_22 hF hL fu x3 1 1 1 _ _ hW r3 (show rng 1 by decide) (show rng 1 by decide) (show rng 1 by decide))) (fun z2 σ3 h4 W5 q6 => ?_)
      show Ew _ _ _ _ _ _ _ _ 58 [(0, mr 55), (3, iI x3), (4, iI z2.1), (5, iI z2.2)] [] _ _ _
      refine w_aload_n d_D_parts_58 rfl rfl ?_
      refine w_aload_n d_D_parts_59 rfl rfl ?_
      refine w_gr d_D_parts_60 f_D_57 W5 or55_19 ?_
      refine w_iload d_D_parts_63 rfl ?_
      refine w_aload_n d_D_parts_65 rfl rfl ?_
      refine w_aload_n d_D_parts_66 rfl rfl ?_
      refine w_gr d_D_parts_67 f_D_57 W5 or55_19 ?_
      refine w_iload d_D_parts_70 rfl ?_
      refine w_cVI [mr 71, iI z2.1] [iI z2.1, mr 71, mr 55] d_D_parts_72 me_D_partEnd l_D_174 W5 (c_D_partEnd W5 ia71 q6.1) rfl rfl (Nat.le_of_ble_eq_true rfl) rfl (Nat.le_of_ble_eq_true rfl) (Nat.le_trans (Nat.le_of_ble_eq_true rfl) hF) (Nat.le_trans (Nat.le_of_ble_eq_true rfl) hL) ob55 ⟨_, _, rfl⟩ (fun a7 σ8 h9 W10 q11 => ?_)
      refine w_aload_n d_D_parts_75 rfl rfl ?_
      refine w_gr d_D_parts_76 f_D_60 W10 or55_20 ?_
      refine w_iload d_D_parts_79 rfl ?_
      refine w_aload_n d_D_parts_81 rfl rfl ?_
      refine w_aload_n d_D_parts_82 rfl rfl ?_
      refine w_gr d_D_parts_83 f_D_60 W10 or55_20 ?_
      refine w_iload d_D_parts_86 rfl ?_
      refine w_cVI [mr 72, iI z2.2] [iI z2.2, mr 72, iI a7, iI z2.1, mr 71, mr 55] d_D_parts_88 me_D_partEnd l_D_174 W10 (c_D_partEnd W10 ia72 q6.2) rfl rfl (Nat.le_of_ble_eq_true rfl) rfl (Nat.le_of_ble_eq_true rfl) (Nat.le_trans (Nat.le_of_ble_eq_true rfl) hF) (Nat.le_trans (Nat.le_of_ble_eq_true rfl) hL) ob55 ⟨_, _, rfl⟩ (fun a12 σ13 h14 W15 q16 => ?_)
      refine w_cVU [mr 71, iI z2.1, iI a7, mr 72, iI z2.2, iI a12] [] d_D_parts_91 me_D_equation l_D_177 W15 (c_D_equation W15 q6.1 q11 q6.2 q16) rfl rfl (Nat.le_of_ble_eq_true rfl) rfl (Nat.le_of_ble_eq_true rfl) (Nat.le_trans (Nat.le_of_ble_eq_true rfl) hF) (Nat.le_trans (Nat.le_of_ble_eq_true rfl) hL) ob55 ⟨_, _, rfl⟩ (fun a17 σ18 h19 W20 q21 => ?_)
      refine w_iinc [(3, iI (x3 + (-1))), (0, mr 55), (4, iI z2.1), (5, iI z2.2)] d_D_parts_94 rfl (by decide) rfl (fun c22 => ?_)
      refine w_goto 9 d_D_parts_97 (by decide) ?_
      exact w_sub (m_sc2 rfl (m_sc2 rfl (m_sn _))) (ih (x3 + (-1)) _ _ W20 c22)
    · exact w_exit [] (m_sn _) hW (fun _ _ _ k => k) True.intro
theorem c_D_parts {g : MG} {fu : Nat} {h : List MC} {σ : SS} {x1 : Int} (hW : Wd h σ) (r1 : rng x1) : Cw g M_D_parts 2 45 [mr 55, iI x1] rng cI1 h σ (f_D_parts fu x1 σ) := by
  refine w_of (fun d w Q hF hL => ?_)
  unfold f_D_parts
  show Ew g none M_D_parts d w Q rng (cI1 Q) 0 [(0, mr 55), (1, iI x1)] [] h σ _
  refine w_aload_n d_D_parts_0 rfl rfl ?_
  refine w_gr d_D_parts_1 f_D_7 hW or55_4 ?_
  refine w_iload_n d_D_parts_4 rfl rfl ?_
  refine w_ald d_D_parts_5 hW ia56 (fun c1 => ?_)
  refine w_top (fun y2 e3 => ?_)
  have ry2 : rng y2 := e3 ▸ (hW.ra _ _)
  refine w_istore_n [(2, iI y2), (0, mr 55), (1, iI x1)] d_D_parts_6 rfl (by decide) rfl ?_
  refine w_iload_n d_D_parts_7 rfl rfl ?_
  refine w_istore_n [(3, iI y2), (2, iI y2), (0, mr 55), (1, iI x1)] d_D_parts_8 rfl (by decide) rfl ?_
  refine w_sq (G1 := gU) (J := 100) (lvJ := fun x => []) (stJ := fun x => []) (w_sub (m_sc2 rfl (m_sc2 rfl (m_sn _))) (w_D_parts_9 hF hL fu y2 _ _ hW ry2)) (fun z4 σ5 h6 W7 q8 => ?_)
  show Ew _ _ _ _ _ _ _ _ 100 [] [] _ _ _
  refine w_iconst d_D_parts_100 ?_
  exact w_iret d_D_parts_101 rfl W7 (fun _ _ _ k => k) (show rng 0 by decide)
def l_D_step_51 (fu : Nat) : Nat → Int → Int → SS → Option ((Unit) × SS)
  | 0, _, _, _ => none
  | n + 1, x1, x2, σ => if x2 < (σ.1 55 29) then (ck (inb 4096 x1) (ck (rng ((σ.2.1 78 x1) + x2)) (ck (inb 131072 ((σ.2.1 78 x1) + x2)) (ck (inb 16384 x2) (lb (sA σ 71 x2 (σ.2.1 77 ((σ.2.1 78 x1) + x2))) fun σ7 => ck (rng (x2 + 1)) (l_D_step_51 fu n x1 (x2 + 1) σ7)))))) else (some ((), σ))
def l_D_step_86 (fu : Nat) : Nat → Int → Int → SS → Option ((Unit) × SS)
  | 0, _, _, _ => none
  | n + 1, x1, x2, σ => if x2 < (σ.1 55 30) then (ck (inb 4096 x1) (ck (rng ((σ.2.1 79 x1) + x2)) (ck (inb 131072 ((σ.2.1 79 x1) + x2)) (ck (inb 16384 x2) (lb (sA σ 72 x2 (σ.2.1 77 ((σ.2.1 79 x1) + x2))) fun σ7 => ck (rng (x2 + 1)) (l_D_step_86 fu n x1 (x2 + 1) σ7)))))) else (some ((), σ))
def f_D_step (fu : Nat) (σ : SS) : Option (Int × SS) := ck (rng ((σ.1 55 31) - 1)) (lb (sF σ 55 31 ((σ.1 55 31) - 1)) fun σ3 => lb (σ3.1 55 31) fun y6 => ck (inb 4096 y6) (ck (inb 4096 y6) (ck (rng ((σ3.2.1 79 y6) - (σ3.2.1 78 y6))) (lb (sF σ3 55 29 ((σ3.2.1 79 y6) - (σ3.2.1 78 y6))) fun σ12 => ck (inb 4096 y6) (ck (inb 4096 y6) (ck (rng ((σ12.2.1 80 y6) - (σ12.2.1 79 y6))) (lb (sF σ12 55 30 ((σ12.2.1 80 y6) - (σ12.2.1 79 y6))) fun σ19 => sq (l_D_step_51 fu fu y6 0 σ19) fun (z22 : Unit) σ23 => sq (l_D_step_86 fu fu y6 0 σ23) fun (z27 : Unit) σ28 => sq (f_D_write fu 71 (σ28.1 55 29) σ28) fun (a32 : Int) σ33 => lb (sF σ33 55 29 a32) fun σ38 => sq (f_D_write fu 72 (σ38.1 55 30) σ38) fun (a41 : Int) σ42 => lb (sF σ42 55 30 a41) fun σ47 => ck (inb 16384 0) (sq (if ((σ47.2.1 71 0) % 4) = 2 then (some (1, σ47)) else (some (0, σ47))) fun (z52 : Int) σ53 => ck (inb 16384 0) (sq (if ((σ53.2.1 72 0) % 4) = 2 then (some (1, σ53)) else (some (0, σ53))) fun (z59 : Int) σ60 => sr (if z52 = 0 then (some (.inr (), σ60)) else (if z59 = 0 then (some (.inr (), σ60)) else (ck (inb 16384 0) (ck (inb 16384 0) (if (σ60.2.1 71 0) = (σ60.2.1 72 0) then (sq (f_D_same fu σ60) fun (a69 : Int) σ70 => some (.inl a69, σ70)) else (sq (f_D_both fu σ60) fun (a74 : Int) σ75 => some (.inl a74, σ75))))))) fun (z79 : Unit) σ80 => if z52 = 0 then (if z59 = 0 then (ck (inb 16384 0) (ck (inb 16384 0) (if (σ80.2.1 71 0) = (σ80.2.1 72 0) then (ck (inb 16384 0) (if ((σ80.2.1 71 0) % 4) = 1 then (ck (inb 16384 0) (sq (f_D_parts fu ((σ80.2.1 71 0) / 4) σ80) fun (a92 : Int) σ93 => some (a92, σ93))) else (some (0, σ80)))) else (some (1, σ80))))) else (sq (f_D_fill fu 72 71 (σ80.1 55 29) σ80) fun (a97 : Int) σ98 => some (a97, σ98))) else (sq (f_D_fill fu 71 72 (σ80.1 55 30) σ80) fun (a102 : Int) σ103 => some (a102, σ103)))))))))))
theorem w_D_step_51 {g : MG} {d w fu : Nat} {Q : MO → List MC → Prop} (hF : 6 ≤ d) (hL : 155 ≤ w) : ∀ (n : Nat) (x1 : Int) (x2 : Int) (σ : SS) (h : List MC), Wd h σ → rng x1 → rng x2 → Ew g none M_D_step d w Q gU (cJ g none M_D_step d w Q 84 (fun x => [(0, mr 55), (1, iI x1)]) (fun x => [])) 51 [(0, mr 55), (1, iI x1), (2, iI x2)] [] h σ (l_D_step_51 fu n x1 x2 σ) := by
  intro n
  induction n with
  | zero =>
    intro x1 x2 σ h hW r1 r2 a9 σ9 hm
    rw [l_D_step_51] at hm
    cases hm
  | succ n ih =>
    intro x1 x2 σ h hW r1 r2
    rw [l_D_step_51]
    refine w_iload_n d_D_step_51 rfl rfl ?_
    refine w_aload_n d_D_step_52 rfl rfl ?_
    refine w_gi d_D_step_53 f_D_154 hW oi55_29 ?_
    refine w_icmp_ge 84 d_D_step_56 (by decide) r2 (hW.rf _ _) (fun c1 => ?_) (fun c1 => ?_)
    · refine w_aload_n d_D_step_59 rfl rfl ?_
      refine w_gr d_D_step_60 f_D_57 hW or55_19 ?_
      refine w_iload_n d_D_step_63 rfl rfl ?_
      refine w_aload_n d_D_step_64 rfl rfl ?_
      refine w_gr d_D_step_65 f_D_76 hW or55_25 ?_
      refine w_aload_n d_D_step_68 rfl rfl ?_
      refine w_gr d_D_step_69 f_D_79 hW or55_26 ?_
      refine w_iload_n d_D_step_72 rfl rfl ?_
      refine w_ald d_D_step_73 hW ia78 (fun c2 => ?_)
      refine w_iload_n d_D_step_74 rfl rfl ?_
      refine w_iadd d_D_step_75 (fun c3 => ?_)
      refine w_ald d_D_step_76 hW ia77 (fun c4 => ?_)
      refine w_ast d_D_step_77 hW ia71 (hW.ra _ _) (fun c5 h6 σ7 e8 W9 => ?_)
      refine w_iinc [(2, iI (x2 + 1)), (0, mr 55), (1, iI x1)] d_D_step_78 rfl (by decide) rfl (fun c10 => ?_)
      refine w_goto 51 d_D_step_81 (by decide) ?_
      exact w_sub (m_sc2 rfl (m_sc2 rfl (m_sc2 rfl (m_sn _)))) (ih x1 (x2 + 1) _ _ W9 r1 c10)
    · exact w_exit [(0, mr 55), (1, iI x1)] (m_sc2 rfl (m_sc2 rfl (m_sn _))) hW (fun _ _ _ k => k) True.intro
theorem w_D_step_86 {g : MG} {d w fu : Nat} {Q : MO → List MC → Prop} (hF : 6 ≤ d) (hL : 155 ≤ w) : ∀ (n : Nat) (x1 : Int) (x2 : Int) (σ : SS) (h : List MC), Wd h σ → rng x1 → rng x2 → Ew g none M_D_step d w Q gU (cJ g none M_D_step d w Q 119 (fun x => [(0, mr 55)]) (fun x => [])) 86 [(0, mr 55), (1, iI x1), (2, iI x2)] [] h σ (l_D_step_86 fu n x1 x2 σ) := by
  intro n
  induction n with
  | zero =>
    intro x1 x2 σ h hW r1 r2 a9 σ9 hm
    rw [l_D_step_86] at hm
    cases hm
  | succ n ih =>
    intro x1 x2 σ h hW r1 r2
    rw [l_D_step_86]
    refine w_iload_n d_D_step_86 rfl rfl ?_
    refine w_aload_n d_D_step_87 rfl rfl ?_
    refine w_gi d_D_step_88 f_D_157 hW oi55_30 ?_
    refine w_icmp_ge 119 d_D_step_91 (by decide) r2 (hW.rf _ _) (fun c1 => ?_) (fun c1 => ?_)
    · refine w_aload_n d_D_step_94 rfl rfl ?_
      refine w_gr d_D_step_95 f_D_60 hW or55_20 ?_
      refine w_iload_n d_D_step_98 rfl rfl ?_
      refine w_aload_n d_D_step_99 rfl rfl ?_
      refine w_gr d_D_step_100 f_D_76 hW or55_25 ?_
      refine w_aload_n d_D_step_103 rfl rfl ?_
      refine w_gr d_D_step_104 f_D_82 hW or55_27 ?_
      refine w_iload_n d_D_step_107 rfl rfl ?_
      refine w_ald d_D_step_108 hW ia79 (fun c2 => ?_)
      refine w_iload_n d_D_step_109 rfl rfl ?_
      refine w_iadd d_D_step_110 (fun c3 => ?_)
      refine w_ald d_D_step_111 hW ia77 (fun c4 => ?_)
      refine w_ast d_D_step_112 hW ia72 (hW.ra _ _) (fun c5 h6 σ7 e8 W9 => ?_)
      refine w_iinc [(2, iI (x2 + 1)), (0, mr 55), (1, iI x1)] d_D_step_113 rfl (by decide) rfl (fun c10 => ?_)
      refine w_goto 86 d_D_step_116 (by decide) ?_
      exact w_sub (m_sc2 rfl (m_sc2 rfl (m_sc2 rfl (m_sn _)))) (ih x1 (x2 + 1) _ _ W9 r1 c10)
    · exact w_exit [(0, mr 55)] (m_sc2 rfl (m_sn _)) hW (fun _ _ _ k => k) True.intro
theorem c_D_step {g : MG} {fu : Nat} {h : List MC} {σ : SS} (hW : Wd h σ) : Cw g M_D_step 6 155 [mr 55] rng cI1 h σ (f_D_step fu σ) := by
  refine w_of (fun d w Q hF hL => ?_)
  unfold f_D_step
  show Ew g none M_D_step d w Q rng (cI1 Q) 0 [(0, mr 55)] [] h σ _
  refine w_aload_n d_D_step_0 rfl rfl ?_
  refine w_dup d_D_step_1 rfl ?_
  refine w_gi d_D_step_2 f_D_151 hW oi55_31 ?_
  refine w_iconst d_D_step_5 ?_
  refine w_isub d_D_step_6 (fun c1 => ?_)
  refine w_pi d_D_step_7 p_D_151 hW oi55_31 (by decide) c1 (fun h2 σ3 e4 W5 => ?_)
  refine w_aload_n d_D_step_10 rfl rfl ?_
  refine w_gi d_D_step_11 f_D_151 W5 oi55_31 ?_
  refine w_top (fun y6 e7 => ?_)
  have ry6 : rng y6 := e7 ▸ (W5.rf _ _)
  refine w_istore_n [(1, iI y6), (0, mr 55)] d_D_step_14 rfl (by decide) rfl ?_
  refine w_aload_n d_D_step_15 rfl rfl ?_
  refine w_aload_n d_D_step_16 rfl rfl ?_
  refine w_gr d_D_step_17 f_D_82 W5 or55_27 ?_
  refine w_iload_n d_D_step_20 rfl rfl ?_
  refine w_ald d_D_step_21 W5 ia79 (fun c8 => ?_)
  refine w_aload_n d_D_step_22 rfl rfl ?_
  refine w_gr d_D_step_23 f_D_79 W5 or55_26 ?_
  refine w_iload_n d_D_step_26 rfl rfl ?_
  refine w_ald d_D_step_27 W5 ia78 (fun c9 => ?_)
  refine w_isub d_D_step_28 (fun c10 => ?_)
  refine w_pi d_D_step_29 p_D_154 W5 oi55_29 (by decide) c10 (fun h11 σ12 e13 W14 => ?_)
  refine w_aload_n d_D_step_32 rfl rfl ?_
  refine w_aload_n d_D_step_33 rfl rfl ?_
  refine w_gr d_D_step_34 f_D_85 W14 or55_28 ?_
  refine w_iload_n d_D_step_37 rfl rfl ?_
  refine w_ald d_D_step_38 W14 ia80 (fun c15 => ?_)
  refine w_aload_n d_D_step_39 rfl rfl ?_
  refine w_gr d_D_step_40 f_D_82 W14 or55_27 ?_
  refine w_iload_n d_D_step_43 rfl rfl ?_
  refine w_ald d_D_step_44 W14 ia79 (fun c16 => ?_)
  refine w_isub d_D_step_45 (fun c17 => ?_)
  refine w_pi d_D_step_46 p_D_157 W14 oi55_30 (by decide) c17 (fun h18 σ19 e20 W21 => ?_)
  refine w_iconst d_D_step_49 ?_
  refine w_istore_n [(2, iI 0), (1, iI y6), (0, mr 55)] d_D_step_50 rfl (by decide) rfl ?_
  refine w_sq (G1 := gU) (J := 84) (lvJ := fun x => [(0, mr 55), (1, iI y6)]) (stJ := fun x => []) (w_sub (m_sc2 rfl (m_sc2 rfl (m_sc2 rfl (m_sn _)))) (w_D_step_51 hF hL fu y6 0 _ _ W21 ry6 (show rng 0 by decide))) (fun z22 σ23 h24 W25 q26 => ?_)
  show Ew _ _ _ _ _ _ _ _ 84 [(0, mr 55), (1, iI y6)] [] _ _ _
  refine w_iconst d_D_step_84 ?_
  refine w_istore_n [(2, iI 0), (0, mr 55), (1, iI y6)] d_D_step_85 rfl (by decide) rfl ?_
  refine w_sq (G1 := gU) (J := 119) (lvJ := fun x => [(0, mr 55)]) (stJ := fun x => []) (w_sub (m_sc2 rfl (m_sc2 rfl (m_sc2 rfl (m_sn _)))) (w_D_step_86 hF hL fu y6 0 _ _ W25 ry6 (show rng 0 by decide))) (fun z27 σ28 h29 W30 q31 => ?_)
  show Ew _ _ _ _ _ _ _ _ 119 [(0, mr 55)] [] _ _ _
  refine w_aload_n d_D_step_119 rfl rfl ?_
  refine w_aload_n d_D_step_120 rfl rfl ?_
  refine w_aload_n d_D_step_121 rfl rfl ?_
  refine w_gr d_D_step_122 f_D_57 W30 or55_19 ?_
  refine w_aload_n d_D_step_125 rfl rfl ?_
  refine w_gi d_D_step_126 f_D_154 W30 oi55_29 ?_
  refine w_cVI [mr 71, iI (σ28.1 55 29)] [mr 55] d_D_step_129 me_D_write l_D_141 W30 (c_D_write W30 ia71 (W30.rf _ _)) rfl rfl (Nat.le_of_ble_eq_true rfl) rfl (Nat.le_of_ble_eq_true rfl) (Nat.le_trans (Nat.le_of_ble_eq_true rfl) hF) (Nat.le_trans (Nat.le_of_ble_eq_true rfl) hL) ob55 ⟨_, _, rfl⟩ (fun a32 σ33 h34 W35 q36 => ?_)
  refine w_pi d_D_step_132 p_D_154 W35 oi55_29 (by decide) q36 (fun h37 σ38 e39 W40 => ?_)
  refine w_aload_n d_D_step_135 rfl rfl ?_
  refine w_aload_n d_D_step_136 rfl rfl ?_
  refine w_aload_n d_D_step_137 rfl rfl ?_
  refine w_gr d_D_step_138 f_D_60 W40 or55_20 ?_
  refine w_aload_n d_D_step_141 rfl rfl ?_
  refine w_gi d_D_step_142 f_D_157 W40 oi55_30 ?_
  refine w_cVI [mr 72, iI (σ38.1 55 30)] [mr 55] d_D_step_145 me_D_write l_D_141 W40 (c_D_write W40 ia72 (W40.rf _ _)) rfl rfl (Nat.le_of_ble_eq_true rfl) rfl (Nat.le_of_ble_eq_true rfl) (Nat.le_trans (Nat.le_of_ble_eq_true rfl) hF) (Nat.le_trans (Nat.le_of_ble_eq_true rfl) hL) ob55 ⟨_, _, rfl⟩ (fun a41 σ42 h43 W44 q45 => ?_)
  refine w_pi d_D_step_148 p_D_157 W44 oi55_30 (by decide) q45 (fun h46 σ47 e48 W49 => ?_)
  refine w_aload_n d_D_step_151 rfl rfl ?_
  refine w_gr d_D_step_152 f_D_57 W49 or55_19 ?_
  refine w_iconst d_D_step_155 ?_
  refine w_ald d_D_step_156 W49 ia71 (fun c50 => ?_)
  refine w_D_sort d_D_step_157 l_D_129 (Nat.le_of_ble_eq_true rfl) (Nat.le_trans (Nat.le_of_ble_eq_true rfl) hF) (Nat.le_trans (Nat.le_of_ble_eq_true rfl) hL) ?_
  refine w_iconst d_D_step_160 ?_
  refine w_sq (G1 := rng) (J := 169) (lvJ := fun x => [(0, mr 55)]) (stJ := fun x => [iI x]) ?_ (fun z52 σ53 h54 W55 q56 => ?_)
  · refine w_icmp_ne 168 d_D_step_161 (by decide) (rngm _) (show rng 2 by decide) (fun c51 => ?_) (fun c51 => ?_)
    · refine w_iconst d_D_step_164 ?_
      refine w_goto 169 d_D_step_165 (by decide) ?_
      exact w_exit [(0, mr 55)] (m_sc2 rfl (m_sn _)) W49 (fun _ _ _ k => k) (show rng 1 by decide)
    · refine w_iconst d_D_step_168 ?_
      exact w_exit [(0, mr 55)] (m_sc2 rfl (m_sn _)) W49 (fun _ _ _ k => k) (show rng 0 by decide)
  · show Ew _ _ _ _ _ _ _ _ 169 [(0, mr 55)] [iI z52] _ _ _
    refine w_istore_n [(2, iI z52), (0, mr 55)] d_D_step_169 rfl (by decide) rfl ?_
    refine w_aload_n d_D_step_170 rfl rfl ?_
    refine w_gr d_D_step_171 f_D_60 W55 or55_20 ?_
    refine w_iconst d_D_step_174 ?_
    refine w_ald d_D_step_175 W55 ia72 (fun c57 => ?_)
    refine w_D_sort d_D_step_176 l_D_129 (Nat.le_of_ble_eq_true rfl) (Nat.le_trans (Nat.le_of_ble_eq_true rfl) hF) (Nat.le_trans (Nat.le_of_ble_eq_true rfl) hL) ?_
    refine w_iconst d_D_step_179 ?_
    refine w_sq (G1 := rng) (J := 188) (lvJ := fun x => [(0, mr 55), (2, iI z52)]) (stJ := fun x => [iI x]) ?_ (fun z59 σ60 h61 W62 q63 => ?_)
    · refine w_icmp_ne 187 d_D_step_180 (by decide) (rngm _) (show rng 2 by decide) (fun c58 => ?_) (fun c58 => ?_)
      · refine w_iconst d_D_step_183 ?_
        refine w_goto 188 d_D_step_184 (by decide) ?_
        exact w_exit [(0, mr 55), (2, iI z52)] (m_sc2 rfl (m_sc2 rfl (m_sn _))) W55 (fun _ _ _ k => k) (show rng 1 by decide)
      · refine w_iconst d_D_step_187 ?_
        exact w_exit [(0, mr 55), (2, iI z52)] (m_sc2 rfl (m_sc2 rfl (m_sn _))) W55 (fun _ _ _ k => k) (show rng 0 by decide)
    · show Ew _ _ _ _ _ _ _ _ 188 [(0, mr 55), (2, iI z52)] [iI z59] _ _ _
      refine w_istore_n [(3, iI z59), (0, mr 55), (2, iI z52)] d_D_step_188 rfl (by decide) rfl ?_
      refine w_iload_n d_D_step_189 rfl rfl ?_
      refine w_sr (G1 := gU) (J := 224) (lvJ := fun x => [(0, mr 55), (2, iI z52), (3, iI z59)]) (stJ := fun x => []) ?_ (fun z79 σ80 h81 W82 q83 => ?_)
      · refine w_if_eq 224 d_D_step_190 (by decide) q56 (fun c64 => ?_) (fun c64 => ?_)
        · exact w_exit [(0, mr 55), (2, iI z52), (3, iI z59)] (m_sc2 rfl (m_sc2 rfl (m_sc2 rfl (m_sn _)))) W62 (fun _ _ _ k => k) True.intro
        · refine w_iload_n d_D_step_193 rfl rfl ?_
          refine w_if_eq 224 d_D_step_194 (by decide) q63 (fun c65 => ?_) (fun c65 => ?_)
          · exact w_exit [(0, mr 55), (2, iI z52), (3, iI z59)] (m_sc2 rfl (m_sc2 rfl (m_sc2 rfl (m_sn _)))) W62 (fun _ _ _ k => k) True.intro
          · refine w_aload_n d_D_step_197 rfl rfl ?_
            refine w_gr d_D_step_198 f_D_57 W62 or55_19 ?_
            refine w_iconst d_D_step_201 ?_
            refine w_ald d_D_step_202 W62 ia71 (fun c66 => ?_)
            refine w_aload_n d_D_step_203 rfl rfl ?_
            refine w_gr d_D_step_204 f_D_60 W62 or55_20 ?_
            refine w_iconst d_D_step_207 ?_
            refine w_ald d_D_step_208 W62 ia72 (fun c67 => ?_)
            refine w_icmp_ne 219 d_D_step_209 (by decide) (W62.ra _ _) (W62.ra _ _) (fun c68 => ?_) (fun c68 => ?_)
            · refine w_aload_n d_D_step_212 rfl rfl ?_
              refine w_cVI [] [] d_D_step_213 me_D_same l_D_160 W62 (c_D_same W62 ) rfl rfl (Nat.le_of_ble_eq_true rfl) rfl (Nat.le_of_ble_eq_true rfl) (Nat.le_trans (Nat.le_of_ble_eq_true rfl) hF) (Nat.le_trans (Nat.le_of_ble_eq_true rfl) hL) ob55 ⟨_, _, rfl⟩ (fun a69 σ70 h71 W72 q73 => ?_)
              refine w_goto 223 d_D_step_216 (by decide) ?_
              exact w_iret d_D_step_223 rfl W72 (fun _ _ _ k => k) q73
            · refine w_aload_n d_D_step_219 rfl rfl ?_
              refine w_cVI [] [] d_D_step_220 me_D_both l_D_164 W62 (c_D_both W62 ) rfl rfl (Nat.le_of_ble_eq_true rfl) rfl (Nat.le_of_ble_eq_true rfl) (Nat.le_trans (Nat.le_of_ble_eq_true rfl) hF) (Nat.le_trans (Nat.le_of_ble_eq_true rfl) hL) ob55 ⟨_, _, rfl⟩ (fun a74 σ75 h76 W77 q78 => ?_)
              exact w_iret d_D_step_223 rfl W77 (fun _ _ _ k => k) q78
      · show Ew _ _ _ _ _ _ _ _ 224 [(0, mr 55), (2, iI z52), (3, iI z59)] [] _ _ _
        refine w_iload_n d_D_step_224 rfl rfl ?_
        refine w_if_eq 245 d_D_step_225 (by decide) q56 (fun c84 => ?_) (fun c84 => ?_)
        · refine w_iload_n d_D_step_245 rfl rfl ?_
          refine w_if_eq 266 d_D_step_246 (by decide) q63 (fun c85 => ?_) (fun c85 => ?_)
          · refine w_aload_n d_D_step_266 rfl rfl ?_
            refine w_gr d_D_step_267 f_D_57 W82 or55_19 ?_
            refine w_iconst d_D_step_270 ?_
            refine w_ald d_D_step_271 W82 ia71 (fun c86 => ?_)
            refine w_aload_n d_D_step_272 rfl rfl ?_
            refine w_gr d_D_step_273 f_D_60 W82 or55_20 ?_
            refine w_iconst d_D_step_276 ?_
            refine w_ald d_D_step_277 W82 ia72 (fun c87 => ?_)
            refine w_icmp_eq 283 d_D_step_278 (by decide) (W82.ra _ _) (W82.ra _ _) (fun c88 => ?_) (fun c88 => ?_)
            · refine w_aload_n d_D_step_283 rfl rfl ?_
              refine w_gr d_D_step_284 f_D_57 W82 or55_19 ?_
              refine w_iconst d_D_step_287 ?_
              refine w_ald d_D_step_288 W82 ia71 (fun c89 => ?_)
              refine w_D_sort d_D_step_289 l_D_129 (Nat.le_of_ble_eq_true rfl) (Nat.le_trans (Nat.le_of_ble_eq_true rfl) hF) (Nat.le_trans (Nat.le_of_ble_eq_true rfl) hL) ?_
              refine w_iconst d_D_step_292 ?_
              refine w_icmp_ne 311 d_D_step_293 (by decide) (rngm _) (show rng 1 by decide) (fun c90 => ?_) (fun c90 => ?_)
              · refine w_aload_n d_D_step_296 rfl rfl ?_
                refine w_aload_n d_D_step_297 rfl rfl ?_
                refine w_gr d_D_step_298 f_D_57 W82 or55_19 ?_
                refine w_iconst d_D_step_301 ?_
                refine w_ald d_D_step_302 W82 ia71 (fun c91 => ?_)
                refine w_iconst d_D_step_303 ?_
                refine w_shr2 d_D_step_304 (W82.ra _ _) ?_
                refine w_cVI [iI ((σ80.2.1 71 0) / 4)] [] d_D_step_305 me_D_parts l_D_171 W82 (c_D_parts W82 (rng4 (W82.ra _ _))) rfl rfl (Nat.le_of_ble_eq_true rfl) rfl (Nat.le_of_ble_eq_true rfl) (Nat.le_trans (Nat.le_of_ble_eq_true rfl) hF) (Nat.le_trans (Nat.le_of_ble_eq_true rfl) hL) ob55 ⟨_, _, rfl⟩ (fun a92 σ93 h94 W95 q96 => ?_)
                refine w_goto 312 d_D_step_308 (by decide) ?_
                exact w_iret d_D_step_312 rfl W95 (fun _ _ _ k => k) q96
              · refine w_iconst d_D_step_311 ?_
                exact w_iret d_D_step_312 rfl W82 (fun _ _ _ k => k) (show rng 0 by decide)
            · refine w_iconst d_D_step_281 ?_
              exact w_iret d_D_step_282 rfl W82 (fun _ _ _ k => k) (show rng 1 by decide)
          · refine w_aload_n d_D_step_249 rfl rfl ?_
            refine w_aload_n d_D_step_250 rfl rfl ?_
            refine w_gr d_D_step_251 f_D_60 W82 or55_20 ?_
            refine w_aload_n d_D_step_254 rfl rfl ?_
            refine w_gr d_D_step_255 f_D_57 W82 or55_19 ?_
            refine w_aload_n d_D_step_258 rfl rfl ?_
            refine w_gi d_D_step_259 f_D_154 W82 oi55_29 ?_
            refine w_cVI [mr 72, mr 71, iI (σ80.1 55 29)] [] d_D_step_262 me_D_fill l_D_167 W82 (c_D_fill W82 ia72 ia71 (W82.rf _ _)) rfl rfl (Nat.le_of_ble_eq_true rfl) rfl (Nat.le_of_ble_eq_true rfl) (Nat.le_trans (Nat.le_of_ble_eq_true rfl) hF) (Nat.le_trans (Nat.le_of_ble_eq_true rfl) hL) ob55 ⟨_, _, rfl⟩ (fun a97 σ98 h99 W100 q101 => ?_)
            exact w_iret d_D_step_265 rfl W100 (fun _ _ _ k => k) q101
        · refine w_aload_n d_D_step_228 rfl rfl ?_
          refine w_aload_n d_D_step_229 rfl rfl ?_
          refine w_gr d_D_step_230 f_D_57 W82 or55_19 ?_
          refine w_aload_n d_D_step_233 rfl rfl ?_
          refine w_gr d_D_step_234 f_D_60 W82 or55_20 ?_
          refine w_aload_n d_D_step_237 rfl rfl ?_
          refine w_gi d_D_step_238 f_D_157 W82 oi55_30 ?_
          refine w_cVI [mr 71, mr 72, iI (σ80.1 55 30)] [] d_D_step_241 me_D_fill l_D_167 W82 (c_D_fill W82 ia71 ia72 (W82.rf _ _)) rfl rfl (Nat.le_of_ble_eq_true rfl) rfl (Nat.le_of_ble_eq_true rfl) (Nat.le_trans (Nat.le_of_ble_eq_true rfl) hF) (Nat.le_trans (Nat.le_of_ble_eq_true rfl) hL) ob55 ⟨_, _, rfl⟩ (fun a102 σ103 h104 W105 q106 => ?_)
          exact w_iret d_D_step_244 rfl W105 (fun _ _ _ k => k) q106
