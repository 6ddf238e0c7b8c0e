/-! MODELS of the small methods and their proofs. Written by wip/whole/mg.py. -/
theorem rng4 {x : Int} (h : rng x) : rng (x / 4) := by omega
theorem w_val {g : MG} {sc : MS} {M : MM} {d w : Nat} {Q : MO → List MC → Prop} {α : Type} {G : α → Prop} {C : α → List MC → Nat → Nat → Prop} {pc : Nat} {lv : ML} {st : List MV} {h : List MC} {σ : SS} {m : Option (α × SS)} {x v : Int} (c : x = v) (k : Ew g sc M d w Q G C pc lv (iI v :: st) h σ m) : Ew g sc M d w Q G C pc lv (iI x :: st) h σ m := by
  rw [c]
  exact k
theorem rngm (x : Int) : rng (x % 4) := by omega
def f_C_codeAt (i : Int) (σ : SS) : Option (Int × SS) := some (cA σ i, σ)
def f_C_boundAt (i : Int) (σ : SS) : Option (Int × SS) := some (cB σ i, σ)
def f_G_isOpen (x1 : Int) (σ : SS) : Option (Int × SS) := if (gA σ 9 324 x1) = 0 then (some (1, σ)) else (some (0, σ))
theorem c_G_isOpen {g : MG} {h : List MC} {σ : SS} {x1 : Int} (hW : Wd h σ) (r1 : rng x1) : Cw g M_G_isOpen 1 21 [mr 7, iI x1] rng cI1 h σ (f_G_isOpen x1 σ) := by
  refine w_of (fun d w Q hF hL => ?_)
  unfold f_G_isOpen
  show Ew g none M_G_isOpen d w Q rng (cI1 Q) 0 [(0, mr 7), (1, iI x1)] [] h σ _
  refine w_aload_n d_G_isOpen_0 rfl rfl ?_
  refine w_gr d_G_isOpen_1 f_G_15 hW or7_2 ?_
  refine w_iload_n d_G_isOpen_4 rfl rfl ?_
  refine w_at d_G_isOpen_5 l_G_42 hW ia9 r1 (Nat.le_of_ble_eq_true rfl) (Nat.le_trans (Nat.le_of_ble_eq_true rfl) hF) (Nat.le_trans (Nat.le_of_ble_eq_true rfl) hL) ?_
  refine w_if_ne 15 d_G_isOpen_8 (by decide) (hW.ga _ _ _) (fun c1 => ?_) (fun c1 => ?_)
  · refine w_iconst d_G_isOpen_11 ?_
    refine w_goto 16 d_G_isOpen_12 (by decide) ?_
    exact w_zret d_G_isOpen_16 rfl (by decide) hW (fun _ _ _ k => k) (show rng 1 by decide)
  · refine w_iconst d_G_isOpen_15 ?_
    exact w_zret d_G_isOpen_16 rfl (by decide) hW (fun _ _ _ k => k) (show rng 0 by decide)
def l_G_undoTo_7 (fu : Nat) : Nat → Int → Int → Int → SS → Option ((Unit) × SS)
  | 0, _, _, _, _ => none
  | n + 1, x1, x2, x3, σ => if x3 < x1 then (some ((), σ)) else (lb (gA σ 12 324 x3) fun y2 => lb (sF σ 1 2 (gA σ 9 324 y2)) fun σ5 => lb (gS σ5 9 324 y2 0) fun σ9 => ck (rng (x3 + (-1))) (l_G_undoTo_7 fu n x1 x2 (x3 + (-1)) σ9))
def f_G_undoTo (fu : Nat) (x1 : Int) (x2 : Int) (σ : SS) : Option (Unit × SS) := ck (rng ((σ.1 7 8) - 1)) (lb ((σ.1 7 8) - 1) fun y2 => sq (l_G_undoTo_7 fu fu x1 x2 y2 σ) fun (z4 : Unit) σ5 => lb (sF σ5 7 8 x1) fun σ10 => lb (sF σ10 7 7 x2) fun σ14 => some ((), σ14))
theorem w_G_undoTo_7 {g : MG} {d w fu : Nat} {Q : MO → List MC → Prop} (hF : 1 ≤ d) (hL : 22 ≤ w) : ∀ (n : Nat) (x1 : Int) (x2 : Int) (x3 : Int) (σ : SS) (h : List MC), Wd h σ → rng x1 → rng x2 → rng x3 → Ew g none M_G_undoTo d w Q gU (cJ g none M_G_undoTo d w Q 54 (fun x => [(0, mr 7), (1, iI x1), (2, iI x2)]) (fun x => [])) 7 [(0, mr 7), (1, iI x1), (2, iI x2), (3, iI x3)] [] h σ (l_G_undoTo_7 fu n x1 x2 x3 σ) := by
  intro n
  induction n with
  | zero =>
    intro x1 x2 x3 σ h hW r1 r2 r3 a9 σ9 hm
    rw [l_G_undoTo_7] at hm
    cases hm
  | succ n ih =>
    intro x1 x2 x3 σ h hW r1 r2 r3
    rw [l_G_undoTo_7]
    refine w_iload_n d_G_undoTo_7 rfl rfl ?_
    refine w_iload_n d_G_undoTo_8 rfl rfl ?_
    refine w_icmp_lt 54 d_G_undoTo_9 (by decide) r3 r1 (fun c1 => ?_) (fun c1 => ?_)
    · exact w_exit [(0, mr 7), (1, iI x1), (2, iI x2)] (m_sc2 rfl (m_sc2 rfl (m_sc2 rfl (m_sn _)))) hW (fun _ _ _ k => k) True.intro
    · refine w_aload_n d_G_undoTo_12 rfl rfl ?_
      refine w_gr d_G_undoTo_13 f_G_24 hW or7_5 ?_
      refine w_iload_n d_G_undoTo_16 rfl rfl ?_
      refine w_at d_G_undoTo_17 l_G_42 hW ia12 r3 (Nat.le_of_ble_eq_true rfl) (Nat.le_trans (Nat.le_of_ble_eq_true rfl) hF) (Nat.le_trans (Nat.le_of_ble_eq_true rfl) hL) ?_
      refine w_top (fun y2 e3 => ?_)
      have ry2 : rng y2 := e3 ▸ (hW.ga _ _ _)
      refine w_istore [(4, iI y2), (0, mr 7), (1, iI x1), (2, iI x2), (3, iI x3)] d_G_undoTo_20 (by decide) rfl ?_
      refine w_aload_n d_G_undoTo_22 rfl rfl ?_
      refine w_gr d_G_undoTo_23 f_G_27 hW or7_0 ?_
      refine w_aload_n d_G_undoTo_26 rfl rfl ?_
      refine w_gr d_G_undoTo_27 f_G_15 hW or7_2 ?_
      refine w_iload d_G_undoTo_30 rfl ?_
      refine w_at d_G_undoTo_32 l_G_42 hW ia9 ry2 (Nat.le_of_ble_eq_true rfl) (Nat.le_trans (Nat.le_of_ble_eq_true rfl) hF) (Nat.le_trans (Nat.le_of_ble_eq_true rfl) hL) ?_
      refine w_pi d_G_undoTo_35 p_G_46 hW oi1_2 (by decide) (hW.ga _ _ _) (fun h4 σ5 e6 W7 => ?_)
      refine w_aload_n d_G_undoTo_38 rfl rfl ?_
      refine w_gr d_G_undoTo_39 f_G_15 W7 or7_2 ?_
      refine w_iload d_G_undoTo_42 rfl ?_
      refine w_iconst d_G_undoTo_44 ?_
      refine w_set d_G_undoTo_45 l_G_35 W7 ia9 ry2 (show rng 0 by decide) (Nat.le_of_ble_eq_true rfl) (Nat.le_trans (Nat.le_of_ble_eq_true rfl) hF) (Nat.le_trans (Nat.le_of_ble_eq_true rfl) hL) (fun h8 σ9 e10 W11 => ?_)
      refine w_iinc [(3, iI (x3 + (-1))), (4, iI y2), (0, mr 7), (1, iI x1), (2, iI x2)] d_G_undoTo_48 rfl (by decide) rfl (fun c12 => ?_)
      refine w_goto 7 d_G_undoTo_51 (by decide) ?_
      exact w_sub (m_sc2 rfl (m_sc2 rfl (m_sc2 rfl (m_sc2 rfl (m_sn _))))) (ih x1 x2 (x3 + (-1)) _ _ W11 r1 r2 c12)
theorem c_G_undoTo {g : MG} {fu : Nat} {h : List MC} {σ : SS} {x1 : Int} {x2 : Int} (hW : Wd h σ) (r1 : rng x1) (r2 : rng x2) : Cw g M_G_undoTo 1 22 [mr 7, iI x1, iI x2] gU cU1 h σ (f_G_undoTo fu x1 x2 σ) := by
  refine w_of (fun d w Q hF hL => ?_)
  unfold f_G_undoTo
  show Ew g none M_G_undoTo d w Q gU (cU1 Q) 0 [(0, mr 7), (1, iI x1), (2, iI x2)] [] h σ _
  refine w_aload_n d_G_undoTo_0 rfl rfl ?_
  refine w_gi d_G_undoTo_1 f_G_66 hW oi7_8 ?_
  refine w_iconst d_G_undoTo_4 ?_
  refine w_isub d_G_undoTo_5 (fun c1 => ?_)
  refine w_top (fun y2 e3 => ?_)
  have ry2 : rng y2 := e3 ▸ c1
  refine w_istore_n [(3, iI y2), (0, mr 7), (1, iI x1), (2, iI x2)] d_G_undoTo_6 rfl (by decide) rfl ?_
  refine w_sq (G1 := gU) (J := 54) (lvJ := fun x => [(0, mr 7), (1, iI x1), (2, iI x2)]) (stJ := fun x => []) (w_sub (m_sc2 rfl (m_sc2 rfl (m_sc2 rfl (m_sc2 rfl (m_sn _))))) (w_G_undoTo_7 hF hL fu x1 x2 y2 _ _ hW r1 r2 ry2)) (fun z4 σ5 h6 W7 q8 => ?_)
  show Ew _ _ _ _ _ _ _ _ 54 [(0, mr 7), (1, iI x1), (2, iI x2)] [] _ _ _
  refine w_aload_n d_G_undoTo_54 rfl rfl ?_
  refine w_iload_n d_G_undoTo_55 rfl rfl ?_
  refine w_pi d_G_undoTo_56 p_G_66 W7 oi7_8 (by decide) r1 (fun h9 σ10 e11 W12 => ?_)
  refine w_aload_n d_G_undoTo_59 rfl rfl ?_
  refine w_iload_n d_G_undoTo_60 rfl rfl ?_
  refine w_pi d_G_undoTo_61 p_G_39 W12 oi7_7 (by decide) r2 (fun h13 σ14 e15 W16 => ?_)
  exact w_ret d_G_undoTo_64 rfl W16 (fun _ _ _ k => k) True.intro
def l_H_empty_4 (fu : Nat) : Nat → Int → Int → SS → Option ((Int) × SS)
  | 0, _, _, _ => none
  | n + 1, x1, x2, σ => if x2 < (σ.1 7 6) then (sq (f_G_isOpen x2 σ) fun (a2 : Int) σ3 => sq (if a2 = 0 then (ck (rng (x1 + 1)) (some ((x1 + 1), σ3))) else (some (x1, σ3))) fun (z9 : Int) σ10 => ck (rng (x2 + 1)) (l_H_empty_4 fu n z9 (x2 + 1) σ10)) else (some (x1, σ))
def f_H_empty (fu : Nat) (σ : SS) : Option (Int × SS) := sq (l_H_empty_4 fu fu 0 0 σ) fun (z1 : Int) σ2 => sq (f_G_undoTo fu 0 0 σ2) fun (a6 : Unit) σ7 => some (z1, σ7)
theorem w_H_empty_4 {g : MG} {d w fu : Nat} {Q : MO → List MC → Prop} (hF : 2 ≤ d) (hL : 46 ≤ w) : ∀ (n : Nat) (x1 : Int) (x2 : Int) (σ : SS) (h : List MC), Wd h σ → rng x1 → rng x2 → Ew g none M_H_empty d w Q rng (cJ g none M_H_empty d w Q 35 (fun x => [(0, mr 0), (1, iI x)]) (fun x => [])) 4 [(0, mr 0), (1, iI x1), (2, iI x2)] [] h σ (l_H_empty_4 fu n x1 x2 σ) := by
  intro n
  induction n with
  | zero =>
    intro x1 x2 σ h hW r1 r2 a9 σ9 hm
    rw [l_H_empty_4] at hm
    cases hm
  | succ n ih =>
    intro x1 x2 σ h hW r1 r2
    rw [l_H_empty_4]
    refine w_iload_n d_H_empty_4 rfl rfl ?_
    refine w_aload_n d_H_empty_5 rfl rfl ?_
    refine w_gr d_H_empty_6 f_H_24 hW or0_1 ?_
    refine w_gi d_H_empty_9 f_H_204 hW oi7_6 ?_
    refine w_icmp_ge 35 d_H_empty_12 (by decide) r2 (hW.rf _ _) (fun c1 => ?_) (fun c1 => ?_)
    · refine w_aload_n d_H_empty_15 rfl rfl ?_
      refine w_gr d_H_empty_16 f_H_24 hW or0_1 ?_
      refine w_iload_n d_H_empty_19 rfl rfl ?_
      refine w_cVI [iI x2] [] d_H_empty_20 me_G_isOpen l_H_189 hW (c_G_isOpen hW r2) rfl rfl (Nat.le_of_ble_eq_true rfl) rfl (Nat.le_of_ble_eq_true rfl) (Nat.le_trans (Nat.le_of_ble_eq_true rfl) hF) (Nat.le_trans (Nat.le_of_ble_eq_true rfl) hL) ob7 ⟨_, _, rfl⟩ (fun a2 σ3 h4 W5 q6 => ?_)
      refine w_sq (G1 := rng) (J := 29) (lvJ := fun x => [(0, mr 0), (1, iI x), (2, iI x2)]) (stJ := fun x => []) ?_ (fun z9 σ10 h11 W12 q13 => ?_)
      · refine w_if_ne 29 d_H_empty_23 (by decide) q6 (fun c7 => ?_) (fun c7 => ?_)
        · refine w_iinc [(1, iI (x1 + 1)), (0, mr 0), (2, iI x2)] d_H_empty_26 rfl (by decide) rfl (fun c8 => ?_)
          exact w_exit [(0, mr 0), (1, iI (x1 + 1)), (2, iI x2)] (m_sc2 rfl (m_sc2 rfl (m_sc2 rfl (m_sn _)))) W5 (fun _ _ _ k => k) c8
        · exact w_exit [(0, mr 0), (1, iI x1), (2, iI x2)] (m_sc2 rfl (m_sc2 rfl (m_sc2 rfl (m_sn _)))) W5 (fun _ _ _ k => k) r1
      · show Ew _ _ _ _ _ _ _ _ 29 [(0, mr 0), (1, iI z9), (2, iI x2)] [] _ _ _
        refine w_iinc [(2, iI (x2 + 1)), (0, mr 0), (1, iI z9)] d_H_empty_29 rfl (by decide) rfl (fun c14 => ?_)
        refine w_goto 4 d_H_empty_32 (by decide) ?_
        exact w_sub (m_sc2 rfl (m_sc2 rfl (m_sc2 rfl (m_sn _)))) (ih z9 (x2 + 1) _ _ W12 q13 c14)
    · exact w_exit [(0, mr 0), (1, iI x1)] (m_sc2 rfl (m_sc2 rfl (m_sn _))) hW (fun _ _ _ k => k) r1
theorem c_H_empty {g : MG} {fu : Nat} {h : List MC} {σ : SS} (hW : Wd h σ) : Cw g M_H_empty 2 46 [mr 0] rng cI1 h σ (f_H_empty fu σ) := by
  refine w_of (fun d w Q hF hL => ?_)
  unfold f_H_empty
  show Ew g none M_H_empty d w Q rng (cI1 Q) 0 [(0, mr 0)] [] h σ _
  refine w_iconst d_H_empty_0 ?_
  refine w_istore_n [(1, iI 0), (0, mr 0)] d_H_empty_1 rfl (by decide) rfl ?_
  refine w_iconst d_H_empty_2 ?_
  refine w_istore_n [(2, iI 0), (1, iI 0), (0, mr 0)] d_H_empty_3 rfl (by decide) rfl ?_
  refine w_sq (G1 := rng) (J := 35) (lvJ := fun x => [(0, mr 0), (1, iI x)]) (stJ := fun x => []) (w_sub (m_sc2 rfl (m_sc2 rfl (m_sc2 rfl (m_sn _)))) (w_H_empty_4 hF hL fu 0 0 _ _ hW (show rng 0 by decide) (show rng 0 by decide))) (fun z1 σ2 h3 W4 q5 => ?_)
  show Ew _ _ _ _ _ _ _ _ 35 [(0, mr 0), (1, iI z1)] [] _ _ _
  refine w_aload_n d_H_empty_35 rfl rfl ?_
  refine w_gr d_H_empty_36 f_H_24 W4 or0_1 ?_
  refine w_iconst d_H_empty_39 ?_
  refine w_iconst d_H_empty_40 ?_
  refine w_cVU [iI 0, iI 0] [] d_H_empty_41 me_G_undoTo l_H_145 W4 (c_G_undoTo W4 (show rng 0 by decide) (show rng 0 by decide)) rfl rfl (Nat.le_of_ble_eq_true rfl) rfl (Nat.le_of_ble_eq_true rfl) (Nat.le_trans (Nat.le_of_ble_eq_true rfl) hF) (Nat.le_trans (Nat.le_of_ble_eq_true rfl) hL) ob7 ⟨_, _, rfl⟩ (fun a6 σ7 h8 W9 q10 => ?_)
  refine w_iload_n d_H_empty_44 rfl rfl ?_
  exact w_iret d_H_empty_45 rfl W9 (fun _ _ _ k => k) q5
def f_H_count (x1 : Int) (σ : SS) : Option (Int × SS) := if x1 = 0 then (some ((σ.1 4 2), σ)) else if x1 = 1 then (some ((σ.1 7 6), σ)) else if x1 = 2 then (some ((σ.1 7 7), σ)) else if x1 = 3 then (some ((σ.1 7 8), σ)) else if x1 = 4 then (some ((σ.1 51 1), σ)) else if x1 = 5 then (some ((σ.1 51 2), σ)) else if x1 = 6 then (some ((σ.1 0 7), σ)) else if x1 = 7 then (some ((σ.1 0 8), σ)) else (some ((-1), σ))
theorem c_H_count {g : MG} {h : List MC} {σ : SS} {x1 : Int} (hW : Wd h σ) (r1 : rng x1) : Cw g M_H_count 0 0 [mr 0, iI x1] rng cI1 h σ (f_H_count x1 σ) := by
  refine w_of (fun d w Q hF hL => ?_)
  unfold f_H_count
  show Ew g none M_H_count d w Q rng (cI1 Q) 0 [(0, mr 0), (1, iI x1)] [] h σ _
  refine w_iload_n d_H_count_0 rfl rfl ?_
  refine w_both (fun c1 => ?_) (fun c1 => ?_)
  · refine w_val c1 ?_
    refine w_step (fun _ _ k => e_tableIn (off := 47) (tgt := 48) d_H_count_1 (by decide) (by decide) (by decide) (by decide) k) ?_
    refine w_aload_n d_H_count_48 rfl rfl ?_
    refine w_gr d_H_count_49 f_H_15 hW or0_0 ?_
    refine w_gi d_H_count_52 f_H_207 hW oi4_2 ?_
    exact w_iret d_H_count_55 rfl hW (fun _ _ _ k => k) (hW.rf _ _)
  ·
    refine w_both (fun c2 => ?_) (fun c2 => ?_)
    · refine w_val c2 ?_
      refine w_step (fun _ _ k => e_tableIn (off := 55) (tgt := 56) d_H_count_1 (by decide) (by decide) (by decide) (by decide) k) ?_
      refine w_aload_n d_H_count_56 rfl rfl ?_
      refine w_gr d_H_count_57 f_H_24 hW or0_1 ?_
      refine w_gi d_H_count_60 f_H_204 hW oi7_6 ?_
      exact w_iret d_H_count_63 rfl hW (fun _ _ _ k => k) (hW.rf _ _)
    ·
      refine w_both (fun c3 => ?_) (fun c3 => ?_)
      · refine w_val c3 ?_
        refine w_step (fun _ _ k => e_tableIn (off := 63) (tgt := 64) d_H_count_1 (by decide) (by decide) (by decide) (by decide) k) ?_
        refine w_aload_n d_H_count_64 rfl rfl ?_
        refine w_gr d_H_count_65 f_H_24 hW or0_1 ?_
        refine w_gi d_H_count_68 f_H_136 hW oi7_7 ?_
        exact w_iret d_H_count_71 rfl hW (fun _ _ _ k => k) (hW.rf _ _)
      ·
        refine w_both (fun c4 => ?_) (fun c4 => ?_)
        · refine w_val c4 ?_
          refine w_step (fun _ _ k => e_tableIn (off := 71) (tgt := 72) d_H_count_1 (by decide) (by decide) (by decide) (by decide) k) ?_
          refine w_aload_n d_H_count_72 rfl rfl ?_
          refine w_gr d_H_count_73 f_H_24 hW or0_1 ?_
          refine w_gi d_H_count_76 f_H_132 hW oi7_8 ?_
          exact w_iret d_H_count_79 rfl hW (fun _ _ _ k => k) (hW.rf _ _)
        ·
          refine w_both (fun c5 => ?_) (fun c5 => ?_)
          · refine w_val c5 ?_
            refine w_step (fun _ _ k => e_tableIn (off := 79) (tgt := 80) d_H_count_1 (by decide) (by decide) (by decide) (by decide) k) ?_
            refine w_aload_n d_H_count_80 rfl rfl ?_
            refine w_gr d_H_count_81 f_H_61 hW or0_6 ?_
            refine w_gi d_H_count_84 f_H_155 hW oi51_1 ?_
            exact w_iret d_H_count_87 rfl hW (fun _ _ _ k => k) (hW.rf _ _)
          ·
            refine w_both (fun c6 => ?_) (fun c6 => ?_)
            · refine w_val c6 ?_
              refine w_step (fun _ _ k => e_tableIn (off := 87) (tgt := 88) d_H_count_1 (by decide) (by decide) (by decide) (by decide) k) ?_
              refine w_aload_n d_H_count_88 rfl rfl ?_
              refine w_gr d_H_count_89 f_H_61 hW or0_6 ?_
              refine w_gi d_H_count_92 f_H_208 hW oi51_2 ?_
              exact w_iret d_H_count_95 rfl hW (fun _ _ _ k => k) (hW.rf _ _)
            ·
              refine w_both (fun c7 => ?_) (fun c7 => ?_)
              · refine w_val c7 ?_
                refine w_step (fun _ _ k => e_tableIn (off := 95) (tgt := 96) d_H_count_1 (by decide) (by decide) (by decide) (by decide) k) ?_
                refine w_aload_n d_H_count_96 rfl rfl ?_
                refine w_gi d_H_count_97 f_H_142 hW oi0_7 ?_
                exact w_iret d_H_count_100 rfl hW (fun _ _ _ k => k) (hW.rf _ _)
              ·
                refine w_both (fun c8 => ?_) (fun c8 => ?_)
                · refine w_val c8 ?_
                  refine w_step (fun _ _ k => e_tableIn (off := 100) (tgt := 101) d_H_count_1 (by decide) (by decide) (by decide) (by decide) k) ?_
                  refine w_aload_n d_H_count_101 rfl rfl ?_
                  refine w_gi d_H_count_102 f_H_148 hW oi0_8 ?_
                  exact w_iret d_H_count_105 rfl hW (fun _ _ _ k => k) (hW.rf _ _)
                ·
                  refine w_step (fun _ _ k => e_tableOut (tgt := 106) d_H_count_1 (by rw [iv_toInt r1]; omega) (by decide) k) ?_
                  refine w_iconst d_H_count_106 ?_
                  exact w_iret d_H_count_107 rfl hW (fun _ _ _ k => k) (show rng (-1) by decide)
def f_H_mayBind (x0 : Int) (σ : SS) : Option (Int × SS) := if x0 < (-1) then (some (0, σ)) else (if 2 < x0 then (some (0, σ)) else (some (1, σ)))
theorem c_H_mayBind {g : MG} {h : List MC} {σ : SS} {x0 : Int} (hW : Wd h σ) (r0 : rng x0) : Cw g M_H_mayBind 0 0 [iI x0] rng cI1 h σ (f_H_mayBind x0 σ) := by
  refine w_of (fun d w Q hF hL => ?_)
  unfold f_H_mayBind
  show Ew g none M_H_mayBind d w Q rng (cI1 Q) 0 [(0, iI x0)] [] h σ _
  refine w_iload_n d_H_mayBind_0 rfl rfl ?_
  refine w_iconst d_H_mayBind_1 ?_
  refine w_icmp_lt 14 d_H_mayBind_2 (by decide) r0 (show rng (-1) by decide) (fun c1 => ?_) (fun c1 => ?_)
  · refine w_iconst d_H_mayBind_14 ?_
    exact w_zret d_H_mayBind_15 rfl (by decide) hW (fun _ _ _ k => k) (show rng 0 by decide)
  · refine w_iload_n d_H_mayBind_5 rfl rfl ?_
    refine w_iconst d_H_mayBind_6 ?_
    refine w_icmp_gt 14 d_H_mayBind_7 (by decide) r0 (show rng 2 by decide) (fun c2 => ?_) (fun c2 => ?_)
    · refine w_iconst d_H_mayBind_14 ?_
      exact w_zret d_H_mayBind_15 rfl (by decide) hW (fun _ _ _ k => k) (show rng 0 by decide)
    · refine w_iconst d_H_mayBind_10 ?_
      refine w_goto 15 d_H_mayBind_11 (by decide) ?_
      exact w_zret d_H_mayBind_15 rfl (by decide) hW (fun _ _ _ k => k) (show rng 1 by decide)
def f_O_arityOf (x1 : Int) (σ : SS) : Option (Int × SS) := some ((gA σ 5 16 x1), σ)
theorem c_O_arityOf {g : MG} {h : List MC} {σ : SS} {x1 : Int} (hW : Wd h σ) (r1 : rng x1) : Cw g M_O_arityOf 1 21 [mr 4, iI x1] rng cI1 h σ (f_O_arityOf x1 σ) := by
  refine w_of (fun d w Q hF hL => ?_)
  unfold f_O_arityOf
  show Ew g none M_O_arityOf d w Q rng (cI1 Q) 0 [(0, mr 4), (1, iI x1)] [] h σ _
  refine w_aload_n d_O_arityOf_0 rfl rfl ?_
  refine w_gr d_O_arityOf_1 f_O_9 hW or4_0 ?_
  refine w_iload_n d_O_arityOf_4 rfl rfl ?_
  refine w_at d_O_arityOf_5 l_O_34 hW ia5 r1 (Nat.le_of_ble_eq_true rfl) (Nat.le_trans (Nat.le_of_ble_eq_true rfl) hF) (Nat.le_trans (Nat.le_of_ble_eq_true rfl) hL) ?_
  exact w_iret d_O_arityOf_8 rfl hW (fun _ _ _ k => k) (hW.ga _ _ _)
def f_O_addArgument (x1 : Int) (x2 : Int) (σ : SS) : Option (Unit × SS) := if x2 = (-1) then (some ((), σ)) else (sq (f_O_arityOf x1 σ) fun (a2 : Int) σ3 => ck (rng (x1 * 3)) (ck (rng ((x1 * 3) + a2)) (lb (gS σ3 6 48 ((x1 * 3) + a2) x2) fun σ10 => ck (rng (a2 + 1)) (lb (gS σ10 5 16 x1 (a2 + 1)) fun σ15 => some ((), σ15)))))
theorem c_O_addArgument {g : MG} {h : List MC} {σ : SS} {x1 : Int} {x2 : Int} (hW : Wd h σ) (r1 : rng x1) (r2 : rng x2) : Cw g M_O_addArgument 2 42 [mr 4, iI x1, iI x2] gU cU1 h σ (f_O_addArgument x1 x2 σ) := by
  refine w_of (fun d w Q hF hL => ?_)
  unfold f_O_addArgument
  show Ew g none M_O_addArgument d w Q gU (cU1 Q) 0 [(0, mr 4), (1, iI x1), (2, iI x2)] [] h σ _
  refine w_iload_n d_O_addArgument_0 rfl rfl ?_
  refine w_iconst d_O_addArgument_1 ?_
  refine w_icmp_ne 6 d_O_addArgument_2 (by decide) r2 (show rng (-1) by decide) (fun c1 => ?_) (fun c1 => ?_)
  · exact w_ret d_O_addArgument_5 rfl hW (fun _ _ _ k => k) True.intro
  · refine w_aload_n d_O_addArgument_6 rfl rfl ?_
    refine w_iload_n d_O_addArgument_7 rfl rfl ?_
    refine w_cVI [iI x1] [] d_O_addArgument_8 me_O_arityOf l_O_26 hW (c_O_arityOf hW r1) rfl rfl (Nat.le_of_ble_eq_true rfl) rfl (Nat.le_of_ble_eq_true rfl) (Nat.le_trans (Nat.le_of_ble_eq_true rfl) hF) (Nat.le_trans (Nat.le_of_ble_eq_true rfl) hL) ob4 ⟨_, _, rfl⟩ (fun a2 σ3 h4 W5 q6 => ?_)
    refine w_istore_n [(3, iI a2), (0, mr 4), (1, iI x1), (2, iI x2)] d_O_addArgument_11 rfl (by decide) rfl ?_
    refine w_aload_n d_O_addArgument_12 rfl rfl ?_
    refine w_gr d_O_addArgument_13 f_O_15 W5 or4_1 ?_
    refine w_iload_n d_O_addArgument_16 rfl rfl ?_
    refine w_iconst d_O_addArgument_17 ?_
    refine w_imul d_O_addArgument_18 (fun c7 => ?_)
    refine w_iload_n d_O_addArgument_19 rfl rfl ?_
    refine w_iadd d_O_addArgument_20 (fun c8 => ?_)
    refine w_iload_n d_O_addArgument_21 rfl rfl ?_
    refine w_set d_O_addArgument_22 l_O_30 W5 ia6 c8 r2 (Nat.le_of_ble_eq_true rfl) (Nat.le_trans (Nat.le_of_ble_eq_true rfl) hF) (Nat.le_trans (Nat.le_of_ble_eq_true rfl) hL) (fun h9 σ10 e11 W12 => ?_)
    refine w_aload_n d_O_addArgument_25 rfl rfl ?_
    refine w_gr d_O_addArgument_26 f_O_9 W12 or4_0 ?_
    refine w_iload_n d_O_addArgument_29 rfl rfl ?_
    refine w_iload_n d_O_addArgument_30 rfl rfl ?_
    refine w_iconst d_O_addArgument_31 ?_
    refine w_iadd d_O_addArgument_32 (fun c13 => ?_)
    refine w_set d_O_addArgument_33 l_O_30 W12 ia5 r1 c13 (Nat.le_of_ble_eq_true rfl) (Nat.le_trans (Nat.le_of_ble_eq_true rfl) hF) (Nat.le_trans (Nat.le_of_ble_eq_true rfl) hL) (fun h14 σ15 e16 W17 => ?_)
    exact w_ret d_O_addArgument_36 rfl W17 (fun _ _ _ k => k) True.intro
def f_O_tell (x1 : Int) (x2 : Int) (x3 : Int) (σ : SS) : Option (Int × SS) := if (σ.1 4 2) < 16 then (lb (σ.1 4 2) fun y2 => ck (rng ((σ.1 4 2) + 1)) (lb (sF σ 4 2 ((σ.1 4 2) + 1)) fun σ6 => sq (f_O_addArgument y2 x1 σ6) fun (a9 : Unit) σ10 => sq (f_O_addArgument y2 x2 σ10) fun (a14 : Unit) σ15 => sq (f_O_addArgument y2 x3 σ15) fun (a19 : Unit) σ20 => some (y2, σ20))) else (some ((-1), σ))
theorem c_O_tell {g : MG} {h : List MC} {σ : SS} {x1 : Int} {x2 : Int} {x3 : Int} (hW : Wd h σ) (r1 : rng x1) (r2 : rng x2) (r3 : rng x3) : Cw g M_O_tell 3 65 [mr 4, iI x1, iI x2, iI x3] rng cI1 h σ (f_O_tell x1 x2 x3 σ) := by
  refine w_of (fun d w Q hF hL => ?_)
  unfold f_O_tell
  show Ew g none M_O_tell d w Q rng (cI1 Q) 0 [(0, mr 4), (1, iI x1), (2, iI x2), (3, iI x3)] [] h σ _
  refine w_aload_n d_O_tell_0 rfl rfl ?_
  refine w_gi d_O_tell_1 f_O_18 hW oi4_2 ?_
  refine w_bipush d_O_tell_4 (by decide) ?_
  refine w_icmp_lt 11 d_O_tell_6 (by decide) (hW.rf _ _) (show rng 16 by decide) (fun c1 => ?_) (fun c1 => ?_)
  · refine w_aload_n d_O_tell_11 rfl rfl ?_
    refine w_gi d_O_tell_12 f_O_18 hW oi4_2 ?_
    refine w_top (fun y2 e3 => ?_)
    have ry2 : rng y2 := e3 ▸ (hW.rf _ _)
    refine w_istore [(4, iI y2), (0, mr 4), (1, iI x1), (2, iI x2), (3, iI x3)] d_O_tell_15 (by decide) rfl ?_
    refine w_aload_n d_O_tell_17 rfl rfl ?_
    refine w_dup d_O_tell_18 rfl ?_
    refine w_gi d_O_tell_19 f_O_18 hW oi4_2 ?_
    refine w_iconst d_O_tell_22 ?_
    refine w_iadd d_O_tell_23 (fun c4 => ?_)
    refine w_pi d_O_tell_24 p_O_18 hW oi4_2 (by decide) c4 (fun h5 σ6 e7 W8 => ?_)
    refine w_aload_n d_O_tell_27 rfl rfl ?_
    refine w_iload d_O_tell_28 rfl ?_
    refine w_iload_n d_O_tell_30 rfl rfl ?_
    refine w_cVU [iI y2, iI x1] [] d_O_tell_31 me_O_addArgument l_O_22 W8 (c_O_addArgument W8 ry2 r1) rfl rfl (Nat.le_of_ble_eq_true rfl) rfl (Nat.le_of_ble_eq_true rfl) (Nat.le_trans (Nat.le_of_ble_eq_true rfl) hF) (Nat.le_trans (Nat.le_of_ble_eq_true rfl) hL) ob4 ⟨_, _, rfl⟩ (fun a9 σ10 h11 W12 q13 => ?_)
    refine w_aload_n d_O_tell_34 rfl rfl ?_
    refine w_iload d_O_tell_35 rfl ?_
    refine w_iload_n d_O_tell_37 rfl rfl ?_
    refine w_cVU [iI y2, iI x2] [] d_O_tell_38 me_O_addArgument l_O_22 W12 (c_O_addArgument W12 ry2 r2) rfl rfl (Nat.le_of_ble_eq_true rfl) rfl (Nat.le_of_ble_eq_true rfl) (Nat.le_trans (Nat.le_of_ble_eq_true rfl) hF) (Nat.le_trans (Nat.le_of_ble_eq_true rfl) hL) ob4 ⟨_, _, rfl⟩ (fun a14 σ15 h16 W17 q18 => ?_)
    refine w_aload_n d_O_tell_41 rfl rfl ?_
    refine w_iload d_O_tell_42 rfl ?_
    refine w_iload_n d_O_tell_44 rfl rfl ?_
    refine w_cVU [iI y2, iI x3] [] d_O_tell_45 me_O_addArgument l_O_22 W17 (c_O_addArgument W17 ry2 r3) rfl rfl (Nat.le_of_ble_eq_true rfl) rfl (Nat.le_of_ble_eq_true rfl) (Nat.le_trans (Nat.le_of_ble_eq_true rfl) hF) (Nat.le_trans (Nat.le_of_ble_eq_true rfl) hL) ob4 ⟨_, _, rfl⟩ (fun a19 σ20 h21 W22 q23 => ?_)
    refine w_iload d_O_tell_48 rfl ?_
    exact w_iret d_O_tell_50 rfl W22 (fun _ _ _ k => k) ry2
  · refine w_iconst d_O_tell_9 ?_
    exact w_iret d_O_tell_10 rfl hW (fun _ _ _ k => k) (show rng (-1) by decide)
def f_H_operation (x1 : Int) (x2 : Int) (x3 : Int) (σ : SS) : Option ((Int ⊕ String) × SS) := sq (f_H_mayBind x1 σ) fun (a1 : Int) σ2 => if a1 = 0 then (ck (rng (σ2.1 0 99 + 1)) (some (.inr "java/lang/IllegalArgumentException", thr σ2))) else (sq (f_H_mayBind x2 σ2) fun (a7 : Int) σ8 => if a7 = 0 then (ck (rng (σ8.1 0 99 + 1)) (some (.inr "java/lang/IllegalArgumentException", thr σ8))) else (sq (f_H_mayBind x3 σ8) fun (a13 : Int) σ14 => if a13 = 0 then (ck (rng (σ14.1 0 99 + 1)) (some (.inr "java/lang/IllegalArgumentException", thr σ14))) else (sr (if x1 = (-1) then (if x2 = (-1) then (some (.inr (), σ14)) else (ck (rng (σ14.1 0 99 + 1)) (some (.inl (.inr "java/lang/IllegalArgumentException"), thr σ14)))) else (some (.inr (), σ14))) fun (z21 : Unit) σ22 => sr (if x2 = (-1) then (if x3 = (-1) then (some (.inr (), σ22)) else (ck (rng (σ22.1 0 99 + 1)) (some (.inl (.inr "java/lang/IllegalArgumentException"), thr σ22)))) else (some (.inr (), σ22))) fun (z28 : Unit) σ29 => sq (f_O_tell x1 x2 x3 σ29) fun (a33 : Int) σ34 => some (.inl a33, σ34))))
theorem c_H_operation {g : MG} {h : List MC} {σ : SS} {x1 : Int} {x2 : Int} {x3 : Int} (hl : g.1.stackTraces = false) (hW : Wd h σ) (r1 : rng x1) (r2 : rng x2) (r3 : rng x3) : Cw g M_H_operation 6 90 [mr 0, iI x1, iI x2, iI x3] (gS2 rng gE) (fun Q => cS2 (cI1 Q) (cE1 Q)) h σ (f_H_operation x1 x2 x3 σ) := by
  refine w_of (fun d w Q hF hL => ?_)
  unfold f_H_operation
  show Ew g none M_H_operation d w Q (gS2 rng gE) (cS2 (cI1 Q) (cE1 Q)) 0 [(0, mr 0), (1, iI x1), (2, iI x2), (3, iI x3)] [] h σ _
  refine w_iload_n d_H_operation_0 rfl rfl ?_
  refine w_cSI [iI x1] [] d_H_operation_1 me_H_mayBind l_H_65 hW (c_H_mayBind hW r1) rfl rfl (Nat.le_of_ble_eq_true rfl) rfl (Nat.le_of_ble_eq_true rfl) (Nat.le_trans (Nat.le_of_ble_eq_true rfl) hF) (Nat.le_trans (Nat.le_of_ble_eq_true rfl) hL) (fun a1 σ2 h3 W4 q5 => ?_)
  refine w_if_eq 21 d_H_operation_4 (by decide) q5 (fun c6 => ?_) (fun c6 => ?_)
  · exact w_throw hl d_H_operation_21 d_H_operation_24 d_H_operation_25 d_H_operation_27 d_H_operation_30 tw_H_71 rfl (Nat.le_of_ble_eq_true rfl) (Nat.le_trans (Nat.le_of_ble_eq_true rfl) hF) (Nat.le_trans (Nat.le_of_ble_eq_true rfl) hL) W4 (fun _ _ _ k => k) True.intro
  · refine w_iload_n d_H_operation_7 rfl rfl ?_
    refine w_cSI [iI x2] [] d_H_operation_8 me_H_mayBind l_H_65 W4 (c_H_mayBind W4 r2) rfl rfl (Nat.le_of_ble_eq_true rfl) rfl (Nat.le_of_ble_eq_true rfl) (Nat.le_trans (Nat.le_of_ble_eq_true rfl) hF) (Nat.le_trans (Nat.le_of_ble_eq_true rfl) hL) (fun a7 σ8 h9 W10 q11 => ?_)
    refine w_if_eq 21 d_H_operation_11 (by decide) q11 (fun c12 => ?_) (fun c12 => ?_)
    · exact w_throw hl d_H_operation_21 d_H_operation_24 d_H_operation_25 d_H_operation_27 d_H_operation_30 tw_H_71 rfl (Nat.le_of_ble_eq_true rfl) (Nat.le_trans (Nat.le_of_ble_eq_true rfl) hF) (Nat.le_trans (Nat.le_of_ble_eq_true rfl) hL) W10 (fun _ _ _ k => k) True.intro
    · refine w_iload_n d_H_operation_14 rfl rfl ?_
      refine w_cSI [iI x3] [] d_H_operation_15 me_H_mayBind l_H_65 W10 (c_H_mayBind W10 r3) rfl rfl (Nat.le_of_ble_eq_true rfl) rfl (Nat.le_of_ble_eq_true rfl) (Nat.le_trans (Nat.le_of_ble_eq_true rfl) hF) (Nat.le_trans (Nat.le_of_ble_eq_true rfl) hL) (fun a13 σ14 h15 W16 q17 => ?_)
      refine w_if_ne 31 d_H_operation_18 (by decide) q17 (fun c18 => ?_) (fun c18 => ?_)
      · exact w_throw hl d_H_operation_21 d_H_operation_24 d_H_operation_25 d_H_operation_27 d_H_operation_30 tw_H_71 rfl (Nat.le_of_ble_eq_true rfl) (Nat.le_trans (Nat.le_of_ble_eq_true rfl) hF) (Nat.le_trans (Nat.le_of_ble_eq_true rfl) hL) W16 (fun _ _ _ k => k) True.intro
      · refine w_iload_n d_H_operation_31 rfl rfl ?_
        refine w_iconst d_H_operation_32 ?_
        refine w_sr (G1 := gU) (J := 41) (lvJ := fun x => [(0, mr 0), (1, iI x1), (2, iI x2), (3, iI x3)]) (stJ := fun x => []) ?_ (fun z21 σ22 h23 W24 q25 => ?_)
        · refine w_icmp_ne 41 d_H_operation_33 (by decide) r1 (show rng (-1) by decide) (fun c19 => ?_) (fun c19 => ?_)
          · refine w_iload_n d_H_operation_36 rfl rfl ?_
            refine w_iconst d_H_operation_37 ?_
            refine w_icmp_ne 51 d_H_operation_38 (by decide) r2 (show rng (-1) by decide) (fun c20 => ?_) (fun c20 => ?_)
            · exact w_exit [(0, mr 0), (1, iI x1), (2, iI x2), (3, iI x3)] (m_sc2 rfl (m_sc2 rfl (m_sc2 rfl (m_sc2 rfl (m_sn _))))) W16 (fun _ _ _ k => k) True.intro
            · exact w_throw hl d_H_operation_51 d_H_operation_54 d_H_operation_55 d_H_operation_57 d_H_operation_60 tw_H_76 rfl (Nat.le_of_ble_eq_true rfl) (Nat.le_trans (Nat.le_of_ble_eq_true rfl) hF) (Nat.le_trans (Nat.le_of_ble_eq_true rfl) hL) W16 (fun _ _ _ k => k) True.intro
          · exact w_exit [(0, mr 0), (1, iI x1), (2, iI x2), (3, iI x3)] (m_sc2 rfl (m_sc2 rfl (m_sc2 rfl (m_sc2 rfl (m_sn _))))) W16 (fun _ _ _ k => k) True.intro
        · show Ew _ _ _ _ _ _ _ _ 41 [(0, mr 0), (1, iI x1), (2, iI x2), (3, iI x3)] [] _ _ _
          refine w_iload_n d_H_operation_41 rfl rfl ?_
          refine w_iconst d_H_operation_42 ?_
          refine w_sr (G1 := gU) (J := 61) (lvJ := fun x => [(0, mr 0), (1, iI x1), (2, iI x2), (3, iI x3)]) (stJ := fun x => []) ?_ (fun z28 σ29 h30 W31 q32 => ?_)
          · refine w_icmp_ne 61 d_H_operation_43 (by decide) r2 (show rng (-1) by decide) (fun c26 => ?_) (fun c26 => ?_)
            · refine w_iload_n d_H_operation_46 rfl rfl ?_
              refine w_iconst d_H_operation_47 ?_
              refine w_icmp_eq 61 d_H_operation_48 (by decide) r3 (show rng (-1) by decide) (fun c27 => ?_) (fun c27 => ?_)
              · exact w_exit [(0, mr 0), (1, iI x1), (2, iI x2), (3, iI x3)] (m_sc2 rfl (m_sc2 rfl (m_sc2 rfl (m_sc2 rfl (m_sn _))))) W24 (fun _ _ _ k => k) True.intro
              · exact w_throw hl d_H_operation_51 d_H_operation_54 d_H_operation_55 d_H_operation_57 d_H_operation_60 tw_H_76 rfl (Nat.le_of_ble_eq_true rfl) (Nat.le_trans (Nat.le_of_ble_eq_true rfl) hF) (Nat.le_trans (Nat.le_of_ble_eq_true rfl) hL) W24 (fun _ _ _ k => k) True.intro
            · exact w_exit [(0, mr 0), (1, iI x1), (2, iI x2), (3, iI x3)] (m_sc2 rfl (m_sc2 rfl (m_sc2 rfl (m_sc2 rfl (m_sn _))))) W24 (fun _ _ _ k => k) True.intro
          · show Ew _ _ _ _ _ _ _ _ 61 [(0, mr 0), (1, iI x1), (2, iI x2), (3, iI x3)] [] _ _ _
            refine w_aload_n d_H_operation_61 rfl rfl ?_
            refine w_gr d_H_operation_62 f_H_15 W31 or0_0 ?_
            refine w_iload_n d_H_operation_65 rfl rfl ?_
            refine w_iload_n d_H_operation_66 rfl rfl ?_
            refine w_iload_n d_H_operation_67 rfl rfl ?_
            refine w_cVI [iI x1, iI x2, iI x3] [] d_H_operation_68 me_O_tell l_H_78 W31 (c_O_tell W31 r1 r2 r3) rfl rfl (Nat.le_of_ble_eq_true rfl) rfl (Nat.le_of_ble_eq_true rfl) (Nat.le_trans (Nat.le_of_ble_eq_true rfl) hF) (Nat.le_trans (Nat.le_of_ble_eq_true rfl) hL) ob4 ⟨_, _, rfl⟩ (fun a33 σ34 h35 W36 q37 => ?_)
            exact w_iret d_H_operation_71 rfl W36 (fun _ _ _ k => k) q37
def f_G_tell (x1 : Int) (σ : SS) : Option (Int × SS) := if (σ.1 7 6) < 24 then (lb (gS σ 8 324 (σ.1 7 6) x1) fun σ3 => ck (rng ((σ3.1 7 6) + 1)) (lb (sF σ3 7 6 ((σ3.1 7 6) + 1)) fun σ8 => ck (rng ((σ8.1 7 6) - 1)) (some (((σ8.1 7 6) - 1), σ8)))) else (some ((-1), σ))
theorem c_G_tell {g : MG} {h : List MC} {σ : SS} {x1 : Int} (hW : Wd h σ) (r1 : rng x1) : Cw g M_G_tell 1 22 [mr 7, iI x1] rng cI1 h σ (f_G_tell x1 σ) := by
  refine w_of (fun d w Q hF hL => ?_)
  unfold f_G_tell
  show Ew g none M_G_tell d w Q rng (cI1 Q) 0 [(0, mr 7), (1, iI x1)] [] h σ _
  refine w_aload_n d_G_tell_0 rfl rfl ?_
  refine w_gi d_G_tell_1 f_G_31 hW oi7_6 ?_
  refine w_bipush d_G_tell_4 (by decide) ?_
  refine w_icmp_lt 11 d_G_tell_6 (by decide) (hW.rf _ _) (show rng 24 by decide) (fun c1 => ?_) (fun c1 => ?_)
  · refine w_aload_n d_G_tell_11 rfl rfl ?_
    refine w_gr d_G_tell_12 f_G_9 hW or7_1 ?_
    refine w_aload_n d_G_tell_15 rfl rfl ?_
    refine w_gi d_G_tell_16 f_G_31 hW oi7_6 ?_
    refine w_iload_n d_G_tell_19 rfl rfl ?_
    refine w_set d_G_tell_20 l_G_35 hW ia8 (hW.rf _ _) r1 (Nat.le_of_ble_eq_true rfl) (Nat.le_trans (Nat.le_of_ble_eq_true rfl) hF) (Nat.le_trans (Nat.le_of_ble_eq_true rfl) hL) (fun h2 σ3 e4 W5 => ?_)
    refine w_aload_n d_G_tell_23 rfl rfl ?_
    refine w_dup d_G_tell_24 rfl ?_
    refine w_gi d_G_tell_25 f_G_31 W5 oi7_6 ?_
    refine w_iconst d_G_tell_28 ?_
    refine w_iadd d_G_tell_29 (fun c6 => ?_)
    refine w_pi d_G_tell_30 p_G_31 W5 oi7_6 (by decide) c6 (fun h7 σ8 e9 W10 => ?_)
    refine w_aload_n d_G_tell_33 rfl rfl ?_
    refine w_gi d_G_tell_34 f_G_31 W10 oi7_6 ?_
    refine w_iconst d_G_tell_37 ?_
    refine w_isub d_G_tell_38 (fun c11 => ?_)
    exact w_iret d_G_tell_39 rfl W10 (fun _ _ _ k => k) c11
  · refine w_iconst d_G_tell_9 ?_
    exact w_iret d_G_tell_10 rfl hW (fun _ _ _ k => k) (show rng (-1) by decide)
def f_H_hole (x1 : Int) (σ : SS) : Option ((Int ⊕ String) × SS) := if x1 < 0 then (ck (rng (σ.1 0 99 + 1)) (some (.inr "java/lang/IllegalArgumentException", thr σ))) else (if 4 < x1 then (ck (rng (σ.1 0 99 + 1)) (some (.inr "java/lang/IllegalArgumentException", thr σ))) else (sq (f_G_tell x1 σ) fun (a3 : Int) σ4 => some (.inl a3, σ4)))
theorem c_H_hole {g : MG} {h : List MC} {σ : SS} {x1 : Int} (hl : g.1.stackTraces = false) (hW : Wd h σ) (r1 : rng x1) : Cw g M_H_hole 6 90 [mr 0, iI x1] (gS2 rng gE) (fun Q => cS2 (cI1 Q) (cE1 Q)) h σ (f_H_hole x1 σ) := by
  refine w_of (fun d w Q hF hL => ?_)
  unfold f_H_hole
  show Ew g none M_H_hole d w Q (gS2 rng gE) (cS2 (cI1 Q) (cE1 Q)) 0 [(0, mr 0), (1, iI x1)] [] h σ _
  refine w_iload_n d_H_hole_0 rfl rfl ?_
  refine w_if_lt 9 d_H_hole_1 (by decide) r1 (fun c1 => ?_) (fun c1 => ?_)
  · exact w_throw hl d_H_hole_9 d_H_hole_12 d_H_hole_13 d_H_hole_15 d_H_hole_18 tw_H_82 rfl (Nat.le_of_ble_eq_true rfl) (Nat.le_trans (Nat.le_of_ble_eq_true rfl) hF) (Nat.le_trans (Nat.le_of_ble_eq_true rfl) hL) hW (fun _ _ _ k => k) True.intro
  · refine w_iload_n d_H_hole_4 rfl rfl ?_
    refine w_iconst d_H_hole_5 ?_
    refine w_icmp_le 19 d_H_hole_6 (by decide) r1 (show rng 4 by decide) (fun c2 => ?_) (fun c2 => ?_)
    · exact w_throw hl d_H_hole_9 d_H_hole_12 d_H_hole_13 d_H_hole_15 d_H_hole_18 tw_H_82 rfl (Nat.le_of_ble_eq_true rfl) (Nat.le_trans (Nat.le_of_ble_eq_true rfl) hF) (Nat.le_trans (Nat.le_of_ble_eq_true rfl) hL) hW (fun _ _ _ k => k) True.intro
    · refine w_aload_n d_H_hole_19 rfl rfl ?_
      refine w_gr d_H_hole_20 f_H_24 hW or0_1 ?_
      refine w_iload_n d_H_hole_23 rfl rfl ?_
      refine w_cVI [iI x1] [] d_H_hole_24 me_G_tell l_H_84 hW (c_G_tell hW r1) rfl rfl (Nat.le_of_ble_eq_true rfl) rfl (Nat.le_of_ble_eq_true rfl) (Nat.le_trans (Nat.le_of_ble_eq_true rfl) hF) (Nat.le_trans (Nat.le_of_ble_eq_true rfl) hL) ob7 ⟨_, _, rfl⟩ (fun a3 σ4 h5 W6 q7 => ?_)
      exact w_iret d_H_hole_27 rfl W6 (fun _ _ _ k => k) q7
def f_S_restart (p : Nat) (x1 : Int) (σ : SS) : Option (Unit × SS) := lb (sF σ p 4 x1) fun σ2 => lb (sF σ2 p 5 0) fun σ6 => lb (sF σ6 p 6 0) fun σ10 => lb (sF σ10 p 7 0) fun σ14 => lb (gS σ14 (p + 1) 91 0 0) fun σ18 => lb (sF σ18 p 3 1) fun σ22 => some ((), σ22)
theorem c_S_restart {g : MG} {h : List MC} {σ : SS} {p : Nat} {x1 : Int} (hW : Wd h σ) (hp : slt p) (r1 : rng x1) : Cw g M_S_restart 1 22 [mr p, iI x1] gU cU1 h σ (f_S_restart p x1 σ) := by
  refine w_of (fun d w Q hF hL => ?_)
  unfold f_S_restart
  show Ew g none M_S_restart d w Q gU (cU1 Q) 0 [(0, mr p), (1, iI x1)] [] h σ _
  refine w_aload_n d_S_restart_0 rfl rfl ?_
  refine w_iload_n d_S_restart_1 rfl rfl ?_
  refine w_pi d_S_restart_2 p_S_23 hW (slt_i4 hp) (by decide) r1 (fun h1 σ2 e3 W4 => ?_)
  refine w_aload_n d_S_restart_5 rfl rfl ?_
  refine w_iconst d_S_restart_6 ?_
  refine w_pi d_S_restart_7 p_S_26 W4 (slt_i5 hp) (by decide) (show rng 0 by decide) (fun h5 σ6 e7 W8 => ?_)
  refine w_aload_n d_S_restart_10 rfl rfl ?_
  refine w_iconst d_S_restart_11 ?_
  refine w_pi d_S_restart_12 p_S_29 W8 (slt_i6 hp) (by decide) (show rng 0 by decide) (fun h9 σ10 e11 W12 => ?_)
  refine w_aload_n d_S_restart_15 rfl rfl ?_
  refine w_iconst d_S_restart_16 ?_
  refine w_pi d_S_restart_17 p_S_32 W12 (slt_i7 hp) (by decide) (show rng 0 by decide) (fun h13 σ14 e15 W16 => ?_)
  refine w_aload_n d_S_restart_20 rfl rfl ?_
  refine w_gr d_S_restart_21 f_S_9 W16 (slt_r2 hp) ?_
  refine w_iconst d_S_restart_24 ?_
  refine w_iconst d_S_restart_25 ?_
  refine w_set d_S_restart_26 l_S_35 W16 (slt_a1 hp) (show rng 0 by decide) (show rng 0 by decide) (Nat.le_of_ble_eq_true rfl) (Nat.le_trans (Nat.le_of_ble_eq_true rfl) hF) (Nat.le_trans (Nat.le_of_ble_eq_true rfl) hL) (fun h17 σ18 e19 W20 => ?_)
  refine w_aload_n d_S_restart_29 rfl rfl ?_
  refine w_iconst d_S_restart_30 ?_
  refine w_pi d_S_restart_31 p_S_39 W20 (slt_i3 hp) (by decide) (show rng 1 by decide) (fun h21 σ22 e23 W24 => ?_)
  exact w_ret d_S_restart_34 rfl W24 (fun _ _ _ k => k) True.intro
def f_S_itemsDue (p : Nat) (σ : SS) : Option (Int × SS) := ck (rng ((σ.1 p 3) + (σ.1 p 7))) (some (((σ.1 p 3) + (σ.1 p 7)), σ))
theorem c_S_itemsDue {g : MG} {h : List MC} {σ : SS} {p : Nat} (hW : Wd h σ) (hp : slt p) : Cw g M_S_itemsDue 0 0 [mr p] rng cI1 h σ (f_S_itemsDue p σ) := by
  refine w_of (fun d w Q hF hL => ?_)
  unfold f_S_itemsDue
  show Ew g none M_S_itemsDue d w Q rng (cI1 Q) 0 [(0, mr p)] [] h σ _
  refine w_aload_n d_S_itemsDue_0 rfl rfl ?_
  refine w_gi d_S_itemsDue_1 f_S_39 hW (slt_i3 hp) ?_
  refine w_aload_n d_S_itemsDue_4 rfl rfl ?_
  refine w_gi d_S_itemsDue_5 f_S_32 hW (slt_i7 hp) ?_
  refine w_iadd d_S_itemsDue_8 (fun c1 => ?_)
  exact w_iret d_S_itemsDue_9 rfl hW (fun _ _ _ k => k) c1
def f_H_begin (x1 : Int) (x2 : Int) (σ : SS) : Option ((Int ⊕ String) × SS) := sx (f_H_slotAt x1 σ) fun (a1 : Nat) σ2 => if x2 < 0 then (ck (rng (σ2.1 0 99 + 1)) (some (.inr "java/lang/IllegalArgumentException", thr σ2))) else (if 6 < x2 then (ck (rng (σ2.1 0 99 + 1)) (some (.inr "java/lang/IllegalArgumentException", thr σ2))) else (sq (f_S_restart a1 x2 σ2) fun (a8 : Unit) σ9 => sq (f_S_itemsDue a1 σ9) fun (a13 : Int) σ14 => some (.inl a13, σ14)))
theorem c_H_begin {g : MG} {h : List MC} {σ : SS} {x1 : Int} {x2 : Int} (hl : g.1.stackTraces = false) (hW : Wd h σ) (r1 : rng x1) (r2 : rng x2) : Cw g M_H_begin 7 112 [mr 0, iI x1, iI x2] (gS2 rng gE) (fun Q => cS2 (cI1 Q) (cE1 Q)) h σ (f_H_begin x1 x2 σ) := by
  refine w_of (fun d w Q hF hL => ?_)
  unfold f_H_begin
  show Ew g none M_H_begin d w Q (gS2 rng gE) (cS2 (cI1 Q) (cE1 Q)) 0 [(0, mr 0), (1, iI x1), (2, iI x2)] [] h σ _
  refine w_aload_n d_H_begin_0 rfl rfl ?_
  refine w_iload_n d_H_begin_1 rfl rfl ?_
  refine w_xVP [iI x1] [] d_H_begin_2 me_H_slotAt l_H_87 rfl hW (c_H_slotAt hl hW r1) rfl rfl (Nat.le_of_ble_eq_true rfl) rfl (Nat.le_of_ble_eq_true rfl) (Nat.le_trans (Nat.le_of_ble_eq_true rfl) hF) (Nat.le_trans (Nat.le_of_ble_eq_true rfl) hL) ob0 ⟨_, _, rfl⟩ (fun a1 σ2 h3 W4 q5 => ?_)
  have ha1 : slt a1 := q5
  refine w_astore_n [(3, mr a1), (0, mr 0), (1, iI x1), (2, iI x2)] d_H_begin_5 rfl (by decide) rfl ?_
  refine w_iload_n d_H_begin_6 rfl rfl ?_
  refine w_if_lt 16 d_H_begin_7 (by decide) r2 (fun c6 => ?_) (fun c6 => ?_)
  · exact w_throw hl d_H_begin_16 d_H_begin_19 d_H_begin_20 d_H_begin_22 d_H_begin_25 tw_H_91 rfl (Nat.le_of_ble_eq_true rfl) (Nat.le_trans (Nat.le_of_ble_eq_true rfl) hF) (Nat.le_trans (Nat.le_of_ble_eq_true rfl) hL) W4 (fun _ _ _ k => k) True.intro
  · refine w_iload_n d_H_begin_10 rfl rfl ?_
    refine w_bipush d_H_begin_11 (by decide) ?_
    refine w_icmp_le 26 d_H_begin_13 (by decide) r2 (show rng 6 by decide) (fun c7 => ?_) (fun c7 => ?_)
    · exact w_throw hl d_H_begin_16 d_H_begin_19 d_H_begin_20 d_H_begin_22 d_H_begin_25 tw_H_91 rfl (Nat.le_of_ble_eq_true rfl) (Nat.le_trans (Nat.le_of_ble_eq_true rfl) hF) (Nat.le_trans (Nat.le_of_ble_eq_true rfl) hL) W4 (fun _ _ _ k => k) True.intro
    · refine w_aload_n d_H_begin_26 rfl rfl ?_
      refine w_iload_n d_H_begin_27 rfl rfl ?_
      refine w_cVU [iI x2] [] d_H_begin_28 me_S_restart l_H_93 W4 (c_S_restart W4 ha1 r2) rfl rfl (Nat.le_of_ble_eq_true rfl) rfl (Nat.le_of_ble_eq_true rfl) (Nat.le_trans (Nat.le_of_ble_eq_true rfl) hF) (Nat.le_trans (Nat.le_of_ble_eq_true rfl) hL) (slt_ob ha1) ⟨_, _, rfl⟩ (fun a8 σ9 h10 W11 q12 => ?_)
      refine w_aload_n d_H_begin_31 rfl rfl ?_
      refine w_cVI [] [] d_H_begin_32 me_S_itemsDue l_H_97 W11 (c_S_itemsDue W11 ha1) rfl rfl (Nat.le_of_ble_eq_true rfl) rfl (Nat.le_of_ble_eq_true rfl) (Nat.le_trans (Nat.le_of_ble_eq_true rfl) hF) (Nat.le_trans (Nat.le_of_ble_eq_true rfl) hL) (slt_ob ha1) ⟨_, _, rfl⟩ (fun a13 σ14 h15 W16 q17 => ?_)
      exact w_iret d_H_begin_35 rfl W16 (fun _ _ _ k => k) q17
def f_S_isBehindHole (p : Nat) (σ : SS) : Option (Int × SS) := if 0 < (σ.1 p 7) then (some (1, σ)) else (some (0, σ))
theorem c_S_isBehindHole {g : MG} {h : List MC} {σ : SS} {p : Nat} (hW : Wd h σ) (hp : slt p) : Cw g M_S_isBehindHole 0 0 [mr p] rng cI1 h σ (f_S_isBehindHole p σ) := by
  refine w_of (fun d w Q hF hL => ?_)
  unfold f_S_isBehindHole
  show Ew g none M_S_isBehindHole d w Q rng (cI1 Q) 0 [(0, mr p)] [] h σ _
  refine w_aload_n d_S_isBehindHole_0 rfl rfl ?_
  refine w_gi d_S_isBehindHole_1 f_S_32 hW (slt_i7 hp) ?_
  refine w_if_le 11 d_S_isBehindHole_4 (by decide) (hW.rf _ _) (fun c1 => ?_) (fun c1 => ?_)
  · refine w_iconst d_S_isBehindHole_7 ?_
    refine w_goto 12 d_S_isBehindHole_8 (by decide) ?_
    exact w_zret d_S_isBehindHole_12 rfl (by decide) hW (fun _ _ _ k => k) (show rng 1 by decide)
  · refine w_iconst d_S_isBehindHole_11 ?_
    exact w_zret d_S_isBehindHole_12 rfl (by decide) hW (fun _ _ _ k => k) (show rng 0 by decide)
def f_S_boundHere (p : Nat) (σ : SS) : Option (Int × SS) := sq (f_S_isBehindHole p σ) fun (a1 : Int) σ2 => if a1 = 0 then (ck (rng ((σ2.1 p 3) - 1)) (some ((gA σ2 (p + 1) 91 ((σ2.1 p 3) - 1)), σ2))) else (some ((σ2.1 p 9), σ2))
theorem c_S_boundHere {g : MG} {h : List MC} {σ : SS} {p : Nat} (hW : Wd h σ) (hp : slt p) : Cw g M_S_boundHere 1 21 [mr p] rng cI1 h σ (f_S_boundHere p σ) := by
  refine w_of (fun d w Q hF hL => ?_)
  unfold f_S_boundHere
  show Ew g none M_S_boundHere d w Q rng (cI1 Q) 0 [(0, mr p)] [] h σ _
  refine w_aload_n d_S_boundHere_0 rfl rfl ?_
  refine w_cVI [] [] d_S_boundHere_1 me_S_isBehindHole l_S_49 hW (c_S_isBehindHole hW hp) rfl rfl (Nat.le_of_ble_eq_true rfl) rfl (Nat.le_of_ble_eq_true rfl) (Nat.le_trans (Nat.le_of_ble_eq_true rfl) hF) (Nat.le_trans (Nat.le_of_ble_eq_true rfl) hL) (slt_ob hp) ⟨_, _, rfl⟩ (fun a1 σ2 h3 W4 q5 => ?_)
  refine w_if_eq 14 d_S_boundHere_4 (by decide) q5 (fun c6 => ?_) (fun c6 => ?_)
  · refine w_aload_n d_S_boundHere_14 rfl rfl ?_
    refine w_gr d_S_boundHere_15 f_S_9 W4 (slt_r2 hp) ?_
    refine w_aload_n d_S_boundHere_18 rfl rfl ?_
    refine w_gi d_S_boundHere_19 f_S_39 W4 (slt_i3 hp) ?_
    refine w_iconst d_S_boundHere_22 ?_
    refine w_isub d_S_boundHere_23 (fun c7 => ?_)
    refine w_at d_S_boundHere_24 l_S_56 W4 (slt_a1 hp) c7 (Nat.le_of_ble_eq_true rfl) (Nat.le_trans (Nat.le_of_ble_eq_true rfl) hF) (Nat.le_trans (Nat.le_of_ble_eq_true rfl) hL) ?_
    exact w_iret d_S_boundHere_27 rfl W4 (fun _ _ _ k => k) (W4.ga _ _ _)
  · refine w_aload_n d_S_boundHere_7 rfl rfl ?_
    refine w_gi d_S_boundHere_8 f_S_53 W4 (slt_i9 hp) ?_
    refine w_goto 27 d_S_boundHere_11 (by decide) ?_
    exact w_iret d_S_boundHere_27 rfl W4 (fun _ _ _ k => k) (W4.rf _ _)
def f_S_variablesHere (p : Nat) (σ : SS) : Option (Int × SS) := sq (f_S_boundHere p σ) fun (a1 : Int) σ2 => ck (rng ((σ.1 p 4) + a1)) (some (((σ.1 p 4) + a1), σ2))
theorem c_S_variablesHere {g : MG} {h : List MC} {σ : SS} {p : Nat} (hW : Wd h σ) (hp : slt p) : Cw g M_S_variablesHere 2 41 [mr p] rng cI1 h σ (f_S_variablesHere p σ) := by
  refine w_of (fun d w Q hF hL => ?_)
  unfold f_S_variablesHere
  show Ew g none M_S_variablesHere d w Q rng (cI1 Q) 0 [(0, mr p)] [] h σ _
  refine w_aload_n d_S_variablesHere_0 rfl rfl ?_
  refine w_gi d_S_variablesHere_1 f_S_23 hW (slt_i4 hp) ?_
  refine w_aload_n d_S_variablesHere_4 rfl rfl ?_
  refine w_cVI [] [iI (σ.1 p 4)] d_S_variablesHere_5 me_S_boundHere l_S_46 hW (c_S_boundHere hW hp) rfl rfl (Nat.le_of_ble_eq_true rfl) rfl (Nat.le_of_ble_eq_true rfl) (Nat.le_trans (Nat.le_of_ble_eq_true rfl) hF) (Nat.le_trans (Nat.le_of_ble_eq_true rfl) hL) (slt_ob hp) ⟨_, _, rfl⟩ (fun a1 σ2 h3 W4 q5 => ?_)
  refine w_iadd d_S_variablesHere_8 (fun c6 => ?_)
  exact w_iret d_S_variablesHere_9 rfl W4 (fun _ _ _ k => k) c6
def l_S_mayTakeVariable_28 (fu : Nat) (p : Nat) : Nat → Int → Int → SS → Option ((Int ⊕ (Unit)) × SS)
  | 0, _, _, _ => none
  | n + 1, x1, x2, σ => if x2 < (σ.1 p 5) then (ck (rng ((σ.1 p 1) + x2)) (sq (f_C_codeAt ((σ.1 p 1) + x2) σ) fun (a3 : Int) σ4 => if (a3 / 4) = x1 then (some (.inl 0, σ4)) else (ck (rng (x2 + 1)) (l_S_mayTakeVariable_28 fu p n x1 (x2 + 1) σ4)))) else (some (.inr (), σ))
def f_S_mayTakeVariable (fu : Nat) (p : Nat) (x1 : Int) (σ : SS) : Option (Int × SS) := if x1 < 0 then (some (0, σ)) else (sq (f_S_variablesHere p σ) fun (a2 : Int) σ3 => if x1 < a2 then (sq (f_S_isBehindHole p σ3) fun (a8 : Int) σ9 => if a8 = 0 then (some (1, σ9)) else (lb (σ9.1 p 8) fun y14 => sr (l_S_mayTakeVariable_28 fu p fu x1 y14 σ9) fun (z16 : Unit) σ17 => some (1, σ17))) else (some (0, σ3)))
theorem w_S_mayTakeVariable_28 {g : MG} {d w fu : Nat} {Q : MO → List MC → Prop} {p : Nat} (hF : 3 ≤ d) (hL : 61 ≤ w) (hp : slt p) : ∀ (n : Nat) (x1 : Int) (x2 : Int) (σ : SS) (h : List MC), Wd h σ → rng x1 → rng x2 → Ew g none M_S_mayTakeVariable d w Q (gS2 rng gU) (cS2 (cI1 Q) (cJ g none M_S_mayTakeVariable d w Q 64 (fun x => []) (fun x => []))) 28 [(0, mr p), (1, iI x1), (2, iI x2)] [] h σ (l_S_mayTakeVariable_28 fu p n x1 x2 σ) := by
  intro n
  induction n with
  | zero =>
    intro x1 x2 σ h hW r1 r2 a9 σ9 hm
    rw [l_S_mayTakeVariable_28] at hm
    cases hm
  | succ n ih =>
    intro x1 x2 σ h hW r1 r2
    rw [l_S_mayTakeVariable_28]
    refine w_iload_n d_S_mayTakeVariable_28 rfl rfl ?_
    refine w_aload_n d_S_mayTakeVariable_29 rfl rfl ?_
    refine w_gi d_S_mayTakeVariable_30 f_S_26 hW (slt_i5 hp) ?_
    refine w_icmp_ge 64 d_S_mayTakeVariable_33 (by decide) r2 (hW.rf _ _) (fun c1 => ?_) (fun c1 => ?_)
    · refine w_aload_n d_S_mayTakeVariable_36 rfl rfl ?_
      refine w_gr d_S_mayTakeVariable_37 f_S_15 hW (slt_r0 hp) ?_
      refine w_aload_n d_S_mayTakeVariable_40 rfl rfl ?_
      refine w_gi d_S_mayTakeVariable_41 f_S_19 hW (slt_i1 hp) ?_
      refine w_iload_n d_S_mayTakeVariable_44 rfl rfl ?_
      refine w_iadd d_S_mayTakeVariable_45 (fun c2 => ?_)
      refine w_cVI [iI ((σ.1 p 1) + x2)] [] d_S_mayTakeVariable_46 me_C_codeAt l_S_66 hW (c_C_codeAt hW c2) rfl rfl (Nat.le_of_ble_eq_true rfl) rfl (Nat.le_of_ble_eq_true rfl) (Nat.le_trans (Nat.le_of_ble_eq_true rfl) hF) (Nat.le_trans (Nat.le_of_ble_eq_true rfl) hL) ob1 ⟨_, _, rfl⟩ (fun a3 σ4 h5 W6 q7 => ?_)
      refine w_H_numberOf d_S_mayTakeVariable_49 l_S_72 q7 (Nat.le_of_ble_eq_true rfl) (Nat.le_trans (Nat.le_of_ble_eq_true rfl) hF) (Nat.le_trans (Nat.le_of_ble_eq_true rfl) hL) ?_
      refine w_iload_n d_S_mayTakeVariable_52 rfl rfl ?_
      refine w_icmp_ne 58 d_S_mayTakeVariable_53 (by decide) (rng4 q7) r1 (fun c8 => ?_) (fun c8 => ?_)
      · refine w_iconst d_S_mayTakeVariable_56 ?_
        exact w_zret d_S_mayTakeVariable_57 rfl (by decide) W6 (fun _ _ _ k => k) (show rng 0 by decide)
      · refine w_iinc [(2, iI (x2 + 1)), (0, mr p), (1, iI x1)] d_S_mayTakeVariable_58 rfl (by decide) rfl (fun c9 => ?_)
        refine w_goto 28 d_S_mayTakeVariable_61 (by decide) ?_
        exact w_sub (m_sc2 rfl (m_sc2 rfl (m_sc2 rfl (m_sn _)))) (ih x1 (x2 + 1) _ _ W6 r1 c9)
    · exact w_exit [] (m_sn _) hW (fun _ _ _ k => k) True.intro
theorem c_S_mayTakeVariable {g : MG} {fu : Nat} {h : List MC} {σ : SS} {p : Nat} {x1 : Int} (hW : Wd h σ) (hp : slt p) (r1 : rng x1) : Cw g M_S_mayTakeVariable 3 61 [mr p, iI x1] rng cI1 h σ (f_S_mayTakeVariable fu p x1 σ) := by
  refine w_of (fun d w Q hF hL => ?_)
  unfold f_S_mayTakeVariable
  show Ew g none M_S_mayTakeVariable d w Q rng (cI1 Q) 0 [(0, mr p), (1, iI x1)] [] h σ _
  refine w_iload_n d_S_mayTakeVariable_0 rfl rfl ?_
  refine w_if_lt 12 d_S_mayTakeVariable_1 (by decide) r1 (fun c1 => ?_) (fun c1 => ?_)
  · refine w_iconst d_S_mayTakeVariable_12 ?_
    exact w_zret d_S_mayTakeVariable_13 rfl (by decide) hW (fun _ _ _ k => k) (show rng 0 by decide)
  · refine w_iload_n d_S_mayTakeVariable_4 rfl rfl ?_
    refine w_aload_n d_S_mayTakeVariable_5 rfl rfl ?_
    refine w_cVI [] [iI x1] d_S_mayTakeVariable_6 me_S_variablesHere l_S_60 hW (c_S_variablesHere hW hp) rfl rfl (Nat.le_of_ble_eq_true rfl) rfl (Nat.le_of_ble_eq_true rfl) (Nat.le_trans (Nat.le_of_ble_eq_true rfl) hF) (Nat.le_trans (Nat.le_of_ble_eq_true rfl) hL) (slt_ob hp) ⟨_, _, rfl⟩ (fun a2 σ3 h4 W5 q6 => ?_)
    refine w_icmp_lt 14 d_S_mayTakeVariable_9 (by decide) r1 q6 (fun c7 => ?_) (fun c7 => ?_)
    · refine w_aload_n d_S_mayTakeVariable_14 rfl rfl ?_
      refine w_cVI [] [] d_S_mayTakeVariable_15 me_S_isBehindHole l_S_49 W5 (c_S_isBehindHole W5 hp) rfl rfl (Nat.le_of_ble_eq_true rfl) rfl (Nat.le_of_ble_eq_true rfl) (Nat.le_trans (Nat.le_of_ble_eq_true rfl) hF) (Nat.le_trans (Nat.le_of_ble_eq_true rfl) hL) (slt_ob hp) ⟨_, _, rfl⟩ (fun a8 σ9 h10 W11 q12 => ?_)
      refine w_if_ne 23 d_S_mayTakeVariable_18 (by decide) q12 (fun c13 => ?_) (fun c13 => ?_)
      · refine w_iconst d_S_mayTakeVariable_21 ?_
        exact w_zret d_S_mayTakeVariable_22 rfl (by decide) W11 (fun _ _ _ k => k) (show rng 1 by decide)
      · refine w_aload_n d_S_mayTakeVariable_23 rfl rfl ?_
        refine w_gi d_S_mayTakeVariable_24 f_S_63 W11 (slt_i8 hp) ?_
        refine w_top (fun y14 e15 => ?_)
        have ry14 : rng y14 := e15 ▸ (W11.rf _ _)
        refine w_istore_n [(2, iI y14), (0, mr p), (1, iI x1)] d_S_mayTakeVariable_27 rfl (by decide) rfl ?_
        refine w_sr (G1 := gU) (J := 64) (lvJ := fun x => []) (stJ := fun x => []) (w_sub (m_sc2 rfl (m_sc2 rfl (m_sc2 rfl (m_sn _)))) (w_S_mayTakeVariable_28 hF hL hp fu x1 y14 _ _ W11 r1 ry14)) (fun z16 σ17 h18 W19 q20 => ?_)
        show Ew _ _ _ _ _ _ _ _ 64 [] [] _ _ _
        refine w_iconst d_S_mayTakeVariable_64 ?_
        exact w_zret d_S_mayTakeVariable_65 rfl (by decide) W19 (fun _ _ _ k => k) (show rng 1 by decide)
    · refine w_iconst d_S_mayTakeVariable_12 ?_
      exact w_zret d_S_mayTakeVariable_13 rfl (by decide) W5 (fun _ _ _ k => k) (show rng 0 by decide)
def f_H_mayStand (fu : Nat) (q : Nat) (x2 : Int) (x3 : Int) (σ : SS) : Option (Int × SS) := if x2 = 0 then (sq (f_S_mayTakeVariable fu q x3 σ) fun (a2 : Int) σ3 => ck (a2 = 0 ∨ a2 = 1) (some (a2, σ3))) else if x2 = 1 then (sq (f_S_isBehindHole q σ) fun (a9 : Int) σ10 => if a9 = 0 then (if x3 < 0 then (some (0, σ10)) else (if x3 < (σ10.1 4 2) then (some (1, σ10)) else (some (0, σ10)))) else (some (0, σ10))) else if x2 = 2 then (sq (f_S_isBehindHole q σ) fun (a18 : Int) σ19 => if a18 = 0 then (if x3 < 0 then (some (0, σ19)) else (if x3 < (σ19.1 7 6) then (some (1, σ19)) else (some (0, σ19)))) else (some (0, σ19))) else (some (0, σ))
theorem c_H_mayStand {g : MG} {fu : Nat} {h : List MC} {σ : SS} {q : Nat} {x2 : Int} {x3 : Int} (hW : Wd h σ) (hq : slt q) (r2 : rng x2) (r3 : rng x3) : Cw g M_H_mayStand 4 83 [mr 0, mr q, iI x2, iI x3] rng cI1 h σ (f_H_mayStand fu q x2 x3 σ) := by
  refine w_of (fun d w Q hF hL => ?_)
  unfold f_H_mayStand
  show Ew g none M_H_mayStand d w Q rng (cI1 Q) 0 [(0, mr 0), (1, mr q), (2, iI x2), (3, iI x3)] [] h σ _
  refine w_iload_n d_H_mayStand_0 rfl rfl ?_
  refine w_both (fun c1 => ?_) (fun c1 => ?_)
  · refine w_val c1 ?_
    refine w_step (fun _ _ k => e_tableIn (off := 27) (tgt := 28) d_H_mayStand_1 (by decide) (by decide) (by decide) (by decide) k) ?_
    refine w_aload_n d_H_mayStand_28 rfl rfl ?_
    refine w_iload_n d_H_mayStand_29 rfl rfl ?_
    refine w_cVI [iI x3] [] d_H_mayStand_30 me_S_mayTakeVariable l_H_213 hW (c_S_mayTakeVariable hW hq r3) rfl rfl (Nat.le_of_ble_eq_true rfl) rfl (Nat.le_of_ble_eq_true rfl) (Nat.le_trans (Nat.le_of_ble_eq_true rfl) hF) (Nat.le_trans (Nat.le_of_ble_eq_true rfl) hL) (slt_ob hq) ⟨_, _, rfl⟩ (fun a2 σ3 h4 W5 q6 => ?_)
    refine w_ck (fun b7 => ?_)
    exact w_zret d_H_mayStand_33 rfl b7 W5 (fun _ _ _ k => k) q6
  ·
    refine w_both (fun c8 => ?_) (fun c8 => ?_)
    · refine w_val c8 ?_
      refine w_step (fun _ _ k => e_tableIn (off := 33) (tgt := 34) d_H_mayStand_1 (by decide) (by decide) (by decide) (by decide) k) ?_
      refine w_aload_n d_H_mayStand_34 rfl rfl ?_
      refine w_cVI [] [] d_H_mayStand_35 me_S_isBehindHole l_H_216 hW (c_S_isBehindHole hW hq) rfl rfl (Nat.le_of_ble_eq_true rfl) rfl (Nat.le_of_ble_eq_true rfl) (Nat.le_trans (Nat.le_of_ble_eq_true rfl) hF) (Nat.le_trans (Nat.le_of_ble_eq_true rfl) hL) (slt_ob hq) ⟨_, _, rfl⟩ (fun a9 σ10 h11 W12 q13 => ?_)
      refine w_if_ne 60 d_H_mayStand_38 (by decide) q13 (fun c14 => ?_) (fun c14 => ?_)
      · refine w_iload_n d_H_mayStand_41 rfl rfl ?_
        refine w_if_lt 60 d_H_mayStand_42 (by decide) r3 (fun c15 => ?_) (fun c15 => ?_)
        · refine w_iconst d_H_mayStand_60 ?_
          exact w_zret d_H_mayStand_61 rfl (by decide) W12 (fun _ _ _ k => k) (show rng 0 by decide)
        · refine w_iload_n d_H_mayStand_45 rfl rfl ?_
          refine w_aload_n d_H_mayStand_46 rfl rfl ?_
          refine w_gr d_H_mayStand_47 f_H_15 W12 or0_0 ?_
          refine w_gi d_H_mayStand_50 f_H_207 W12 oi4_2 ?_
          refine w_icmp_ge 60 d_H_mayStand_53 (by decide) r3 (W12.rf _ _) (fun c16 => ?_) (fun c16 => ?_)
          · refine w_iconst d_H_mayStand_56 ?_
            refine w_goto 61 d_H_mayStand_57 (by decide) ?_
            exact w_zret d_H_mayStand_61 rfl (by decide) W12 (fun _ _ _ k => k) (show rng 1 by decide)
          · refine w_iconst d_H_mayStand_60 ?_
            exact w_zret d_H_mayStand_61 rfl (by decide) W12 (fun _ _ _ k => k) (show rng 0 by decide)
      · refine w_iconst d_H_mayStand_60 ?_
        exact w_zret d_H_mayStand_61 rfl (by decide) W12 (fun _ _ _ k => k) (show rng 0 by decide)
    ·
      refine w_both (fun c17 => ?_) (fun c17 => ?_)
      · refine w_val c17 ?_
        refine w_step (fun _ _ k => e_tableIn (off := 61) (tgt := 62) d_H_mayStand_1 (by decide) (by decide) (by decide) (by decide) k) ?_
        refine w_aload_n d_H_mayStand_62 rfl rfl ?_
        refine w_cVI [] [] d_H_mayStand_63 me_S_isBehindHole l_H_216 hW (c_S_isBehindHole hW hq) rfl rfl (Nat.le_of_ble_eq_true rfl) rfl (Nat.le_of_ble_eq_true rfl) (Nat.le_trans (Nat.le_of_ble_eq_true rfl) hF) (Nat.le_trans (Nat.le_of_ble_eq_true rfl) hL) (slt_ob hq) ⟨_, _, rfl⟩ (fun a18 σ19 h20 W21 q22 => ?_)
        refine w_if_ne 88 d_H_mayStand_66 (by decide) q22 (fun c23 => ?_) (fun c23 => ?_)
        · refine w_iload_n d_H_mayStand_69 rfl rfl ?_
          refine w_if_lt 88 d_H_mayStand_70 (by decide) r3 (fun c24 => ?_) (fun c24 => ?_)
          · refine w_iconst d_H_mayStand_88 ?_
            exact w_zret d_H_mayStand_89 rfl (by decide) W21 (fun _ _ _ k => k) (show rng 0 by decide)
          · refine w_iload_n d_H_mayStand_73 rfl rfl ?_
            refine w_aload_n d_H_mayStand_74 rfl rfl ?_
            refine w_gr d_H_mayStand_75 f_H_24 W21 or0_1 ?_
            refine w_gi d_H_mayStand_78 f_H_204 W21 oi7_6 ?_
            refine w_icmp_ge 88 d_H_mayStand_81 (by decide) r3 (W21.rf _ _) (fun c25 => ?_) (fun c25 => ?_)
            · refine w_iconst d_H_mayStand_84 ?_
              refine w_goto 89 d_H_mayStand_85 (by decide) ?_
              exact w_zret d_H_mayStand_89 rfl (by decide) W21 (fun _ _ _ k => k) (show rng 1 by decide)
            · refine w_iconst d_H_mayStand_88 ?_
              exact w_zret d_H_mayStand_89 rfl (by decide) W21 (fun _ _ _ k => k) (show rng 0 by decide)
        · refine w_iconst d_H_mayStand_88 ?_
          exact w_zret d_H_mayStand_89 rfl (by decide) W21 (fun _ _ _ k => k) (show rng 0 by decide)
      ·
        refine w_step (fun _ _ k => e_tableOut (tgt := 90) d_H_mayStand_1 (by rw [iv_toInt r2]; omega) (by decide) k) ?_
        refine w_iconst d_H_mayStand_90 ?_
        exact w_zret d_H_mayStand_91 rfl (by decide) hW (fun _ _ _ k => k) (show rng 0 by decide)
