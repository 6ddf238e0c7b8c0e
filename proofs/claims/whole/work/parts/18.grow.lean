/-! THE ARRAYS THAT GROW, in the store -/
theorem lyf_a {a b c n m : Nat} (hg : gd a b c) : lyf a b c n m a = some (LI n 2) := by
  obtain ⟨⟨a1, a2, a3⟩, -, -, -, -, -⟩ := hg
  unfold lyf
  rw [if_neg a1, if_neg a2, if_pos rfl]
theorem lyf_b {a b c n m : Nat} (hg : gd a b c) : lyf a b c n m b = some (LI n 3) := by
  obtain ⟨-, ⟨a1, a2, a3⟩, -, h1, -, -⟩ := hg
  unfold lyf
  rw [if_neg a1, if_neg a2, if_neg (fun z => h1 z.symm), if_pos rfl]
theorem lyf_c {a b c n m : Nat} (hg : gd a b c) : lyf a b c n m c = some (LI m 52) := by
  obtain ⟨-, -, ⟨a1, a2, a3⟩, -, h1, h2⟩ := hg
  unfold lyf
  rw [if_neg a1, if_neg a2, if_neg (fun z => h1 z.symm), if_neg (fun z => h2 z.symm), if_pos rfl]
theorem Rep.long {a b c n m : Nat} {h : List MC} {σ : SS} (hg : gd a b c) (hR : Rep (lyf a b c n m) h σ) : 85 < h.length := (List.getElem?_eq_some_iff.mp (hR.at 85 _ (lyf_tb hg (show tb 85 = some (.inr (.inr (.inr ()))) from rfl)))).1
theorem tb_big {p : Nat} (h : 86 ≤ p) : tb p = none := by
  unfold tb
  rw [List.getElem?_eq_none (by show 86 ≤ p; omega)]
  rfl
def gw (σ : SS) : SS := (fun a b => if a = 1 ∧ b = 99 then 2 * σ.1 1 99 else σ.1 a b, (fun a i => if (a = 2 ∨ a = 3) ∧ ¬ (0 ≤ i ∧ i < σ.1 1 99) then 0 else σ.2.1 a i), σ.2.2)
def gv (σ : SS) : SS := (fun a b => if a = 51 ∧ b = 99 then 2 * σ.1 51 99 else σ.1 a b, (fun a i => if a = 52 ∧ ¬ (0 ≤ i ∧ i < σ.1 51 99) then 0 else σ.2.1 a i), σ.2.2)
theorem gw_f {σ : SS} {a b : Nat} (h : ¬ (a = 1 ∧ b = 99)) : (gw σ).1 a b = σ.1 a b := by unfold gw; dsimp only; rw [if_neg h]
theorem gw_g (σ : SS) : (gw σ).1 1 99 = 2 * σ.1 1 99 := rfl
theorem gv_f {σ : SS} {a b : Nat} (h : ¬ (a = 51 ∧ b = 99)) : (gv σ).1 a b = σ.1 a b := by unfold gv; dsimp only; rw [if_neg h]
theorem gv_g (σ : SS) : (gv σ).1 51 99 = 2 * σ.1 51 99 := rfl
theorem gw_a {σ : SS} {a : Nat} (i : Int) (h : a ≠ 2 ∧ a ≠ 3) : (gw σ).2.1 a i = σ.2.1 a i := by unfold gw; dsimp only; rw [if_neg (fun z => by omega)]
theorem gv_a {σ : SS} {a : Nat} (i : Int) (h : a ≠ 52) : (gv σ).2.1 a i = σ.2.1 a i := by unfold gv; dsimp only; rw [if_neg (fun z => by omega)]
theorem Rep.grow {a b c n m : Nat} {h : List MC} {σ : SS} {X Y Z : MC} (hg : gd a b c) (hR : Rep (lyf a b c n m) h σ) (hn : (n : Int) = σ.1 1 99) (hrg : rng (2 * σ.1 1 99)) (hX : X = cI (2 * n) (fun j => if j < n then iv (σ.2.1 2 j) else 0)) (hZ : Z = cI (2 * n) (fun j => if j < n then iv (σ.2.1 3 j) else 0)) :
    gd h.length (h.length + 1) c ∧ Rep (lyf h.length (h.length + 1) c (2 * n) m) ((((h ++ [X]).set 1 Y) ++ [Z]).set 1 (cO 1 [mr h.length, mr (h.length + 1), iI (σ.1 1 2)])) (gw σ) := by
  have hl := hR.long hg
  have hc : c < h.length := (List.getElem?_eq_some_iff.mp (hR.at c _ (lyf_c hg))).1
  have hg' : gd h.length (h.length + 1) c := ⟨⟨by omega, by omega, tb_big (by omega)⟩, ⟨by omega, by omega, tb_big (by omega)⟩, hg.2.2.1, by omega, by omega, by omega⟩
  have hlen : (h ++ [X]).length = h.length + 1 := by rw [List.length_append]; rfl
  have get : ∀ q, q < h.length → q ≠ 1 → ((((h ++ [X]).set 1 Y) ++ [Z]).set 1 (cO 1 [mr h.length, mr (h.length + 1), iI (σ.1 1 2)]))[q]? = h[q]? := by
    intro q h1 h2
    rw [List.getElem?_set_ne (fun z => h2 z.symm), List.getElem?_append_left (by rw [List.length_set, hlen]; omega), List.getElem?_set_ne (fun z => h2 z.symm), List.getElem?_append_left h1]
  have tbs : ∀ (q : Nat) (c9 : LC), tb q = some c9 → s_c (gw σ) q c9 = s_c σ q c9 := by
    intro q c9 hq
    have q1 : q ≠ 1 := by intro z; rw [z, tb1] at hq; cases hq
    rcases c9 with ⟨t, n9, i⟩ | ⟨cj, n9, f⟩ | ⟨cj, l⟩ | u
    · have h3 := tb_id hq
      show (Sum.inl (t, n9, fun j : Nat => iv ((gw σ).2.1 i j)) : MC) = Sum.inl (t, n9, fun j : Nat => iv (σ.2.1 i j))
      have e : (fun j : Nat => iv ((gw σ).2.1 i j)) = fun j : Nat => iv (σ.2.1 i j) := by
        funext j
        rw [gw_a _ (by omega)]
      rw [e]
    · rfl
    · exact congrArg (fun z => cO cj z) (s_f_eq l 0 (fun j _ => gw_f (fun z => q1 z.1)))
    · rfl
  refine ⟨hg', fun q c9 hq => ?_, ⟨fun p k => ?_, fun p i => ?_⟩, lyf_inj hg'⟩
  · unfold lyf at hq
    split at hq
    · rename_i e
      cases hq
      rw [e, List.getElem?_set_self (by rw [List.length_append, List.length_set, hlen]; omega)]
      show some (cO 1 [mr h.length, mr (h.length + 1), iI (σ.1 1 2)]) = some (cO 1 [mr h.length, mr (h.length + 1), iI ((gw σ).1 1 2)])
      rw [gw_f (by decide)]
    · rename_i n1
      split at hq
      · rename_i e
        cases hq
        rw [e, get 51 (by omega) (by decide), hR.at 51 (LO 5 [some (some c), nu, nu, some (some 53), some (some 54)]) rfl]
        exact congrArg (fun z => some (cO 5 z)) (s_f_eq _ 0 (fun j _ => (gw_f (fun z => by omega)).symm))
      · split at hq
        · rename_i e
          cases hq
          rw [e, List.getElem?_set_ne (by omega), List.getElem?_append_left (by rw [List.length_set, hlen]; omega), List.getElem?_set_ne (by omega), List.getElem?_append_right (Nat.le_refl _), Nat.sub_self, hX]
          show some (cI (2 * n) _) = some (cI (2 * n) fun j : Nat => iv ((gw σ).2.1 2 j))
          congr 3
          funext j
          show _ = iv (if (2 = 2 ∨ 2 = 3) ∧ ¬ (0 ≤ (j : Int) ∧ (j : Int) < σ.1 1 99) then 0 else σ.2.1 2 j)
          by_cases cj : j < n
          · rw [if_pos cj, if_neg (fun z => z.2 ⟨by omega, by omega⟩)]
          · rw [if_neg cj, if_pos ⟨Or.inl rfl, fun z => cj (by omega)⟩]
            rfl
        · split at hq
          · rename_i e
            cases hq
            rw [e, List.getElem?_set_ne (by omega), List.getElem?_append_right (by rw [List.length_set, hlen]; exact Nat.le_refl _), List.length_set, hlen, Nat.sub_self, hZ]
            show some (cI (2 * n) _) = some (cI (2 * n) fun j : Nat => iv ((gw σ).2.1 3 j))
            congr 3
            funext j
            show _ = iv (if (3 = 2 ∨ 3 = 3) ∧ ¬ (0 ≤ (j : Int) ∧ (j : Int) < σ.1 1 99) then 0 else σ.2.1 3 j)
            by_cases cj : j < n
            · rw [if_pos cj, if_neg (fun z => z.2 ⟨by omega, by omega⟩)]
            · rw [if_neg cj, if_pos ⟨Or.inr rfl, fun z => cj (by omega)⟩]
              rfl
          · split at hq
            · rename_i e
              cases hq
              rw [e, get c hc hg.2.2.1.1, hR.at c _ (lyf_c hg)]
              show some (cI m fun j : Nat => iv (σ.2.1 52 j)) = some (cI m fun j : Nat => iv ((gw σ).2.1 52 j))
              congr 3
            · rw [get q (List.getElem?_eq_some_iff.mp (hR.at q _ (lyf_tb hg hq))).1 n1, hR.at q _ (lyf_tb hg hq), tbs q c9 hq]
  · show rng (if p = 1 ∧ k = 99 then 2 * σ.1 1 99 else σ.1 p k)
    split
    · exact hrg
    · exact hR.rf p k
  · show rng (if (p = 2 ∨ p = 3) ∧ ¬ (0 ≤ i ∧ i < σ.1 1 99) then 0 else σ.2.1 p i)
    split
    · omega
    · exact hR.ra p i
theorem Rep.growR {a b c n m : Nat} {h : List MC} {σ : SS} {X : MC} (hg : gd a b c) (hR : Rep (lyf a b c n m) h σ) (hn : (m : Int) = σ.1 51 99) (hrg : rng (2 * σ.1 51 99)) (hX : X = cI (2 * m) (fun j => if j < m then iv (σ.2.1 52 j) else 0)) :
    gd a b h.length ∧ Rep (lyf a b h.length n (2 * m)) ((h ++ [X]).set 51 (cO 5 [mr h.length, iI (σ.1 51 1), iI (σ.1 51 2), mr 53, mr 54])) (gv σ) := by
  have hl := hR.long hg
  have ha : a < h.length := (List.getElem?_eq_some_iff.mp (hR.at a _ (lyf_a hg))).1
  have hb : b < h.length := (List.getElem?_eq_some_iff.mp (hR.at b _ (lyf_b hg))).1
  have hg' : gd a b h.length := ⟨hg.1, hg.2.1, ⟨by omega, by omega, tb_big (by omega)⟩, hg.2.2.2.1, by omega, by omega⟩
  have hlen : (h ++ [X]).length = h.length + 1 := by rw [List.length_append]; rfl
  have get : ∀ q, q < h.length → q ≠ 51 → ((h ++ [X]).set 51 (cO 5 [mr h.length, iI (σ.1 51 1), iI (σ.1 51 2), mr 53, mr 54]))[q]? = h[q]? := by
    intro q h1 h2
    rw [List.getElem?_set_ne (fun z => h2 z.symm), List.getElem?_append_left h1]
  have tbs : ∀ (q : Nat) (c9 : LC), tb q = some c9 → s_c (gv σ) q c9 = s_c σ q c9 := by
    intro q c9 hq
    have q1 : q ≠ 51 := by intro z; rw [z, tb51] at hq; cases hq
    rcases c9 with ⟨t, n9, i⟩ | ⟨cj, n9, f⟩ | ⟨cj, l⟩ | u
    · have h3 := tb_id hq
      show (Sum.inl (t, n9, fun j : Nat => iv ((gv σ).2.1 i j)) : MC) = Sum.inl (t, n9, fun j : Nat => iv (σ.2.1 i j))
      have e : (fun j : Nat => iv ((gv σ).2.1 i j)) = fun j : Nat => iv (σ.2.1 i j) := by
        funext j
        rw [gv_a _ (by omega)]
      rw [e]
    · rfl
    · exact congrArg (fun z => cO cj z) (s_f_eq l 0 (fun j _ => gv_f (fun z => q1 z.1)))
    · rfl
  refine ⟨hg', fun q c9 hq => ?_, ⟨fun p k => ?_, fun p i => ?_⟩, lyf_inj hg'⟩
  · unfold lyf at hq
    split at hq
    · rename_i e
      cases hq
      rw [e, get 1 (by omega) (by decide), hR.at 1 (LO 1 [some (some a), some (some b), nu]) rfl]
      exact congrArg (fun z => some (cO 1 z)) (s_f_eq _ 0 (fun j _ => (gv_f (fun z => by omega)).symm))
    · split at hq
      · rename_i e
        cases hq
        rw [e, List.getElem?_set_self (by rw [hlen]; omega)]
        show some (cO 5 [mr h.length, iI (σ.1 51 1), iI (σ.1 51 2), mr 53, mr 54]) = some (cO 5 [mr h.length, iI ((gv σ).1 51 1), iI ((gv σ).1 51 2), mr 53, mr 54])
        rw [gv_f (by decide), gv_f (by decide)]
      · rename_i n51
        split at hq
        · rename_i e
          cases hq
          rw [e, get a ha hg.1.2.1, hR.at a _ (lyf_a hg)]
          show some (cI n fun j : Nat => iv (σ.2.1 2 j)) = some (cI n fun j : Nat => iv ((gv σ).2.1 2 j))
          congr 3
        · split at hq
          · rename_i e
            cases hq
            rw [e, get b hb hg.2.1.2.1, hR.at b _ (lyf_b hg)]
            show some (cI n fun j : Nat => iv (σ.2.1 3 j)) = some (cI n fun j : Nat => iv ((gv σ).2.1 3 j))
            congr 3
          · split at hq
            · rename_i e
              cases hq
              rw [e, List.getElem?_set_ne (by omega), List.getElem?_append_right (Nat.le_refl _), Nat.sub_self, hX]
              show some (cI (2 * m) _) = some (cI (2 * m) fun j : Nat => iv ((gv σ).2.1 52 j))
              congr 3
              funext j
              show _ = iv (if 52 = 52 ∧ ¬ (0 ≤ (j : Int) ∧ (j : Int) < σ.1 51 99) then 0 else σ.2.1 52 j)
              by_cases cj : j < m
              · rw [if_pos cj, if_neg (fun z => z.2 ⟨by omega, by omega⟩)]
              · rw [if_neg cj, if_pos ⟨rfl, fun z => cj (by omega)⟩]
                rfl
            · rw [get q (List.getElem?_eq_some_iff.mp (hR.at q _ (lyf_tb hg hq))).1 n51, hR.at q _ (lyf_tb hg hq), tbs q c9 hq]
  · show rng (if p = 51 ∧ k = 99 then 2 * σ.1 51 99 else σ.1 p k)
    split
    · exact hrg
    · exact hR.rf p k
  · show rng (if p = 52 ∧ ¬ (0 ≤ i ∧ i < σ.1 51 99) then 0 else σ.2.1 p i)
    split
    · omega
    · exact hR.ra p i
/-! the four small methods of the cells; the reader's row -/
def cA (σ : SS) (i : Int) : Int := gA σ 2 (σ.1 1 99).toNat i
def cB (σ : SS) (i : Int) : Int := gA σ 3 (σ.1 1 99).toNat i
theorem Wd.ca {h : List MC} {σ : SS} (hW : Wd h σ) (i : Int) : rng (cA σ i) := hW.ga _ _ _
theorem Wd.cb {h : List MC} {σ : SS} (hW : Wd h σ) (i : Int) : rng (cB σ i) := hW.ga _ _ _
theorem toNat_lt {x : Int} (h : rng x) : x.toNat < 2147483648 := by omega
theorem c_C_codeAt {g : MG} {h : List MC} {σ : SS} {i : Int} (hW : Wd h σ) (hi : rng i) : Cw g M_C_codeAt 1 21 [mr 1, iI i] rng cI1 h σ (some (cA σ i, σ)) := by
  refine w_of (fun d w Q hF hL => ?_)
  intro a9 σ9 hm
  cases hm
  refine ⟨⟨h, hW⟩, Nat.le_refl _, hW.ca i, fun mc ms hc => ?_⟩
  have hh := hc h hW
  obtain ⟨-, a, b, c, hg, hR⟩ := hW
  have hr := toNat_lt (hR.rf 1 99)
  show Ev g none M_C_codeAt d w 0 [(0, mr 1), (1, iI i)] [] h _ _ Q
  refine e_aload_n d_C_codeAt_0 rfl rfl ?_
  refine z_gr d_C_codeAt_1 f_C_9 hR (show lyf a b c _ _ 1 = some (LO 1 [rf a, rf b, nu]) from rfl) rfl ?_
  refine e_iload_n d_C_codeAt_4 rfl rfl ?_
  refine z_invS (mc1 := 0) (ms1 := 0) (mc2 := 0) (ms2 := 0) (st' := []) (av := [mr a, iI i]) d_C_codeAt_5 me_H_at l_C_22 (c_H_at hR (lyf_a hg) hr hi) rfl rfl (Nat.le_of_ble_eq_true rfl) rfl (Nat.le_of_ble_eq_true rfl) hF hL (by omega) (by omega) (fun r h9 hP => ?_) (fun E h9 hE => hE.elim)
  obtain ⟨rfl, rfl⟩ := hP
  exact z_iret d_C_codeAt_8 rfl hh
theorem c_C_boundAt {g : MG} {h : List MC} {σ : SS} {i : Int} (hW : Wd h σ) (hi : rng i) : Cw g M_C_boundAt 1 21 [mr 1, iI i] rng cI1 h σ (some (cB σ i, σ)) := by
  refine w_of (fun d w Q hF hL => ?_)
  intro a9 σ9 hm
  cases hm
  refine ⟨⟨h, hW⟩, Nat.le_refl _, hW.cb i, fun mc ms hc => ?_⟩
  have hh := hc h hW
  obtain ⟨-, a, b, c, hg, hR⟩ := hW
  have hr := toNat_lt (hR.rf 1 99)
  show Ev g none M_C_boundAt d w 0 [(0, mr 1), (1, iI i)] [] h _ _ Q
  refine e_aload_n d_C_boundAt_0 rfl rfl ?_
  refine z_gr d_C_boundAt_1 f_C_15 hR (show lyf a b c _ _ 1 = some (LO 1 [rf a, rf b, nu]) from rfl) rfl ?_
  refine e_iload_n d_C_boundAt_4 rfl rfl ?_
  refine z_invS (mc1 := 0) (ms1 := 0) (mc2 := 0) (ms2 := 0) (st' := []) (av := [mr b, iI i]) d_C_boundAt_5 me_H_at l_C_22 (c_H_at hR (lyf_b hg) hr hi) rfl rfl (Nat.le_of_ble_eq_true rfl) rfl (Nat.le_of_ble_eq_true rfl) hF hL (by omega) (by omega) (fun r h9 hP => ?_) (fun E h9 hE => hE.elim)
  obtain ⟨rfl, rfl⟩ := hP
  exact z_iret d_C_boundAt_8 rfl hh
def f_C_write (i x y : Int) (σ : SS) : Option (Unit × SS) := some ((), gS (gS σ 2 (σ.1 1 99).toNat i x) 3 (σ.1 1 99).toNat i y)
theorem c_C_write {g : MG} {h : List MC} {σ : SS} {i x y : Int} (hW : Wd h σ) (hi : rng i) (hx : rng x) (hy : rng y) : Cw g M_C_write 1 22 [mr 1, iI i, iI x, iI y] gU cU1 h σ (f_C_write i x y σ) := by
  refine w_of (fun d w Q hF hL => ?_)
  intro a9 σ9 hm
  cases hm
  obtain ⟨hn, a, b, c, hg, hR⟩ := hW
  have hr := toNat_lt (hR.rf 1 99)
  have fin : ∀ h9, Rep (lyf a b c (σ.1 1 99).toNat (σ.1 51 99).toNat) h9 (gS (gS σ 2 (σ.1 1 99).toNat i x) 3 (σ.1 1 99).toNat i y) → Wd h9 (gS (gS σ 2 (σ.1 1 99).toNat i x) 3 (σ.1 1 99).toNat i y) := fun h9 hR9 => ⟨by rw [gS_f, gS_f]; exact hn, a, b, c, hg, by rw [gS_f, gS_f]; exact hR9⟩
  have eS : ∀ {h9 : List MC} {τ : SS} {q n id : Nat} {v : Int}, Rep (lyf a b c (σ.1 1 99).toNat (σ.1 51 99).toNat) h9 τ → lyf a b c (σ.1 1 99).toNat (σ.1 51 99).toNat q = some (LI n id) → rng v → ∃ h8, Rep (lyf a b c (σ.1 1 99).toNat (σ.1 51 99).toNat) h8 (gS τ id n i v) := by
    intro h9 τ q n id v hR9 hq hv
    unfold gS
    split
    · exact ⟨_, hR9.setA hq hv⟩
    · exact ⟨h9, hR9⟩
  obtain ⟨h1, hR1⟩ := eS hR (lyf_a hg) hx
  obtain ⟨h2, hR2⟩ := eS hR1 (lyf_b hg) hy
  have eK : K (gS (gS σ 2 (σ.1 1 99).toNat i x) 3 (σ.1 1 99).toNat i y) = K σ := by rw [gS_K, gS_K]
  refine ⟨⟨h2, fin h2 hR2⟩, by rw [eK]; exact Nat.le_refl _, True.intro, fun mc ms hc => ?_⟩
  show Ev g none M_C_write d w 0 [(0, mr 1), (1, iI i), (2, iI x), (3, iI y)] [] h _ _ Q
  refine e_aload_n d_C_write_0 rfl rfl ?_
  refine z_gr d_C_write_1 f_C_9 hR (show lyf a b c _ _ 1 = some (LO 1 [rf a, rf b, nu]) from rfl) rfl ?_
  refine e_iload_n d_C_write_4 rfl rfl ?_
  refine e_iload_n d_C_write_5 rfl rfl ?_
  refine z_invS (mc1 := 0) (ms1 := 0) (mc2 := 0) (ms2 := 0) (st' := []) (av := [mr a, iI i, iI x]) d_C_write_6 me_H_set l_C_26 (c_H_set hR (lyf_a hg) hr hi hx) rfl rfl (Nat.le_of_ble_eq_true rfl) rfl (Nat.le_of_ble_eq_true rfl) hF hL (by omega) (by omega) (fun r h9 hP => ?_) (fun E h9 hE => hE.elim)
  obtain ⟨rfl, hR3⟩ := hP
  refine e_aload_n d_C_write_9 rfl rfl ?_
  refine z_gr d_C_write_10 f_C_15 hR3 (show lyf a b c _ _ 1 = some (LO 1 [rf a, rf b, nu]) from rfl) rfl ?_
  refine e_iload_n d_C_write_13 rfl rfl ?_
  refine e_iload_n d_C_write_14 rfl rfl ?_
  refine z_invS (mc1 := 0) (ms1 := 0) (mc2 := 0) (ms2 := 0) (st' := []) (av := [mr b, iI i, iI y]) d_C_write_15 me_H_set l_C_26 (c_H_set hR3 (lyf_b hg) hr hi hy) rfl rfl (Nat.le_of_ble_eq_true rfl) rfl (Nat.le_of_ble_eq_true rfl) hF hL (by omega) (by omega) (fun r h9 hP => ?_) (fun E h9 hE => hE.elim)
  obtain ⟨rfl, hR4⟩ := hP
  exact e_return d_C_write_18 rfl (hc _ (fin _ hR4))
