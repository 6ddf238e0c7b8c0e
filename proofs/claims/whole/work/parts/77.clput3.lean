/-! THE CLASS: PUT, THE END -/
theorem lenOk_b {x : Int} (h : lenOk x) : 2048 ≤ x := by unfold lenOk at h; omega
theorem s_swr {σ : SS} {i : Nat} {n c b : Int} (hi : i < 8) (h1 : σ.1 (14 + 2 * i) 1 = 150 * i) (h5 : σ.1 (14 + 2 * i) 5 = n) (hn : 0 ≤ n ∧ n < 150) (hC : lenOk (σ.1 1 99)) :
    Wp (f_S_write (14 + 2 * i) c b σ) (fun _ τ => fx (fun a => a = 2 ∨ a = 3 ∨ a = 14 + 2 * i) σ τ ∧ τ.1 (14 + 2 * i) 5 = n + 1 ∧ (∀ q, q ≠ 5 → τ.1 (14 + 2 * i) q = σ.1 (14 + 2 * i) q) ∧ cA τ (150 * i + n) = c ∧ cB τ (150 * i + n) = b ∧ ∀ k : Int, k ≠ 150 * i + n → cA τ k = cA σ k ∧ cB τ k = cB σ k) := by
  have hl := lenOk_b hC
  unfold f_S_write f_C_write
  rw [h1, h5]
  refine wp_ck (by omega) (wp_e rfl ?_)
  have f0 : ∀ a q, (gS (gS σ 2 (σ.1 1 99).toNat (150 * i + n) c) 3 (σ.1 1 99).toNat (150 * i + n) b).1 a q = σ.1 a q := fun a q => by rw [gS_f', gS_f']
  rw [f0, h5]
  refine wp_ck (by omega) (wp_lb (fun τ e => wp_some ⟨?_, ?_, ?_, ?_, ?_, fun k hk => ⟨?_, ?_⟩⟩))
  · rw [e]; exact fx_F (fx_S (fx_S fx_rf (by omega)) (by omega)) (by omega)
  · rw [e]; exact sF_same _ _ _ _
  · intro q hq; rw [e, sF_f (fun z => hq z.2), f0]
  · rw [e, cA_F (by omega)]
    unfold cA
    rw [f0, gA_S_ne (by omega)]
    exact gA_S_same (by omega) (by omega)
  · rw [e, cB_F (by omega)]
    unfold cB
    rw [f0]
    exact gA_S_same (by omega) (by omega)
  · rw [e, cA_F (by omega)]
    unfold cA
    rw [f0, gA_S_ne (by omega), gA_S_ne (fun z => hk z.2)]
  · rw [e, cB_F (by omega)]
    unfold cB
    rw [f0, gA_S_ne (fun z => hk z.2), gA_S_ne (by omega)]
theorem cseg_lo {σ τ : SS} : ∀ {r : Row} {a b : Int}, (∀ k : Int, a ≤ k → k < b → cA τ k = cA σ k ∧ cB τ k = cB σ k) → cseg σ a r b → cseg τ a r b := by
  intro r
  induction r with
  | nil => intro a b _ h; exact h
  | cons e r ih =>
    intro a b h k
    have hle := cseg_le k
    rw [il_cons] at hle
    obtain ⟨p1, p2, p3, p4⟩ := k
    refine ⟨by rw [(h a (by omega) (by omega)).1]; exact p1, by rw [(h a (by omega) (by omega)).2]; exact p2, fun k v hk => ?_, ih (fun j h1 h2 => h j (by omega) h2) p4⟩
    have := (List.getElem?_eq_some_iff.mp hk).1
    rw [(h _ (by omega) (by omega)).1]
    exact p3 k v hk
theorem cseg_sn {σ τ : SS} {r : Row} {a b c q : Int} (h : cseg σ a r b) (hlo : ∀ k : Int, a ≤ k → k < b → cA τ k = cA σ k ∧ cB τ k = cB σ k) (h1 : cA τ b = c) (h2 : cB τ b = q) : cseg τ a (r ++ [(q, c, [])]) (b + 1) :=
  cseg_append (cseg_lo hlo h) ⟨h1, h2, fun k v hk => (by cases hk), by show b + 1 + ((0 : Nat) : Int) = b + 1; omega⟩
theorem cseg_va {σ τ : SS} {e : AG} {x : Int} : ∀ {r : Row} {a b : Int}, cseg σ a (r ++ [e]) b → (∀ k : Int, a ≤ k → k < b → cA τ k = cA σ k ∧ cB τ k = cB σ k) → cA τ b = 4 * x → cseg τ a (r ++ [(e.1, e.2.1, e.2.2 ++ [x])]) (b + 1) := by
  intro r
  induction r with
  | nil =>
    intro a b h hlo h1
    have hle := cseg_le h
    obtain ⟨p1, p2, p3, p4⟩ := h
    have p4' : a + 1 + (e.2.2.length : Int) = b := p4
    refine ⟨by rw [(hlo a (by omega) (by omega)).1]; exact p1, by rw [(hlo a (by omega) (by omega)).2]; exact p2, fun k v hk => ?_, ?_⟩
    · have hk' : (e.2.2 ++ [x])[k]? = some v := hk
      by_cases c : k < e.2.2.length
      · rw [List.getElem?_append_left c] at hk'
        rw [(hlo _ (by omega) (by omega)).1]
        exact p3 k v hk'
      · rw [List.getElem?_append_right (by omega)] at hk'
        have h0 : k - e.2.2.length = 0 := by
          have := (List.getElem?_eq_some_iff.mp hk').1
          simp at this
          omega
        rw [h0] at hk'
        have hxv : x = v := Option.some.inj hk'
        rw [show a + 1 + (k : Int) = b by omega, h1, hxv]
    · show a + 1 + ((e.2.2 ++ [x]).length : Int) = b + 1
      rw [List.length_append]
      show a + 1 + ((e.2.2.length + 1 : Nat) : Int) = b + 1
      omega
  | cons z r ih =>
    intro a b h hlo h1
    have hle := cseg_le h
    rw [List.cons_append, il_cons] at hle
    obtain ⟨p1, p2, p3, p4⟩ := h
    refine ⟨by rw [(hlo a (by omega) (by omega)).1]; exact p1, by rw [(hlo a (by omega) (by omega)).2]; exact p2, fun k v hk => ?_, ih p4 (fun k h2 h3 => hlo k (by omega) h3) h1⟩
    have := (List.getElem?_eq_some_iff.mp hk).1
    rw [(hlo _ (by omega) (by omega)).1]
    exact p3 k v hk
theorem stk_pop {σ : SS} {p : Nat} {S : List Int} (h : stk σ p S) : stk σ p S.tail := by
  cases S with
  | nil => exact h
  | cons b S => exact h.2
/-- what an operation wants is put onto the stack -/
theorem s_tol {O : Op} {fu p : Nat} {e : AG} {f : Int} {S : List Int} (hp : 14 ≤ p ∧ p ≤ 28) (hf : e.2.1 % 4 = 1) (hfe : e.2.1 / 4 = f) (h0 : 0 ≤ O.1 f) (hb2 : bd2 O) (hb : 0 ≤ e.1 ∧ e.1 ≤ 12) (hl : (tP O e ++ S).length ≤ 90) :
    ∀ (m n : Nat) (σ : SS), m ≤ (tP O e).length → m < n → cOp σ O → stk σ p ((tP O e).drop m ++ S) → σ.1 p 3 = (((tP O e).drop m ++ S).length : Int) →
    Wp (l_S_takeOperation_44 fu p n f e.1 ((m : Int) - 1) σ) (fun _ τ => fx (fun a => a = p ∨ a = p + 1) σ τ ∧ stk τ p (tP O e ++ S) ∧ τ.1 p 3 = ((tP O e ++ S).length : Int) ∧ ∀ q, q ≠ 3 → τ.1 p q = σ.1 p q) := by
  intro m
  induction m with
  | zero =>
    intro n σ hm hn ho hs h3
    cases n with
    | zero => omega
    | succ n =>
      rw [l_S_takeOperation_44]
      rw [List.drop_zero] at hs h3
      exact wp_t (by omega) (wp_some ⟨fx_rf, hs, h3, fun _ _ => rfl⟩)
  | succ m ih =>
    intro n σ hm hn ho hs h3
    cases n with
    | zero => omega
    | succ n =>
      rw [l_S_takeOperation_44]
      have hlen := tP_ln (O := O) hf
      rw [hfe] at hlen
      obtain ⟨o1, o2, o3, o4⟩ := ho.1 f h0
      have hbd := hb2 f m
      rw [show ((m + 1 : Nat) : Int) - 1 = (m : Int) by omega]
      have hdl : ((tP O e).drop (m + 1) ++ S).length + 1 ≤ 90 := by
        rw [List.length_append] at hl ⊢
        rw [List.length_drop]
        omega
      have hget : (tP O e)[m]'(by omega) = e.1 + O.2 f m := by
        unfold tP
        simp only [if_pos hf, List.getElem_map, List.getElem_range, hfe]
      have hdr : (tP O e).drop m ++ S = (e.1 + O.2 f m) :: ((tP O e).drop (m + 1) ++ S) := by
        rw [List.drop_eq_getElem_cons (by omega : m < (tP O e).length), hget]
        rfl
      refine wp_f (by omega) ?_
      unfold f_O_boundBy
      rw [ck_t (by omega), ck_t (by omega)]
      refine wp_e rfl ?_
      rw [ho.2.1, h3]
      refine wp_ck (by omega) (wp_lb (fun σ9 e9 => ?_))
      have f9 : ∀ a q, σ9.1 a q = σ.1 a q := fun a q => by rw [e9, gS_f']
      rw [f9, h3]
      refine wp_ck (by omega) (wp_lb (fun σ14 e14 => wp_ck (by omega) ?_))
      have x14 : fx (fun a => a = p ∨ a = p + 1) σ σ14 := by rw [e14, e9]; exact fx_F (fx_S fx_rf (Or.inr rfl)) (Or.inl rfl)
      have hs14 : stk σ14 p ((tP O e).drop m ++ S) := by
        rw [hdr]
        refine ⟨?_, stk_eq (σ := σ) (fun k hk => ?_) hs⟩
        · rw [e14, gA_F, e9]
          exact gA_S_same (by omega) (by omega)
        · rw [e14, gA_F, e9]
          exact gA_S_ne (by omega)
      have h314 : σ14.1 p 3 = (((tP O e).drop m ++ S).length : Int) := by
        rw [e14, sF_same, hdr, List.length_cons]
        omega
      have h9 := ih n σ14 (by omega) (by omega) (cOp_fx x14 (by omega) (by omega) ho) hs14 h314
      rw [show (m : Int) + -1 = (m : Int) - 1 by omega]
      exact wp_mono h9 (fun _ τ k => ⟨fx_tr x14 k.1, k.2.1, k.2.2.1, fun q hq => by rw [k.2.2.2 q hq, e14, sF_f (fun z => hq z.2), f9]⟩)
theorem s_putl {R : Nat} {fu : Nat} {σ : SS} {d : Dk} {i : Nat} {k x : Int} (hfu : 1000 ≤ fu) (hg : gD R d) (hc : cD σ d) (hi : i < 8) (hd : due (d.2.2.2.2.1 i) ≠ 0) (hf : fit d.2.1 d.2.2.1 (d.2.2.2.2.1 i) k x) (hr : room d.1 (d.2.2.2.2.1 i) k x) :
    Wp (if k = 0 then (sq (f_S_takeVariable (14 + 2 * i) x σ) fun (a25 : Unit) σ26 => some ((), σ26)) else (if k = 1 then (sq (f_S_takeOperation fu (14 + 2 * i) x σ) fun (a31 : Unit) σ32 => some ((), σ32)) else (sq (f_G_parametersOf x σ) fun (a36 : Int) σ37 => sq (f_S_takeHole (14 + 2 * i) x a36 σ37) fun (a41 : Unit) σ42 => some ((), σ42)))) (fun _ τ => fx XH σ τ ∧ τ.1 0 99 = σ.1 0 99 ∧ cSl τ i (slP d.1 d.2.2.2.1.1 (d.2.2.2.2.1 i) k x) ∧ cD τ (dkS d i (slP d.1 d.2.2.2.1.1 (d.2.2.2.2.1 i) k x))) := by
  have hs := hg.2.2.1 i hi
  have hcs := hc.2.2.2.1 i hi
  have hp4 := hg.2.1.1.2.2.2.1
  have hsb := sl_b hg.1.2.2.2.1 hp4 hs
  have hil := il_30 hp4 hs
  have hgl := gSl_P hg hi hd hf hr
  have hilP := (il_30 hp4 hgl).1
  have hcel := hc.1.2.1.1
  -- what is left to show: the slot, and that nothing else is touched
  have fin : ∀ τ : SS, fx (fun a => a = 2 ∨ a = 3 ∨ a = 14 + 2 * i ∨ a = 15 + 2 * i) σ τ → (∀ q : Int, q ≠ 150 * i + (il (d.2.2.2.2.1 i).2.2.1 : Int) → cA τ q = cA σ q ∧ cB τ q = cB σ q) → cSl τ i (slP d.1 d.2.2.2.1.1 (d.2.2.2.2.1 i) k x) → fx XH σ τ ∧ τ.1 0 99 = σ.1 0 99 ∧ cSl τ i (slP d.1 d.2.2.2.1.1 (d.2.2.2.2.1 i) k x) ∧ cD τ (dkS d i (slP d.1 d.2.2.2.1.1 (d.2.2.2.2.1 i) k x)) := by
    intro τ t1 t2 t3
    refine ⟨fx_mono t1 (fun a z => by unfold XH; omega), fx_f t1 (by omega), t3, cD_S hg hi t1 (fun q hq => t2 q ?_) t3 hc⟩
    have hlt : il (d.2.2.2.2.1 i).2.2.1 < 150 := by
      unfold slP at hilP
      split at hilP
      · rename_i cp; omega
      · have : il ((d.2.2.2.2.1 i).2.2.1 ++ [(hbl (d.2.2.2.2.1 i), 4 * x + k, [])]) ≤ 150 := hilP
        rw [il_append] at this
        have h1 : il [((hbl (d.2.2.2.2.1 i), 4 * x + k, []) : AG)] = 1 := rfl
        omega
    omega
  have hilt : il (d.2.2.2.2.1 i).2.2.1 < 150 := by
    unfold slP at hilP
    split at hilP
    · rename_i cp; omega
    · have : il ((d.2.2.2.2.1 i).2.2.1 ++ [(hbl (d.2.2.2.2.1 i), 4 * x + k, [])]) ≤ 150 := hilP
      rw [il_append] at this
      have h1 : il [((hbl (d.2.2.2.2.1 i), 4 * x + k, []) : AG)] = 1 := rfl
      omega
  have hb := hbl_b hs hd
  have hfx := hf
  have h6 := hs.2.1
  generalize hl0 : d.2.2.2.2.1 i = l at hd hs hcs hf hr hsb hil fin hilt hb hfx h6
  clear hgl hilP
  obtain ⟨q1, q2, q3, q4, q5, q6, q7, q8, q9⟩ := id hcs
  unfold fit at hf
  by_cases cp : 0 < l.2.2.2.1
  · -- a variable of a hole
    rw [if_pos cp] at hf
    obtain ⟨g1, g2, g3, g4⟩ := hf
    obtain ⟨r0, e, j1, j2, j3, j4, j5, j6, j7⟩ := hs.2.2.2.2.2.2.2 cp
    have hl1 : lst1 l.2.2.1 = e := by rw [j1]; exact lst1_snoc r0 e
    have hav : addV l.2.2.1 x = r0 ++ [(e.1, e.2.1, e.2.2 ++ [x])] := by rw [j1]; exact addV_snoc r0 e x
    have hslP : slP d.1 d.2.2.2.1.1 l k x = (l.1, l.2.1, addV l.2.2.1 x, l.2.2.2.1 - 1, l.2.2.2.2) := if_pos cp
    refine wp_t g1 ?_
    unfold f_S_takeVariable
    refine wp_sq (R := fun _ τ => fx XH σ τ ∧ τ.1 0 99 = σ.1 0 99 ∧ cSl τ i (slP d.1 d.2.2.2.1.1 l k x) ∧ cD τ (dkS d i (slP d.1 d.2.2.2.1.1 l k x))) ?_ (fun _ τ h => wp_some h)
    refine wp_e (s_bound hcs hd hsb.1) (wp_e (s_behind hcs) ?_)
    rw [if_pos cp, q6]
    refine wp_sq (R := fun _ τ => τ = sF σ (14 + 2 * i) 7 ((l.2.2.2.1 : Int) - 1)) (wp_f (by decide) (wp_ck (by omega) (wp_lx (wp_some rfl)))) ?_
    intro u σ28 e28
    have f28 : ∀ q, q ≠ 7 → σ28.1 (14 + 2 * i) q = σ.1 (14 + 2 * i) q := fun q hq => by rw [e28, sF_f (fun z => hq z.2)]
    have f28' : ∀ a q, a ≠ 14 + 2 * i → σ28.1 a q = σ.1 a q := fun a q ha => by rw [e28, sF_f (fun z => ha z.1)]
    refine wp_ck (by omega) (wp_sq (s_swr (n := (il l.2.2.1 : Int)) (c := 4 * x + 0) (b := hbl l) hi (by rw [f28 1 (by decide)]; exact q1) (by rw [f28 5 (by decide)]; exact q4) (by omega) (by rw [f28' 1 99 (by omega)]; exact hcel)) ?_)
    rintro - τ ⟨w1, w2, w3, w4, w5, w6⟩
    have x28 : fx (jst (14 + 2 * i)) σ σ28 := by rw [e28]; exact fx_F fx_rf rfl
    have c28 : ∀ q, cA σ28 q = cA σ q ∧ cB σ28 q = cB σ q := fun q => ⟨fx_cA x28 (fun z => by have : 1 = 14 + 2 * i := z; omega) (fun z => by have : 2 = 14 + 2 * i := z; omega) q, fx_cB x28 (fun z => by have : 1 = 14 + 2 * i := z; omega) (fun z => by have : 3 = 14 + 2 * i := z; omega) q⟩
    have xτ : fx (fun a => a = 2 ∨ a = 3 ∨ a = 14 + 2 * i ∨ a = 15 + 2 * i) σ τ := fx_tr (fx_mono x28 (fun a z => by have : a = 14 + 2 * i := z; omega)) (fx_mono w1 (fun a z => by omega))
    have fτ : ∀ q, q ≠ 5 → q ≠ 7 → τ.1 (14 + 2 * i) q = σ.1 (14 + 2 * i) q := fun q h1 h2 => by rw [w3 q h1, f28 q h2]
    have hle : il (addV l.2.2.1 x) = il l.2.2.1 + 1 := by
      rw [hav, j1, il_append, il_append, il_cons, il_cons]
      show il r0 + (1 + (e.2.2 ++ [x]).length + 0) = il r0 + (1 + e.2.2.length + 0) + 1
      rw [List.length_append]
      show il r0 + (1 + (e.2.2.length + 1) + 0) = _
      omega
    refine wp_some (fin τ xτ (fun q hq => ⟨by rw [(w6 q hq).1, (c28 q).1], by rw [(w6 q hq).2, (c28 q).2]⟩) ?_)
    rw [hslP]
    refine ⟨by rw [fτ 1 (by decide) (by decide)]; exact q1, by rw [fτ 3 (by decide) (by decide)]; exact q2, by rw [fτ 4 (by decide) (by decide)]; exact q3, ?_, ?_, ?_, fun z => ?_, stk_eq (fun k _ => fx_g (fx_tr (fx_mono x28 (fun a z => (Or.inr (Or.inr z) : a = 2 ∨ a = 3 ∨ a = 14 + 2 * i))) w1) (by omega)) q8, ?_⟩
    · show τ.1 (14 + 2 * i) 5 = (il (addV l.2.2.1 x) : Int)
      rw [w2, hle]
      omega
    · show τ.1 (14 + 2 * i) 6 = ((addV l.2.2.1 x).length : Int)
      rw [fτ 6 (by decide) (by decide), q5, hav, j1, List.length_append, List.length_append]
      rfl
    · show τ.1 (14 + 2 * i) 7 = ((l.2.2.2.1 - 1 : Nat) : Int)
      rw [w3 7 (by decide), e28, sF_same]
      omega
    · obtain ⟨z8, z9⟩ := q7 cp
      rw [hl1] at z8 z9
      show τ.1 (14 + 2 * i) 8 = (il (addV l.2.2.1 x) : Int) - (lst1 (addV l.2.2.1 x)).2.2.length ∧ τ.1 (14 + 2 * i) 9 = (lst1 (addV l.2.2.1 x)).1
      rw [fτ 8 (by decide) (by decide), fτ 9 (by decide) (by decide), hle, hav, lst1_snoc, z8, z9]
      refine ⟨?_, rfl⟩
      show _ = ((il l.2.2.1 + 1 : Nat) : Int) - ((e.2.2 ++ [x]).length : Int)
      rw [List.length_append]
      show _ = ((il l.2.2.1 + 1 : Nat) : Int) - ((e.2.2.length + 1 : Nat) : Int)
      omega
    · show cseg τ (150 * i) (addV l.2.2.1 x) (150 * i + il (addV l.2.2.1 x))
      rw [hle, hav, show 150 * (i : Int) + ((il l.2.2.1 + 1 : Nat) : Int) = 150 * i + il l.2.2.1 + 1 by omega]
      refine cseg_va (σ := σ) (by rw [← j1]; exact q9) (fun q h1 h2 => ⟨by rw [(w6 q (by omega)).1, (c28 q).1], by rw [(w6 q (by omega)).2, (c28 q).2]⟩) ?_
      rw [w4]
      omega
  · -- an item of its own
    rw [if_neg cp] at hf
    have hp0 : l.2.2.2.1 = 0 := by omega
    obtain ⟨b, S, hS⟩ : ∃ b S, l.2.2.2.2 = b :: S := by
      cases hq : l.2.2.2.2 with
      | nil => unfold due at hd; rw [hq, hp0] at hd; exact absurd rfl hd
      | cons b S => exact ⟨b, S, rfl⟩
    have hhb : hbl l = b := by unfold hbl; rw [if_neg cp, hS]; rfl
    have hSl : l.2.2.2.2.length = S.length + 1 := by rw [hS]; rfl
    have hslP : slP d.1 d.2.2.2.1.1 l k x = (l.1, l.2.1, l.2.2.1 ++ [(b, 4 * x + k, [])], (if k = 2 then (d.2.2.2.1.1 x).toNat else 0), tP d.1 (b, 4 * x + k, []) ++ S) := by
      unfold slP
      rw [if_neg cp, hhb, hS]
      rfl
    have hsS : stk σ (14 + 2 * i) S := by have := q8; rw [hS] at this; exact this.2
    have hilr : il (l.2.2.1 ++ [((b, 4 * x + k, []) : AG)]) = il l.2.2.1 + 1 := by rw [il_append]; rfl
    -- the part that all three have: the counts, and the item
    have com : ∀ (c : Int), c = 4 * x + k → ∀ {β : Type} (K : Unit → SS → Option (β × SS)) (P : β → SS → Prop), (∀ τ, fx (fun a => a = 2 ∨ a = 3 ∨ a = 14 + 2 * i) σ τ → τ.1 (14 + 2 * i) 3 = (S.length : Int) → τ.1 (14 + 2 * i) 5 = (il l.2.2.1 : Int) + 1 → τ.1 (14 + 2 * i) 6 = (l.2.2.1.length : Int) + 1 → (∀ q, q ≠ 3 → q ≠ 5 → q ≠ 6 → τ.1 (14 + 2 * i) q = σ.1 (14 + 2 * i) q) → (∀ q : Int, q ≠ 150 * i + (il l.2.2.1 : Int) → cA τ q = cA σ q ∧ cB τ q = cB σ q) → cseg τ (150 * i) (l.2.2.1 ++ [(b, 4 * x + k, [])]) (150 * i + il l.2.2.1 + 1) → Wp (K () τ) P) →
        Wp (ck (rng ((σ.1 (14 + 2 * i) 3) - 1)) (lb (sF σ (14 + 2 * i) 3 ((σ.1 (14 + 2 * i) 3) - 1)) fun σ8 => ck (rng ((σ8.1 (14 + 2 * i) 6) + 1)) (lb (sF σ8 (14 + 2 * i) 6 ((σ8.1 (14 + 2 * i) 6) + 1)) fun σ13 => ck (rng c) (sq (f_S_write (14 + 2 * i) c (hbl l) σ13) K)))) P := by
      intro c hc4 β K P hK
      rw [q2]
      refine wp_ck (by omega) (wp_lb (fun σ8 e8 => ?_))
      have f86 : σ8.1 (14 + 2 * i) 6 = (l.2.2.1.length : Int) := by rw [e8, sF_f (by omega)]; exact q5
      rw [f86]
      have hlen30 := hs.2.2.2.1
      refine wp_ck (by omega) (wp_lb (fun σ13 e13 => ?_))
      have f13 : ∀ q, q ≠ 3 → q ≠ 6 → σ13.1 (14 + 2 * i) q = σ.1 (14 + 2 * i) q := fun q h1 h2 => by rw [e13, sF_f (fun z => h2 z.2), e8, sF_f (fun z => h1 z.2)]
      have f13' : ∀ a q, a ≠ 14 + 2 * i → σ13.1 a q = σ.1 a q := fun a q ha => by rw [e13, sF_f (fun z => ha z.1), e8, sF_f (fun z => ha z.1)]
      have x13 : fx (jst (14 + 2 * i)) σ σ13 := by rw [e13, e8]; exact fx_F (fx_F fx_rf rfl) rfl
      have c13 : ∀ q, cA σ13 q = cA σ q ∧ cB σ13 q = cB σ q := fun q => ⟨fx_cA x13 (fun z => by have : 1 = 14 + 2 * i := z; omega) (fun z => by have : 2 = 14 + 2 * i := z; omega) q, fx_cB x13 (fun z => by have : 1 = 14 + 2 * i := z; omega) (fun z => by have : 3 = 14 + 2 * i := z; omega) q⟩
      have hxb : -1 ≤ x ∧ x ≤ 100 ∧ 0 ≤ k ∧ k ≤ 2 := by have := hg.1.2.1; have := hg.2.1.1.2.2.2.2.2.2.2.1; omega
      refine wp_ck (by omega) (wp_sq (s_swr (n := (il l.2.2.1 : Int)) (c := c) (b := hbl l) hi (by rw [f13 1 (by decide) (by decide)]; exact q1) (by rw [f13 5 (by decide) (by decide)]; exact q4) (by omega) (by rw [f13' 1 99 (by omega)]; exact hcel)) ?_)
      rintro - τ ⟨w1, w2, w3, w4, w5, w6⟩
      have hcells : ∀ q : Int, q ≠ 150 * i + (il l.2.2.1 : Int) → cA τ q = cA σ q ∧ cB τ q = cB σ q := fun q hq => ⟨by rw [(w6 q hq).1, (c13 q).1], by rw [(w6 q hq).2, (c13 q).2]⟩
      refine hK τ (fx_tr (fx_mono x13 (fun a z => Or.inr (Or.inr z))) w1) ?_ w2 ?_ (fun q h1 h2 h3 => by rw [w3 q h2, f13 q h1 h3]) hcells (cseg_sn q9 (fun q h1 h2 => hcells q (by omega)) (by rw [w4]; exact hc4) (by rw [w5]; exact hhb))
      · rw [w3 3 (by decide), e13, sF_f (by omega), e8, sF_same]
        omega
      · rw [w3 6 (by decide), e13, sF_same]
    by_cases k0 : k = 0
    · refine wp_t k0 (wp_sq (R := fun _ τ => fx XH σ τ ∧ τ.1 0 99 = σ.1 0 99 ∧ cSl τ i (slP d.1 d.2.2.2.1.1 l k x) ∧ cD τ (dkS d i (slP d.1 d.2.2.2.1.1 l k x))) ?_ (fun _ τ h => wp_some h))
      unfold f_S_takeVariable
      refine wp_e (s_bound hcs hd hsb.1) (wp_e (s_behind hcs) ?_)
      rw [if_neg cp]
      -- the same work, in another order of binding
      have hcom := com (4 * x + 0) (by omega) (fun (a33 : Unit) σ34 => some ((), σ34)) (fun _ τ => fx XH σ τ ∧ τ.1 0 99 = σ.1 0 99 ∧ cSl τ i (slP d.1 d.2.2.2.1.1 l k x) ∧ cD τ (dkS d i (slP d.1 d.2.2.2.1.1 l k x))) (fun τ t1 t3 t5 t6 tq tc ts => wp_some (fin τ (fx_mono t1 (fun a z => by omega)) tc (by
        rw [hslP, tP_hole (by show (4 * x + k) % 4 ≠ 1; omega), List.nil_append, if_neg (by omega)]
        refine ⟨by rw [tq 1 (by decide) (by decide) (by decide)]; exact q1, t3, by rw [tq 4 (by decide) (by decide) (by decide)]; exact q3, ?_, ?_, ?_, fun z => absurd z (Nat.lt_irrefl 0), stk_eq (fun k _ => fx_g t1 (by omega)) hsS, ?_⟩
        · show τ.1 (14 + 2 * i) 5 = (il (l.2.2.1 ++ [((b, 4 * x + k, []) : AG)]) : Int)
          rw [t5, hilr]; omega
        · show τ.1 (14 + 2 * i) 6 = ((l.2.2.1 ++ [((b, 4 * x + k, []) : AG)]).length : Int)
          rw [t6, List.length_append]; rfl
        · show τ.1 (14 + 2 * i) 7 = ((0 : Nat) : Int)
          rw [tq 7 (by decide) (by decide) (by decide), q6, hp0]
        · show cseg τ (150 * i) (l.2.2.1 ++ [(b, 4 * x + k, [])]) (150 * i + il (l.2.2.1 ++ [((b, 4 * x + k, []) : AG)]))
          rw [hilr, show 150 * (i : Int) + ((il l.2.2.1 + 1 : Nat) : Int) = 150 * i + il l.2.2.1 + 1 by omega]
          exact ts)))
      have hlen30 := hs.2.2.2.1
      rw [q2, ck_t (by omega), lb_e, sF_f (by omega), q5, ck_t (by omega), lb_e] at hcom
      rw [if_pos rfl, q2, ck_t (by omega), lb_e, sF_f (by omega), q5, ck_t (by omega), lb_e, sq_e]
      exact hcom
    · by_cases k1 : k = 1
      · have hx0 : 0 ≤ d.1.1 x := (hg.1.2.2.1 x).mpr (by omega)
        have hco : cOp σ d.1 := hc.2.1
        obtain ⟨a1, a2, a3, a4⟩ := hco.1 x hx0
        refine wp_f k0 (wp_t k1 (wp_sq (R := fun _ τ => fx XH σ τ ∧ τ.1 0 99 = σ.1 0 99 ∧ cSl τ i (slP d.1 d.2.2.2.1.1 l k x) ∧ cD τ (dkS d i (slP d.1 d.2.2.2.1.1 l k x))) ?_ (fun _ τ h => wp_some h)))
        unfold f_S_takeOperation
        refine wp_e (s_bound hcs hd hsb.1) (com (4 * x + 1) (by omega) _ _ (fun τ t1 t3 t5 t6 tq tc ts => ?_))
        unfold f_O_arityOf
        rw [sq_e, fx_g t1 (by omega), a1, ck_t (by omega), lb_e]
        have htP := tP_ln (O := d.1) (e := (b, 4 * x + k, [])) (by show (4 * x + k) % 4 = 1; omega)
        have hxe : (4 * x + k) / 4 = x := by omega
        have htP' : (tP d.1 (b, 4 * x + k, [])).length = (d.1.1 x).toNat := by rw [htP]; show (d.1.1 ((4 * x + k) / 4)).toNat = _; rw [hxe]
        have hto := s_tol (O := d.1) (fu := fu) (p := 14 + 2 * i) (e := (b, 4 * x + k, [])) (f := x) (S := S) (by omega) (by show (4 * x + k) % 4 = 1; omega) hxe hx0 hg.1.2.2.2.2 (by rw [hhb] at hb; exact ⟨hb.1, by show b ≤ 12; omega⟩) (by rw [List.length_append, htP']; omega) (tP d.1 (b, 4 * x + k, [])).length fu τ (Nat.le_refl _) (by omega) (cOp_fx t1 (by omega) (by omega) hco) (by rw [List.drop_length, List.nil_append]; exact stk_eq (fun k _ => fx_g t1 (by omega)) hsS) (by rw [List.drop_length, List.nil_append]; exact t3)
        rw [htP', show (((d.1.1 x).toNat : Nat) : Int) = d.1.1 x by omega] at hto
        rw [hhb]
        refine wp_sq hto ?_
        rintro - υ ⟨y1, y2, y3, y4⟩
        have xυ : fx (fun a => a = 2 ∨ a = 3 ∨ a = 14 + 2 * i ∨ a = 15 + 2 * i) σ υ := fx_tr (fx_mono t1 (fun a z => by omega)) (fx_mono y1 (fun a z => by omega))
        have cυ : ∀ q, cA υ q = cA τ q ∧ cB υ q = cB τ q := fun q => ⟨fx_cA y1 (by omega) (by omega) q, fx_cB y1 (by omega) (by omega) q⟩
        refine wp_some (fin υ xυ (fun q hq => ⟨by rw [(cυ q).1, (tc q hq).1], by rw [(cυ q).2, (tc q hq).2]⟩) ?_)
        rw [hslP, if_neg (by omega)]
        have fυ : ∀ q, q ≠ 3 → υ.1 (14 + 2 * i) q = τ.1 (14 + 2 * i) q := y4
        refine ⟨by rw [fυ 1 (by decide), tq 1 (by decide) (by decide) (by decide)]; exact q1, y3, by rw [fυ 4 (by decide), tq 4 (by decide) (by decide) (by decide)]; exact q3, ?_, ?_, ?_, fun z => absurd z (Nat.lt_irrefl 0), y2, ?_⟩
        · show υ.1 (14 + 2 * i) 5 = (il (l.2.2.1 ++ [((b, 4 * x + k, []) : AG)]) : Int)
          rw [fυ 5 (by decide), t5, hilr]; omega
        · show υ.1 (14 + 2 * i) 6 = ((l.2.2.1 ++ [((b, 4 * x + k, []) : AG)]).length : Int)
          rw [fυ 6 (by decide), t6, List.length_append]; rfl
        · show υ.1 (14 + 2 * i) 7 = ((0 : Nat) : Int)
          rw [fυ 7 (by decide), tq 7 (by decide) (by decide) (by decide), q6, hp0]
        · show cseg υ (150 * i) (l.2.2.1 ++ [(b, 4 * x + k, [])]) (150 * i + il (l.2.2.1 ++ [((b, 4 * x + k, []) : AG)]))
          rw [hilr, show 150 * (i : Int) + ((il l.2.2.1 + 1 : Nat) : Int) = 150 * i + il l.2.2.1 + 1 by omega]
          exact cseg_lo (fun q _ _ => cυ q) ts
      · have k2 : k = 2 := by omega
        have hpx : 0 ≤ d.2.2.2.1.1 x := (hg.2.1.1.2.2.2.2.2.2.1 x).mpr (Or.inl (by omega))
        obtain ⟨a1, a2, a3, -, -⟩ := hc.1.1 x hpx
        have h4 := hp4 x
        refine wp_f k0 (wp_f k1 ?_)
        unfold f_G_parametersOf
        rw [sq_e, a3]
        refine wp_sq (R := fun _ τ => fx XH σ τ ∧ τ.1 0 99 = σ.1 0 99 ∧ cSl τ i (slP d.1 d.2.2.2.1.1 l k x) ∧ cD τ (dkS d i (slP d.1 d.2.2.2.1.1 l k x))) ?_ (fun _ τ h => wp_some h)
        unfold f_S_takeHole
        refine wp_e (s_bound hcs hd hsb.1) (com (4 * x + 2) (by omega) _ _ (fun τ t1 t3 t5 t6 tq tc ts => ?_))
        refine wp_lb (fun σ23 e23 => wp_lb (fun σ27 e27 => wp_lb (fun υ eυ => ?_)))
        have f235 : σ23.1 (14 + 2 * i) 5 = (il l.2.2.1 : Int) + 1 := by rw [e23, sF_f (by omega)]; exact t5
        rw [f235] at e27
        have fυ : ∀ q, q ≠ 7 → q ≠ 8 → q ≠ 9 → υ.1 (14 + 2 * i) q = τ.1 (14 + 2 * i) q := fun q h1 h2 h3 => by rw [eυ, sF_f (fun z => h3 z.2), e27, sF_f (fun z => h2 z.2), e23, sF_f (fun z => h1 z.2)]
        have xυτ : fx (jst (14 + 2 * i)) τ υ := by rw [eυ, e27, e23]; exact fx_F (fx_F (fx_F fx_rf rfl) rfl) rfl
        have cυ : ∀ q, cA υ q = cA τ q ∧ cB υ q = cB τ q := fun q => ⟨fx_cA xυτ (fun z => by have : 1 = 14 + 2 * i := z; omega) (fun z => by have : 2 = 14 + 2 * i := z; omega) q, fx_cB xυτ (fun z => by have : 1 = 14 + 2 * i := z; omega) (fun z => by have : 3 = 14 + 2 * i := z; omega) q⟩
        have xυ : fx (fun a => a = 2 ∨ a = 3 ∨ a = 14 + 2 * i ∨ a = 15 + 2 * i) σ υ := fx_tr (fx_mono t1 (fun a z => by omega)) (fx_mono xυτ (fun a z => by have : a = 14 + 2 * i := z; omega))
        refine wp_some (fin υ xυ (fun q hq => ⟨by rw [(cυ q).1, (tc q hq).1], by rw [(cυ q).2, (tc q hq).2]⟩) ?_)
        rw [hslP, tP_hole (by show (4 * x + k) % 4 ≠ 1; omega), List.nil_append, if_pos k2]
        refine ⟨by rw [fυ 1 (by decide) (by decide) (by decide), tq 1 (by decide) (by decide) (by decide)]; exact q1, by rw [fυ 3 (by decide) (by decide) (by decide)]; exact t3, by rw [fυ 4 (by decide) (by decide) (by decide), tq 4 (by decide) (by decide) (by decide)]; exact q3, ?_, ?_, ?_, fun z => ⟨?_, ?_⟩, stk_eq (σ := τ) (fun k _ => fx_g xυτ (fun z => by have : 14 + 2 * i + 1 = 14 + 2 * i := z; omega)) (stk_eq (fun k _ => fx_g t1 (by omega)) hsS), ?_⟩
        · show υ.1 (14 + 2 * i) 5 = (il (l.2.2.1 ++ [((b, 4 * x + k, []) : AG)]) : Int)
          rw [fυ 5 (by decide) (by decide) (by decide), t5, hilr]; omega
        · show υ.1 (14 + 2 * i) 6 = ((l.2.2.1 ++ [((b, 4 * x + k, []) : AG)]).length : Int)
          rw [fυ 6 (by decide) (by decide) (by decide), t6, List.length_append]; rfl
        · show υ.1 (14 + 2 * i) 7 = (((d.2.2.2.1.1 x).toNat : Nat) : Int)
          rw [eυ, sF_f (by omega), e27, sF_f (by omega), e23, sF_same]
          omega
        · show υ.1 (14 + 2 * i) 8 = (il (l.2.2.1 ++ [((b, 4 * x + k, []) : AG)]) : Int) - (lst1 (l.2.2.1 ++ [((b, 4 * x + k, []) : AG)])).2.2.length
          rw [lst1_snoc, hilr, eυ, sF_f (by omega), e27, sF_same]
          show _ = ((il l.2.2.1 + 1 : Nat) : Int) - ((0 : Nat) : Int)
          omega
        · show υ.1 (14 + 2 * i) 9 = (lst1 (l.2.2.1 ++ [((b, 4 * x + k, []) : AG)])).1
          rw [lst1_snoc, eυ, sF_same]
          exact hhb
        · show cseg υ (150 * i) (l.2.2.1 ++ [(b, 4 * x + k, [])]) (150 * i + il (l.2.2.1 ++ [((b, 4 * x + k, []) : AG)]))
          rw [hilr, show 150 * (i : Int) + ((il l.2.2.1 + 1 : Nat) : Int) = 150 * i + il l.2.2.1 + 1 by omega]
          exact cseg_lo (fun q _ _ => cυ q) ts
