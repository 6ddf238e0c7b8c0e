/-- no script among what is kept -/
def m_nsc : MV → Bool
  | .inr (.inr (.inr _)) => false
  | _ => true
theorem m_v_none {al : List Nat} {sc : MS} {v : MV} {V : Value} (hn : m_nsc v = true) (h : m_v al sc v = some V) : m_v al none v = some V := by
  rcases v with x | x | (_ | p) | u
  · exact h
  · exact h
  · exact h
  · exact h
  · cases hn
theorem m_v_rf {al : List Nat} {sc : MS} {r F : Option Nat} (h : r.map (fun p => al[p]?) = F.map some) : m_v al sc (.inr (.inr (.inl r))) = some (va_rf F) := by
  cases r with
  | none =>
    cases F with
    | none => rfl
    | some a => cases h
  | some p =>
    cases F with
    | none => cases h
    | some a =>
      have h4 : al[p]? = some a := Option.some.inj h
      simp only [m_v, h4, Option.map_some]
      rfl
theorem m_rf_up {al : List Nat} {f F : Nat → Option Nat} (h : ∀ k : Nat, (f k).map (fun p => al[p]?) = (F k).map some) {j p a : Nat} (hp : al[p]? = some a) : ∀ k : Nat, (va_up f j (some p) k).map (fun p => al[p]?) = (va_up F j (some a) k).map some := by
  intro k
  unfold va_up
  by_cases hk : k = j
  · rw [if_pos hk, if_pos hk]
    show some (al[p]?) = some (some a)
    rw [hp]
  · rw [if_neg hk, if_neg hk]
    exact h k
/-- arrays of references to class ci stand in the table of types -/
def m_oa (ci : Nat) : Prop := ∀ ac : Nat → ClassId, ∃ (t0 : Nat) (q : vw_C), (m_tys ac)[t0]? = some (ac (3 + ci), .object q.1) ∧ m_cl[ci]? = some q
/-- a field: own class's pool index i is field k of class ci -/
def m_fl (own : String) (i ci k : Nat) : Prop := ∃ (C : String) (T : u_T) (N : Nat), m_cl[ci]? = some (C, T, N) ∧ k < N ∧ (∀ w ∈ u_ws C T N, w ∈ m_Ts) ∧ (Cond.fieldLink own i (T k).1 (T k).2.1 (T k).2.2.1 ∈ m_Ts ∨ ∃ host, (own, i, (T k).1, (T k).2.1, (T k).2.2.1, host) ∈ m_nestF)
/-- .. and may be written: its type -/
def m_fp (own : String) (i ci k : Nat) (ty : FieldType) (fin : Bool) : Prop := ∃ (C : String) (T : u_T) (N : Nat) (ty0 : Nat → FieldType), m_cl[ci]? = some (C, T, N) ∧ k < N ∧ (∀ w ∈ u_ws C T N, w ∈ m_Ts) ∧ (Cond.fieldLink own i (T k).1 (T k).2.1 (T k).2.2.1 ∈ m_Ts ∨ (fin = false ∧ ∃ host, (own, i, (T k).1, (T k).2.1, (T k).2.2.1, host) ∈ m_nestF)) ∧ (∀ a, a < N → parseFieldDescriptor (T a).2.2.1 = some (ty0 a)) ∧ (∀ a, a < N → ∀ b, b < N → a ≠ b → (T a).2.1 ≠ (T b).2.1) ∧ (T k).2.2.2 = fin ∧ (T k).1 = (if fin then own else (T k).1) ∧ parseFieldDescriptor (T k).2.2.1 = some ty
def m_fits (ty : FieldType) (v : MV) : Prop := ∀ (al : List Nat) (sc : MS) (V : Value), m_v al sc v = some V → narrow ty V = V ∧ fits ty V = true
theorem m_fits_i (x : Int32) : m_fits .int (mi x) := fun _ _ V h => by cases h; exact ⟨rfl, rfl⟩
theorem m_fits_o (C : String) (r : Option Nat ⊕ Unit) : m_fits (.object C) (.inr (.inr r)) := fun _ _ V h => by rcases m_v_ref h with rfl | ⟨q, rfl⟩ <;> exact ⟨rfl, rfl⟩
theorem m_fits_a (t : FieldType) (r : Option Nat ⊕ Unit) : m_fits (.array t) (.inr (.inr r)) := fun _ _ V h => by rcases m_v_ref h with rfl | ⟨q, rfl⟩ <;> exact ⟨rfl, rfl⟩
theorem m_c_o {ac : Nat → ClassId} {al : List Nat} {ci : Nat} {fs : List MV} {e : va_E} (h : m_c ac al (cO ci fs) e) : ∃ FS : List Value, e = .inr (ci, FS) ∧ m_vs al none fs FS := h
theorem m_c_r {ac : Nat → ClassId} {al : List Nat} {ci n : Nat} {f : Nat → Option Nat} {e : va_E} (h : m_c ac al (cR ci n f) e) : ∃ F : Nat → Option Nat, e = .inl (ac (3 + ci), n, .inr (.inr (.inr (.inr F)))) ∧ ∀ k : Nat, (f k).map (fun p => al[p]?) = (F k).map some := h
theorem m_c_i {ac : Nat → ClassId} {al : List Nat} {n : Nat} {f : Nat → Int32} {e : va_E} (h : m_c ac al (cI n f) e) : e = .inl (ac 0, n, .inl f) := h
theorem m_c_z {ac : Nat → ClassId} {al : List Nat} {n : Nat} {f : Nat → Int32} {e : va_E} (h : m_c ac al (cZ n f) e) : e = .inl (ac 1, n, .inl f) := h
theorem m_c_l {ac : Nat → ClassId} {al : List Nat} {n : Nat} {f : Nat → Int64} {e : va_E} (h : m_c ac al (cL n f) e) : e = .inl (ac 2, n, .inr (.inl f)) := h
/-- a reference on the stack and its cell -/
theorem m_ref {ac : Nat → ClassId} {h : List MC} {ws : va_W} {sc : MS} (hW : m_W ac h ws) {r : Nat} {c : MC} {V : Value} (hr : h[r]? = some c) (hV : m_v (m_al ws) sc (mr r) = some V) : ∃ (a : Nat) (e : va_E), V = .ref a ∧ ws[r]? = some (a, e) ∧ m_c ac (m_al ws) c e := by
  obtain ⟨q, hq, rfl⟩ := m_v_mr hV
  obtain ⟨a, e, e1, e2, e3⟩ := hW.get hr
  cases Option.some.inj (hq.symm.trans e2)
  exact ⟨_, e, rfl, e1, e3⟩
theorem e_getfield {g : MG} {sc : MS} {M : MM} {d w pc : Nat} {lv : ML} {st : List MV} {h : List MC} {mc ms : Nat} {Q : MO → List MC → Prop} {i ci k r : Nat} {fs : List MV} {v : MV} (hd : decode M.2.1 pc = .ok (.getfield i, 3)) (hf : m_fl M.1.cls i ci k) (ho : h[r]? = some (cO ci fs)) (hv : fs[k]? = some v) (kk : Ev g sc M d w (pc + 3) lv (v :: st) h mc ms Q) : Ev g sc M d w pc lv (mr r :: st) h mc ms Q := by
  intro p e R s m args below meth c A al0 H locs cells slots CT ST ls ws LV VS hF hSt hsc hR h1 h2 h3 h4 hA hK hP hD hS hW hal hls hlv hst
  obtain ⟨hx, hb, hr, hlk, hml, hown, hts, hnm, htb⟩ := id hF
  obtain ⟨V0, VS0, rfl, hV0, hst1⟩ := hst.inv
  have hsr := hst1
  obtain ⟨a, e9, rfl, hwr, hc9⟩ := m_ref hW ho hV0
  obtain ⟨FS, rfl, hfs⟩ := m_c_o hc9
  obtain ⟨V, hV, hVv⟩ := hfs.at hv
  obtain ⟨C, T, N, hc, hk, hin, hl | ⟨host, hl⟩⟩ := hf
  · exact va_get hx hb hts hin hown hK hP r hwr hc k hk (hts _ hl) (fun _ q => q) hV hd (kk p e R s m args below meth c A al0 H locs cells slots CT ST _ _ _ _ hF hSt hsc hR h1 h2 h3 h4 hA hK hP hD hS hW hal hls hlv (m_vs.cons (m_v_sc hVv) hsr))
  · exact va_getN hx hb hts hin hown hK hP r hwr hc k hk (va_Nw.use rfl (hSt.2.2.2.1 _ hl)) (fun _ q => q) hV hd (kk p e R s m args below meth c A al0 H locs cells slots CT ST _ _ _ _ hF hSt hsc hR h1 h2 h3 h4 hA hK hP hD hS hW hal hls hlv (m_vs.cons (m_v_sc hVv) hsr))
theorem e_putfield {g : MG} {sc : MS} {M : MM} {d w pc : Nat} {lv : ML} {st : List MV} {h : List MC} {mc ms : Nat} {Q : MO → List MC → Prop} {i ci k r : Nat} {fs : List MV} {v : MV} {ty : FieldType} (hd : decode M.2.1 pc = .ok (.putfield i, 3)) (hf : m_fp M.1.cls i ci k ty false) (ho : h[r]? = some (cO ci fs)) (hkl : k < fs.length) (hty : m_fits ty v) (hnsc : m_nsc v = true) (kk : Ev g sc M d w (pc + 3) lv st (h.set r (cO ci (fs.set k v))) mc ms Q) : Ev g sc M d w pc lv (v :: mr r :: st) h mc ms Q := by
  intro p e R s m args below meth c A al0 H locs cells slots CT ST ls ws LV VS hF hSt hsc hR h1 h2 h3 h4 hA hK hP hD hS hW hal hls hlv hst
  obtain ⟨hx, hb, hr, hlk, hml, hown, hts, hnm, htb⟩ := id hF
  obtain ⟨V0, VS0, rfl, hV0, hst1⟩ := hst.inv
  obtain ⟨V1, VS1, rfl, hV1, hst2⟩ := hst1.inv
  have hsr := hst2
  obtain ⟨a, e9, rfl, hwr, hc9⟩ := m_ref hW ho hV1
  obtain ⟨FS, rfl, hfs⟩ := m_c_o hc9
  obtain ⟨hn, hfit⟩ := hty _ _ _ hV0
  have hl9 : k < FS.length := by rw [hfs.len]; exact hkl
  obtain ⟨C, T, N, ty0, hc, hk, hin, hl, ht0, hnm9, hfin, hdecl, hpd⟩ := hf
  rcases hl with hl | ⟨-, host, hl⟩
  · exact va_put hx hb hts hin ty0 ht0 hnm9 hown hK hP hD hS r hwr hc k hk (hts _ hl) (fun _ q => q) hfin hpd hn hfit hl9 hd (fun H9 locs9 hP9 hD9 hS9 => kk p e R s m args below meth c A al0 H9 locs9 cells slots CT ST _ _ _ _ hF hSt hsc hR h1 h2 h3 h4 hA hK hP9 hD9 hS9 (hW.set hwr ⟨_, rfl, hfs.set (m_v_none hnsc hV0)⟩) (by rw [m_al_set hwr]; exact hal) hls (by rw [m_al_set hwr]; exact hlv) (by rw [m_al_set hwr]; exact hsr))
  · exact va_putN hx hb hts hin ty0 ht0 hnm9 hown hK hP hD hS r hwr hc k hk (va_Nw.use rfl (hSt.2.2.2.1 _ hl)) (fun _ q => q) hfin hpd hn hfit hl9 hd (fun H9 locs9 hP9 hD9 hS9 => kk p e R s m args below meth c A al0 H9 locs9 cells slots CT ST _ _ _ _ hF hSt hsc hR h1 h2 h3 h4 hA hK hP9 hD9 hS9 (hW.set hwr ⟨_, rfl, hfs.set (m_v_none hnsc hV0)⟩) (by rw [m_al_set hwr]; exact hal) hls (by rw [m_al_set hwr]; exact hlv) (by rw [m_al_set hwr]; exact hsr))
theorem e_putfinal {g : MG} {sc : MS} {M : MM} {d w pc : Nat} {lv : ML} {st : List MV} {h : List MC} {mc ms : Nat} {Q : MO → List MC → Prop} {i ci k r : Nat} {fs : List MV} {v : MV} {ty : FieldType} (hd : decode M.2.1 pc = .ok (.putfield i, 3)) (hf : m_fp M.1.cls i ci k ty true) (ho : h[r]? = some (cO ci fs)) (hkl : k < fs.length) (hty : m_fits ty v) (hnsc : m_nsc v = true) (hin2 : M.1.name = "<init>") (kk : Ev g sc M d w (pc + 3) lv st (h.set r (cO ci (fs.set k v))) mc ms Q) : Ev g sc M d w pc lv (v :: mr r :: st) h mc ms Q := by
  intro p e R s m args below meth c A al0 H locs cells slots CT ST ls ws LV VS hF hSt hsc hR h1 h2 h3 h4 hA hK hP hD hS hW hal hls hlv hst
  obtain ⟨hx, hb, hr, hlk, hml, hown, hts, hnm, htb⟩ := id hF
  obtain ⟨V0, VS0, rfl, hV0, hst1⟩ := hst.inv
  obtain ⟨V1, VS1, rfl, hV1, hst2⟩ := hst1.inv
  have hsr := hst2
  obtain ⟨a, e9, rfl, hwr, hc9⟩ := m_ref hW ho hV1
  obtain ⟨FS, rfl, hfs⟩ := m_c_o hc9
  obtain ⟨hn, hfit⟩ := hty _ _ _ hV0
  have hl9 : k < FS.length := by rw [hfs.len]; exact hkl
  obtain ⟨C, T, N, ty0, hc, hk, hin, hl, ht0, hnm9, hfin, hdecl, hpd⟩ := hf
  rcases hl with hl | ⟨hl, -⟩
  · exact va_putF hx hb hts hin ty0 ht0 hnm9 hown hK hP hD hS r hwr hc k hk (hts _ hl) (fun _ q => q) hfin (hnm.trans hin2) hdecl hpd hn hfit hl9 hd (fun H9 locs9 hP9 hD9 hS9 => kk p e R s m args below meth c A al0 H9 locs9 cells slots CT ST _ _ _ _ hF hSt hsc hR h1 h2 h3 h4 hA hK hP9 hD9 hS9 (hW.set hwr ⟨_, rfl, hfs.set (m_v_none hnsc hV0)⟩) (by rw [m_al_set hwr]; exact hal) hls (by rw [m_al_set hwr]; exact hlv) (by rw [m_al_set hwr]; exact hsr))
  · cases hl
theorem e_iaload {g : MG} {sc : MS} {M : MM} {d w pc : Nat} {lv : ML} {st : List MV} {h : List MC} {mc ms : Nat} {Q : MO → List MC → Prop} {r n : Nat} {f : Nat → Int32} {i : Int32} (hd : decode M.2.1 pc = .ok (.iaload, 1)) (ho : h[r]? = some (cI n f)) (hin : vp_in i n) (kk : Ev g sc M d w (pc + 1) lv (mi (f i.toNatClampNeg) :: st) h mc ms Q) : Ev g sc M d w pc lv (mi i :: mr r :: st) h mc ms Q := by
  intro p e R s m args below meth c A al0 H locs cells slots CT ST ls ws LV VS hF hSt hsc hR h1 h2 h3 h4 hA hK hP hD hS hW hal hls hlv hst
  obtain ⟨hx, hb, hr, hlk, hml, hown, hts, hnm, htb⟩ := id hF
  obtain ⟨V0, VS0, rfl, hV0, hst1⟩ := hst.inv
  obtain ⟨V1, VS1, rfl, hV1, hst2⟩ := hst1.inv
  have hsr := hst2
  cases hV0
  obtain ⟨a, e9, rfl, hwr, hc9⟩ := m_ref hW ho hV1
  obtain rfl := m_c_i hc9
  exact va_iald hx hb hK hP r 0 hwr rfl hin hd (kk p e R s m args below meth c A al0 H locs cells slots CT ST _ _ _ _ hF hSt hsc hR h1 h2 h3 h4 hA hK hP hD hS hW hal hls hlv (m_vs.cons rfl hsr))
theorem e_laload {g : MG} {sc : MS} {M : MM} {d w pc : Nat} {lv : ML} {st : List MV} {h : List MC} {mc ms : Nat} {Q : MO → List MC → Prop} {r n : Nat} {f : Nat → Int64} {i : Int32} (hd : decode M.2.1 pc = .ok (.laload, 1)) (ho : h[r]? = some (cL n f)) (hin : vp_in i n) (kk : Ev g sc M d w (pc + 1) lv (ml (f i.toNatClampNeg) :: st) h mc ms Q) : Ev g sc M d w pc lv (mi i :: mr r :: st) h mc ms Q := by
  intro p e R s m args below meth c A al0 H locs cells slots CT ST ls ws LV VS hF hSt hsc hR h1 h2 h3 h4 hA hK hP hD hS hW hal hls hlv hst
  obtain ⟨hx, hb, hr, hlk, hml, hown, hts, hnm, htb⟩ := id hF
  obtain ⟨V0, VS0, rfl, hV0, hst1⟩ := hst.inv
  obtain ⟨V1, VS1, rfl, hV1, hst2⟩ := hst1.inv
  have hsr := hst2
  cases hV0
  obtain ⟨a, e9, rfl, hwr, hc9⟩ := m_ref hW ho hV1
  obtain rfl := m_c_l hc9
  exact va_lald hx hb hK hP r 2 hwr rfl hin hd (kk p e R s m args below meth c A al0 H locs cells slots CT ST _ _ _ _ hF hSt hsc hR h1 h2 h3 h4 hA hK hP hD hS hW hal hls hlv (m_vs.cons rfl hsr))
theorem e_baload {g : MG} {sc : MS} {M : MM} {d w pc : Nat} {lv : ML} {st : List MV} {h : List MC} {mc ms : Nat} {Q : MO → List MC → Prop} {r n : Nat} {f : Nat → Int32} {i : Int32} (hd : decode M.2.1 pc = .ok (.baload, 1)) (ho : h[r]? = some (cZ n f)) (hin : vp_in i n) (kk : Ev g sc M d w (pc + 1) lv (mi (f i.toNatClampNeg) :: st) h mc ms Q) : Ev g sc M d w pc lv (mi i :: mr r :: st) h mc ms Q := by
  intro p e R s m args below meth c A al0 H locs cells slots CT ST ls ws LV VS hF hSt hsc hR h1 h2 h3 h4 hA hK hP hD hS hW hal hls hlv hst
  obtain ⟨hx, hb, hr, hlk, hml, hown, hts, hnm, htb⟩ := id hF
  obtain ⟨V0, VS0, rfl, hV0, hst1⟩ := hst.inv
  obtain ⟨V1, VS1, rfl, hV1, hst2⟩ := hst1.inv
  have hsr := hst2
  cases hV0
  obtain ⟨a, e9, rfl, hwr, hc9⟩ := m_ref hW ho hV1
  obtain rfl := m_c_z hc9
  exact va_zald hx hb hK hP r 1 hwr rfl hin hd (kk p e R s m args below meth c A al0 H locs cells slots CT ST _ _ _ _ hF hSt hsc hR h1 h2 h3 h4 hA hK hP hD hS hW hal hls hlv (m_vs.cons rfl hsr))
theorem e_iastore {g : MG} {sc : MS} {M : MM} {d w pc : Nat} {lv : ML} {st : List MV} {h : List MC} {mc ms : Nat} {Q : MO → List MC → Prop} {r n : Nat} {f : Nat → Int32} {i : Int32} {x : Int32} (hd : decode M.2.1 pc = .ok (.iastore, 1)) (ho : h[r]? = some (cI n f)) (hin : vp_in i n) (kk : Ev g sc M d w (pc + 1) lv st (h.set r (cI n (upd f i.toNatClampNeg x))) mc ms Q) : Ev g sc M d w pc lv (mi x :: mi i :: mr r :: st) h mc ms Q := by
  intro p e R s m args below meth c A al0 H locs cells slots CT ST ls ws LV VS hF hSt hsc hR h1 h2 h3 h4 hA hK hP hD hS hW hal hls hlv hst
  obtain ⟨hx, hb, hr, hlk, hml, hown, hts, hnm, htb⟩ := id hF
  obtain ⟨V0, VS0, rfl, hV0, hst1⟩ := hst.inv
  obtain ⟨V1, VS1, rfl, hV1, hst2⟩ := hst1.inv
  obtain ⟨V2, VS2, rfl, hV2, hst3⟩ := hst2.inv
  have hsr := hst3
  cases hV0
  cases hV1
  obtain ⟨a, e9, rfl, hwr, hc9⟩ := m_ref hW ho hV2
  obtain rfl := m_c_i hc9
  exact va_iast hx hb hK hP hD hS r 0 hwr rfl hin hd (fun H9 locs9 hP9 hD9 hS9 => kk p e R s m args below meth c A al0 H9 locs9 cells slots CT ST _ _ _ _ hF hSt hsc hR h1 h2 h3 h4 hA hK hP9 hD9 hS9 (hW.set hwr rfl) (by rw [m_al_set hwr]; exact hal) hls (by rw [m_al_set hwr]; exact hlv) (by rw [m_al_set hwr]; exact hsr))
theorem e_lastore {g : MG} {sc : MS} {M : MM} {d w pc : Nat} {lv : ML} {st : List MV} {h : List MC} {mc ms : Nat} {Q : MO → List MC → Prop} {r n : Nat} {f : Nat → Int64} {i : Int32} {x : Int64} (hd : decode M.2.1 pc = .ok (.lastore, 1)) (ho : h[r]? = some (cL n f)) (hin : vp_in i n) (kk : Ev g sc M d w (pc + 1) lv st (h.set r (cL n (vp_updL f i.toNatClampNeg x))) mc ms Q) : Ev g sc M d w pc lv (ml x :: mi i :: mr r :: st) h mc ms Q := by
  intro p e R s m args below meth c A al0 H locs cells slots CT ST ls ws LV VS hF hSt hsc hR h1 h2 h3 h4 hA hK hP hD hS hW hal hls hlv hst
  obtain ⟨hx, hb, hr, hlk, hml, hown, hts, hnm, htb⟩ := id hF
  obtain ⟨V0, VS0, rfl, hV0, hst1⟩ := hst.inv
  obtain ⟨V1, VS1, rfl, hV1, hst2⟩ := hst1.inv
  obtain ⟨V2, VS2, rfl, hV2, hst3⟩ := hst2.inv
  have hsr := hst3
  cases hV0
  cases hV1
  obtain ⟨a, e9, rfl, hwr, hc9⟩ := m_ref hW ho hV2
  obtain rfl := m_c_l hc9
  exact va_last hx hb hK hP hD hS r 2 hwr rfl hin hd (fun H9 locs9 hP9 hD9 hS9 => kk p e R s m args below meth c A al0 H9 locs9 cells slots CT ST _ _ _ _ hF hSt hsc hR h1 h2 h3 h4 hA hK hP9 hD9 hS9 (hW.set hwr rfl) (by rw [m_al_set hwr]; exact hal) hls (by rw [m_al_set hwr]; exact hlv) (by rw [m_al_set hwr]; exact hsr))
theorem e_bastore {g : MG} {sc : MS} {M : MM} {d w pc : Nat} {lv : ML} {st : List MV} {h : List MC} {mc ms : Nat} {Q : MO → List MC → Prop} {r n : Nat} {f : Nat → Int32} {i : Int32} {x : Int32} (hd : decode M.2.1 pc = .ok (.bastore, 1)) (ho : h[r]? = some (cZ n f)) (hin : vp_in i n) (hz : vp_nar .boolean x = x) (kk : Ev g sc M d w (pc + 1) lv st (h.set r (cZ n (upd f i.toNatClampNeg x))) mc ms Q) : Ev g sc M d w pc lv (mi x :: mi i :: mr r :: st) h mc ms Q := by
  intro p e R s m args below meth c A al0 H locs cells slots CT ST ls ws LV VS hF hSt hsc hR h1 h2 h3 h4 hA hK hP hD hS hW hal hls hlv hst
  obtain ⟨hx, hb, hr, hlk, hml, hown, hts, hnm, htb⟩ := id hF
  obtain ⟨V0, VS0, rfl, hV0, hst1⟩ := hst.inv
  obtain ⟨V1, VS1, rfl, hV1, hst2⟩ := hst1.inv
  obtain ⟨V2, VS2, rfl, hV2, hst3⟩ := hst2.inv
  have hsr := hst3
  cases hV0
  cases hV1
  obtain ⟨a, e9, rfl, hwr, hc9⟩ := m_ref hW ho hV2
  obtain rfl := m_c_z hc9
  exact va_zast hx hb hK hP hD hS r 1 hwr rfl hin hd (fun H9 locs9 hP9 hD9 hS9 => kk p e R s m args below meth c A al0 H9 locs9 cells slots CT ST _ _ _ _ hF hSt hsc hR h1 h2 h3 h4 hA hK hP9 hD9 hS9 (hW.set hwr (by rw [hz]; rfl)) (by rw [m_al_set hwr]; exact hal) hls (by rw [m_al_set hwr]; exact hlv) (by rw [m_al_set hwr]; exact hsr))
theorem e_aaload {g : MG} {sc : MS} {M : MM} {d w pc : Nat} {lv : ML} {st : List MV} {h : List MC} {mc ms : Nat} {Q : MO → List MC → Prop} {r ci n : Nat} {f : Nat → Option Nat} {i : Int32} (hd : decode M.2.1 pc = .ok (.aaload, 1)) (hoa : m_oa ci) (ho : h[r]? = some (cR ci n f)) (hin : vp_in i n) (kk : Ev g sc M d w (pc + 1) lv (.inr (.inr (.inl (f i.toNatClampNeg))) :: st) h mc ms Q) : Ev g sc M d w pc lv (mi i :: mr r :: st) h mc ms Q := by
  intro p e R s m args below meth c A al0 H locs cells slots CT ST ls ws LV VS hF hSt hsc hR h1 h2 h3 h4 hA hK hP hD hS hW hal hls hlv hst
  obtain ⟨hx, hb, hr, hlk, hml, hown, hts, hnm, htb⟩ := id hF
  obtain ⟨V0, VS0, rfl, hV0, hst1⟩ := hst.inv
  obtain ⟨V1, VS1, rfl, hV1, hst2⟩ := hst1.inv
  have hsr := hst2
  cases hV0
  obtain ⟨a, e9, rfl, hwr, hc9⟩ := m_ref hW ho hV1
  obtain ⟨F, rfl, hF9⟩ := m_c_r hc9
  obtain ⟨t0, q9, ht0, hq9⟩ := hoa g.2.2
  exact va_aldq hx hb hK hP r t0 hwr ht0 hin hd (kk p e R s m args below meth c A al0 H locs cells slots CT ST _ _ _ _ hF hSt hsc hR h1 h2 h3 h4 hA hK hP hD hS hW hal hls hlv (m_vs.cons (m_v_rf (hF9 _)) hsr))
theorem e_aastore {g : MG} {sc : MS} {M : MM} {d w pc : Nat} {lv : ML} {st : List MV} {h : List MC} {mc ms : Nat} {Q : MO → List MC → Prop} {r ci n v : Nat} {f : Nat → Option Nat} {vs : List MV} {i : Int32} (hd : decode M.2.1 pc = .ok (.aastore, 1)) (hoa : m_oa ci) (ho : h[r]? = some (cR ci n f)) (hv : h[v]? = some (cO ci vs)) (hin : vp_in i n) (kk : Ev g sc M d w (pc + 1) lv st (h.set r (cR ci n (va_up f i.toNatClampNeg (some v)))) mc ms Q) : Ev g sc M d w pc lv (mr v :: mi i :: mr r :: st) h mc ms Q := by
  intro p e R s m args below meth c A al0 H locs cells slots CT ST ls ws LV VS hF hSt hsc hR h1 h2 h3 h4 hA hK hP hD hS hW hal hls hlv hst
  obtain ⟨hx, hb, hr, hlk, hml, hown, hts, hnm, htb⟩ := id hF
  obtain ⟨V0, VS0, rfl, hV0, hst1⟩ := hst.inv
  obtain ⟨V1, VS1, rfl, hV1, hst2⟩ := hst1.inv
  obtain ⟨V2, VS2, rfl, hV2, hst3⟩ := hst2.inv
  have hsr := hst3
  cases hV1
  obtain ⟨a, e9, rfl, hwr, hc9⟩ := m_ref hW ho hV2
  obtain ⟨F, rfl, hF9⟩ := m_c_r hc9
  obtain ⟨a2, e2, rfl, hwv, hc2⟩ := m_ref hW hv hV0
  obtain ⟨FS, rfl, hfs⟩ := m_c_o hc2
  obtain ⟨t0, q9, ht0, hq9⟩ := hoa g.2.2
  exact va_astq hx hb hK hP hD hS r t0 v ci hwr ht0 hwv hq9 hin hd (fun H9 locs9 hP9 hD9 hS9 => kk p e R s m args below meth c A al0 H9 locs9 cells slots CT ST _ _ _ _ hF hSt hsc hR h1 h2 h3 h4 hA hK hP9 hD9 hS9 (hW.set hwr ⟨_, rfl, m_rf_up hF9 (m_al_at hwv)⟩) (by rw [m_al_set hwr]; exact hal) hls (by rw [m_al_set hwr]; exact hlv) (by rw [m_al_set hwr]; exact hsr))
theorem e_alenI {g : MG} {sc : MS} {M : MM} {d w pc : Nat} {lv : ML} {st : List MV} {h : List MC} {mc ms : Nat} {Q : MO → List MC → Prop} {r n : Nat} {f : Nat → Int32} (hd : decode M.2.1 pc = .ok (.arraylength, 1)) (ho : h[r]? = some (cI n f)) (kk : Ev g sc M d w (pc + 1) lv (mi (Int32.ofNat n) :: st) h mc ms Q) : Ev g sc M d w pc lv (mr r :: st) h mc ms Q := by
  intro p e R s m args below meth c A al0 H locs cells slots CT ST ls ws LV VS hF hSt hsc hR h1 h2 h3 h4 hA hK hP hD hS hW hal hls hlv hst
  obtain ⟨hx, hb, hr, hlk, hml, hown, hts, hnm, htb⟩ := id hF
  obtain ⟨V0, VS0, rfl, hV0, hst1⟩ := hst.inv
  have hsr := hst1
  obtain ⟨a, e9, rfl, hwr, hc9⟩ := m_ref hW ho hV0
  obtain rfl := m_c_i hc9
  exact va_alen hx hb hK hP r 0 hwr rfl rfl hd (kk p e R s m args below meth c A al0 H locs cells slots CT ST _ _ _ _ hF hSt hsc hR h1 h2 h3 h4 hA hK hP hD hS hW hal hls hlv (m_vs.cons rfl hsr))
theorem e_alenL {g : MG} {sc : MS} {M : MM} {d w pc : Nat} {lv : ML} {st : List MV} {h : List MC} {mc ms : Nat} {Q : MO → List MC → Prop} {r n : Nat} {f : Nat → Int64} (hd : decode M.2.1 pc = .ok (.arraylength, 1)) (ho : h[r]? = some (cL n f)) (kk : Ev g sc M d w (pc + 1) lv (mi (Int32.ofNat n) :: st) h mc ms Q) : Ev g sc M d w pc lv (mr r :: st) h mc ms Q := by
  intro p e R s m args below meth c A al0 H locs cells slots CT ST ls ws LV VS hF hSt hsc hR h1 h2 h3 h4 hA hK hP hD hS hW hal hls hlv hst
  obtain ⟨hx, hb, hr, hlk, hml, hown, hts, hnm, htb⟩ := id hF
  obtain ⟨V0, VS0, rfl, hV0, hst1⟩ := hst.inv
  have hsr := hst1
  obtain ⟨a, e9, rfl, hwr, hc9⟩ := m_ref hW ho hV0
  obtain rfl := m_c_l hc9
  exact va_alen hx hb hK hP r 2 hwr rfl rfl hd (kk p e R s m args below meth c A al0 H locs cells slots CT ST _ _ _ _ hF hSt hsc hR h1 h2 h3 h4 hA hK hP hD hS hW hal hls hlv (m_vs.cons rfl hsr))
theorem e_alenR {g : MG} {sc : MS} {M : MM} {d w pc : Nat} {lv : ML} {st : List MV} {h : List MC} {mc ms : Nat} {Q : MO → List MC → Prop} {r ci n : Nat} {f : Nat → Option Nat} (hd : decode M.2.1 pc = .ok (.arraylength, 1)) (hoa : m_oa ci) (ho : h[r]? = some (cR ci n f)) (kk : Ev g sc M d w (pc + 1) lv (mi (Int32.ofNat n) :: st) h mc ms Q) : Ev g sc M d w pc lv (mr r :: st) h mc ms Q := by
  intro p e R s m args below meth c A al0 H locs cells slots CT ST ls ws LV VS hF hSt hsc hR h1 h2 h3 h4 hA hK hP hD hS hW hal hls hlv hst
  obtain ⟨hx, hb, hr, hlk, hml, hown, hts, hnm, htb⟩ := id hF
  obtain ⟨V0, VS0, rfl, hV0, hst1⟩ := hst.inv
  have hsr := hst1
  obtain ⟨a, e9, rfl, hwr, hc9⟩ := m_ref hW ho hV0
  obtain ⟨F, rfl, hF9⟩ := m_c_r hc9
  obtain ⟨t0, q9, ht0, hq9⟩ := hoa g.2.2
  exact va_alen hx hb hK hP r t0 hwr ht0 rfl hd (kk p e R s m args below meth c A al0 H locs cells slots CT ST _ _ _ _ hF hSt hsc hR h1 h2 h3 h4 hA hK hP hD hS hW hal hls hlv (m_vs.cons rfl hsr))
theorem e_siaload {g : MG} {sc : MS} {M : MM} {d w pc : Nat} {lv : ML} {st : List MV} {h : List MC} {mc ms : Nat} {Q : MO → List MC → Prop} {b L : Nat} {xs : Nat → Int32} {i : Int32} (hd : decode M.2.1 pc = .ok (.iaload, 1)) (hs : sc = some (b, L, xs)) (hin : vp_in i L) (kk : Ev g sc M d w (pc + 1) lv (mi (xs i.toNatClampNeg) :: st) h mc ms Q) : Ev g sc M d w pc lv (mi i :: msc :: st) h mc ms Q := by
  intro p e R s m args below meth c A al0 H locs cells slots CT ST ls ws LV VS hF hSt hsc hR h1 h2 h3 h4 hA hK hP hD hS hW hal hls hlv hst
  obtain ⟨hx, hb, hr, hlk, hml, hown, hts, hnm, htb⟩ := id hF
  obtain ⟨V0, VS0, rfl, hV0, hst1⟩ := hst.inv
  obtain ⟨V1, VS1, rfl, hV1, hst2⟩ := hst1.inv
  have hsr := hst2
  cases hV0
  obtain ⟨hX, hbl, hbA⟩ := hsc _ hs
  rw [hs] at hV1
  cases hV1
  exact va_sld hx hb hX hbl hbA hS hin hd (kk p e R s m args below meth c A al0 H locs cells slots CT ST _ _ _ _ hF hSt hsc hR h1 h2 h3 h4 hA hK hP hD hS hW hal hls hlv (m_vs.cons rfl hsr))
theorem e_slen {g : MG} {sc : MS} {M : MM} {d w pc : Nat} {lv : ML} {st : List MV} {h : List MC} {mc ms : Nat} {Q : MO → List MC → Prop} {b L : Nat} {xs : Nat → Int32} (hd : decode M.2.1 pc = .ok (.arraylength, 1)) (hs : sc = some (b, L, xs)) (kk : Ev g sc M d w (pc + 1) lv (mi (Int32.ofNat L) :: st) h mc ms Q) : Ev g sc M d w pc lv (msc :: st) h mc ms Q := by
  intro p e R s m args below meth c A al0 H locs cells slots CT ST ls ws LV VS hF hSt hsc hR h1 h2 h3 h4 hA hK hP hD hS hW hal hls hlv hst
  obtain ⟨hx, hb, hr, hlk, hml, hown, hts, hnm, htb⟩ := id hF
  obtain ⟨V0, VS0, rfl, hV0, hst1⟩ := hst.inv
  have hsr := hst1
  obtain ⟨hX, hbl, hbA⟩ := hsc _ hs
  rw [hs] at hV0
  cases hV0
  exact va_slen hx hb hX hbl hbA hS hd (kk p e R s m args below meth c A al0 H locs cells slots CT ST _ _ _ _ hF hSt hsc hR h1 h2 h3 h4 hA hK hP hD hS hW hal hls hlv (m_vs.cons rfl hsr))
theorem e_ireturn {g : MG} {sc : MS} {M : MM} {d w pc : Nat} {lv : ML} {h : List MC} {mc ms : Nat} {Q : MO → List MC → Prop} {x : Int32} {ty : FieldType} (hd : decode M.2.1 pc = .ok (.ireturn, 1)) (hret : M.2.2.2.1 = some ty) (hn : narrow ty (.int x) = .int x) (kk : Q (.inl (some (mi x))) h) : Ev g sc M d w pc lv ([mi x]) h mc ms Q := by
  intro p e R s m args below meth c A al0 H locs cells slots CT ST ls ws LV VS hF hSt hsc hR h1 h2 h3 h4 hA hK hP hD hS hW hal hls hlv hst
  obtain ⟨hx, hb, hr, hlk, hml, hown, hts, hnm, htb⟩ := id hF
  obtain ⟨V0, VS0, rfl, hV0, hst1⟩ := hst.inv
  have hsr := hst1
  cases hV0
  obtain rfl := hsr.inv0
  refine W.widen (k := CT) (n := ST) (by omega) (by omega) ?_
  exact m_ret (r := some (mi x)) (m_vs.cons rfl m_vs.nil) kk hW hP hK hD hal hS (W.zret hx hb (hr.trans hret) hn (fun t ht hW9 => ⟨rfl, ht⟩) hS.2.2 hd hlk)
theorem e_return {g : MG} {sc : MS} {M : MM} {d w pc : Nat} {lv : ML} {h : List MC} {mc ms : Nat} {Q : MO → List MC → Prop} (hd : decode M.2.1 pc = .ok (.return_, 1)) (hret : M.2.2.2.1 = none) (kk : Q (.inl none) h) : Ev g sc M d w pc lv ([]) h mc ms Q := by
  intro p e R s m args below meth c A al0 H locs cells slots CT ST ls ws LV VS hF hSt hsc hR h1 h2 h3 h4 hA hK hP hD hS hW hal hls hlv hst
  obtain ⟨hx, hb, hr, hlk, hml, hown, hts, hnm, htb⟩ := id hF
  obtain rfl := hst.inv0
  refine W.widen (k := CT) (n := ST) (by omega) (by omega) ?_
  exact m_ret (r := none) m_vs.nil kk hW hP hK hD hal hS (W.vret hx hb (hr.trans hret) (fun t ht hW9 => ⟨rfl, ht⟩) hS.2.2 hd hlk)
theorem e_areturn {g : MG} {sc : MS} {M : MM} {d w pc : Nat} {lv : ML} {h : List MC} {mc ms : Nat} {Q : MO → List MC → Prop} {r : Option Nat} {rt : FieldType} (hd : decode M.2.1 pc = .ok (.areturn, 1)) (hret : M.2.2.2.1 = some rt) (hrt : (∃ n, rt = .object n) ∨ ∃ t, rt = .array t) (kk : Q (.inl (some (.inr (.inr (.inl r))))) h) : Ev g sc M d w pc lv ([.inr (.inr (.inl r))]) h mc ms Q := by
  intro p e R s m args below meth c A al0 H locs cells slots CT ST ls ws LV VS hF hSt hsc hR h1 h2 h3 h4 hA hK hP hD hS hW hal hls hlv hst
  obtain ⟨hx, hb, hr, hlk, hml, hown, hts, hnm, htb⟩ := id hF
  obtain ⟨V0, VS0, rfl, hV0, hst1⟩ := hst.inv
  have hsr := hst1
  obtain rfl := hsr.inv0
  have hv9 := m_v_ref hV0
  have hV9 : m_v (m_al ws) none (.inr (.inr (.inl r))) = some V0 := m_v_none (by cases r <;> rfl) hV0
  refine W.widen (k := CT) (n := ST) (by omega) (by omega) ?_
  exact m_ret (r := some (.inr (.inr (.inl r)))) (m_vs.cons hV9 m_vs.nil) kk hW hP hK hD hal hS (W.aret hx hb (hr.trans hret) hrt hv9 (fun t ht hW9 => ⟨rfl, ht⟩) hS.2.2 hd hlk)
