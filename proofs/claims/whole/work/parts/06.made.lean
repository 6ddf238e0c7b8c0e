/-- a class may be made: its fields at their beginning -/
def m_nw (own : String) (i ci : Nat) (fs : List MV) (N : Nat) : Prop := ∃ (C : String) (T : u_T) (ty : Nat → FieldType) (FS : List Value), m_cl[ci]? = some (C, T, N) ∧ (∀ w ∈ u_ws C T N, w ∈ m_Ts) ∧ (∀ k, k < N → parseFieldDescriptor (T k).2.2.1 = some (ty k)) ∧ Cond.classLink own i C ∈ m_Ts ∧ Cond.instantiable C N ∈ m_Ts ∧ Cond.initialized C ∈ m_Ts ∧ (∀ j, j < N → defaultValue (ty j) = vp_V FS j) ∧ m_vs [] none fs FS
theorem m_le_nil (al : List Nat) : m_le [] al := ⟨al, rfl⟩
theorem e_new {g : MG} {sc : MS} {M : MM} {d w pc : Nat} {lv : ML} {st : List MV} {h : List MC} {mc ms : Nat} {Q : MO → List MC → Prop} {i ci N : Nat} {fs : List MV} (hd : decode M.2.1 pc = .ok (.new i, 3)) (hw : m_nw M.1.cls i ci fs N) (kk : Ev g sc M d w (pc + 3) lv (mr h.length :: st) (h ++ [cO ci fs]) mc ms Q) : Ev g sc M d w pc lv st h (mc + 1) (ms + N) Q := by
  intro p e R s m args below meth c A al0 H locs cells slots CT ST ls ws LV VS hF hSt hsc hR h1 h2 h3 h4 hA hK hP hD hS hW hal hls hlv hst
  obtain ⟨hx, hb, hr, hlk, hml, hown, hts, hnm, htb⟩ := id hF
  obtain ⟨C, T, ty, FS, hc, hin, hty, hcl, hinst, hini, hfs, hvs⟩ := hw
  refine va_new hx hb hts hin ty hty hown (hts _ hcl) (hts _ hinst) (hts _ hini) hK hP hD hS hA hc hfs (by omega) (by omega) hd (fun q H9 hP9 hD9 hS9 => ?_)
  have hle := m_le_push ws q (.inr (ci, FS))
  exact kk p e R s m args below meth c A al0 H9 locs (cells + 1) (slots + N) CT ST _ _ _ _ hF hSt hsc hR (by omega) (by omega) h3 h4 hA hK hP9 hD9 hS9 (hW.push ⟨FS, rfl, hvs.le (m_le_nil _)⟩) (hal.tr hle) hls (hlv.le hle) (m_vs.cons (by simp only [m_v, m_al_new hW, Option.map_some]) (hst.le hle))
theorem m_ac {D : va_G} {cl : List vw_C} {tys : List (ClassId × FieldType)} {s : State} {a b : ClassId} {ty : FieldType} (hty : ty = .int ∨ ty = .long ∨ ty = .boolean ∨ ∃ C, ty = .object C) (h1 : va_K D cl tys s) {t0 : Nat} (ht : tys[t0]? = some (a, ty)) (h2 : va_K D cl (tys ++ [(b, ty)]) s) : b = a := by
  have e1 := (h1.2 t0 _ ht).2
  have e2 := (h2.2 tys.length (b, ty) (by simp)).2
  rcases hty with rfl | rfl | rfl | ⟨C, rfl⟩
  · exact Option.some.inj (Eq.trans (Eq.symm e2) e1)
  · exact Option.some.inj (Eq.trans (Eq.symm e2) e1)
  · exact Option.some.inj (Eq.trans (Eq.symm e2) e1)
  · obtain ⟨_, _, _, _, _, e3⟩ := e1
    obtain ⟨_, _, _, _, _, e4⟩ := e2
    exact Option.some.inj (e4.symm.trans e3)
theorem e_newI {g : MG} {sc : MS} {M : MM} {d w pc : Nat} {lv : ML} {st : List MV} {h : List MC} {mc ms : Nat} {Q : MO → List MC → Prop} {n : Int32} {N : Nat} (hd : decode M.2.1 pc = .ok (.newarray .int, 2)) (hn : ¬ n < 0) (hN : n.toNatClampNeg = N) (hb9 : N ≤ 1000000) (kk : Ev g sc M d w (pc + 2) lv (mr h.length :: st) (h ++ [cI N (fun _ => 0)]) mc ms Q) : Ev g sc M d w pc lv (mi n :: st) h (mc + 1) (ms + N) Q := by
  intro p e R s m args below meth c A al0 H locs cells slots CT ST ls ws LV VS hF hSt hsc hR h1 h2 h3 h4 hA hK hP hD hS hW hal hls hlv hst
  obtain ⟨hx, hb, hr, hlk, hml, hown, hts, hnm, htb⟩ := id hF
  obtain ⟨V0, VS0, rfl, hV0, hst1⟩ := hst.inv
  have hsr := hst1
  cases hV0
  refine va_newa (atype := .int) (ty := .int) (a0 := (N, .inl (fun _ => 0))) hx hb (hts _ m_Ts_int) rfl hK hP hD hS hA (fun cA => rfl) hn hN (by show N * 4 ≤ _; omega) (by omega) (by omega) hd (fun q cA H9 hK9 hP9 hD9 hS9 => ?_)
  obtain rfl : cA = g.2.2 0 := m_ac (Or.inl rfl) hK (t0 := 0) rfl hK9
  have hle := m_le_push ws q (.inl (g.2.2 0, N, .inl (fun _ => (0 : Int32))))
  exact kk p e R s m args below meth c A al0 H9 locs (cells + 1) (slots + N) CT ST _ _ _ _ hF hSt hsc hR (by omega) (by omega) h3 h4 hA hK hP9 hD9 hS9 (hW.push rfl) (hal.tr hle) hls (hlv.le hle) (m_vs.cons (by simp only [m_v, m_al_new hW, Option.map_some]) (hsr.le hle))
theorem e_newL {g : MG} {sc : MS} {M : MM} {d w pc : Nat} {lv : ML} {st : List MV} {h : List MC} {mc ms : Nat} {Q : MO → List MC → Prop} {n : Int32} {N : Nat} (hd : decode M.2.1 pc = .ok (.newarray .long, 2)) (hn : ¬ n < 0) (hN : n.toNatClampNeg = N) (hb9 : N ≤ 1000000) (kk : Ev g sc M d w (pc + 2) lv (mr h.length :: st) (h ++ [cL N (fun _ => 0)]) mc ms Q) : Ev g sc M d w pc lv (mi n :: st) h (mc + 1) (ms + N) Q := by
  intro p e R s m args below meth c A al0 H locs cells slots CT ST ls ws LV VS hF hSt hsc hR h1 h2 h3 h4 hA hK hP hD hS hW hal hls hlv hst
  obtain ⟨hx, hb, hr, hlk, hml, hown, hts, hnm, htb⟩ := id hF
  obtain ⟨V0, VS0, rfl, hV0, hst1⟩ := hst.inv
  have hsr := hst1
  cases hV0
  refine va_newa (atype := .long) (ty := .long) (a0 := (N, .inr (.inl (fun _ => 0)))) hx hb (hts _ m_Ts_long) rfl hK hP hD hS hA (fun cA => rfl) hn hN (by show N * 8 ≤ _; omega) (by omega) (by omega) hd (fun q cA H9 hK9 hP9 hD9 hS9 => ?_)
  obtain rfl : cA = g.2.2 2 := m_ac (Or.inr (Or.inl rfl)) hK (t0 := 2) rfl hK9
  have hle := m_le_push ws q (.inl (g.2.2 2, N, .inr (.inl (fun _ => (0 : Int64)))))
  exact kk p e R s m args below meth c A al0 H9 locs (cells + 1) (slots + N) CT ST _ _ _ _ hF hSt hsc hR (by omega) (by omega) h3 h4 hA hK hP9 hD9 hS9 (hW.push rfl) (hal.tr hle) hls (hlv.le hle) (m_vs.cons (by simp only [m_v, m_al_new hW, Option.map_some]) (hsr.le hle))
theorem e_newZ {g : MG} {sc : MS} {M : MM} {d w pc : Nat} {lv : ML} {st : List MV} {h : List MC} {mc ms : Nat} {Q : MO → List MC → Prop} {n : Int32} {N : Nat} (hd : decode M.2.1 pc = .ok (.newarray .boolean, 2)) (hn : ¬ n < 0) (hN : n.toNatClampNeg = N) (hb9 : N ≤ 1000000) (kk : Ev g sc M d w (pc + 2) lv (mr h.length :: st) (h ++ [cZ N (fun _ => 0)]) mc ms Q) : Ev g sc M d w pc lv (mi n :: st) h (mc + 1) (ms + N) Q := by
  intro p e R s m args below meth c A al0 H locs cells slots CT ST ls ws LV VS hF hSt hsc hR h1 h2 h3 h4 hA hK hP hD hS hW hal hls hlv hst
  obtain ⟨hx, hb, hr, hlk, hml, hown, hts, hnm, htb⟩ := id hF
  obtain ⟨V0, VS0, rfl, hV0, hst1⟩ := hst.inv
  have hsr := hst1
  cases hV0
  refine va_newa (atype := .boolean) (ty := .boolean) (a0 := (N, .inl (fun _ => 0))) hx hb (hts _ m_Ts_bool) rfl hK hP hD hS hA (fun cA => rfl) hn hN (by show N * 1 ≤ _; omega) (by omega) (by omega) hd (fun q cA H9 hK9 hP9 hD9 hS9 => ?_)
  obtain rfl : cA = g.2.2 1 := m_ac (Or.inr (Or.inr (Or.inl rfl))) hK (t0 := 1) rfl hK9
  have hle := m_le_push ws q (.inl (g.2.2 1, N, .inl (fun _ => (0 : Int32))))
  exact kk p e R s m args below meth c A al0 H9 locs (cells + 1) (slots + N) CT ST _ _ _ _ hF hSt hsc hR (by omega) (by omega) h3 h4 hA hK hP9 hD9 hS9 (hW.push rfl) (hal.tr hle) hls (hlv.le hle) (m_vs.cons (by simp only [m_v, m_al_new hW, Option.map_some]) (hsr.le hle))
theorem e_newR {g : MG} {sc : MS} {M : MM} {d w pc : Nat} {lv : ML} {st : List MV} {h : List MC} {mc ms : Nat} {Q : MO → List MC → Prop} {i ci : Nat} {n : Int32} {N : Nat} {q : vw_C} (hd : decode M.2.1 pc = .ok (.anewarray i, 3)) (hoa : m_oa ci) (hq : m_cl[ci]? = some q) (hcl : Cond.classLink M.1.cls i q.1 ∈ m_Ts) (hao : q.1 ∈ m_aos) (hn : ¬ n < 0) (hN : n.toNatClampNeg = N) (hb9 : N ≤ 1000000) (kk : Ev g sc M d w (pc + 3) lv (mr h.length :: st) (h ++ [cR ci N (fun _ => none)]) mc ms Q) : Ev g sc M d w pc lv (mi n :: st) h (mc + 1) (ms + N) Q := by
  intro p e R s m args below meth c A al0 H locs cells slots CT ST ls ws LV VS hF hSt hsc hR h1 h2 h3 h4 hA hK hP hD hS hW hal hls hlv hst
  obtain ⟨hx, hb, hr, hlk, hml, hown, hts, hnm, htb⟩ := id hF
  obtain ⟨V0, VS0, rfl, hV0, hst1⟩ := hst.inv
  have hsr := hst1
  cases hV0
  obtain ⟨t0, q9, ht0, hq9⟩ := hoa g.2.2
  cases Option.some.inj (hq.symm.trans hq9)
  refine va_newq hx hb hown (hts _ hcl) (hSt.2.2.2.2.2.1 _ hao) hK hP hD hS hA hn hN (by omega) (by omega) (by omega) hd (fun a cA H9 hK9 hP9 hD9 hS9 => ?_)
  obtain rfl : cA = g.2.2 (3 + ci) := m_ac (Or.inr (Or.inr (Or.inr ⟨_, rfl⟩))) hK ht0 hK9
  have hle := m_le_push ws a (.inl (g.2.2 (3 + ci), N, .inr (.inr (.inr (.inr (fun _ => none))))))
  exact kk p e R s m args below meth c A al0 H9 locs (cells + 1) (slots + N) CT ST _ _ _ _ hF hSt hsc hR (by omega) (by omega) h3 h4 hA hK hP9 hD9 hS9 (hW.push ⟨_, rfl, fun _ => rfl⟩) (hal.tr hle) hls (hlv.le hle) (m_vs.cons (by simp only [m_v, m_al_new hW, Option.map_some]) (hsr.le hle))
