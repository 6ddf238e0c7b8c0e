theorem e_mmax {g : MG} {sc : MS} {M : MM} {d w pc : Nat} {lv : ML} {st : List MV} {h : List MC} {mc ms : Nat} {Q : MO → List MC → Prop} {i : Nat} {x y : Int32} (hd : decode M.2.1 pc = .ok (.invokestatic i, 3)) (hl : Cond.methodLink M.1.cls i Lib.Math.max.name ∈ m_Ts) (hs : Cond.static Lib.Math.max.name ∈ m_Ts) (hi : Cond.initialized "java/lang/Math" ∈ m_Ts) (hc : Cond.code Lib.Math.max.name Lib.Math.max.code 2 (some .int) ∈ m_Ts) (h8 : (st.map m_cat).sum ≤ 8) (hd1 : 1 ≤ d) (hw1 : 21 ≤ w) (kk : Ev g sc M d w (pc + 3) lv (mi (if x < y then y else x) :: st) h mc ms Q) : Ev g sc M d w pc lv (mi y :: mi x :: st) h mc ms Q := by
  intro p e R s m args below meth c A al0 H locs cells slots CT ST ls ws LV VS hF hSt hsc hR h1 h2 h3 h4 hA hK hP hD hS hW hal hls hlv hst
  obtain ⟨hx, hb, hr, hlk, hml, hown, hts, hnm, htb⟩ := id hF
  obtain ⟨V0, VS0, rfl, hV0, hst1⟩ := hst.inv
  obtain ⟨V1, VS1, rfl, hV1, hst2⟩ := hst1.inv
  cases hV0
  cases hV1
  have q1 := hR.1
  have q2 := hR.2
  have q3 := hst2.cats
  exact va_mmax hx hb (by rw [hml]; exact hls.1.symm) hown (hts _ hl) (hts _ hs) (hts _ hi) (hts _ hc) (by omega) (by rw [q3]; omega) (by omega) (by omega) hd (kk p e R s m args below meth c A al0 H locs cells slots CT ST _ _ _ _ hF hSt hsc hR h1 h2 h3 h4 hA hK hP hD hS hW hal hls hlv (m_vs.cons rfl hst2))
theorem e_mmin {g : MG} {sc : MS} {M : MM} {d w pc : Nat} {lv : ML} {st : List MV} {h : List MC} {mc ms : Nat} {Q : MO → List MC → Prop} {i : Nat} {x y : Int32} (hd : decode M.2.1 pc = .ok (.invokestatic i, 3)) (hl : Cond.methodLink M.1.cls i Lib.Math.min.name ∈ m_Ts) (hs : Cond.static Lib.Math.min.name ∈ m_Ts) (hi : Cond.initialized "java/lang/Math" ∈ m_Ts) (hc : Cond.code Lib.Math.min.name Lib.Math.min.code 2 (some .int) ∈ m_Ts) (h8 : (st.map m_cat).sum ≤ 8) (hd1 : 1 ≤ d) (hw1 : 21 ≤ w) (kk : Ev g sc M d w (pc + 3) lv (mi (if y < x then y else x) :: st) h mc ms Q) : Ev g sc M d w pc lv (mi y :: mi x :: st) h mc ms Q := by
  intro p e R s m args below meth c A al0 H locs cells slots CT ST ls ws LV VS hF hSt hsc hR h1 h2 h3 h4 hA hK hP hD hS hW hal hls hlv hst
  obtain ⟨hx, hb, hr, hlk, hml, hown, hts, hnm, htb⟩ := id hF
  obtain ⟨V0, VS0, rfl, hV0, hst1⟩ := hst.inv
  obtain ⟨V1, VS1, rfl, hV1, hst2⟩ := hst1.inv
  cases hV0
  cases hV1
  have q1 := hR.1
  have q2 := hR.2
  have q3 := hst2.cats
  exact va_mmin hx hb (by rw [hml]; exact hls.1.symm) hown (hts _ hl) (hts _ hs) (hts _ hi) (hts _ hc) (by omega) (by rw [q3]; omega) (by omega) (by omega) hd (kk p e R s m args below meth c A al0 H locs cells slots CT ST _ _ _ _ hF hSt hsc hR h1 h2 h3 h4 hA hK hP hD hS hW hal hls hlv (m_vs.cons rfl hst2))
theorem e_copyi {g : MG} {sc : MS} {M : MM} {d w pc : Nat} {lv : ML} {st : List MV} {h : List MC} {mc ms : Nat} {Q : MO → List MC → Prop} {i r0 r1 n0 n1 : Nat} {f f1 : Nat → Int32} {sp dp n : Int32} (hd : decode M.2.1 pc = .ok (.invokestatic i, 3)) (hl : Cond.methodLink M.1.cls i arraycopyName ∈ m_Ts) (hnat : Cond.native arraycopyName ∈ m_Ts) (hs : Cond.static arraycopyName ∈ m_Ts) (hi : Cond.initialized "java/lang/System" ∈ m_Ts) (ho : h[r0]? = some (cI n0 f)) (ho1 : h[r1]? = some (cI n1 f1)) (g1 : ¬ sp < 0) (g2 : ¬ dp < 0) (g3 : ¬ n < 0) (g4 : sp.toNatClampNeg + n.toNatClampNeg ≤ n0) (g5 : dp.toNatClampNeg + n.toNatClampNeg ≤ n1) (h8 : (st.map m_cat).sum ≤ 8) (hd1 : 1 ≤ d) (hw1 : 8 + (nativeFrameWords "java/lang/System" "arraycopy" 5 + 11) ≤ w) (kk : Ev g sc M d w (pc + 3) lv st (h.set r1 (cI n1 (va_cpy f f1 sp.toNatClampNeg dp.toNatClampNeg n.toNatClampNeg))) mc ms Q) : Ev g sc M d w pc lv (mi n :: mi dp :: mr r1 :: mi sp :: mr r0 :: st) h mc ms Q := by
  intro p e R s m args below meth c A al0 H locs cells slots CT ST ls ws LV VS hF hSt hsc hR h1 h2 h3 h4 hA hK hP hD hS hW hal hls hlv hst
  obtain ⟨hx, hb, hr, hlk, hml, hown, hts, hnm, htb⟩ := id hF
  obtain ⟨V0, VS0, rfl, hV0, hst1⟩ := hst.inv
  obtain ⟨V1, VS1, rfl, hV1, hst2⟩ := hst1.inv
  obtain ⟨V2, VS2, rfl, hV2, hst3⟩ := hst2.inv
  obtain ⟨V3, VS3, rfl, hV3, hst4⟩ := hst3.inv
  obtain ⟨V4, VS4, rfl, hV4, hst5⟩ := hst4.inv
  cases hV0
  cases hV1
  cases hV3
  obtain ⟨a1, e1, rfl, hw1', hc1⟩ := m_ref hW ho1 hV2
  obtain rfl := m_c_i hc1
  obtain ⟨a0, e0, rfl, hw0', hc0⟩ := m_ref hW ho hV4
  obtain rfl := m_c_i hc0
  have q1 := hR.1
  have q2 := hR.2
  have q3 := hst5.cats
  refine va_copyi hx hb (by rw [hml]; exact hls.1.symm) hown (hts _ hl) (hts _ hnat) (hts _ hs) (hts _ hi) hK hP hD hS r0 r1 0 0 hw0' hw1' rfl rfl rfl g1 g2 g3 g4 g5 (fun _ _ => rfl) (by omega) (by rw [q3]; omega) hd (fun H9 locs9 hP9 hD9 hS9 => ?_)
  exact kk p e R s m args below meth c A al0 H9 locs9 cells slots CT ST _ _ _ _ hF hSt hsc hR h1 h2 h3 h4 hA hK hP9 hD9 hS9 (hW.set hw1' rfl) (by rw [m_al_set hw1']; exact hal) hls (by rw [m_al_set hw1']; exact hlv) (by rw [m_al_set hw1']; exact hst5)
