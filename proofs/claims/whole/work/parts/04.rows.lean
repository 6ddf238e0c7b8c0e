theorem m_v_ref {al : List Nat} {sc : MS} {r : Option Nat ⊕ Unit} {V : Value} (h : m_v al sc (.inr (.inr r)) = some V) : V = .null ∨ ∃ q, V = .ref q := by
  rcases r with (_ | p) | u
  · cases h; exact Or.inl rfl
  · simp only [m_v, Option.map_eq_some_iff] at h
    obtain ⟨a, -, rfl⟩ := h
    exact Or.inr ⟨a, rfl⟩
  · simp only [m_v, Option.map_eq_some_iff] at h
    obtain ⟨a, -, rfl⟩ := h
    exact Or.inr ⟨_, rfl⟩
theorem m_v_mr {al : List Nat} {sc : MS} {r : Nat} {V : Value} (h : m_v al sc (mr r) = some V) : ∃ q, al[r]? = some q ∧ V = .ref q := by
  simp only [m_v, Option.map_eq_some_iff] at h
  obtain ⟨a, h1, rfl⟩ := h
  exact ⟨a, h1, rfl⟩
theorem e_iconst {g : MG} {sc : MS} {M : MM} {d w pc : Nat} {lv : ML} {st : List MV} {h : List MC} {mc ms : Nat} {Q : MO → List MC → Prop} {n : Int} {v : Int32} (hd : decode M.2.1 pc = .ok (.iconst n, 1)) (hv : Int32.ofInt n = v) (k : Ev g sc M d w (pc + 1) lv (mi v :: st) h mc ms Q) : Ev g sc M d w pc lv st h mc ms Q := by
  intro p e R s m args below meth c A al0 H locs cells slots CT ST ls ws LV VS hF hSt hsc hR h1 h2 h3 h4 hA hK hP hD hS hW hal hls hlv hst
  obtain ⟨hx, hb, hr, hlk, hml, hown, hts, hnm, htb⟩ := id hF
  exact lv_iconst hx hb hd hv (k p e R s m args below meth c A al0 H locs cells slots CT ST _ ws _ _ hF hSt hsc hR h1 h2 h3 h4 hA hK hP hD hS hW hal hls hlv (m_vs.cons rfl hst))
theorem e_bipush {g : MG} {sc : MS} {M : MM} {d w pc : Nat} {lv : ML} {st : List MV} {h : List MC} {mc ms : Nat} {Q : MO → List MC → Prop} {n : Int} {v : Int32} (hd : decode M.2.1 pc = .ok (.bipush n, 2)) (hv : (Int8.ofInt n).toInt32 = v) (k : Ev g sc M d w (pc + 2) lv (mi v :: st) h mc ms Q) : Ev g sc M d w pc lv st h mc ms Q := by
  intro p e R s m args below meth c A al0 H locs cells slots CT ST ls ws LV VS hF hSt hsc hR h1 h2 h3 h4 hA hK hP hD hS hW hal hls hlv hst
  obtain ⟨hx, hb, hr, hlk, hml, hown, hts, hnm, htb⟩ := id hF
  exact lv_bipush hx hb hd hv (k p e R s m args below meth c A al0 H locs cells slots CT ST _ ws _ _ hF hSt hsc hR h1 h2 h3 h4 hA hK hP hD hS hW hal hls hlv (m_vs.cons rfl hst))
theorem e_sipush {g : MG} {sc : MS} {M : MM} {d w pc : Nat} {lv : ML} {st : List MV} {h : List MC} {mc ms : Nat} {Q : MO → List MC → Prop} {n : Int} {v : Int32} (hd : decode M.2.1 pc = .ok (.sipush n, 3)) (hv : (Int16.ofInt n).toInt32 = v) (k : Ev g sc M d w (pc + 3) lv (mi v :: st) h mc ms Q) : Ev g sc M d w pc lv st h mc ms Q := by
  intro p e R s m args below meth c A al0 H locs cells slots CT ST ls ws LV VS hF hSt hsc hR h1 h2 h3 h4 hA hK hP hD hS hW hal hls hlv hst
  obtain ⟨hx, hb, hr, hlk, hml, hown, hts, hnm, htb⟩ := id hF
  exact lv_sipush hx hb hd hv (k p e R s m args below meth c A al0 H locs cells slots CT ST _ ws _ _ hF hSt hsc hR h1 h2 h3 h4 hA hK hP hD hS hW hal hls hlv (m_vs.cons rfl hst))
theorem e_ldc {g : MG} {sc : MS} {M : MM} {d w pc : Nat} {lv : ML} {st : List MV} {h : List MC} {mc ms : Nat} {Q : MO → List MC → Prop} {i : Nat} {v : Int32} (hd : decode M.2.1 pc = .ok (.ldc i, 2)) (hw : Cond.constant M.1.cls i v ∈ m_Ts) (k : Ev g sc M d w (pc + 2) lv (mi v :: st) h mc ms Q) : Ev g sc M d w pc lv st h mc ms Q := by
  intro p e R s m args below meth c A al0 H locs cells slots CT ST ls ws LV VS hF hSt hsc hR h1 h2 h3 h4 hA hK hP hD hS hW hal hls hlv hst
  obtain ⟨hx, hb, hr, hlk, hml, hown, hts, hnm, htb⟩ := id hF
  exact lv_ldc hx hb hown (hts _ hw) hd (k p e R s m args below meth c A al0 H locs cells slots CT ST _ ws _ _ hF hSt hsc hR h1 h2 h3 h4 hA hK hP hD hS hW hal hls hlv (m_vs.cons rfl hst))
theorem e_lconst {g : MG} {sc : MS} {M : MM} {d w pc : Nat} {lv : ML} {st : List MV} {h : List MC} {mc ms : Nat} {Q : MO → List MC → Prop} {n : Fin 2} {v : Int64} (hd : decode M.2.1 pc = .ok (.lconst n, 1)) (hv : Int64.ofNat (n : Nat) = v) (k : Ev g sc M d w (pc + 1) lv (ml v :: st) h mc ms Q) : Ev g sc M d w pc lv st h mc ms Q := by
  intro p e R s m args below meth c A al0 H locs cells slots CT ST ls ws LV VS hF hSt hsc hR h1 h2 h3 h4 hA hK hP hD hS hW hal hls hlv hst
  obtain ⟨hx, hb, hr, hlk, hml, hown, hts, hnm, htb⟩ := id hF
  exact lv_lconst hx hb hd hv (k p e R s m args below meth c A al0 H locs cells slots CT ST _ ws _ _ hF hSt hsc hR h1 h2 h3 h4 hA hK hP hD hS hW hal hls hlv (m_vs.cons rfl hst))
theorem e_null {g : MG} {sc : MS} {M : MM} {d w pc : Nat} {lv : ML} {st : List MV} {h : List MC} {mc ms : Nat} {Q : MO → List MC → Prop} (hd : decode M.2.1 pc = .ok (.aconst_null, 1)) (k : Ev g sc M d w (pc + 1) lv (mn :: st) h mc ms Q) : Ev g sc M d w pc lv st h mc ms Q := by
  intro p e R s m args below meth c A al0 H locs cells slots CT ST ls ws LV VS hF hSt hsc hR h1 h2 h3 h4 hA hK hP hD hS hW hal hls hlv hst
  obtain ⟨hx, hb, hr, hlk, hml, hown, hts, hnm, htb⟩ := id hF
  exact lv_null hx hb hd (k p e R s m args below meth c A al0 H locs cells slots CT ST _ ws _ _ hF hSt hsc hR h1 h2 h3 h4 hA hK hP hD hS hW hal hls hlv (m_vs.cons rfl hst))
theorem e_iload_n {g : MG} {sc : MS} {M : MM} {d w pc : Nat} {lv : ML} {st : List MV} {h : List MC} {mc ms : Nat} {Q : MO → List MC → Prop} {k9 : Fin 4} {i : Nat} {x : Int32} (hd : decode M.2.1 pc = .ok (.iload_n k9, 1)) (hi : (k9 : Nat) = i) (hg : m_get lv i = some (mi x)) (k : Ev g sc M d w (pc + 1) lv (mi x :: st) h mc ms Q) : Ev g sc M d w pc lv st h mc ms Q := by
  intro p e R s m args below meth c A al0 H locs cells slots CT ST ls ws LV VS hF hSt hsc hR h1 h2 h3 h4 hA hK hP hD hS hW hal hls hlv hst
  obtain ⟨hx, hb, hr, hlk, hml, hown, hts, hnm, htb⟩ := id hF
  obtain ⟨V, hV1, hV2⟩ := hlv.at (m_get_find hg)
  cases hV2
  exact lv_iload_n hx hb hd hi (hls.2.2 _ hV1) (k p e R s m args below meth c A al0 H locs cells slots CT ST _ ws _ _ hF hSt hsc hR h1 h2 h3 h4 hA hK hP hD hS hW hal hls hlv (m_vs.cons rfl hst))
theorem e_aload_n {g : MG} {sc : MS} {M : MM} {d w pc : Nat} {lv : ML} {st : List MV} {h : List MC} {mc ms : Nat} {Q : MO → List MC → Prop} {k9 : Fin 4} {i : Nat} {r : Option Nat ⊕ Unit} (hd : decode M.2.1 pc = .ok (.aload_n k9, 1)) (hi : (k9 : Nat) = i) (hg : m_get lv i = some (.inr (.inr r))) (k : Ev g sc M d w (pc + 1) lv (.inr (.inr r) :: st) h mc ms Q) : Ev g sc M d w pc lv st h mc ms Q := by
  intro p e R s m args below meth c A al0 H locs cells slots CT ST ls ws LV VS hF hSt hsc hR h1 h2 h3 h4 hA hK hP hD hS hW hal hls hlv hst
  obtain ⟨hx, hb, hr, hlk, hml, hown, hts, hnm, htb⟩ := id hF
  obtain ⟨V, hV1, hV2⟩ := hlv.at (m_get_find hg)
  rcases m_v_ref hV2 with rfl | ⟨q, rfl⟩
  · exact lv_aload_nN hx hb hd hi (hls.2.2 _ hV1) (k p e R s m args below meth c A al0 H locs cells slots CT ST _ ws _ _ hF hSt hsc hR h1 h2 h3 h4 hA hK hP hD hS hW hal hls hlv (m_vs.cons hV2 hst))
  · exact lv_aload_n hx hb hd hi (hls.2.2 _ hV1) (k p e R s m args below meth c A al0 H locs cells slots CT ST _ ws _ _ hF hSt hsc hR h1 h2 h3 h4 hA hK hP hD hS hW hal hls hlv (m_vs.cons hV2 hst))
theorem e_istore_n {g : MG} {sc : MS} {M : MM} {d w pc : Nat} {lv : ML} {st : List MV} {h : List MC} {mc ms : Nat} {Q : MO → List MC → Prop} {k9 : Fin 4} {i : Nat} {x : Int32} (hd : decode M.2.1 pc = .ok (.istore_n k9, 1)) (hi : (k9 : Nat) = i) (hn : i < M.2.2.1) {lv2 : ML} (hlv2 : m_put lv i (mi x) = lv2) (k : Ev g sc M d w (pc + 1) lv2 st h mc ms Q) : Ev g sc M d w pc lv (mi x :: st) h mc ms Q := by
  intro p e R s m args below meth c A al0 H locs cells slots CT ST ls ws LV VS hF hSt hsc hR h1 h2 h3 h4 hA hK hP hD hS hW hal hls hlv hst
  obtain ⟨hx, hb, hr, hlk, hml, hown, hts, hnm, htb⟩ := id hF
  subst hlv2
  obtain ⟨V, VS', rfl, hV, hst1⟩ := hst.inv
  have hsr := hst1
  cases hV
  exact lv_istore_n hx hb hd hi hls hn rfl (fun ls hls' => k p e R s m args below meth c A al0 H locs cells slots CT ST _ ws _ _ hF hSt hsc hR h1 h2 h3 h4 hA hK hP hD hS hW hal hls' (m_ls.cons rfl hlv.filt) hsr)
theorem e_astore_n {g : MG} {sc : MS} {M : MM} {d w pc : Nat} {lv : ML} {st : List MV} {h : List MC} {mc ms : Nat} {Q : MO → List MC → Prop} {k9 : Fin 4} {i : Nat} {r : Option Nat ⊕ Unit} (hd : decode M.2.1 pc = .ok (.astore_n k9, 1)) (hi : (k9 : Nat) = i) (hn : i < M.2.2.1) {lv2 : ML} (hlv2 : m_put lv i (.inr (.inr r)) = lv2) (k : Ev g sc M d w (pc + 1) lv2 st h mc ms Q) : Ev g sc M d w pc lv (.inr (.inr r) :: st) h mc ms Q := by
  intro p e R s m args below meth c A al0 H locs cells slots CT ST ls ws LV VS hF hSt hsc hR h1 h2 h3 h4 hA hK hP hD hS hW hal hls hlv hst
  obtain ⟨hx, hb, hr, hlk, hml, hown, hts, hnm, htb⟩ := id hF
  subst hlv2
  obtain ⟨V, VS', rfl, hV, hst1⟩ := hst.inv
  have hsr := hst1
  rcases m_v_ref hV with rfl | ⟨q, rfl⟩
  · exact lv_astore_nN hx hb hd hi hls hn rfl (fun ls hls' => k p e R s m args below meth c A al0 H locs cells slots CT ST _ ws _ _ hF hSt hsc hR h1 h2 h3 h4 hA hK hP hD hS hW hal hls' (m_ls.cons hV hlv.filt) hsr)
  · exact lv_astore_n hx hb hd hi hls hn rfl (fun ls hls' => k p e R s m args below meth c A al0 H locs cells slots CT ST _ ws _ _ hF hSt hsc hR h1 h2 h3 h4 hA hK hP hD hS hW hal hls' (m_ls.cons hV hlv.filt) hsr)
theorem e_iload {g : MG} {sc : MS} {M : MM} {d w pc : Nat} {lv : ML} {st : List MV} {h : List MC} {mc ms : Nat} {Q : MO → List MC → Prop} {i : Nat} {x : Int32} (hd : decode M.2.1 pc = .ok (.iload i, 2)) (hg : m_get lv i = some (mi x)) (k : Ev g sc M d w (pc + 2) lv (mi x :: st) h mc ms Q) : Ev g sc M d w pc lv st h mc ms Q := by
  intro p e R s m args below meth c A al0 H locs cells slots CT ST ls ws LV VS hF hSt hsc hR h1 h2 h3 h4 hA hK hP hD hS hW hal hls hlv hst
  obtain ⟨hx, hb, hr, hlk, hml, hown, hts, hnm, htb⟩ := id hF
  obtain ⟨V, hV1, hV2⟩ := hlv.at (m_get_find hg)
  cases hV2
  exact lv_iload hx hb hd (hls.2.2 _ hV1) (k p e R s m args below meth c A al0 H locs cells slots CT ST _ ws _ _ hF hSt hsc hR h1 h2 h3 h4 hA hK hP hD hS hW hal hls hlv (m_vs.cons rfl hst))
theorem e_aload {g : MG} {sc : MS} {M : MM} {d w pc : Nat} {lv : ML} {st : List MV} {h : List MC} {mc ms : Nat} {Q : MO → List MC → Prop} {i : Nat} {r : Option Nat ⊕ Unit} (hd : decode M.2.1 pc = .ok (.aload i, 2)) (hg : m_get lv i = some (.inr (.inr r))) (k : Ev g sc M d w (pc + 2) lv (.inr (.inr r) :: st) h mc ms Q) : Ev g sc M d w pc lv st h mc ms Q := by
  intro p e R s m args below meth c A al0 H locs cells slots CT ST ls ws LV VS hF hSt hsc hR h1 h2 h3 h4 hA hK hP hD hS hW hal hls hlv hst
  obtain ⟨hx, hb, hr, hlk, hml, hown, hts, hnm, htb⟩ := id hF
  obtain ⟨V, hV1, hV2⟩ := hlv.at (m_get_find hg)
  rcases m_v_ref hV2 with rfl | ⟨q, rfl⟩
  · exact lv_aloadN hx hb hd (hls.2.2 _ hV1) (k p e R s m args below meth c A al0 H locs cells slots CT ST _ ws _ _ hF hSt hsc hR h1 h2 h3 h4 hA hK hP hD hS hW hal hls hlv (m_vs.cons hV2 hst))
  · exact lv_aload hx hb hd (hls.2.2 _ hV1) (k p e R s m args below meth c A al0 H locs cells slots CT ST _ ws _ _ hF hSt hsc hR h1 h2 h3 h4 hA hK hP hD hS hW hal hls hlv (m_vs.cons hV2 hst))
theorem e_istore {g : MG} {sc : MS} {M : MM} {d w pc : Nat} {lv : ML} {st : List MV} {h : List MC} {mc ms : Nat} {Q : MO → List MC → Prop} {i : Nat} {x : Int32} (hd : decode M.2.1 pc = .ok (.istore i, 2)) (hn : i < M.2.2.1) {lv2 : ML} (hlv2 : m_put lv i (mi x) = lv2) (k : Ev g sc M d w (pc + 2) lv2 st h mc ms Q) : Ev g sc M d w pc lv (mi x :: st) h mc ms Q := by
  intro p e R s m args below meth c A al0 H locs cells slots CT ST ls ws LV VS hF hSt hsc hR h1 h2 h3 h4 hA hK hP hD hS hW hal hls hlv hst
  obtain ⟨hx, hb, hr, hlk, hml, hown, hts, hnm, htb⟩ := id hF
  subst hlv2
  obtain ⟨V, VS', rfl, hV, hst1⟩ := hst.inv
  have hsr := hst1
  cases hV
  exact lv_istore hx hb hd hls hn rfl (fun ls hls' => k p e R s m args below meth c A al0 H locs cells slots CT ST _ ws _ _ hF hSt hsc hR h1 h2 h3 h4 hA hK hP hD hS hW hal hls' (m_ls.cons rfl hlv.filt) hsr)
theorem e_astore {g : MG} {sc : MS} {M : MM} {d w pc : Nat} {lv : ML} {st : List MV} {h : List MC} {mc ms : Nat} {Q : MO → List MC → Prop} {i : Nat} {r : Option Nat ⊕ Unit} (hd : decode M.2.1 pc = .ok (.astore i, 2)) (hn : i < M.2.2.1) {lv2 : ML} (hlv2 : m_put lv i (.inr (.inr r)) = lv2) (k : Ev g sc M d w (pc + 2) lv2 st h mc ms Q) : Ev g sc M d w pc lv (.inr (.inr r) :: st) h mc ms Q := by
  intro p e R s m args below meth c A al0 H locs cells slots CT ST ls ws LV VS hF hSt hsc hR h1 h2 h3 h4 hA hK hP hD hS hW hal hls hlv hst
  obtain ⟨hx, hb, hr, hlk, hml, hown, hts, hnm, htb⟩ := id hF
  subst hlv2
  obtain ⟨V, VS', rfl, hV, hst1⟩ := hst.inv
  have hsr := hst1
  rcases m_v_ref hV with rfl | ⟨q, rfl⟩
  · exact lv_astoreN hx hb hd hls hn rfl (fun ls hls' => k p e R s m args below meth c A al0 H locs cells slots CT ST _ ws _ _ hF hSt hsc hR h1 h2 h3 h4 hA hK hP hD hS hW hal hls' (m_ls.cons hV hlv.filt) hsr)
  · exact lv_astore hx hb hd hls hn rfl (fun ls hls' => k p e R s m args below meth c A al0 H locs cells slots CT ST _ ws _ _ hF hSt hsc hR h1 h2 h3 h4 hA hK hP hD hS hW hal hls' (m_ls.cons hV hlv.filt) hsr)
theorem e_iinc {g : MG} {sc : MS} {M : MM} {d w pc : Nat} {lv : ML} {st : List MV} {h : List MC} {mc ms : Nat} {Q : MO → List MC → Prop} {i : Nat} {n : Int} {x v : Int32} (hd : decode M.2.1 pc = .ok (.iinc i n, 3)) (hg : m_get lv i = some (mi x)) (hv : x + Int32.ofInt n = v) (hn : i < M.2.2.1) {lv2 : ML} (hlv2 : m_put lv i (mi v) = lv2) (k : Ev g sc M d w (pc + 3) lv2 st h mc ms Q) : Ev g sc M d w pc lv st h mc ms Q := by
  intro p e R s m args below meth c A al0 H locs cells slots CT ST ls ws LV VS hF hSt hsc hR h1 h2 h3 h4 hA hK hP hD hS hW hal hls hlv hst
  obtain ⟨hx, hb, hr, hlk, hml, hown, hts, hnm, htb⟩ := id hF
  subst hlv2
  obtain ⟨V, hV1, hV2⟩ := hlv.at (m_get_find hg)
  cases hV2
  obtain ⟨k9, hk9⟩ := List.getElem?_of_mem hV1
  exact lv_iinc hx hb hd hls hk9 hv hn rfl (fun ls hls' => k p e R s m args below meth c A al0 H locs cells slots CT ST _ ws _ _ hF hSt hsc hR h1 h2 h3 h4 hA hK hP hD hS hW hal hls' (m_ls.cons rfl hlv.filt) hst)
theorem e_iadd {g : MG} {sc : MS} {M : MM} {d w pc : Nat} {lv : ML} {st : List MV} {h : List MC} {mc ms : Nat} {Q : MO → List MC → Prop} {x y : Int32} (hd : decode M.2.1 pc = .ok (.iadd, 1)) (k : Ev g sc M d w (pc + 1) lv (mi (x + y) :: st) h mc ms Q) : Ev g sc M d w pc lv (mi y :: mi x :: st) h mc ms Q := by
  intro p e R s m args below meth c A al0 H locs cells slots CT ST ls ws LV VS hF hSt hsc hR h1 h2 h3 h4 hA hK hP hD hS hW hal hls hlv hst
  obtain ⟨hx, hb, hr, hlk, hml, hown, hts, hnm, htb⟩ := id hF
  obtain ⟨V, VS', rfl, hV, hst1⟩ := hst.inv
  obtain ⟨V2, VS2, rfl, hV2, hst2⟩ := hst1.inv
  have hsr := hst2
  cases hV
  cases hV2
  exact lv_iadd hx hb hd (k p e R s m args below meth c A al0 H locs cells slots CT ST _ ws _ _ hF hSt hsc hR h1 h2 h3 h4 hA hK hP hD hS hW hal hls hlv (m_vs.cons rfl hsr))
theorem e_isub {g : MG} {sc : MS} {M : MM} {d w pc : Nat} {lv : ML} {st : List MV} {h : List MC} {mc ms : Nat} {Q : MO → List MC → Prop} {x y : Int32} (hd : decode M.2.1 pc = .ok (.isub, 1)) (k : Ev g sc M d w (pc + 1) lv (mi (x - y) :: st) h mc ms Q) : Ev g sc M d w pc lv (mi y :: mi x :: st) h mc ms Q := by
  intro p e R s m args below meth c A al0 H locs cells slots CT ST ls ws LV VS hF hSt hsc hR h1 h2 h3 h4 hA hK hP hD hS hW hal hls hlv hst
  obtain ⟨hx, hb, hr, hlk, hml, hown, hts, hnm, htb⟩ := id hF
  obtain ⟨V, VS', rfl, hV, hst1⟩ := hst.inv
  obtain ⟨V2, VS2, rfl, hV2, hst2⟩ := hst1.inv
  have hsr := hst2
  cases hV
  cases hV2
  exact lv_isub hx hb hd (k p e R s m args below meth c A al0 H locs cells slots CT ST _ ws _ _ hF hSt hsc hR h1 h2 h3 h4 hA hK hP hD hS hW hal hls hlv (m_vs.cons rfl hsr))
theorem e_imul {g : MG} {sc : MS} {M : MM} {d w pc : Nat} {lv : ML} {st : List MV} {h : List MC} {mc ms : Nat} {Q : MO → List MC → Prop} {x y : Int32} (hd : decode M.2.1 pc = .ok (.imul, 1)) (k : Ev g sc M d w (pc + 1) lv (mi (x * y) :: st) h mc ms Q) : Ev g sc M d w pc lv (mi y :: mi x :: st) h mc ms Q := by
  intro p e R s m args below meth c A al0 H locs cells slots CT ST ls ws LV VS hF hSt hsc hR h1 h2 h3 h4 hA hK hP hD hS hW hal hls hlv hst
  obtain ⟨hx, hb, hr, hlk, hml, hown, hts, hnm, htb⟩ := id hF
  obtain ⟨V, VS', rfl, hV, hst1⟩ := hst.inv
  obtain ⟨V2, VS2, rfl, hV2, hst2⟩ := hst1.inv
  have hsr := hst2
  cases hV
  cases hV2
  exact lv_imul hx hb hd (k p e R s m args below meth c A al0 H locs cells slots CT ST _ ws _ _ hF hSt hsc hR h1 h2 h3 h4 hA hK hP hD hS hW hal hls hlv (m_vs.cons rfl hsr))
theorem e_iand {g : MG} {sc : MS} {M : MM} {d w pc : Nat} {lv : ML} {st : List MV} {h : List MC} {mc ms : Nat} {Q : MO → List MC → Prop} {x y : Int32} (hd : decode M.2.1 pc = .ok (.iand, 1)) (k : Ev g sc M d w (pc + 1) lv (mi (x &&& y) :: st) h mc ms Q) : Ev g sc M d w pc lv (mi y :: mi x :: st) h mc ms Q := by
  intro p e R s m args below meth c A al0 H locs cells slots CT ST ls ws LV VS hF hSt hsc hR h1 h2 h3 h4 hA hK hP hD hS hW hal hls hlv hst
  obtain ⟨hx, hb, hr, hlk, hml, hown, hts, hnm, htb⟩ := id hF
  obtain ⟨V, VS', rfl, hV, hst1⟩ := hst.inv
  obtain ⟨V2, VS2, rfl, hV2, hst2⟩ := hst1.inv
  have hsr := hst2
  cases hV
  cases hV2
  exact lv_iand hx hb hd (k p e R s m args below meth c A al0 H locs cells slots CT ST _ ws _ _ hF hSt hsc hR h1 h2 h3 h4 hA hK hP hD hS hW hal hls hlv (m_vs.cons rfl hsr))
theorem e_ior {g : MG} {sc : MS} {M : MM} {d w pc : Nat} {lv : ML} {st : List MV} {h : List MC} {mc ms : Nat} {Q : MO → List MC → Prop} {x y : Int32} (hd : decode M.2.1 pc = .ok (.ior, 1)) (k : Ev g sc M d w (pc + 1) lv (mi (x ||| y) :: st) h mc ms Q) : Ev g sc M d w pc lv (mi y :: mi x :: st) h mc ms Q := by
  intro p e R s m args below meth c A al0 H locs cells slots CT ST ls ws LV VS hF hSt hsc hR h1 h2 h3 h4 hA hK hP hD hS hW hal hls hlv hst
  obtain ⟨hx, hb, hr, hlk, hml, hown, hts, hnm, htb⟩ := id hF
  obtain ⟨V, VS', rfl, hV, hst1⟩ := hst.inv
  obtain ⟨V2, VS2, rfl, hV2, hst2⟩ := hst1.inv
  have hsr := hst2
  cases hV
  cases hV2
  exact lv_ior hx hb hd (k p e R s m args below meth c A al0 H locs cells slots CT ST _ ws _ _ hF hSt hsc hR h1 h2 h3 h4 hA hK hP hD hS hW hal hls hlv (m_vs.cons rfl hsr))
theorem e_ixor {g : MG} {sc : MS} {M : MM} {d w pc : Nat} {lv : ML} {st : List MV} {h : List MC} {mc ms : Nat} {Q : MO → List MC → Prop} {x y : Int32} (hd : decode M.2.1 pc = .ok (.ixor, 1)) (k : Ev g sc M d w (pc + 1) lv (mi (x ^^^ y) :: st) h mc ms Q) : Ev g sc M d w pc lv (mi y :: mi x :: st) h mc ms Q := by
  intro p e R s m args below meth c A al0 H locs cells slots CT ST ls ws LV VS hF hSt hsc hR h1 h2 h3 h4 hA hK hP hD hS hW hal hls hlv hst
  obtain ⟨hx, hb, hr, hlk, hml, hown, hts, hnm, htb⟩ := id hF
  obtain ⟨V, VS', rfl, hV, hst1⟩ := hst.inv
  obtain ⟨V2, VS2, rfl, hV2, hst2⟩ := hst1.inv
  have hsr := hst2
  cases hV
  cases hV2
  exact lv_ixor hx hb hd (k p e R s m args below meth c A al0 H locs cells slots CT ST _ ws _ _ hF hSt hsc hR h1 h2 h3 h4 hA hK hP hD hS hW hal hls hlv (m_vs.cons rfl hsr))
theorem e_ishl {g : MG} {sc : MS} {M : MM} {d w pc : Nat} {lv : ML} {st : List MV} {h : List MC} {mc ms : Nat} {Q : MO → List MC → Prop} {x y : Int32} (hd : decode M.2.1 pc = .ok (.ishl, 1)) (k : Ev g sc M d w (pc + 1) lv (mi (x <<< (y &&& 31)) :: st) h mc ms Q) : Ev g sc M d w pc lv (mi y :: mi x :: st) h mc ms Q := by
  intro p e R s m args below meth c A al0 H locs cells slots CT ST ls ws LV VS hF hSt hsc hR h1 h2 h3 h4 hA hK hP hD hS hW hal hls hlv hst
  obtain ⟨hx, hb, hr, hlk, hml, hown, hts, hnm, htb⟩ := id hF
  obtain ⟨V, VS', rfl, hV, hst1⟩ := hst.inv
  obtain ⟨V2, VS2, rfl, hV2, hst2⟩ := hst1.inv
  have hsr := hst2
  cases hV
  cases hV2
  exact lv_ishl hx hb hd (k p e R s m args below meth c A al0 H locs cells slots CT ST _ ws _ _ hF hSt hsc hR h1 h2 h3 h4 hA hK hP hD hS hW hal hls hlv (m_vs.cons rfl hsr))
theorem e_ishr {g : MG} {sc : MS} {M : MM} {d w pc : Nat} {lv : ML} {st : List MV} {h : List MC} {mc ms : Nat} {Q : MO → List MC → Prop} {x y : Int32} (hd : decode M.2.1 pc = .ok (.ishr, 1)) (k : Ev g sc M d w (pc + 1) lv (mi (x >>> (y &&& 31)) :: st) h mc ms Q) : Ev g sc M d w pc lv (mi y :: mi x :: st) h mc ms Q := by
  intro p e R s m args below meth c A al0 H locs cells slots CT ST ls ws LV VS hF hSt hsc hR h1 h2 h3 h4 hA hK hP hD hS hW hal hls hlv hst
  obtain ⟨hx, hb, hr, hlk, hml, hown, hts, hnm, htb⟩ := id hF
  obtain ⟨V, VS', rfl, hV, hst1⟩ := hst.inv
  obtain ⟨V2, VS2, rfl, hV2, hst2⟩ := hst1.inv
  have hsr := hst2
  cases hV
  cases hV2
  exact lv_ishr hx hb hd (k p e R s m args below meth c A al0 H locs cells slots CT ST _ ws _ _ hF hSt hsc hR h1 h2 h3 h4 hA hK hP hD hS hW hal hls hlv (m_vs.cons rfl hsr))
theorem e_iushr {g : MG} {sc : MS} {M : MM} {d w pc : Nat} {lv : ML} {st : List MV} {h : List MC} {mc ms : Nat} {Q : MO → List MC → Prop} {x y v : Int32} (hd : decode M.2.1 pc = .ok (.iushr, 1)) (hv : (x.toUInt32 >>> (y.toUInt32 &&& Int32.toUInt32 31)).toInt32 = v) (k : Ev g sc M d w (pc + 1) lv (mi v :: st) h mc ms Q) : Ev g sc M d w pc lv (mi y :: mi x :: st) h mc ms Q := by
  intro p e R s m args below meth c A al0 H locs cells slots CT ST ls ws LV VS hF hSt hsc hR h1 h2 h3 h4 hA hK hP hD hS hW hal hls hlv hst
  obtain ⟨hx, hb, hr, hlk, hml, hown, hts, hnm, htb⟩ := id hF
  obtain ⟨V, VS', rfl, hV, hst1⟩ := hst.inv
  obtain ⟨V2, VS2, rfl, hV2, hst2⟩ := hst1.inv
  have hsr := hst2
  cases hV
  cases hV2
  exact lv_iushr hx hb hd hv (k p e R s m args below meth c A al0 H locs cells slots CT ST _ ws _ _ hF hSt hsc hR h1 h2 h3 h4 hA hK hP hD hS hW hal hls hlv (m_vs.cons rfl hsr))
theorem e_ineg {g : MG} {sc : MS} {M : MM} {d w pc : Nat} {lv : ML} {st : List MV} {h : List MC} {mc ms : Nat} {Q : MO → List MC → Prop} {x : Int32} (hd : decode M.2.1 pc = .ok (.ineg, 1)) (k : Ev g sc M d w (pc + 1) lv (mi (-x) :: st) h mc ms Q) : Ev g sc M d w pc lv (mi x :: st) h mc ms Q := by
  intro p e R s m args below meth c A al0 H locs cells slots CT ST ls ws LV VS hF hSt hsc hR h1 h2 h3 h4 hA hK hP hD hS hW hal hls hlv hst
  obtain ⟨hx, hb, hr, hlk, hml, hown, hts, hnm, htb⟩ := id hF
  obtain ⟨V, VS', rfl, hV, hst1⟩ := hst.inv
  have hsr := hst1
  cases hV
  exact lv_ineg hx hb hd (k p e R s m args below meth c A al0 H locs cells slots CT ST _ ws _ _ hF hSt hsc hR h1 h2 h3 h4 hA hK hP hD hS hW hal hls hlv (m_vs.cons rfl hsr))
theorem e_i2l {g : MG} {sc : MS} {M : MM} {d w pc : Nat} {lv : ML} {st : List MV} {h : List MC} {mc ms : Nat} {Q : MO → List MC → Prop} {x : Int32} (hd : decode M.2.1 pc = .ok (.i2l, 1)) (k : Ev g sc M d w (pc + 1) lv (ml x.toInt64 :: st) h mc ms Q) : Ev g sc M d w pc lv (mi x :: st) h mc ms Q := by
  intro p e R s m args below meth c A al0 H locs cells slots CT ST ls ws LV VS hF hSt hsc hR h1 h2 h3 h4 hA hK hP hD hS hW hal hls hlv hst
  obtain ⟨hx, hb, hr, hlk, hml, hown, hts, hnm, htb⟩ := id hF
  obtain ⟨V, VS', rfl, hV, hst1⟩ := hst.inv
  have hsr := hst1
  cases hV
  exact lv_i2l hx hb hd rfl (k p e R s m args below meth c A al0 H locs cells slots CT ST _ ws _ _ hF hSt hsc hR h1 h2 h3 h4 hA hK hP hD hS hW hal hls hlv (m_vs.cons rfl hsr))
theorem e_dup {g : MG} {sc : MS} {M : MM} {d w pc : Nat} {lv : ML} {st : List MV} {h : List MC} {mc ms : Nat} {Q : MO → List MC → Prop} {v : MV} (hd : decode M.2.1 pc = .ok (.dup, 1)) (hc : m_cat v = 1) (k : Ev g sc M d w (pc + 1) lv (v :: v :: st) h mc ms Q) : Ev g sc M d w pc lv (v :: st) h mc ms Q := by
  intro p e R s m args below meth c A al0 H locs cells slots CT ST ls ws LV VS hF hSt hsc hR h1 h2 h3 h4 hA hK hP hD hS hW hal hls hlv hst
  obtain ⟨hx, hb, hr, hlk, hml, hown, hts, hnm, htb⟩ := id hF
  obtain ⟨V, VS', rfl, hV, hst1⟩ := hst.inv
  have hsr := hst1
  exact lv_dup hx hb hd ((m_v_cat hV).trans hc) (k p e R s m args below meth c A al0 H locs cells slots CT ST _ ws _ _ hF hSt hsc hR h1 h2 h3 h4 hA hK hP hD hS hW hal hls hlv (m_vs.cons hV (m_vs.cons hV hsr)))
theorem e_pop {g : MG} {sc : MS} {M : MM} {d w pc : Nat} {lv : ML} {st : List MV} {h : List MC} {mc ms : Nat} {Q : MO → List MC → Prop} {v : MV} (hd : decode M.2.1 pc = .ok (.pop, 1)) (hc : m_cat v = 1) (k : Ev g sc M d w (pc + 1) lv st h mc ms Q) : Ev g sc M d w pc lv (v :: st) h mc ms Q := by
  intro p e R s m args below meth c A al0 H locs cells slots CT ST ls ws LV VS hF hSt hsc hR h1 h2 h3 h4 hA hK hP hD hS hW hal hls hlv hst
  obtain ⟨hx, hb, hr, hlk, hml, hown, hts, hnm, htb⟩ := id hF
  obtain ⟨V, VS', rfl, hV, hst1⟩ := hst.inv
  have hsr := hst1
  exact lv_pop hx hb hd ((m_v_cat hV).trans hc) (k p e R s m args below meth c A al0 H locs cells slots CT ST _ ws _ _ hF hSt hsc hR h1 h2 h3 h4 hA hK hP hD hS hW hal hls hlv hsr)
theorem e_dup_x1 {g : MG} {sc : MS} {M : MM} {d w pc : Nat} {lv : ML} {st : List MV} {h : List MC} {mc ms : Nat} {Q : MO → List MC → Prop} {v y9 : MV} (hd : decode M.2.1 pc = .ok (.dup_x1, 1)) (hc : m_cat v = 1) (hc2 : m_cat y9 = 1) (k : Ev g sc M d w (pc + 1) lv (v :: y9 :: v :: st) h mc ms Q) : Ev g sc M d w pc lv (v :: y9 :: st) h mc ms Q := by
  intro p e R s m args below meth c A al0 H locs cells slots CT ST ls ws LV VS hF hSt hsc hR h1 h2 h3 h4 hA hK hP hD hS hW hal hls hlv hst
  obtain ⟨hx, hb, hr, hlk, hml, hown, hts, hnm, htb⟩ := id hF
  obtain ⟨V, VS', rfl, hV, hst1⟩ := hst.inv
  obtain ⟨V2, VS2, rfl, hV2, hst2⟩ := hst1.inv
  have hsr := hst2
  exact lv_dup_x1 hx hb hd ((m_v_cat hV).trans hc) ((m_v_cat hV2).trans hc2) (k p e R s m args below meth c A al0 H locs cells slots CT ST _ ws _ _ hF hSt hsc hR h1 h2 h3 h4 hA hK hP hD hS hW hal hls hlv (m_vs.cons hV (m_vs.cons hV2 (m_vs.cons hV hsr))))
theorem e_dup_x2 {g : MG} {sc : MS} {M : MM} {d w pc : Nat} {lv : ML} {st : List MV} {h : List MC} {mc ms : Nat} {Q : MO → List MC → Prop} {v y9 z : MV} (hd : decode M.2.1 pc = .ok (.dup_x2, 1)) (hc : m_cat v = 1) (hc2 : m_cat y9 = 1) (hc3 : m_cat z = 1) (k : Ev g sc M d w (pc + 1) lv (v :: y9 :: z :: v :: st) h mc ms Q) : Ev g sc M d w pc lv (v :: y9 :: z :: st) h mc ms Q := by
  intro p e R s m args below meth c A al0 H locs cells slots CT ST ls ws LV VS hF hSt hsc hR h1 h2 h3 h4 hA hK hP hD hS hW hal hls hlv hst
  obtain ⟨hx, hb, hr, hlk, hml, hown, hts, hnm, htb⟩ := id hF
  obtain ⟨V, VS', rfl, hV, hst1⟩ := hst.inv
  obtain ⟨V2, VS2, rfl, hV2, hst2⟩ := hst1.inv
  obtain ⟨V3, VS3, rfl, hV3, hst3⟩ := hst2.inv
  have hsr := hst3
  exact lv_dup_x2 hx hb hd ((m_v_cat hV).trans hc) ((m_v_cat hV2).trans hc2) ((m_v_cat hV3).trans hc3) (k p e R s m args below meth c A al0 H locs cells slots CT ST _ ws _ _ hF hSt hsc hR h1 h2 h3 h4 hA hK hP hD hS hW hal hls hlv (m_vs.cons hV (m_vs.cons hV2 (m_vs.cons hV3 (m_vs.cons hV hsr)))))
theorem e_dup2 {g : MG} {sc : MS} {M : MM} {d w pc : Nat} {lv : ML} {st : List MV} {h : List MC} {mc ms : Nat} {Q : MO → List MC → Prop} {v y9 : MV} (hd : decode M.2.1 pc = .ok (.dup2, 1)) (hc : m_cat v = 1) (hc2 : m_cat y9 = 1) (k : Ev g sc M d w (pc + 1) lv (v :: y9 :: v :: y9 :: st) h mc ms Q) : Ev g sc M d w pc lv (v :: y9 :: st) h mc ms Q := by
  intro p e R s m args below meth c A al0 H locs cells slots CT ST ls ws LV VS hF hSt hsc hR h1 h2 h3 h4 hA hK hP hD hS hW hal hls hlv hst
  obtain ⟨hx, hb, hr, hlk, hml, hown, hts, hnm, htb⟩ := id hF
  obtain ⟨V, VS', rfl, hV, hst1⟩ := hst.inv
  obtain ⟨V2, VS2, rfl, hV2, hst2⟩ := hst1.inv
  have hsr := hst2
  exact lv_dup2_11 hx hb hd ((m_v_cat hV).trans hc) ((m_v_cat hV2).trans hc2) (k p e R s m args below meth c A al0 H locs cells slots CT ST _ ws _ _ hF hSt hsc hR h1 h2 h3 h4 hA hK hP hD hS hW hal hls hlv (m_vs.cons hV (m_vs.cons hV2 (m_vs.cons hV (m_vs.cons hV2 hsr)))))
theorem e_if_eq {g : MG} {sc : MS} {M : MM} {d w pc : Nat} {lv : ML} {st : List MV} {h : List MC} {mc ms : Nat} {Q : MO → List MC → Prop} {x : Int32} {off : Int} {tgt : Nat} (hd : decode M.2.1 pc = .ok (.ifCond .eq off, 3)) (ht : (pc : Int) + off = (tgt : Int)) (kt : x = 0 → Ev g sc M d w tgt lv st h mc ms Q) (kf : ¬ x = 0 → Ev g sc M d w (pc + 3) lv st h mc ms Q) : Ev g sc M d w pc lv (mi x :: st) h mc ms Q := by
  intro p e R s m args below meth c A al0 H locs cells slots CT ST ls ws LV VS hF hSt hsc hR h1 h2 h3 h4 hA hK hP hD hS hW hal hls hlv hst
  obtain ⟨hx, hb, hr, hlk, hml, hown, hts, hnm, htb⟩ := id hF
  obtain ⟨V, VS', rfl, hV, hst1⟩ := hst.inv
  have hsr := hst1
  cases hV
  exact lv_if_eq hx hb hd ht (fun q => kt q p e R s m args below meth c A al0 H locs cells slots CT ST _ ws _ _ hF hSt hsc hR h1 h2 h3 h4 hA hK hP hD hS hW hal hls hlv hsr) (fun q => kf q p e R s m args below meth c A al0 H locs cells slots CT ST _ ws _ _ hF hSt hsc hR h1 h2 h3 h4 hA hK hP hD hS hW hal hls hlv hsr)
theorem e_icmp_eq {g : MG} {sc : MS} {M : MM} {d w pc : Nat} {lv : ML} {st : List MV} {h : List MC} {mc ms : Nat} {Q : MO → List MC → Prop} {x y : Int32} {off : Int} {tgt : Nat} (hd : decode M.2.1 pc = .ok (.if_icmp .eq off, 3)) (ht : (pc : Int) + off = (tgt : Int)) (kt : x = y → Ev g sc M d w tgt lv st h mc ms Q) (kf : ¬ x = y → Ev g sc M d w (pc + 3) lv st h mc ms Q) : Ev g sc M d w pc lv (mi y :: mi x :: st) h mc ms Q := by
  intro p e R s m args below meth c A al0 H locs cells slots CT ST ls ws LV VS hF hSt hsc hR h1 h2 h3 h4 hA hK hP hD hS hW hal hls hlv hst
  obtain ⟨hx, hb, hr, hlk, hml, hown, hts, hnm, htb⟩ := id hF
  obtain ⟨V, VS', rfl, hV, hst1⟩ := hst.inv
  obtain ⟨V2, VS2, rfl, hV2, hst2⟩ := hst1.inv
  have hsr := hst2
  cases hV
  cases hV2
  exact lv_icmp_eq hx hb hd ht (fun q => kt q p e R s m args below meth c A al0 H locs cells slots CT ST _ ws _ _ hF hSt hsc hR h1 h2 h3 h4 hA hK hP hD hS hW hal hls hlv hsr) (fun q => kf q p e R s m args below meth c A al0 H locs cells slots CT ST _ ws _ _ hF hSt hsc hR h1 h2 h3 h4 hA hK hP hD hS hW hal hls hlv hsr)
theorem e_if_ne {g : MG} {sc : MS} {M : MM} {d w pc : Nat} {lv : ML} {st : List MV} {h : List MC} {mc ms : Nat} {Q : MO → List MC → Prop} {x : Int32} {off : Int} {tgt : Nat} (hd : decode M.2.1 pc = .ok (.ifCond .ne off, 3)) (ht : (pc : Int) + off = (tgt : Int)) (kt : ¬ x = 0 → Ev g sc M d w tgt lv st h mc ms Q) (kf : x = 0 → Ev g sc M d w (pc + 3) lv st h mc ms Q) : Ev g sc M d w pc lv (mi x :: st) h mc ms Q := by
  intro p e R s m args below meth c A al0 H locs cells slots CT ST ls ws LV VS hF hSt hsc hR h1 h2 h3 h4 hA hK hP hD hS hW hal hls hlv hst
  obtain ⟨hx, hb, hr, hlk, hml, hown, hts, hnm, htb⟩ := id hF
  obtain ⟨V, VS', rfl, hV, hst1⟩ := hst.inv
  have hsr := hst1
  cases hV
  exact lv_if_ne hx hb hd ht (fun q => kt q p e R s m args below meth c A al0 H locs cells slots CT ST _ ws _ _ hF hSt hsc hR h1 h2 h3 h4 hA hK hP hD hS hW hal hls hlv hsr) (fun q => kf q p e R s m args below meth c A al0 H locs cells slots CT ST _ ws _ _ hF hSt hsc hR h1 h2 h3 h4 hA hK hP hD hS hW hal hls hlv hsr)
theorem e_icmp_ne {g : MG} {sc : MS} {M : MM} {d w pc : Nat} {lv : ML} {st : List MV} {h : List MC} {mc ms : Nat} {Q : MO → List MC → Prop} {x y : Int32} {off : Int} {tgt : Nat} (hd : decode M.2.1 pc = .ok (.if_icmp .ne off, 3)) (ht : (pc : Int) + off = (tgt : Int)) (kt : ¬ x = y → Ev g sc M d w tgt lv st h mc ms Q) (kf : x = y → Ev g sc M d w (pc + 3) lv st h mc ms Q) : Ev g sc M d w pc lv (mi y :: mi x :: st) h mc ms Q := by
  intro p e R s m args below meth c A al0 H locs cells slots CT ST ls ws LV VS hF hSt hsc hR h1 h2 h3 h4 hA hK hP hD hS hW hal hls hlv hst
  obtain ⟨hx, hb, hr, hlk, hml, hown, hts, hnm, htb⟩ := id hF
  obtain ⟨V, VS', rfl, hV, hst1⟩ := hst.inv
  obtain ⟨V2, VS2, rfl, hV2, hst2⟩ := hst1.inv
  have hsr := hst2
  cases hV
  cases hV2
  exact lv_icmp_ne hx hb hd ht (fun q => kt q p e R s m args below meth c A al0 H locs cells slots CT ST _ ws _ _ hF hSt hsc hR h1 h2 h3 h4 hA hK hP hD hS hW hal hls hlv hsr) (fun q => kf q p e R s m args below meth c A al0 H locs cells slots CT ST _ ws _ _ hF hSt hsc hR h1 h2 h3 h4 hA hK hP hD hS hW hal hls hlv hsr)
theorem e_if_lt {g : MG} {sc : MS} {M : MM} {d w pc : Nat} {lv : ML} {st : List MV} {h : List MC} {mc ms : Nat} {Q : MO → List MC → Prop} {x : Int32} {off : Int} {tgt : Nat} (hd : decode M.2.1 pc = .ok (.ifCond .lt off, 3)) (ht : (pc : Int) + off = (tgt : Int)) (kt : x < 0 → Ev g sc M d w tgt lv st h mc ms Q) (kf : ¬ x < 0 → Ev g sc M d w (pc + 3) lv st h mc ms Q) : Ev g sc M d w pc lv (mi x :: st) h mc ms Q := by
  intro p e R s m args below meth c A al0 H locs cells slots CT ST ls ws LV VS hF hSt hsc hR h1 h2 h3 h4 hA hK hP hD hS hW hal hls hlv hst
  obtain ⟨hx, hb, hr, hlk, hml, hown, hts, hnm, htb⟩ := id hF
  obtain ⟨V, VS', rfl, hV, hst1⟩ := hst.inv
  have hsr := hst1
  cases hV
  exact lv_if_lt hx hb hd ht (fun q => kt q p e R s m args below meth c A al0 H locs cells slots CT ST _ ws _ _ hF hSt hsc hR h1 h2 h3 h4 hA hK hP hD hS hW hal hls hlv hsr) (fun q => kf q p e R s m args below meth c A al0 H locs cells slots CT ST _ ws _ _ hF hSt hsc hR h1 h2 h3 h4 hA hK hP hD hS hW hal hls hlv hsr)
theorem e_icmp_lt {g : MG} {sc : MS} {M : MM} {d w pc : Nat} {lv : ML} {st : List MV} {h : List MC} {mc ms : Nat} {Q : MO → List MC → Prop} {x y : Int32} {off : Int} {tgt : Nat} (hd : decode M.2.1 pc = .ok (.if_icmp .lt off, 3)) (ht : (pc : Int) + off = (tgt : Int)) (kt : x < y → Ev g sc M d w tgt lv st h mc ms Q) (kf : ¬ x < y → Ev g sc M d w (pc + 3) lv st h mc ms Q) : Ev g sc M d w pc lv (mi y :: mi x :: st) h mc ms Q := by
  intro p e R s m args below meth c A al0 H locs cells slots CT ST ls ws LV VS hF hSt hsc hR h1 h2 h3 h4 hA hK hP hD hS hW hal hls hlv hst
  obtain ⟨hx, hb, hr, hlk, hml, hown, hts, hnm, htb⟩ := id hF
  obtain ⟨V, VS', rfl, hV, hst1⟩ := hst.inv
  obtain ⟨V2, VS2, rfl, hV2, hst2⟩ := hst1.inv
  have hsr := hst2
  cases hV
  cases hV2
  exact lv_icmp_lt hx hb hd ht (fun q => kt q p e R s m args below meth c A al0 H locs cells slots CT ST _ ws _ _ hF hSt hsc hR h1 h2 h3 h4 hA hK hP hD hS hW hal hls hlv hsr) (fun q => kf q p e R s m args below meth c A al0 H locs cells slots CT ST _ ws _ _ hF hSt hsc hR h1 h2 h3 h4 hA hK hP hD hS hW hal hls hlv hsr)
theorem e_if_ge {g : MG} {sc : MS} {M : MM} {d w pc : Nat} {lv : ML} {st : List MV} {h : List MC} {mc ms : Nat} {Q : MO → List MC → Prop} {x : Int32} {off : Int} {tgt : Nat} (hd : decode M.2.1 pc = .ok (.ifCond .ge off, 3)) (ht : (pc : Int) + off = (tgt : Int)) (kt : 0 ≤ x → Ev g sc M d w tgt lv st h mc ms Q) (kf : ¬ 0 ≤ x → Ev g sc M d w (pc + 3) lv st h mc ms Q) : Ev g sc M d w pc lv (mi x :: st) h mc ms Q := by
  intro p e R s m args below meth c A al0 H locs cells slots CT ST ls ws LV VS hF hSt hsc hR h1 h2 h3 h4 hA hK hP hD hS hW hal hls hlv hst
  obtain ⟨hx, hb, hr, hlk, hml, hown, hts, hnm, htb⟩ := id hF
  obtain ⟨V, VS', rfl, hV, hst1⟩ := hst.inv
  have hsr := hst1
  cases hV
  exact lv_if_ge hx hb hd ht (fun q => kt q p e R s m args below meth c A al0 H locs cells slots CT ST _ ws _ _ hF hSt hsc hR h1 h2 h3 h4 hA hK hP hD hS hW hal hls hlv hsr) (fun q => kf q p e R s m args below meth c A al0 H locs cells slots CT ST _ ws _ _ hF hSt hsc hR h1 h2 h3 h4 hA hK hP hD hS hW hal hls hlv hsr)
theorem e_icmp_ge {g : MG} {sc : MS} {M : MM} {d w pc : Nat} {lv : ML} {st : List MV} {h : List MC} {mc ms : Nat} {Q : MO → List MC → Prop} {x y : Int32} {off : Int} {tgt : Nat} (hd : decode M.2.1 pc = .ok (.if_icmp .ge off, 3)) (ht : (pc : Int) + off = (tgt : Int)) (kt : y ≤ x → Ev g sc M d w tgt lv st h mc ms Q) (kf : ¬ y ≤ x → Ev g sc M d w (pc + 3) lv st h mc ms Q) : Ev g sc M d w pc lv (mi y :: mi x :: st) h mc ms Q := by
  intro p e R s m args below meth c A al0 H locs cells slots CT ST ls ws LV VS hF hSt hsc hR h1 h2 h3 h4 hA hK hP hD hS hW hal hls hlv hst
  obtain ⟨hx, hb, hr, hlk, hml, hown, hts, hnm, htb⟩ := id hF
  obtain ⟨V, VS', rfl, hV, hst1⟩ := hst.inv
  obtain ⟨V2, VS2, rfl, hV2, hst2⟩ := hst1.inv
  have hsr := hst2
  cases hV
  cases hV2
  exact lv_icmp_ge hx hb hd ht (fun q => kt q p e R s m args below meth c A al0 H locs cells slots CT ST _ ws _ _ hF hSt hsc hR h1 h2 h3 h4 hA hK hP hD hS hW hal hls hlv hsr) (fun q => kf q p e R s m args below meth c A al0 H locs cells slots CT ST _ ws _ _ hF hSt hsc hR h1 h2 h3 h4 hA hK hP hD hS hW hal hls hlv hsr)
theorem e_if_gt {g : MG} {sc : MS} {M : MM} {d w pc : Nat} {lv : ML} {st : List MV} {h : List MC} {mc ms : Nat} {Q : MO → List MC → Prop} {x : Int32} {off : Int} {tgt : Nat} (hd : decode M.2.1 pc = .ok (.ifCond .gt off, 3)) (ht : (pc : Int) + off = (tgt : Int)) (kt : 0 < x → Ev g sc M d w tgt lv st h mc ms Q) (kf : ¬ 0 < x → Ev g sc M d w (pc + 3) lv st h mc ms Q) : Ev g sc M d w pc lv (mi x :: st) h mc ms Q := by
  intro p e R s m args below meth c A al0 H locs cells slots CT ST ls ws LV VS hF hSt hsc hR h1 h2 h3 h4 hA hK hP hD hS hW hal hls hlv hst
  obtain ⟨hx, hb, hr, hlk, hml, hown, hts, hnm, htb⟩ := id hF
  obtain ⟨V, VS', rfl, hV, hst1⟩ := hst.inv
  have hsr := hst1
  cases hV
  exact lv_if_gt hx hb hd ht (fun q => kt q p e R s m args below meth c A al0 H locs cells slots CT ST _ ws _ _ hF hSt hsc hR h1 h2 h3 h4 hA hK hP hD hS hW hal hls hlv hsr) (fun q => kf q p e R s m args below meth c A al0 H locs cells slots CT ST _ ws _ _ hF hSt hsc hR h1 h2 h3 h4 hA hK hP hD hS hW hal hls hlv hsr)
theorem e_icmp_gt {g : MG} {sc : MS} {M : MM} {d w pc : Nat} {lv : ML} {st : List MV} {h : List MC} {mc ms : Nat} {Q : MO → List MC → Prop} {x y : Int32} {off : Int} {tgt : Nat} (hd : decode M.2.1 pc = .ok (.if_icmp .gt off, 3)) (ht : (pc : Int) + off = (tgt : Int)) (kt : y < x → Ev g sc M d w tgt lv st h mc ms Q) (kf : ¬ y < x → Ev g sc M d w (pc + 3) lv st h mc ms Q) : Ev g sc M d w pc lv (mi y :: mi x :: st) h mc ms Q := by
  intro p e R s m args below meth c A al0 H locs cells slots CT ST ls ws LV VS hF hSt hsc hR h1 h2 h3 h4 hA hK hP hD hS hW hal hls hlv hst
  obtain ⟨hx, hb, hr, hlk, hml, hown, hts, hnm, htb⟩ := id hF
  obtain ⟨V, VS', rfl, hV, hst1⟩ := hst.inv
  obtain ⟨V2, VS2, rfl, hV2, hst2⟩ := hst1.inv
  have hsr := hst2
  cases hV
  cases hV2
  exact lv_icmp_gt hx hb hd ht (fun q => kt q p e R s m args below meth c A al0 H locs cells slots CT ST _ ws _ _ hF hSt hsc hR h1 h2 h3 h4 hA hK hP hD hS hW hal hls hlv hsr) (fun q => kf q p e R s m args below meth c A al0 H locs cells slots CT ST _ ws _ _ hF hSt hsc hR h1 h2 h3 h4 hA hK hP hD hS hW hal hls hlv hsr)
theorem e_if_le {g : MG} {sc : MS} {M : MM} {d w pc : Nat} {lv : ML} {st : List MV} {h : List MC} {mc ms : Nat} {Q : MO → List MC → Prop} {x : Int32} {off : Int} {tgt : Nat} (hd : decode M.2.1 pc = .ok (.ifCond .le off, 3)) (ht : (pc : Int) + off = (tgt : Int)) (kt : x ≤ 0 → Ev g sc M d w tgt lv st h mc ms Q) (kf : ¬ x ≤ 0 → Ev g sc M d w (pc + 3) lv st h mc ms Q) : Ev g sc M d w pc lv (mi x :: st) h mc ms Q := by
  intro p e R s m args below meth c A al0 H locs cells slots CT ST ls ws LV VS hF hSt hsc hR h1 h2 h3 h4 hA hK hP hD hS hW hal hls hlv hst
  obtain ⟨hx, hb, hr, hlk, hml, hown, hts, hnm, htb⟩ := id hF
  obtain ⟨V, VS', rfl, hV, hst1⟩ := hst.inv
  have hsr := hst1
  cases hV
  exact lv_if_le hx hb hd ht (fun q => kt q p e R s m args below meth c A al0 H locs cells slots CT ST _ ws _ _ hF hSt hsc hR h1 h2 h3 h4 hA hK hP hD hS hW hal hls hlv hsr) (fun q => kf q p e R s m args below meth c A al0 H locs cells slots CT ST _ ws _ _ hF hSt hsc hR h1 h2 h3 h4 hA hK hP hD hS hW hal hls hlv hsr)
theorem e_icmp_le {g : MG} {sc : MS} {M : MM} {d w pc : Nat} {lv : ML} {st : List MV} {h : List MC} {mc ms : Nat} {Q : MO → List MC → Prop} {x y : Int32} {off : Int} {tgt : Nat} (hd : decode M.2.1 pc = .ok (.if_icmp .le off, 3)) (ht : (pc : Int) + off = (tgt : Int)) (kt : x ≤ y → Ev g sc M d w tgt lv st h mc ms Q) (kf : ¬ x ≤ y → Ev g sc M d w (pc + 3) lv st h mc ms Q) : Ev g sc M d w pc lv (mi y :: mi x :: st) h mc ms Q := by
  intro p e R s m args below meth c A al0 H locs cells slots CT ST ls ws LV VS hF hSt hsc hR h1 h2 h3 h4 hA hK hP hD hS hW hal hls hlv hst
  obtain ⟨hx, hb, hr, hlk, hml, hown, hts, hnm, htb⟩ := id hF
  obtain ⟨V, VS', rfl, hV, hst1⟩ := hst.inv
  obtain ⟨V2, VS2, rfl, hV2, hst2⟩ := hst1.inv
  have hsr := hst2
  cases hV
  cases hV2
  exact lv_icmp_le hx hb hd ht (fun q => kt q p e R s m args below meth c A al0 H locs cells slots CT ST _ ws _ _ hF hSt hsc hR h1 h2 h3 h4 hA hK hP hD hS hW hal hls hlv hsr) (fun q => kf q p e R s m args below meth c A al0 H locs cells slots CT ST _ ws _ _ hF hSt hsc hR h1 h2 h3 h4 hA hK hP hD hS hW hal hls hlv hsr)
theorem e_goto {g : MG} {sc : MS} {M : MM} {d w pc : Nat} {lv : ML} {st : List MV} {h : List MC} {mc ms : Nat} {Q : MO → List MC → Prop} {off : Int} {tgt : Nat} (hd : decode M.2.1 pc = .ok (.goto off, 3)) (ht : (pc : Int) + off = (tgt : Int)) (k : Ev g sc M d w tgt lv st h mc ms Q) : Ev g sc M d w pc lv st h mc ms Q := by
  intro p e R s m args below meth c A al0 H locs cells slots CT ST ls ws LV VS hF hSt hsc hR h1 h2 h3 h4 hA hK hP hD hS hW hal hls hlv hst
  obtain ⟨hx, hb, hr, hlk, hml, hown, hts, hnm, htb⟩ := id hF
  exact lv_goto hx hb hd ht (k p e R s m args below meth c A al0 H locs cells slots CT ST _ ws _ _ hF hSt hsc hR h1 h2 h3 h4 hA hK hP hD hS hW hal hls hlv hst)
theorem e_ifnull0 {g : MG} {sc : MS} {M : MM} {d w pc : Nat} {lv : ML} {st : List MV} {h : List MC} {mc ms : Nat} {Q : MO → List MC → Prop} {off : Int} {tgt : Nat} (hd : decode M.2.1 pc = .ok (.ifnull off, 3)) (ht : (pc : Int) + off = (tgt : Int)) (k : Ev g sc M d w tgt lv st h mc ms Q) : Ev g sc M d w pc lv (mn :: st) h mc ms Q := by
  intro p e R s m args below meth c A al0 H locs cells slots CT ST ls ws LV VS hF hSt hsc hR h1 h2 h3 h4 hA hK hP hD hS hW hal hls hlv hst
  obtain ⟨hx, hb, hr, hlk, hml, hown, hts, hnm, htb⟩ := id hF
  obtain ⟨V, VS', rfl, hV, hst1⟩ := hst.inv
  have hsr := hst1
  cases hV
  exact lv_ifnullN hx hb hd ht (k p e R s m args below meth c A al0 H locs cells slots CT ST _ ws _ _ hF hSt hsc hR h1 h2 h3 h4 hA hK hP hD hS hW hal hls hlv hsr)
theorem e_ifnull1 {g : MG} {sc : MS} {M : MM} {d w pc : Nat} {lv : ML} {st : List MV} {h : List MC} {mc ms : Nat} {Q : MO → List MC → Prop} {r : Nat} {off : Int} (hd : decode M.2.1 pc = .ok (.ifnull off, 3)) (k : Ev g sc M d w (pc + 3) lv st h mc ms Q) : Ev g sc M d w pc lv (mr r :: st) h mc ms Q := by
  intro p e R s m args below meth c A al0 H locs cells slots CT ST ls ws LV VS hF hSt hsc hR h1 h2 h3 h4 hA hK hP hD hS hW hal hls hlv hst
  obtain ⟨hx, hb, hr, hlk, hml, hown, hts, hnm, htb⟩ := id hF
  obtain ⟨V, VS', rfl, hV, hst1⟩ := hst.inv
  have hsr := hst1
  obtain ⟨q, -, rfl⟩ := m_v_mr hV
  exact lv_ifnull hx hb hd (k p e R s m args below meth c A al0 H locs cells slots CT ST _ ws _ _ hF hSt hsc hR h1 h2 h3 h4 hA hK hP hD hS hW hal hls hlv hsr)
theorem e_ifnonnull0 {g : MG} {sc : MS} {M : MM} {d w pc : Nat} {lv : ML} {st : List MV} {h : List MC} {mc ms : Nat} {Q : MO → List MC → Prop} {off : Int} (hd : decode M.2.1 pc = .ok (.ifnonnull off, 3)) (k : Ev g sc M d w (pc + 3) lv st h mc ms Q) : Ev g sc M d w pc lv (mn :: st) h mc ms Q := by
  intro p e R s m args below meth c A al0 H locs cells slots CT ST ls ws LV VS hF hSt hsc hR h1 h2 h3 h4 hA hK hP hD hS hW hal hls hlv hst
  obtain ⟨hx, hb, hr, hlk, hml, hown, hts, hnm, htb⟩ := id hF
  obtain ⟨V, VS', rfl, hV, hst1⟩ := hst.inv
  have hsr := hst1
  cases hV
  exact lv_ifnonnullN hx hb hd (k p e R s m args below meth c A al0 H locs cells slots CT ST _ ws _ _ hF hSt hsc hR h1 h2 h3 h4 hA hK hP hD hS hW hal hls hlv hsr)
theorem e_ifnonnull1 {g : MG} {sc : MS} {M : MM} {d w pc : Nat} {lv : ML} {st : List MV} {h : List MC} {mc ms : Nat} {Q : MO → List MC → Prop} {r : Nat} {off : Int} {tgt : Nat} (hd : decode M.2.1 pc = .ok (.ifnonnull off, 3)) (ht : (pc : Int) + off = (tgt : Int)) (k : Ev g sc M d w tgt lv st h mc ms Q) : Ev g sc M d w pc lv (mr r :: st) h mc ms Q := by
  intro p e R s m args below meth c A al0 H locs cells slots CT ST ls ws LV VS hF hSt hsc hR h1 h2 h3 h4 hA hK hP hD hS hW hal hls hlv hst
  obtain ⟨hx, hb, hr, hlk, hml, hown, hts, hnm, htb⟩ := id hF
  obtain ⟨V, VS', rfl, hV, hst1⟩ := hst.inv
  have hsr := hst1
  obtain ⟨q, -, rfl⟩ := m_v_mr hV
  exact lv_ifnonnull hx hb hd ht (k p e R s m args below meth c A al0 H locs cells slots CT ST _ ws _ _ hF hSt hsc hR h1 h2 h3 h4 hA hK hP hD hS hW hal hls hlv hsr)
theorem e_tableIn {g : MG} {sc : MS} {M : MM} {d w pc : Nat} {lv : ML} {st : List MV} {h : List MC} {mc ms : Nat} {Q : MO → List MC → Prop} {dflt lo hi : Int} {offs : Array Int} {len : Nat} {x : Int32} {off : Int} {tgt : Nat} (hd : decode M.2.1 pc = .ok (.tableswitch dflt lo hi offs, len)) (q1 : ¬ x.toInt < lo) (q2 : ¬ hi < x.toInt) (ho : offs[(x.toInt - lo).toNat]? = some off) (ht : (pc : Int) + off = (tgt : Int)) (k : Ev g sc M d w tgt lv st h mc ms Q) : Ev g sc M d w pc lv (mi x :: st) h mc ms Q := by
  intro p e R s m args below meth c A al0 H locs cells slots CT ST ls ws LV VS hF hSt hsc hR h1 h2 h3 h4 hA hK hP hD hS hW hal hls hlv hst
  obtain ⟨hx, hb, hr, hlk, hml, hown, hts, hnm, htb⟩ := id hF
  obtain ⟨V, VS', rfl, hV, hst1⟩ := hst.inv
  have hsr := hst1
  cases hV
  exact lv_tableIn hx hb hd q1 q2 ho ht (k p e R s m args below meth c A al0 H locs cells slots CT ST _ ws _ _ hF hSt hsc hR h1 h2 h3 h4 hA hK hP hD hS hW hal hls hlv hsr)
theorem e_tableOut {g : MG} {sc : MS} {M : MM} {d w pc : Nat} {lv : ML} {st : List MV} {h : List MC} {mc ms : Nat} {Q : MO → List MC → Prop} {dflt lo hi : Int} {offs : Array Int} {len : Nat} {x : Int32} {tgt : Nat} (hd : decode M.2.1 pc = .ok (.tableswitch dflt lo hi offs, len)) (q1 : x.toInt < lo ∨ hi < x.toInt) (ht : (pc : Int) + dflt = (tgt : Int)) (k : Ev g sc M d w tgt lv st h mc ms Q) : Ev g sc M d w pc lv (mi x :: st) h mc ms Q := by
  intro p e R s m args below meth c A al0 H locs cells slots CT ST ls ws LV VS hF hSt hsc hR h1 h2 h3 h4 hA hK hP hD hS hW hal hls hlv hst
  obtain ⟨hx, hb, hr, hlk, hml, hown, hts, hnm, htb⟩ := id hF
  obtain ⟨V, VS', rfl, hV, hst1⟩ := hst.inv
  have hsr := hst1
  cases hV
  exact lv_tableOut hx hb hd q1 ht (k p e R s m args below meth c A al0 H locs cells slots CT ST _ ws _ _ hF hSt hsc hR h1 h2 h3 h4 hA hK hP hD hS hW hal hls hlv hsr)
theorem e_lookup {g : MG} {sc : MS} {M : MM} {d w pc : Nat} {lv : ML} {st : List MV} {h : List MC} {mc ms : Nat} {Q : MO → List MC → Prop} {dflt : Int} {ps : Array (Int × Int)} {len : Nat} {x : Int32} {off : Int} {tgt : Nat} (hd : decode M.2.1 pc = .ok (.lookupswitch dflt ps, len)) (q1 : (ps.toList.zip (ps.toList.drop 1)).all (fun (a, next) => a.1 < next.1) = true) (ho : Op.lookupswitch.offset ps.toList dflt x.toInt = off) (ht : (pc : Int) + off = (tgt : Int)) (k : Ev g sc M d w tgt lv st h mc ms Q) : Ev g sc M d w pc lv (mi x :: st) h mc ms Q := by
  intro p e R s m args below meth c A al0 H locs cells slots CT ST ls ws LV VS hF hSt hsc hR h1 h2 h3 h4 hA hK hP hD hS hW hal hls hlv hst
  obtain ⟨hx, hb, hr, hlk, hml, hown, hts, hnm, htb⟩ := id hF
  obtain ⟨V, VS', rfl, hV, hst1⟩ := hst.inv
  have hsr := hst1
  cases hV
  exact lv_lookup hx hb hd q1 ho ht (k p e R s m args below meth c A al0 H locs cells slots CT ST _ ws _ _ hF hSt hsc hR h1 h2 h3 h4 hA hK hP hD hS hW hal hls hlv hsr)
theorem e_topi {g : MG} {sc : MS} {M : MM} {d w pc : Nat} {lv : ML} {st : List MV} {h : List MC} {mc ms : Nat} {Q : MO → List MC → Prop} {x : Int32} (k : ∀ y : Int32, y = x → Ev g sc M d w pc lv (mi y :: st) h mc ms Q) : Ev g sc M d w pc lv (mi x :: st) h mc ms Q := k x rfl
