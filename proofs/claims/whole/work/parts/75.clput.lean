/-! THE CLASS: PUT -/
/-- how many variables are bound above the item that is due -/
def hbl (l : Sl) : Int := if 0 < l.2.2.2.1 then (lst1 l.2.2.1).1 else l.2.2.2.2.headD 0
def due (l : Sl) : Nat := l.2.2.2.2.length + l.2.2.2.1
def fit (no told : Int) (l : Sl) (k x : Int) : Prop := if 0 < l.2.2.2.1 then k = 0 ∧ 0 ≤ x ∧ x < l.2.1 + hbl l ∧ x ∉ (lst1 l.2.2.1).2.2 else (k = 0 ∧ 0 ≤ x ∧ x < l.2.1 + hbl l) ∨ (k = 1 ∧ 0 ≤ x ∧ x < no) ∨ (k = 2 ∧ 0 ≤ x ∧ x < told)
def wide (O : Op) (b x : Int) : Prop := ∃ i, 0 ≤ i ∧ i < O.1 x ∧ 12 < b + O.2 x i
def room (O : Op) (l : Sl) (k x : Int) : Prop := 0 < l.2.2.2.1 ∨ (l.2.2.1.length < 30 ∧ (k = 1 → ¬ wide O (l.2.1 + hbl l) x))
/-- a variable of the last hole is put -/
def addV (r : Row) (x : Int) : Row := r.dropLast ++ [((lst1 r).1, (lst1 r).2.1, (lst1 r).2.2 ++ [x])]
def slP (O : Op) (pa : Int → Int) (l : Sl) (k x : Int) : Sl :=
  if 0 < l.2.2.2.1 then (l.1, l.2.1, addV l.2.2.1 x, l.2.2.2.1 - 1, l.2.2.2.2)
  else (l.1, l.2.1, l.2.2.1 ++ [(hbl l, 4 * x + k, [])], (if k = 2 then (pa x).toNat else 0), tP O (hbl l, 4 * x + k, []) ++ l.2.2.2.2.tail)
theorem lst1_snoc (r : Row) (e : AG) : lst1 (r ++ [e]) = e := by unfold lst1; rw [List.getLastD_concat]
theorem addV_snoc (r : Row) (e : AG) (x : Int) : addV (r ++ [e]) x = r ++ [(e.1, e.2.1, e.2.2 ++ [x])] := by
  unfold addV
  rw [lst1_snoc, List.dropLast_concat]
theorem tR_snoc {O : Op} {r : Row} {e e' : AG} {S S' : List Int} (h1 : e'.1 = e.1) (h2 : e'.2.1 = e.2.1) (h : tR O (r ++ [e]) S = some S') : tR O (r ++ [e']) S = some S' := by
  rw [tR_append] at h ⊢
  cases hq : tR O r S with
  | none => rw [hq] at h; cases h
  | some T =>
    rw [hq] at h
    have h' : tR O [e] T = some S' := h
    show tR O [e'] T = some S'
    obtain ⟨U, rfl, k⟩ := tR_inv h'
    have ho := tR_opk h'
    have ho' : opk O e' := by
      rw [show opk O e' = (e'.2.1 % 4 ≠ 1 ∨ 0 ≤ O.1 (e'.2.1 / 4)) from rfl, h2]
      exact ho
    have htp : tP O e' = tP O e := tP_eq h1 h2
    rw [← h1, tR_cons ho', htp]
    exact k
theorem gSl_P {R : Nat} {d : Dk} {i : Nat} {k x : Int} (hg : gD R d) (hi : i < 8) (hd : due (d.2.2.2.2.1 i) ≠ 0) (hf : fit d.2.1 d.2.2.1 (d.2.2.2.2.1 i) k x) (hr : room d.1 (d.2.2.2.2.1 i) k x) : gSl d.1 d.2.2.2.1.1 d.2.2.1 (slP d.1 d.2.2.2.1.1 (d.2.2.2.2.1 i) k x) := by
  have hs := hg.2.2.1 i hi
  generalize d.2.2.2.2.1 i = l at hd hf hr hs
  obtain ⟨k1, k2, k3, k4, k5, k6, k7, k8⟩ := hs
  have hbt : l.1 = true := by
    cases hb : l.1 with
    | true => rfl
    | false =>
      obtain ⟨-, z2, z3⟩ := k1 hb
      unfold due at hd
      rw [z2, z3] at hd
      exact absurd rfl hd
  unfold slP
  unfold fit at hf
  by_cases cp : 0 < l.2.2.2.1
  · rw [if_pos cp]
    rw [if_pos cp] at hf
    obtain ⟨f1, f2, f3, f4⟩ := hf
    obtain ⟨r0, e, j1, j2, j3, j4, j5, j6, j7⟩ := k8 cp
    have hl1 : lst1 l.2.2.1 = e := by rw [j1]; exact lst1_snoc r0 e
    have hav : addV l.2.2.1 x = r0 ++ [(e.1, e.2.1, e.2.2 ++ [x])] := by rw [j1]; exact addV_snoc r0 e x
    have hhb : hbl l = e.1 := by unfold hbl; rw [if_pos cp, hl1]
    rw [hl1] at f4
    rw [hhb] at f3
    have hem : e ∈ l.2.2.1 := by rw [j1]; exact List.mem_append_right _ (List.mem_singleton.mpr rfl)
    have hev : ∀ v ∈ e.2.2 ++ [x], 0 ≤ v ∧ v < e.1 + l.2.1 := by
      intro v hv
      rcases List.mem_append.mp hv with z | z
      · exact j6 v z
      · cases List.mem_singleton.mp z; omega
    have hnd : (e.2.2 ++ [x]).Nodup := List.nodup_append.mpr ⟨j7, List.nodup_cons.mpr ⟨List.not_mem_nil, List.nodup_nil⟩, fun a ha b hb z => by cases List.mem_singleton.mp hb; exact f4 (z ▸ ha)⟩
    have hlen : (e.2.2 ++ [x]).length = e.2.2.length + 1 := by rw [List.length_append]; rfl
    refine ⟨fun z => (by rw [hbt] at z; cases z), k2, fun _ => ?_, ?_, k5, ?_, fun z => ?_, fun z => ?_⟩
    · show tR d.1 (addV l.2.2.1 x) [0] = some l.2.2.2.2
      rw [hav]
      have h9 := k3 hbt
      rw [j1] at h9
      exact tR_snoc (e := e) (e' := (e.1, e.2.1, e.2.2 ++ [x])) rfl rfl h9
    · show (addV l.2.2.1 x).length ≤ 30
      rw [hav, List.length_append]
      rw [j1, List.length_append] at k4
      exact k4
    · show ∀ e ∈ addV l.2.2.1 x, 0 ≤ e.1 ∧ l.2.1 + e.1 ≤ 12 ∧ (e.2.1 % 4 = 2 → e.2.1 / 4 < d.2.2.1)
      rw [hav]
      intro f hf
      rcases List.mem_append.mp hf with z | z
      · exact k6 f (by rw [j1]; exact List.mem_append_left _ z)
      · cases List.mem_singleton.mp z
        exact k6 e hem
    · show okR d.2.2.2.1.1 l.2.1 (addV l.2.2.1 x)
      have z' : l.2.2.2.1 - 1 = 0 := z
      rw [hav]
      intro f hf
      rcases List.mem_append.mp hf with w | w
      · exact j2 f w
      · cases List.mem_singleton.mp w
        refine ⟨(k6 e hem).1, j4, by show e.2.1 % 4 ≠ 3; omega, fun c => by have c' : e.2.1 % 4 = 0 := c; omega, hev, fun _ => ?_, fun c => absurd j3 c, hnd⟩
        show ((e.2.2 ++ [x]).length : Int) = d.2.2.2.1.1 (e.2.1 / 4)
        rw [hlen]
        omega
    · have z' : 0 < l.2.2.2.1 - 1 := z
      refine ⟨r0, (e.1, e.2.1, e.2.2 ++ [x]), hav, j2, j3, j4, ?_, hev, hnd⟩
      show (((e.2.2 ++ [x]).length + (l.2.2.2.1 - 1) : Nat) : Int) = d.2.2.2.1.1 (e.2.1 / 4)
      rw [hlen]
      omega
  · rw [if_neg cp]
    rw [if_neg cp] at hf
    have hp0 : l.2.2.2.1 = 0 := by omega
    have hr' : l.2.2.1.length < 30 ∧ (k = 1 → ¬ wide d.1 (l.2.1 + hbl l) x) := hr.elim (fun z => absurd z cp) id
    obtain ⟨b, S, hS⟩ : ∃ b S, l.2.2.2.2 = b :: S := by
      cases hq : l.2.2.2.2 with
      | nil => unfold due at hd; rw [hq, hp0] at hd; exact absurd rfl hd
      | cons b S => exact ⟨b, S, rfl⟩
    have hhb : hbl l = b := by unfold hbl; rw [if_neg cp, hS]; rfl
    have hb := k5 b (by rw [hS]; exact List.mem_cons_self)
    rw [hhb] at hf hr' ⊢
    rw [hS]
    have hko := k7 hp0
    have htr := k3 hbt
    rw [hS] at htr
    have hopk : opk d.1 (b, 4 * x + k, []) := by
      by_cases c1 : k = 1
      · right
        show 0 ≤ d.1.1 ((4 * x + k) / 4)
        rw [show (4 * x + k) / 4 = x by omega]
        refine (hg.1.2.2.1 x).mpr ?_
        omega
      · left
        show (4 * x + k) % 4 ≠ 1
        omega
    have hk4 : (4 * x + k) / 4 = x ∧ (4 * x + k) % 4 = k := by omega
    refine ⟨fun z => (by rw [hbt] at z; cases z), k2, fun _ => ?_, ?_, ?_, ?_, fun z => ?_, fun z => ?_⟩
    · show tR d.1 (l.2.2.1 ++ [(b, 4 * x + k, [])]) [0] = some (tP d.1 (b, 4 * x + k, []) ++ S)
      refine tR_join htr ?_
      rw [show (b :: S) = ((b, 4 * x + k, ([] : List Int)) : AG).1 :: S from rfl, tR_cons hopk]
      rfl
    · show (l.2.2.1 ++ [(b, 4 * x + k, [])]).length ≤ 30
      rw [List.length_append]
      show l.2.2.1.length + 1 ≤ 30
      omega
    · show ∀ z ∈ tP d.1 (b, 4 * x + k, []) ++ S, 0 ≤ z ∧ l.2.1 + z ≤ 12
      intro z hz
      rcases List.mem_append.mp hz with w | w
      · by_cases c1 : k = 1
        · unfold tP at w
          rw [if_pos (by show (4 * x + k) % 4 = 1; omega)] at w
          obtain ⟨j, hj, rfl⟩ := List.mem_map.mp w
          have hj' := List.mem_range.mp hj
          have h1 : 0 ≤ d.1.2 x j := (hg.1.2.2.2.2 x j).1
          have hxe : (4 * x + k) / 4 = x := hk4.1
          show 0 ≤ b + d.1.2 ((4 * x + k) / 4) j ∧ l.2.1 + (b + d.1.2 ((4 * x + k) / 4) j) ≤ 12
          have hj'' : j < (d.1.1 ((4 * x + k) / 4)).toNat := hj'
          rw [hxe] at hj'' ⊢
          refine ⟨by omega, ?_⟩
          apply Decidable.byContradiction
          intro zz
          exact hr'.2 c1 ⟨j, by omega, by omega, by omega⟩
        · rw [tP_hole (by show (4 * x + k) % 4 ≠ 1; omega)] at w
          cases w
      · exact k5 z (by rw [hS]; exact List.mem_cons_of_mem _ w)
    · show ∀ e ∈ l.2.2.1 ++ [(b, 4 * x + k, [])], 0 ≤ e.1 ∧ l.2.1 + e.1 ≤ 12 ∧ (e.2.1 % 4 = 2 → e.2.1 / 4 < d.2.2.1)
      intro f hf'
      rcases List.mem_append.mp hf' with z | z
      · exact k6 f z
      · cases List.mem_singleton.mp z
        refine ⟨hb.1, hb.2, fun c => ?_⟩
        have c' : (4 * x + k) % 4 = 2 := c
        show (4 * x + k) / 4 < d.2.2.1
        omega
    · have z' : (if k = 2 then (d.2.2.2.1.1 x).toNat else 0) = 0 := z
      show okR d.2.2.2.1.1 l.2.1 (l.2.2.1 ++ [(b, 4 * x + k, [])])
      intro f hf'
      rcases List.mem_append.mp hf' with w | w
      · exact hko f w
      · cases List.mem_singleton.mp w
        refine ⟨hb.1, by show 0 ≤ 4 * x + k; omega, by show (4 * x + k) % 4 ≠ 3; omega, fun c => ?_, fun v hv => absurd hv List.not_mem_nil, fun c => ?_, fun _ => rfl, List.nodup_nil⟩
        · have c' : (4 * x + k) % 4 = 0 := c
          show (4 * x + k) / 4 < b + l.2.1
          omega
        · have c' : (4 * x + k) % 4 = 2 := c
          have ck2 : k = 2 := by omega
          rw [if_pos ck2] at z'
          show ((0 : Nat) : Int) = d.2.2.2.1.1 ((4 * x + k) / 4)
          rw [hk4.1]
          have := (hg.2.1.1.2.2.2.2.2.2.1 x).mpr (Or.inl (by omega))
          omega
    · have z' : 0 < (if k = 2 then (d.2.2.2.1.1 x).toNat else 0) := z
      have ck2 : k = 2 := by
        apply Decidable.byContradiction
        intro w
        rw [if_neg w] at z'
        omega
      rw [if_pos ck2] at z'
      refine ⟨l.2.2.1, (b, 4 * x + k, []), rfl, hko, by show (4 * x + k) % 4 = 2; omega, by show 0 ≤ 4 * x + k; omega, ?_, fun v hv => absurd hv List.not_mem_nil, List.nodup_nil⟩
      show (((0 : Nat) + (if k = 2 then (d.2.2.2.1.1 x).toNat else 0) : Nat) : Int) = d.2.2.2.1.1 ((4 * x + k) / 4)
      rw [hk4.1, if_pos ck2]
      omega
