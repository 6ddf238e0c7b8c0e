/-! FACTS of the tables: methods, fields, makings, links. Written by wip/whole/gen_facts.py. -/
theorem m_sub {ws : List Cond} (h : ws.all (fun w => decide (w ∈ lw_tbl) && goodWord w) = true) : ∀ w ∈ ws, w ∈ m_Ts := by
  intro w hw
  have h1 := List.all_eq_true.mp h w hw
  simp only [Bool.and_eq_true, decide_eq_true_eq] at h1
  exact List.mem_filter.mpr h1
/-- which words of a throw the tables hold -/
def m_twb (w : Cond) : Bool := (decide (w ∈ lw_tbl) && goodWord w) || m_cas.any (fun q => decide (w = .castable q.1 q.2)) || m_decl.any (fun y => decide (w = .declares y)) || decide (w = .isRef (.static Bundle.tN "UNASSIGNED_STACK" Bundle.steD)) || decide (w = .isRef (.static Bundle.tN "SUPPRESSED_SENTINEL" Bundle.listD)) || decide (w = .laysStatic Bundle.tN "UNASSIGNED_STACK" Bundle.steD) || decide (w = .laysStatic Bundle.tN "SUPPRESSED_SENTINEL" Bundle.listD)
theorem m_tw_of {own : String} {ik is ic : Nat} {cls text : String} {names : List String} (h1 : Bundle.fit cls = true) (h2 : ∀ n ∈ names, Bundle.fit n = true) (h3 : Cond.classLink own ik cls ∈ m_Ts) (h4 : Cond.initialized cls ∈ m_Ts) (h5 : (own, is, text) ∈ m_strs) (h6 : (Bundle.ownAtoms own ic cls names).all m_twb = true) : m_tw own ik is ic cls text names := by
  refine ⟨⟨h1, h2⟩, h3, h4, h5, fun w hw => ?_⟩
  have h7 := List.all_eq_true.mp h6 w hw
  simp only [m_twb, Bool.or_eq_true, Bool.and_eq_true, decide_eq_true_eq, List.any_eq_true] at h7
  rcases h7 with (((((h7 | ⟨q, hq, h7⟩) | ⟨y, hy, h7⟩) | h7) | h7) | h7) | h7
  · exact Or.inl (Or.inl (List.mem_filter.mpr h7))
  · exact Or.inl (Or.inr (Or.inl ⟨q, hq, h7⟩))
  · exact Or.inl (Or.inr (Or.inr ⟨y, hy, h7⟩))
  · exact Or.inr (Or.inl h7)
  · exact Or.inr (Or.inr (Or.inl h7))
  · exact Or.inr (Or.inr (Or.inr (Or.inl h7)))
  · exact Or.inr (Or.inr (Or.inr (Or.inr h7)))
theorem u_H : ∀ w ∈ u_ws "HoleFiller" tfH 9, w ∈ m_Ts := m_sub (by decide +kernel)
def tyH : Nat → FieldType := fun k => match k with
  | 0 => .object "HoleFiller$Operations"
  | 1 => .object "HoleFiller$Holes"
  | 2 => .array (.object "HoleFiller$Slot")
  | 3 => .object "HoleFiller$Cursor"
  | 4 => .object "HoleFiller$Cursor"
  | 5 => .object "HoleFiller$Unifier"
  | 6 => .object "HoleFiller$Reader"
  | 7 => .int
  | _ => .int
theorem tyH_ok : ∀ k, k < 9 → parseFieldDescriptor (tfH k).2.2.1 = some (tyH k) := by decide +kernel
theorem nmH : ∀ a, a < 9 → ∀ b, b < 9 → a ≠ b → (tfH a).2.1 ≠ (tfH b).2.1 := by decide +kernel
theorem u_C : ∀ w ∈ u_ws "HoleFiller$Cells" tfC 3, w ∈ m_Ts := m_sub (by decide +kernel)
def tyC : Nat → FieldType := fun k => match k with
  | 0 => .array .int
  | 1 => .array .int
  | _ => .int
theorem tyC_ok : ∀ k, k < 3 → parseFieldDescriptor (tfC k).2.2.1 = some (tyC k) := by decide +kernel
theorem nmC : ∀ a, a < 3 → ∀ b, b < 3 → a ≠ b → (tfC a).2.1 ≠ (tfC b).2.1 := by decide +kernel
theorem u_U : ∀ w ∈ u_ws "HoleFiller$Cursor" tfU 12, w ∈ m_Ts := m_sub (by decide +kernel)
def tyU : Nat → FieldType := fun k => match k with
  | 0 => .object "HoleFiller$Cells"
  | 1 => .object "HoleFiller$Holes"
  | 2 => .array .int
  | 3 => .array .int
  | 4 => .array .int
  | 5 => .array .int
  | 6 => .int
  | 7 => .int
  | 8 => .int
  | 9 => .int
  | 10 => .array .int
  | _ => .int
theorem tyU_ok : ∀ k, k < 12 → parseFieldDescriptor (tfU k).2.2.1 = some (tyU k) := by decide +kernel
theorem nmU : ∀ a, a < 12 → ∀ b, b < 12 → a ≠ b → (tfU a).2.1 ≠ (tfU b).2.1 := by decide +kernel
theorem u_G : ∀ w ∈ u_ws "HoleFiller$Holes" tfG 9, w ∈ m_Ts := m_sub (by decide +kernel)
def tyG : Nat → FieldType := fun k => match k with
  | 0 => .object "HoleFiller$Cells"
  | 1 => .array .int
  | 2 => .array .int
  | 3 => .array .int
  | 4 => .array .int
  | 5 => .array .int
  | 6 => .int
  | 7 => .int
  | _ => .int
theorem tyG_ok : ∀ k, k < 9 → parseFieldDescriptor (tfG k).2.2.1 = some (tyG k) := by decide +kernel
theorem nmG : ∀ a, a < 9 → ∀ b, b < 9 → a ≠ b → (tfG a).2.1 ≠ (tfG b).2.1 := by decide +kernel
theorem u_O : ∀ w ∈ u_ws "HoleFiller$Operations" tfO 3, w ∈ m_Ts := m_sub (by decide +kernel)
def tyO : Nat → FieldType := fun k => match k with
  | 0 => .array .int
  | 1 => .array .int
  | _ => .int
theorem tyO_ok : ∀ k, k < 3 → parseFieldDescriptor (tfO k).2.2.1 = some (tyO k) := by decide +kernel
theorem nmO : ∀ a, a < 3 → ∀ b, b < 3 → a ≠ b → (tfO a).2.1 ≠ (tfO b).2.1 := by decide +kernel
theorem u_R : ∀ w ∈ u_ws "HoleFiller$Reader" tfR 5, w ∈ m_Ts := m_sub (by decide +kernel)
def tyR : Nat → FieldType := fun k => match k with
  | 0 => .array .int
  | 1 => .int
  | 2 => .int
  | 3 => .array .int
  | _ => .array .int
theorem tyR_ok : ∀ k, k < 5 → parseFieldDescriptor (tfR k).2.2.1 = some (tyR k) := by decide +kernel
theorem nmR : ∀ a, a < 5 → ∀ b, b < 5 → a ≠ b → (tfR a).2.1 ≠ (tfR b).2.1 := by decide +kernel
theorem u_S : ∀ w ∈ u_ws "HoleFiller$Slot" tfS 10, w ∈ m_Ts := m_sub (by decide +kernel)
def tyS : Nat → FieldType := fun k => match k with
  | 0 => .object "HoleFiller$Cells"
  | 1 => .int
  | 2 => .array .int
  | 3 => .int
  | 4 => .int
  | 5 => .int
  | 6 => .int
  | 7 => .int
  | 8 => .int
  | _ => .int
theorem tyS_ok : ∀ k, k < 10 → parseFieldDescriptor (tfS k).2.2.1 = some (tyS k) := by decide +kernel
theorem nmS : ∀ a, a < 10 → ∀ b, b < 10 → a ≠ b → (tfS a).2.1 ≠ (tfS b).2.1 := by decide +kernel
theorem u_N : ∀ w ∈ u_ws "HoleFiller$Unifier" tfN 9, w ∈ m_Ts := m_sub (by decide +kernel)
def tyN : Nat → FieldType := fun k => match k with
  | 0 => .object "HoleFiller$Cells"
  | 1 => .object "HoleFiller$Holes"
  | 2 => .object "HoleFiller$Operations"
  | 3 => .object "HoleFiller$Cursor"
  | 4 => .object "HoleFiller$Cursor"
  | 5 => .object "HoleFiller$Cursor"
  | 6 => .array .int
  | 7 => .array .int
  | _ => .int
theorem tyN_ok : ∀ k, k < 9 → parseFieldDescriptor (tfN k).2.2.1 = some (tyN k) := by decide +kernel
theorem nmN : ∀ a, a < 9 → ∀ b, b < 9 → a ≠ b → (tfN a).2.1 ≠ (tfN b).2.1 := by decide +kernel
theorem u_D : ∀ w ∈ u_ws "HoleFillerModel" tfD 40, w ∈ m_Ts := m_sub (by decide +kernel)
def tyD : Nat → FieldType := fun k => match k with
  | 0 => .int
  | 1 => .int
  | 2 => .int
  | 3 => .int
  | 4 => .array .int
  | 5 => .array .int
  | 6 => .array .int
  | 7 => .array .int
  | 8 => .array .int
  | 9 => .array .boolean
  | 10 => .array .boolean
  | 11 => .array .int
  | 12 => .array .int
  | 13 => .array .int
  | 14 => .array .int
  | 15 => .array .int
  | 16 => .array .int
  | 17 => .array .int
  | 18 => .array .boolean
  | 19 => .array .int
  | 20 => .array .int
  | 21 => .array .int
  | 22 => .array .int
  | 23 => .array .int
  | 24 => .array .int
  | 25 => .array .int
  | 26 => .array .int
  | 27 => .array .int
  | 28 => .array .int
  | 29 => .int
  | 30 => .int
  | 31 => .int
  | 32 => .array .int
  | 33 => .array .int
  | 34 => .array .int
  | 35 => .array .int
  | 36 => .int
  | 37 => .int
  | 38 => .int
  | _ => .int
theorem tyD_ok : ∀ k, k < 40 → parseFieldDescriptor (tfD k).2.2.1 = some (tyD k) := by decide +kernel
theorem nmD : ∀ a, a < 40 → ∀ b, b < 40 → a ≠ b → (tfD a).2.1 ≠ (tfD b).2.1 := by decide +kernel
def M_H_init : MM := (⟨"HoleFiller", "<init>", "()V"⟩, prog_1_method_1_code, 3, none, [])
theorem me_H_init : m_me M_H_init 0 := ⟨m_mem (i := 72) (by decide +kernel) rfl, by decide +kernel, by decide +kernel, by decide +kernel, m_mem (i := 50) (by decide +kernel) rfl⟩
def M_Ob_init : MM := (⟨"java/lang/Object", "<init>", "()V"⟩, object_method_1_code, 1, none, [])
def M_C_init : MM := (⟨"HoleFiller$Cells", "<init>", "()V"⟩, prog_2_method_1_code, 1, none, [])
theorem me_C_init : m_me M_C_init 0 := ⟨m_mem (i := 80) (by decide +kernel) rfl, by decide +kernel, by decide +kernel, by decide +kernel, m_mem (i := 51) (by decide +kernel) rfl⟩
def M_O_init : MM := (⟨"HoleFiller$Operations", "<init>", "()V"⟩, prog_5_method_1_code, 1, none, [])
theorem me_O_init : m_me M_O_init 0 := ⟨m_mem (i := 99) (by decide +kernel) rfl, by decide +kernel, by decide +kernel, by decide +kernel, m_mem (i := 52) (by decide +kernel) rfl⟩
def M_G_init : MM := (⟨"HoleFiller$Holes", "<init>", "(LHoleFiller$Cells;)V"⟩, prog_4_method_1_code, 2, none, [])
theorem me_G_init : m_me M_G_init 1 := ⟨m_mem (i := 116) (by decide +kernel) rfl, by decide +kernel, by decide +kernel, by decide +kernel, m_mem (i := 53) (by decide +kernel) rfl⟩
def M_S_init : MM := (⟨"HoleFiller$Slot", "<init>", "(LHoleFiller$Cells;I)V"⟩, prog_7_method_1_code, 3, none, [])
theorem me_S_init : m_me M_S_init 2 := ⟨m_mem (i := 159) (by decide +kernel) rfl, by decide +kernel, by decide +kernel, by decide +kernel, m_mem (i := 54) (by decide +kernel) rfl⟩
def M_U_init : MM := (⟨"HoleFiller$Cursor", "<init>", "(LHoleFiller$Cells;LHoleFiller$Holes;)V"⟩, prog_3_method_1_code, 3, none, [])
theorem me_U_init : m_me M_U_init 2 := ⟨m_mem (i := 200) (by decide +kernel) rfl, by decide +kernel, by decide +kernel, by decide +kernel, m_mem (i := 55) (by decide +kernel) rfl⟩
def M_N_init : MM := (⟨"HoleFiller$Unifier", "<init>", "(LHoleFiller$Cells;LHoleFiller$Holes;LHoleFiller$Operations;LHoleFiller$Cursor;LHoleFiller$Cursor;)V"⟩, prog_8_method_1_code, 6, none, [])
theorem me_N_init : m_me M_N_init 5 := ⟨m_mem (i := 252) (by decide +kernel) rfl, by decide +kernel, by decide +kernel, by decide +kernel, m_mem (i := 56) (by decide +kernel) rfl⟩
def M_R_init : MM := (⟨"HoleFiller$Reader", "<init>", "()V"⟩, prog_6_method_1_code, 1, none, [])
theorem me_R_init : m_me M_R_init 0 := ⟨m_mem (i := 288) (by decide +kernel) rfl, by decide +kernel, by decide +kernel, by decide +kernel, m_mem (i := 57) (by decide +kernel) rfl⟩
def M_H_empty : MM := (⟨"HoleFiller", "empty", "()I"⟩, prog_1_method_12_code, 3, (Option.some FieldType.int), [])
theorem me_H_empty : m_me M_H_empty 0 := ⟨m_mem (i := 340) (by decide +kernel) rfl, by decide +kernel, by decide +kernel, by decide +kernel, m_mem (i := 50) (by decide +kernel) rfl⟩
def M_G_isOpen : MM := (⟨"HoleFiller$Holes", "isOpen", "(I)Z"⟩, prog_4_method_4_code, 2, (Option.some FieldType.boolean), [])
theorem me_G_isOpen : m_me M_G_isOpen 1 := ⟨m_mem (i := 344) (by decide +kernel) rfl, by decide +kernel, by decide +kernel, by decide +kernel, m_mem (i := 53) (by decide +kernel) rfl⟩
def M_H_at : MM := (⟨"HoleFiller", "at", "([II)I"⟩, prog_1_method_20_code, 2, (Option.some FieldType.int), [])
theorem me_H_at : m_me M_H_at 2 := ⟨m_mem (i := 347) (by decide +kernel) rfl, by decide +kernel, by decide +kernel, by decide +kernel, m_mem (i := 50) (by decide +kernel) rfl⟩
def M_G_undoTo : MM := (⟨"HoleFiller$Holes", "undoTo", "(II)V"⟩, prog_4_method_8_code, 5, none, [])
theorem me_G_undoTo : m_me M_G_undoTo 2 := ⟨m_mem (i := 351) (by decide +kernel) rfl, by decide +kernel, by decide +kernel, by decide +kernel, m_mem (i := 53) (by decide +kernel) rfl⟩
def M_H_set : MM := (⟨"HoleFiller", "set", "([III)V"⟩, prog_1_method_21_code, 3, none, [])
theorem me_H_set : m_me M_H_set 3 := ⟨m_mem (i := 354) (by decide +kernel) rfl, by decide +kernel, by decide +kernel, by decide +kernel, m_mem (i := 50) (by decide +kernel) rfl⟩
def M_H_count : MM := (⟨"HoleFiller", "count", "(I)I"⟩, prog_1_method_13_code, 2, (Option.some FieldType.int), [])
theorem me_H_count : m_me M_H_count 1 := ⟨m_mem (i := 358) (by decide +kernel) rfl, by decide +kernel, by decide +kernel, by decide +kernel, m_mem (i := 50) (by decide +kernel) rfl⟩
def M_H_operation : MM := (⟨"HoleFiller", "operation", "(III)I"⟩, prog_1_method_2_code, 4, (Option.some FieldType.int), [])
theorem me_H_operation : m_me M_H_operation 3 := ⟨m_mem (i := 366) (by decide +kernel) rfl, by decide +kernel, by decide +kernel, by decide +kernel, m_mem (i := 50) (by decide +kernel) rfl⟩
def M_H_mayBind : MM := (⟨"HoleFiller", "mayBind", "(I)Z"⟩, prog_1_method_14_code, 1, (Option.some FieldType.boolean), [])
theorem me_H_mayBind : m_me M_H_mayBind 1 := ⟨m_mem (i := 369) (by decide +kernel) rfl, by decide +kernel, by decide +kernel, by decide +kernel, m_mem (i := 50) (by decide +kernel) rfl⟩
def M_O_tell : MM := (⟨"HoleFiller$Operations", "tell", "(III)I"⟩, prog_5_method_2_code, 5, (Option.some FieldType.int), [])
theorem me_O_tell : m_me M_O_tell 3 := ⟨m_mem (i := 442) (by decide +kernel) rfl, by decide +kernel, by decide +kernel, by decide +kernel, m_mem (i := 52) (by decide +kernel) rfl⟩
def M_O_addArgument : MM := (⟨"HoleFiller$Operations", "addArgument", "(II)V"⟩, prog_5_method_3_code, 4, none, [])
theorem me_O_addArgument : m_me M_O_addArgument 2 := ⟨m_mem (i := 446) (by decide +kernel) rfl, by decide +kernel, by decide +kernel, by decide +kernel, m_mem (i := 52) (by decide +kernel) rfl⟩
def M_O_arityOf : MM := (⟨"HoleFiller$Operations", "arityOf", "(I)I"⟩, prog_5_method_4_code, 2, (Option.some FieldType.int), [])
theorem me_O_arityOf : m_me M_O_arityOf 1 := ⟨m_mem (i := 450) (by decide +kernel) rfl, by decide +kernel, by decide +kernel, by decide +kernel, m_mem (i := 52) (by decide +kernel) rfl⟩
def M_H_hole : MM := (⟨"HoleFiller", "hole", "(I)I"⟩, prog_1_method_3_code, 2, (Option.some FieldType.int), [])
theorem me_H_hole : m_me M_H_hole 1 := ⟨m_mem (i := 459) (by decide +kernel) rfl, by decide +kernel, by decide +kernel, by decide +kernel, m_mem (i := 50) (by decide +kernel) rfl⟩
def M_G_tell : MM := (⟨"HoleFiller$Holes", "tell", "(I)I"⟩, prog_4_method_2_code, 2, (Option.some FieldType.int), [])
theorem me_G_tell : m_me M_G_tell 1 := ⟨m_mem (i := 464) (by decide +kernel) rfl, by decide +kernel, by decide +kernel, by decide +kernel, m_mem (i := 53) (by decide +kernel) rfl⟩
def M_H_begin : MM := (⟨"HoleFiller", "begin", "(II)I"⟩, prog_1_method_4_code, 4, (Option.some FieldType.int), [])
theorem me_H_begin : m_me M_H_begin 2 := ⟨m_mem (i := 471) (by decide +kernel) rfl, by decide +kernel, by decide +kernel, by decide +kernel, m_mem (i := 50) (by decide +kernel) rfl⟩
def M_H_slotAt : MM := (⟨"HoleFiller", "slotAt", "(I)LHoleFiller$Slot;"⟩, prog_1_method_15_code, 3, (Option.some (FieldType.object "HoleFiller$Slot")), [])
theorem me_H_slotAt : m_me M_H_slotAt 1 := ⟨m_mem (i := 475) (by decide +kernel) rfl, by decide +kernel, by decide +kernel, by decide +kernel, m_mem (i := 50) (by decide +kernel) rfl⟩
def M_S_restart : MM := (⟨"HoleFiller$Slot", "restart", "(I)V"⟩, prog_7_method_2_code, 2, none, [])
theorem me_S_restart : m_me M_S_restart 1 := ⟨m_mem (i := 481) (by decide +kernel) rfl, by decide +kernel, by decide +kernel, by decide +kernel, m_mem (i := 54) (by decide +kernel) rfl⟩
def M_S_itemsDue : MM := (⟨"HoleFiller$Slot", "itemsDue", "()I"⟩, prog_7_method_3_code, 1, (Option.some FieldType.int), [])
theorem me_S_itemsDue : m_me M_S_itemsDue 0 := ⟨m_mem (i := 486) (by decide +kernel) rfl, by decide +kernel, by decide +kernel, by decide +kernel, m_mem (i := 54) (by decide +kernel) rfl⟩
def M_H_put : MM := (⟨"HoleFiller", "put", "(III)I"⟩, prog_1_method_5_code, 5, (Option.some FieldType.int), [])
theorem me_H_put : m_me M_H_put 3 := ⟨m_mem (i := 494) (by decide +kernel) rfl, by decide +kernel, by decide +kernel, by decide +kernel, m_mem (i := 50) (by decide +kernel) rfl⟩
def M_H_mayStand : MM := (⟨"HoleFiller", "mayStand", "(LHoleFiller$Slot;II)Z"⟩, prog_1_method_16_code, 4, (Option.some FieldType.boolean), [])
theorem me_H_mayStand : m_me M_H_mayStand 3 := ⟨m_mem (i := 514) (by decide +kernel) rfl, by decide +kernel, by decide +kernel, by decide +kernel, m_mem (i := 50) (by decide +kernel) rfl⟩
def M_S_mayTakeVariable : MM := (⟨"HoleFiller$Slot", "mayTakeVariable", "(I)Z"⟩, prog_7_method_8_code, 3, (Option.some FieldType.boolean), [])
theorem me_S_mayTakeVariable : m_me M_S_mayTakeVariable 1 := ⟨m_mem (i := 518) (by decide +kernel) rfl, by decide +kernel, by decide +kernel, by decide +kernel, m_mem (i := 54) (by decide +kernel) rfl⟩
def M_S_variablesHere : MM := (⟨"HoleFiller$Slot", "variablesHere", "()I"⟩, prog_7_method_6_code, 1, (Option.some FieldType.int), [])
theorem me_S_variablesHere : m_me M_S_variablesHere 0 := ⟨m_mem (i := 522) (by decide +kernel) rfl, by decide +kernel, by decide +kernel, by decide +kernel, m_mem (i := 54) (by decide +kernel) rfl⟩
def M_S_boundHere : MM := (⟨"HoleFiller$Slot", "boundHere", "()I"⟩, prog_7_method_7_code, 1, (Option.some FieldType.int), [])
theorem me_S_boundHere : m_me M_S_boundHere 0 := ⟨m_mem (i := 526) (by decide +kernel) rfl, by decide +kernel, by decide +kernel, by decide +kernel, m_mem (i := 54) (by decide +kernel) rfl⟩
def M_S_isBehindHole : MM := (⟨"HoleFiller$Slot", "isBehindHole", "()Z"⟩, prog_7_method_5_code, 1, (Option.some FieldType.boolean), [])
theorem me_S_isBehindHole : m_me M_S_isBehindHole 0 := ⟨m_mem (i := 530) (by decide +kernel) rfl, by decide +kernel, by decide +kernel, by decide +kernel, m_mem (i := 54) (by decide +kernel) rfl⟩
def M_C_codeAt : MM := (⟨"HoleFiller$Cells", "codeAt", "(I)I"⟩, prog_2_method_2_code, 2, (Option.some FieldType.int), [])
theorem me_C_codeAt : m_me M_C_codeAt 1 := ⟨m_mem (i := 535) (by decide +kernel) rfl, by decide +kernel, by decide +kernel, by decide +kernel, m_mem (i := 51) (by decide +kernel) rfl⟩
def M_H_numberOf : MM := (⟨"HoleFiller", "numberOf", "(I)I"⟩, prog_1_method_24_code, 1, (Option.some FieldType.int), [])
theorem me_H_numberOf : m_me M_H_numberOf 1 := ⟨m_mem (i := 539) (by decide +kernel) rfl, by decide +kernel, by decide +kernel, by decide +kernel, m_mem (i := 50) (by decide +kernel) rfl⟩
def M_H_hasRoom : MM := (⟨"HoleFiller", "hasRoom", "(LHoleFiller$Slot;II)Z"⟩, prog_1_method_17_code, 4, (Option.some FieldType.boolean), [])
theorem me_H_hasRoom : m_me M_H_hasRoom 3 := ⟨m_mem (i := 545) (by decide +kernel) rfl, by decide +kernel, by decide +kernel, by decide +kernel, m_mem (i := 50) (by decide +kernel) rfl⟩
def M_O_mostBound : MM := (⟨"HoleFiller$Operations", "mostBound", "(I)I"⟩, prog_5_method_6_code, 4, (Option.some FieldType.int), [])
theorem me_O_mostBound : m_me M_O_mostBound 1 := ⟨m_mem (i := 550) (by decide +kernel) rfl, by decide +kernel, by decide +kernel, by decide +kernel, m_mem (i := 52) (by decide +kernel) rfl⟩
def M_O_boundBy : MM := (⟨"HoleFiller$Operations", "boundBy", "(II)I"⟩, prog_5_method_5_code, 3, (Option.some FieldType.int), [])
theorem me_O_boundBy : m_me M_O_boundBy 2 := ⟨m_mem (i := 554) (by decide +kernel) rfl, by decide +kernel, by decide +kernel, by decide +kernel, m_mem (i := 52) (by decide +kernel) rfl⟩
def M_Ma_max : MM := (⟨"java/lang/Math", "max", "(II)I"⟩, prog_16_method_65_code, 2, (Option.some FieldType.int), [])
def M_S_takeVariable : MM := (⟨"HoleFiller$Slot", "takeVariable", "(I)V"⟩, prog_7_method_9_code, 3, none, [])
theorem me_S_takeVariable : m_me M_S_takeVariable 1 := ⟨m_mem (i := 561) (by decide +kernel) rfl, by decide +kernel, by decide +kernel, by decide +kernel, m_mem (i := 54) (by decide +kernel) rfl⟩
def M_H_codeOf : MM := (⟨"HoleFiller", "codeOf", "(II)I"⟩, prog_1_method_22_code, 2, (Option.some FieldType.int), [])
theorem me_H_codeOf : m_me M_H_codeOf 2 := ⟨m_mem (i := 564) (by decide +kernel) rfl, by decide +kernel, by decide +kernel, by decide +kernel, m_mem (i := 50) (by decide +kernel) rfl⟩
def M_S_write : MM := (⟨"HoleFiller$Slot", "write", "(II)V"⟩, prog_7_method_12_code, 3, none, [])
theorem me_S_write : m_me M_S_write 2 := ⟨m_mem (i := 568) (by decide +kernel) rfl, by decide +kernel, by decide +kernel, by decide +kernel, m_mem (i := 54) (by decide +kernel) rfl⟩
def M_C_write : MM := (⟨"HoleFiller$Cells", "write", "(III)V"⟩, prog_2_method_4_code, 4, none, [])
theorem me_C_write : m_me M_C_write 3 := ⟨m_mem (i := 572) (by decide +kernel) rfl, by decide +kernel, by decide +kernel, by decide +kernel, m_mem (i := 51) (by decide +kernel) rfl⟩
def M_S_takeOperation : MM := (⟨"HoleFiller$Slot", "takeOperation", "(ILHoleFiller$Operations;)V"⟩, prog_7_method_10_code, 5, none, [])
theorem me_S_takeOperation : m_me M_S_takeOperation 2 := ⟨m_mem (i := 577) (by decide +kernel) rfl, by decide +kernel, by decide +kernel, by decide +kernel, m_mem (i := 54) (by decide +kernel) rfl⟩
def M_G_parametersOf : MM := (⟨"HoleFiller$Holes", "parametersOf", "(I)I"⟩, prog_4_method_5_code, 2, (Option.some FieldType.int), [])
theorem me_G_parametersOf : m_me M_G_parametersOf 1 := ⟨m_mem (i := 583) (by decide +kernel) rfl, by decide +kernel, by decide +kernel, by decide +kernel, m_mem (i := 53) (by decide +kernel) rfl⟩
def M_S_takeHole : MM := (⟨"HoleFiller$Slot", "takeHole", "(II)V"⟩, prog_7_method_11_code, 4, none, [])
theorem me_S_takeHole : m_me M_S_takeHole 2 := ⟨m_mem (i := 587) (by decide +kernel) rfl, by decide +kernel, by decide +kernel, by decide +kernel, m_mem (i := 54) (by decide +kernel) rfl⟩
def M_H_unify : MM := (⟨"HoleFiller", "unify", "(II)I"⟩, prog_1_method_6_code, 6, (Option.some FieldType.int), [])
theorem me_H_unify : m_me M_H_unify 2 := ⟨m_mem (i := 594) (by decide +kernel) rfl, by decide +kernel, by decide +kernel, by decide +kernel, m_mem (i := 50) (by decide +kernel) rfl⟩
def M_H_startBoth : MM := (⟨"HoleFiller", "startBoth", "(II)V"⟩, prog_1_method_18_code, 5, none, [])
theorem me_H_startBoth : m_me M_H_startBoth 2 := ⟨m_mem (i := 598) (by decide +kernel) rfl, by decide +kernel, by decide +kernel, by decide +kernel, m_mem (i := 50) (by decide +kernel) rfl⟩
def M_S_isWhole : MM := (⟨"HoleFiller$Slot", "isWhole", "()Z"⟩, prog_7_method_4_code, 1, (Option.some FieldType.boolean), [])
theorem me_S_isWhole : m_me M_S_isWhole 0 := ⟨m_mem (i := 602) (by decide +kernel) rfl, by decide +kernel, by decide +kernel, by decide +kernel, m_mem (i := 54) (by decide +kernel) rfl⟩
def M_U_startAt : MM := (⟨"HoleFiller$Cursor", "startAt", "(II)V"⟩, prog_3_method_2_code, 3, none, [])
theorem me_U_startAt : m_me M_U_startAt 2 := ⟨m_mem (i := 609) (by decide +kernel) rfl, by decide +kernel, by decide +kernel, by decide +kernel, m_mem (i := 55) (by decide +kernel) rfl⟩
def M_N_solve : MM := (⟨"HoleFiller$Unifier", "solve", "()I"⟩, prog_8_method_2_code, 3, (Option.some FieldType.int), [])
theorem me_N_solve : m_me M_N_solve 0 := ⟨m_mem (i := 614) (by decide +kernel) rfl, by decide +kernel, by decide +kernel, by decide +kernel, m_mem (i := 56) (by decide +kernel) rfl⟩
def M_U_advance : MM := (⟨"HoleFiller$Cursor", "advance", "()Z"⟩, prog_3_method_4_code, 6, (Option.some FieldType.boolean), [])
theorem me_U_advance : m_me M_U_advance 0 := ⟨m_mem (i := 619) (by decide +kernel) rfl, by decide +kernel, by decide +kernel, by decide +kernel, m_mem (i := 55) (by decide +kernel) rfl⟩
def M_U_leaveEnded : MM := (⟨"HoleFiller$Cursor", "leaveEnded", "()V"⟩, prog_3_method_5_code, 1, none, [])
theorem me_U_leaveEnded : m_me M_U_leaveEnded 0 := ⟨m_mem (i := 624) (by decide +kernel) rfl, by decide +kernel, by decide +kernel, by decide +kernel, m_mem (i := 55) (by decide +kernel) rfl⟩
def M_C_boundAt : MM := (⟨"HoleFiller$Cells", "boundAt", "(I)I"⟩, prog_2_method_3_code, 2, (Option.some FieldType.int), [])
theorem me_C_boundAt : m_me M_C_boundAt 1 := ⟨m_mem (i := 629) (by decide +kernel) rfl, by decide +kernel, by decide +kernel, by decide +kernel, m_mem (i := 51) (by decide +kernel) rfl⟩
def M_H_sortOf : MM := (⟨"HoleFiller", "sortOf", "(I)I"⟩, prog_1_method_23_code, 1, (Option.some FieldType.int), [])
theorem me_H_sortOf : m_me M_H_sortOf 1 := ⟨m_mem (i := 633) (by decide +kernel) rfl, by decide +kernel, by decide +kernel, by decide +kernel, m_mem (i := 50) (by decide +kernel) rfl⟩
def M_U_outside : MM := (⟨"HoleFiller$Cursor", "outside", "(II)I"⟩, prog_3_method_7_code, 4, (Option.some FieldType.int), [])
theorem me_U_outside : m_me M_U_outside 2 := ⟨m_mem (i := 639) (by decide +kernel) rfl, by decide +kernel, by decide +kernel, by decide +kernel, m_mem (i := 55) (by decide +kernel) rfl⟩
def M_U_enterFilling : MM := (⟨"HoleFiller$Cursor", "enterFilling", "()Z"⟩, prog_3_method_6_code, 2, (Option.some FieldType.boolean), [])
theorem me_U_enterFilling : m_me M_U_enterFilling 0 := ⟨m_mem (i := 644) (by decide +kernel) rfl, by decide +kernel, by decide +kernel, by decide +kernel, m_mem (i := 55) (by decide +kernel) rfl⟩
def M_N_narrowToSame : MM := (⟨"HoleFiller$Unifier", "narrowToSame", "()I"⟩, prog_8_method_3_code, 3, (Option.some FieldType.int), [])
theorem me_N_narrowToSame : m_me M_N_narrowToSame 0 := ⟨m_mem (i := 648) (by decide +kernel) rfl, by decide +kernel, by decide +kernel, by decide +kernel, m_mem (i := 56) (by decide +kernel) rfl⟩
def M_G_makeNew : MM := (⟨"HoleFiller$Holes", "makeNew", "(I)I"⟩, prog_4_method_3_code, 3, (Option.some FieldType.int), [])
theorem me_G_makeNew : m_me M_G_makeNew 1 := ⟨m_mem (i := 654) (by decide +kernel) rfl, by decide +kernel, by decide +kernel, by decide +kernel, m_mem (i := 53) (by decide +kernel) rfl⟩
def M_G_fillWithHole : MM := (⟨"HoleFiller$Holes", "fillWithHole", "(II[I)Z"⟩, prog_4_method_6_code, 7, (Option.some FieldType.boolean), [])
theorem me_G_fillWithHole : m_me M_G_fillWithHole 3 := ⟨m_mem (i := 658) (by decide +kernel) rfl, by decide +kernel, by decide +kernel, by decide +kernel, m_mem (i := 53) (by decide +kernel) rfl⟩
def M_C_append : MM := (⟨"HoleFiller$Cells", "append", "(II)V"⟩, prog_2_method_5_code, 3, none, [])
theorem me_C_append : m_me M_C_append 2 := ⟨m_mem (i := 663) (by decide +kernel) rfl, by decide +kernel, by decide +kernel, by decide +kernel, m_mem (i := 51) (by decide +kernel) rfl⟩
def M_Ar_copyOf : MM := (⟨"java/util/Arrays", "copyOf", "([II)[I"⟩, prog_21_method_123_code, 3, (Option.some (FieldType.array FieldType.int)), [])
theorem me_Ar_copyOf : m_me M_Ar_copyOf 2 := ⟨m_mem (i := 667) (by decide +kernel) rfl, by decide +kernel, by decide +kernel, by decide +kernel, m_mem (i := 65) (by decide +kernel) rfl⟩
def M_Ma_min : MM := (⟨"java/lang/Math", "min", "(II)I"⟩, prog_16_method_69_code, 2, (Option.some FieldType.int), [])
def M_G_fillFrom : MM := (⟨"HoleFiller$Holes", "fillFrom", "(II)V"⟩, prog_4_method_7_code, 3, none, [])
theorem me_G_fillFrom : m_me M_G_fillFrom 2 := ⟨m_mem (i := 685) (by decide +kernel) rfl, by decide +kernel, by decide +kernel, by decide +kernel, m_mem (i := 53) (by decide +kernel) rfl⟩
def M_N_joinHoles : MM := (⟨"HoleFiller$Unifier", "joinHoles", "()I"⟩, prog_8_method_4_code, 4, (Option.some FieldType.int), [])
theorem me_N_joinHoles : m_me M_N_joinHoles 0 := ⟨m_mem (i := 689) (by decide +kernel) rfl, by decide +kernel, by decide +kernel, by decide +kernel, m_mem (i := 56) (by decide +kernel) rfl⟩
def M_U_parameterFor : MM := (⟨"HoleFiller$Cursor", "parameterFor", "(I)I"⟩, prog_3_method_8_code, 3, (Option.some FieldType.int), [])
theorem me_U_parameterFor : m_me M_U_parameterFor 1 := ⟨m_mem (i := 693) (by decide +kernel) rfl, by decide +kernel, by decide +kernel, by decide +kernel, m_mem (i := 55) (by decide +kernel) rfl⟩
def M_N_fillWithTerm : MM := (⟨"HoleFiller$Unifier", "fillWithTerm", "(LHoleFiller$Cursor;LHoleFiller$Cursor;)I"⟩, prog_8_method_5_code, 5, (Option.some FieldType.int), [])
theorem me_N_fillWithTerm : m_me M_N_fillWithTerm 2 := ⟨m_mem (i := 697) (by decide +kernel) rfl, by decide +kernel, by decide +kernel, by decide +kernel, m_mem (i := 56) (by decide +kernel) rfl⟩
def M_U_copyFrom : MM := (⟨"HoleFiller$Cursor", "copyFrom", "(LHoleFiller$Cursor;)V"⟩, prog_3_method_3_code, 3, none, [])
theorem me_U_copyFrom : m_me M_U_copyFrom 1 := ⟨m_mem (i := 701) (by decide +kernel) rfl, by decide +kernel, by decide +kernel, by decide +kernel, m_mem (i := 55) (by decide +kernel) rfl⟩
def M_N_admitTerm : MM := (⟨"HoleFiller$Unifier", "admitTerm", "(LHoleFiller$Cursor;)I"⟩, prog_8_method_6_code, 5, (Option.some FieldType.int), [])
theorem me_N_admitTerm : m_me M_N_admitTerm 1 := ⟨m_mem (i := 705) (by decide +kernel) rfl, by decide +kernel, by decide +kernel, by decide +kernel, m_mem (i := 56) (by decide +kernel) rfl⟩
def M_N_isForeign : MM := (⟨"HoleFiller$Unifier", "isForeign", "(LHoleFiller$Cursor;I)Z"⟩, prog_8_method_8_code, 4, (Option.some FieldType.boolean), [])
theorem me_N_isForeign : m_me M_N_isForeign 2 := ⟨m_mem (i := 709) (by decide +kernel) rfl, by decide +kernel, by decide +kernel, by decide +kernel, m_mem (i := 56) (by decide +kernel) rfl⟩
def M_N_dropForeign : MM := (⟨"HoleFiller$Unifier", "dropForeign", "(LHoleFiller$Cursor;)I"⟩, prog_8_method_9_code, 4, (Option.some FieldType.int), [])
theorem me_N_dropForeign : m_me M_N_dropForeign 1 := ⟨m_mem (i := 713) (by decide +kernel) rfl, by decide +kernel, by decide +kernel, by decide +kernel, m_mem (i := 56) (by decide +kernel) rfl⟩
def M_N_dueAfter : MM := (⟨"HoleFiller$Unifier", "dueAfter", "(LHoleFiller$Cursor;I)I"⟩, prog_8_method_7_code, 4, (Option.some FieldType.int), [])
theorem me_N_dueAfter : m_me M_N_dueAfter 2 := ⟨m_mem (i := 717) (by decide +kernel) rfl, by decide +kernel, by decide +kernel, by decide +kernel, m_mem (i := 56) (by decide +kernel) rfl⟩
def M_N_copyTerm : MM := (⟨"HoleFiller$Unifier", "copyTerm", "(LHoleFiller$Cursor;LHoleFiller$Cursor;)V"⟩, prog_8_method_10_code, 5, none, [])
theorem me_N_copyTerm : m_me M_N_copyTerm 2 := ⟨m_mem (i := 722) (by decide +kernel) rfl, by decide +kernel, by decide +kernel, by decide +kernel, m_mem (i := 56) (by decide +kernel) rfl⟩
def M_N_copyHere : MM := (⟨"HoleFiller$Unifier", "copyHere", "(LHoleFiller$Cursor;LHoleFiller$Cursor;)V"⟩, prog_8_method_11_code, 7, none, [])
theorem me_N_copyHere : m_me M_N_copyHere 2 := ⟨m_mem (i := 726) (by decide +kernel) rfl, by decide +kernel, by decide +kernel, by decide +kernel, m_mem (i := 56) (by decide +kernel) rfl⟩
def M_N_inside : MM := (⟨"HoleFiller$Unifier", "inside", "(LHoleFiller$Cursor;II)I"⟩, prog_8_method_12_code, 4, (Option.some FieldType.int), [])
theorem me_N_inside : m_me M_N_inside 3 := ⟨m_mem (i := 730) (by decide +kernel) rfl, by decide +kernel, by decide +kernel, by decide +kernel, m_mem (i := 56) (by decide +kernel) rfl⟩
def M_G_measureAll : MM := (⟨"HoleFiller$Holes", "measureAll", "()I"⟩, prog_4_method_9_code, 5, (Option.some FieldType.int), [])
theorem me_G_measureAll : m_me M_G_measureAll 0 := ⟨m_mem (i := 737) (by decide +kernel) rfl, by decide +kernel, by decide +kernel, by decide +kernel, m_mem (i := 53) (by decide +kernel) rfl⟩
def M_Ar_fill : MM := (⟨"java/util/Arrays", "fill", "([II)V"⟩, prog_21_method_103_code, 4, none, [])
theorem me_Ar_fill : m_me M_Ar_fill 2 := ⟨m_mem (i := 740) (by decide +kernel) rfl, by decide +kernel, by decide +kernel, by decide +kernel, m_mem (i := 65) (by decide +kernel) rfl⟩
def M_G_sumFrom : MM := (⟨"HoleFiller$Holes", "sumFrom", "(II)I"⟩, prog_4_method_10_code, 7, (Option.some FieldType.int), [])
theorem me_G_sumFrom : m_me M_G_sumFrom 2 := ⟨m_mem (i := 744) (by decide +kernel) rfl, by decide +kernel, by decide +kernel, by decide +kernel, m_mem (i := 53) (by decide +kernel) rfl⟩
def M_U_standsAs : MM := (⟨"HoleFiller$Cursor", "standsAs", "(LHoleFiller$Cursor;)Z"⟩, prog_3_method_9_code, 3, (Option.some FieldType.boolean), [])
theorem me_U_standsAs : m_me M_U_standsAs 1 := ⟨m_mem (i := 752) (by decide +kernel) rfl, by decide +kernel, by decide +kernel, by decide +kernel, m_mem (i := 55) (by decide +kernel) rfl⟩
def M_H_read : MM := (⟨"HoleFiller", "read", "(I)I"⟩, prog_1_method_7_code, 2, (Option.some FieldType.int), [])
theorem me_H_read : m_me M_H_read 1 := ⟨m_mem (i := 759) (by decide +kernel) rfl, by decide +kernel, by decide +kernel, by decide +kernel, m_mem (i := 50) (by decide +kernel) rfl⟩
def M_R_takeAll : MM := (⟨"HoleFiller$Reader", "takeAll", "(LHoleFiller$Cursor;)V"⟩, prog_6_method_2_code, 3, none, [])
theorem me_R_takeAll : m_me M_R_takeAll 1 := ⟨m_mem (i := 763) (by decide +kernel) rfl, by decide +kernel, by decide +kernel, by decide +kernel, m_mem (i := 57) (by decide +kernel) rfl⟩
def M_R_takeHole : MM := (⟨"HoleFiller$Reader", "takeHole", "(LHoleFiller$Cursor;)V"⟩, prog_6_method_3_code, 6, none, [])
theorem me_R_takeHole : m_me M_R_takeHole 1 := ⟨m_mem (i := 770) (by decide +kernel) rfl, by decide +kernel, by decide +kernel, by decide +kernel, m_mem (i := 57) (by decide +kernel) rfl⟩
def M_R_risingOrder : MM := (⟨"HoleFiller$Reader", "risingOrder", "(LHoleFiller$Cursor;)I"⟩, prog_6_method_4_code, 5, (Option.some FieldType.int), [])
theorem me_R_risingOrder : m_me M_R_risingOrder 1 := ⟨m_mem (i := 775) (by decide +kernel) rfl, by decide +kernel, by decide +kernel, by decide +kernel, m_mem (i := 57) (by decide +kernel) rfl⟩
def M_R_append : MM := (⟨"HoleFiller$Reader", "append", "(I)V"⟩, prog_6_method_5_code, 2, none, [])
theorem me_R_append : m_me M_R_append 1 := ⟨m_mem (i := 780) (by decide +kernel) rfl, by decide +kernel, by decide +kernel, by decide +kernel, m_mem (i := 57) (by decide +kernel) rfl⟩
def M_H_item : MM := (⟨"HoleFiller", "item", "(I)I"⟩, prog_1_method_8_code, 2, (Option.some FieldType.int), [])
theorem me_H_item : m_me M_H_item 1 := ⟨m_mem (i := 789) (by decide +kernel) rfl, by decide +kernel, by decide +kernel, by decide +kernel, m_mem (i := 50) (by decide +kernel) rfl⟩
def M_H_isSame : MM := (⟨"HoleFiller", "isSame", "(II)Z"⟩, prog_1_method_9_code, 5, (Option.some FieldType.boolean), [])
theorem me_H_isSame : m_me M_H_isSame 2 := ⟨m_mem (i := 813) (by decide +kernel) rfl, by decide +kernel, by decide +kernel, by decide +kernel, m_mem (i := 50) (by decide +kernel) rfl⟩
def M_H_size : MM := (⟨"HoleFiller", "size", "(I)I"⟩, prog_1_method_10_code, 2, (Option.some FieldType.int), [])
theorem me_H_size : m_me M_H_size 1 := ⟨m_mem (i := 823) (by decide +kernel) rfl, by decide +kernel, by decide +kernel, by decide +kernel, m_mem (i := 50) (by decide +kernel) rfl⟩
def M_H_refuseUntold : MM := (⟨"HoleFiller", "refuseUntold", "(I)V"⟩, prog_1_method_19_code, 2, none, [])
theorem me_H_refuseUntold : m_me M_H_refuseUntold 1 := ⟨m_mem (i := 827) (by decide +kernel) rfl, by decide +kernel, by decide +kernel, by decide +kernel, m_mem (i := 50) (by decide +kernel) rfl⟩
def M_H_uses : MM := (⟨"HoleFiller", "uses", "(I)I"⟩, prog_1_method_11_code, 4, (Option.some FieldType.int), [])
theorem me_H_uses : m_me M_H_uses 1 := ⟨m_mem (i := 836) (by decide +kernel) rfl, by decide +kernel, by decide +kernel, by decide +kernel, m_mem (i := 50) (by decide +kernel) rfl⟩
def M_U_freeBits : MM := (⟨"HoleFiller$Cursor", "freeBits", "()I"⟩, prog_3_method_10_code, 3, (Option.some FieldType.int), [])
theorem me_U_freeBits : m_me M_U_freeBits 0 := ⟨m_mem (i := 840) (by decide +kernel) rfl, by decide +kernel, by decide +kernel, by decide +kernel, m_mem (i := 55) (by decide +kernel) rfl⟩
def M_U_bitOf : MM := (⟨"HoleFiller$Cursor", "bitOf", "(I)I"⟩, prog_3_method_11_code, 2, (Option.some FieldType.int), [])
theorem me_U_bitOf : m_me M_U_bitOf 1 := ⟨m_mem (i := 844) (by decide +kernel) rfl, by decide +kernel, by decide +kernel, by decide +kernel, m_mem (i := 55) (by decide +kernel) rfl⟩
def M_D_init : MM := (⟨"HoleFillerModel", "<init>", "()V"⟩, prog_10_method_1_code, 1, none, [])
theorem me_D_init : m_me M_D_init 0 := ⟨m_mem (i := 849) (by decide +kernel) rfl, by decide +kernel, by decide +kernel, by decide +kernel, m_mem (i := 58) (by decide +kernel) rfl⟩
def M_D_thrown : MM := (⟨"HoleFillerModel", "thrown", "()I"⟩, prog_10_method_2_code, 1, (Option.some FieldType.int), [])
theorem me_D_thrown : m_me M_D_thrown 0 := ⟨m_mem (i := 978) (by decide +kernel) rfl, by decide +kernel, by decide +kernel, by decide +kernel, m_mem (i := 58) (by decide +kernel) rfl⟩
def M_D_operation : MM := (⟨"HoleFillerModel", "operation", "(III)I"⟩, prog_10_method_4_code, 5, (Option.some FieldType.int), [])
theorem me_D_operation : m_me M_D_operation 3 := ⟨m_mem (i := 982) (by decide +kernel) rfl, by decide +kernel, by decide +kernel, by decide +kernel, m_mem (i := 58) (by decide +kernel) rfl⟩
def M_D_fails : MM := (⟨"HoleFillerModel", "fails", "(ZZ)Z"⟩, prog_10_method_3_code, 3, (Option.some FieldType.boolean), [])
theorem me_D_fails : m_me M_D_fails 2 := ⟨m_mem (i := 986) (by decide +kernel) rfl, by decide +kernel, by decide +kernel, by decide +kernel, m_mem (i := 58) (by decide +kernel) rfl⟩
def M_D_hole : MM := (⟨"HoleFillerModel", "hole", "(I)I"⟩, prog_10_method_5_code, 2, (Option.some FieldType.int), [])
theorem me_D_hole : m_me M_D_hole 1 := ⟨m_mem (i := 990) (by decide +kernel) rfl, by decide +kernel, by decide +kernel, by decide +kernel, m_mem (i := 58) (by decide +kernel) rfl⟩
def M_D_begin : MM := (⟨"HoleFillerModel", "begin", "(II)I"⟩, prog_10_method_7_code, 3, (Option.some FieldType.int), [])
theorem me_D_begin : m_me M_D_begin 2 := ⟨m_mem (i := 994) (by decide +kernel) rfl, by decide +kernel, by decide +kernel, by decide +kernel, m_mem (i := 58) (by decide +kernel) rfl⟩
def M_D_isSlot : MM := (⟨"HoleFillerModel", "isSlot", "(I)Z"⟩, prog_10_method_6_code, 1, (Option.some FieldType.boolean), [])
theorem me_D_isSlot : m_me M_D_isSlot 1 := ⟨m_mem (i := 997) (by decide +kernel) rfl, by decide +kernel, by decide +kernel, by decide +kernel, m_mem (i := 58) (by decide +kernel) rfl⟩
def M_D_put : MM := (⟨"HoleFillerModel", "put", "(III)I"⟩, prog_10_method_11_code, 9, (Option.some FieldType.int), [])
theorem me_D_put : m_me M_D_put 3 := ⟨m_mem (i := 1001) (by decide +kernel) rfl, by decide +kernel, by decide +kernel, by decide +kernel, m_mem (i := 58) (by decide +kernel) rfl⟩
def M_D_fits : MM := (⟨"HoleFillerModel", "fits", "(III)Z"⟩, prog_10_method_9_code, 7, (Option.some FieldType.boolean), [])
theorem me_D_fits : m_me M_D_fits 3 := ⟨m_mem (i := 1005) (by decide +kernel) rfl, by decide +kernel, by decide +kernel, by decide +kernel, m_mem (i := 58) (by decide +kernel) rfl⟩
def M_D_isTooWide : MM := (⟨"HoleFillerModel", "isTooWide", "(III)Z"⟩, prog_10_method_10_code, 6, (Option.some FieldType.boolean), [])
theorem me_D_isTooWide : m_me M_D_isTooWide 3 := ⟨m_mem (i := 1009) (by decide +kernel) rfl, by decide +kernel, by decide +kernel, by decide +kernel, m_mem (i := 58) (by decide +kernel) rfl⟩
def M_D_wait : MM := (⟨"HoleFillerModel", "wait", "(III)V"⟩, prog_10_method_8_code, 4, none, [])
theorem me_D_wait : m_me M_D_wait 3 := ⟨m_mem (i := 1013) (by decide +kernel) rfl, by decide +kernel, by decide +kernel, by decide +kernel, m_mem (i := 58) (by decide +kernel) rfl⟩
def M_D_unify : MM := (⟨"HoleFillerModel", "unify", "(II)I"⟩, prog_10_method_33_code, 6, (Option.some FieldType.int), [])
theorem me_D_unify : m_me M_D_unify 2 := ⟨m_mem (i := 1017) (by decide +kernel) rfl, by decide +kernel, by decide +kernel, by decide +kernel, m_mem (i := 58) (by decide +kernel) rfl⟩
def M_D_refuses : MM := (⟨"HoleFillerModel", "refuses", "(II)Z"⟩, prog_10_method_32_code, 4, (Option.some FieldType.boolean), [])
theorem me_D_refuses : m_me M_D_refuses 2 := ⟨m_mem (i := 1021) (by decide +kernel) rfl, by decide +kernel, by decide +kernel, by decide +kernel, m_mem (i := 58) (by decide +kernel) rfl⟩
def M_D_isWhole : MM := (⟨"HoleFillerModel", "isWhole", "(I)Z"⟩, prog_10_method_31_code, 2, (Option.some FieldType.boolean), [])
theorem me_D_isWhole : m_me M_D_isWhole 1 := ⟨m_mem (i := 1025) (by decide +kernel) rfl, by decide +kernel, by decide +kernel, by decide +kernel, m_mem (i := 58) (by decide +kernel) rfl⟩
def M_D_slot : MM := (⟨"HoleFillerModel", "slot", "([II)I"⟩, prog_10_method_18_code, 4, (Option.some FieldType.int), [])
theorem me_D_slot : m_me M_D_slot 2 := ⟨m_mem (i := 1029) (by decide +kernel) rfl, by decide +kernel, by decide +kernel, by decide +kernel, m_mem (i := 58) (by decide +kernel) rfl⟩
def M_D_write : MM := (⟨"HoleFillerModel", "write", "([II)I"⟩, prog_10_method_17_code, 6, (Option.some FieldType.int), [])
theorem me_D_write : m_me M_D_write 2 := ⟨m_mem (i := 1033) (by decide +kernel) rfl, by decide +kernel, by decide +kernel, by decide +kernel, m_mem (i := 58) (by decide +kernel) rfl⟩
def M_D_again : MM := (⟨"HoleFillerModel", "again", "([II)I"⟩, prog_10_method_16_code, 10, (Option.some FieldType.int), [])
theorem me_D_again : m_me M_D_again 2 := ⟨m_mem (i := 1037) (by decide +kernel) rfl, by decide +kernel, by decide +kernel, by decide +kernel, m_mem (i := 58) (by decide +kernel) rfl⟩
def M_D_sort : MM := (⟨"HoleFillerModel", "sort", "(I)I"⟩, prog_10_method_12_code, 1, (Option.some FieldType.int), [])
theorem me_D_sort : m_me M_D_sort 1 := ⟨m_mem (i := 1040) (by decide +kernel) rfl, by decide +kernel, by decide +kernel, by decide +kernel, m_mem (i := 58) (by decide +kernel) rfl⟩
def M_D_measure : MM := (⟨"HoleFillerModel", "measure", "([III)V"⟩, prog_10_method_13_code, 10, none, [])
theorem me_D_measure : m_me M_D_measure 3 := ⟨m_mem (i := 1044) (by decide +kernel) rfl, by decide +kernel, by decide +kernel, by decide +kernel, m_mem (i := 58) (by decide +kernel) rfl⟩
def M_D_equation : MM := (⟨"HoleFillerModel", "equation", "([III[III)V"⟩, prog_10_method_23_code, 9, none, [])
theorem me_D_equation : m_me M_D_equation 6 := ⟨m_mem (i := 1048) (by decide +kernel) rfl, by decide +kernel, by decide +kernel, by decide +kernel, m_mem (i := 58) (by decide +kernel) rfl⟩
def M_D_step : MM := (⟨"HoleFillerModel", "step", "()I"⟩, prog_10_method_24_code, 4, (Option.some FieldType.int), [])
theorem me_D_step : m_me M_D_step 0 := ⟨m_mem (i := 1052) (by decide +kernel) rfl, by decide +kernel, by decide +kernel, by decide +kernel, m_mem (i := 58) (by decide +kernel) rfl⟩
def M_D_same : MM := (⟨"HoleFillerModel", "same", "()I"⟩, prog_10_method_26_code, 4, (Option.some FieldType.int), [])
theorem me_D_same : m_me M_D_same 0 := ⟨m_mem (i := 1056) (by decide +kernel) rfl, by decide +kernel, by decide +kernel, by decide +kernel, m_mem (i := 58) (by decide +kernel) rfl⟩
def M_D_isFull : MM := (⟨"HoleFillerModel", "isFull", "()Z"⟩, prog_10_method_19_code, 1, (Option.some FieldType.boolean), [])
theorem me_D_isFull : m_me M_D_isFull 0 := ⟨m_mem (i := 1060) (by decide +kernel) rfl, by decide +kernel, by decide +kernel, by decide +kernel, m_mem (i := 58) (by decide +kernel) rfl⟩
def M_D_make : MM := (⟨"HoleFillerModel", "make", "(I)I"⟩, prog_10_method_20_code, 3, (Option.some FieldType.int), [])
theorem me_D_make : m_me M_D_make 1 := ⟨m_mem (i := 1064) (by decide +kernel) rfl, by decide +kernel, by decide +kernel, by decide +kernel, m_mem (i := 58) (by decide +kernel) rfl⟩
def M_D_pass : MM := (⟨"HoleFillerModel", "pass", "(II[II)V"⟩, prog_10_method_21_code, 6, none, [])
theorem me_D_pass : m_me M_D_pass 4 := ⟨m_mem (i := 1068) (by decide +kernel) rfl, by decide +kernel, by decide +kernel, by decide +kernel, m_mem (i := 58) (by decide +kernel) rfl⟩
def M_D_both : MM := (⟨"HoleFillerModel", "both", "()I"⟩, prog_10_method_28_code, 6, (Option.some FieldType.int), [])
theorem me_D_both : m_me M_D_both 0 := ⟨m_mem (i := 1072) (by decide +kernel) rfl, by decide +kernel, by decide +kernel, by decide +kernel, m_mem (i := 58) (by decide +kernel) rfl⟩
def M_D_find : MM := (⟨"HoleFillerModel", "find", "([IIII)I"⟩, prog_10_method_27_code, 5, (Option.some FieldType.int), [])
theorem me_D_find : m_me M_D_find 4 := ⟨m_mem (i := 1075) (by decide +kernel) rfl, by decide +kernel, by decide +kernel, by decide +kernel, m_mem (i := 58) (by decide +kernel) rfl⟩
def M_D_fill : MM := (⟨"HoleFillerModel", "fill", "([I[II)I"⟩, prog_10_method_30_code, 11, (Option.some FieldType.int), [])
theorem me_D_fill : m_me M_D_fill 3 := ⟨m_mem (i := 1079) (by decide +kernel) rfl, by decide +kernel, by decide +kernel, by decide +kernel, m_mem (i := 58) (by decide +kernel) rfl⟩
def M_D_hindrance : MM := (⟨"HoleFillerModel", "hindrance", "([I[II)I"⟩, prog_10_method_29_code, 9, (Option.some FieldType.int), [])
theorem me_D_hindrance : m_me M_D_hindrance 3 := ⟨m_mem (i := 1083) (by decide +kernel) rfl, by decide +kernel, by decide +kernel, by decide +kernel, m_mem (i := 58) (by decide +kernel) rfl⟩
def M_D_sizeOf : MM := (⟨"HoleFillerModel", "sizeOf", "([II[I)I"⟩, prog_10_method_15_code, 5, (Option.some FieldType.int), [])
theorem me_D_sizeOf : m_me M_D_sizeOf 3 := ⟨m_mem (i := 1086) (by decide +kernel) rfl, by decide +kernel, by decide +kernel, by decide +kernel, m_mem (i := 58) (by decide +kernel) rfl⟩
def M_D_fullSize : MM := (⟨"HoleFillerModel", "fullSize", "(I)I"⟩, prog_10_method_22_code, 3, (Option.some FieldType.int), [])
theorem me_D_fullSize : m_me M_D_fullSize 1 := ⟨m_mem (i := 1090) (by decide +kernel) rfl, by decide +kernel, by decide +kernel, by decide +kernel, m_mem (i := 58) (by decide +kernel) rfl⟩
def M_D_parts : MM := (⟨"HoleFillerModel", "parts", "(I)I"⟩, prog_10_method_25_code, 7, (Option.some FieldType.int), [])
theorem me_D_parts : m_me M_D_parts 1 := ⟨m_mem (i := 1094) (by decide +kernel) rfl, by decide +kernel, by decide +kernel, by decide +kernel, m_mem (i := 58) (by decide +kernel) rfl⟩
def M_D_partEnd : MM := (⟨"HoleFillerModel", "partEnd", "([II)I"⟩, prog_10_method_14_code, 6, (Option.some FieldType.int), [])
theorem me_D_partEnd : m_me M_D_partEnd 2 := ⟨m_mem (i := 1098) (by decide +kernel) rfl, by decide +kernel, by decide +kernel, by decide +kernel, m_mem (i := 58) (by decide +kernel) rfl⟩
def M_D_read : MM := (⟨"HoleFillerModel", "read", "(I)I"⟩, prog_10_method_35_code, 5, (Option.some FieldType.int), [])
theorem me_D_read : m_me M_D_read 1 := ⟨m_mem (i := 1102) (by decide +kernel) rfl, by decide +kernel, by decide +kernel, by decide +kernel, m_mem (i := 58) (by decide +kernel) rfl⟩
def M_D_rank : MM := (⟨"HoleFillerModel", "rank", "(I[II)V"⟩, prog_10_method_34_code, 7, none, [])
theorem me_D_rank : m_me M_D_rank 3 := ⟨m_mem (i := 1106) (by decide +kernel) rfl, by decide +kernel, by decide +kernel, by decide +kernel, m_mem (i := 58) (by decide +kernel) rfl⟩
def M_D_item : MM := (⟨"HoleFillerModel", "item", "(I)I"⟩, prog_10_method_36_code, 2, (Option.some FieldType.int), [])
theorem me_D_item : m_me M_D_item 1 := ⟨m_mem (i := 1110) (by decide +kernel) rfl, by decide +kernel, by decide +kernel, by decide +kernel, m_mem (i := 58) (by decide +kernel) rfl⟩
def M_D_isSame : MM := (⟨"HoleFillerModel", "isSame", "(II)Z"⟩, prog_10_method_37_code, 5, (Option.some FieldType.boolean), [])
theorem me_D_isSame : m_me M_D_isSame 2 := ⟨m_mem (i := 1114) (by decide +kernel) rfl, by decide +kernel, by decide +kernel, by decide +kernel, m_mem (i := 58) (by decide +kernel) rfl⟩
def M_D_size : MM := (⟨"HoleFillerModel", "size", "(I)I"⟩, prog_10_method_38_code, 2, (Option.some FieldType.int), [])
theorem me_D_size : m_me M_D_size 1 := ⟨m_mem (i := 1118) (by decide +kernel) rfl, by decide +kernel, by decide +kernel, by decide +kernel, m_mem (i := 58) (by decide +kernel) rfl⟩
def M_D_uses : MM := (⟨"HoleFillerModel", "uses", "(I)I"⟩, prog_10_method_39_code, 5, (Option.some FieldType.int), [])
theorem me_D_uses : m_me M_D_uses 1 := ⟨m_mem (i := 1122) (by decide +kernel) rfl, by decide +kernel, by decide +kernel, by decide +kernel, m_mem (i := 58) (by decide +kernel) rfl⟩
def M_D_empty : MM := (⟨"HoleFillerModel", "empty", "()I"⟩, prog_10_method_40_code, 3, (Option.some FieldType.int), [])
theorem me_D_empty : m_me M_D_empty 0 := ⟨m_mem (i := 1126) (by decide +kernel) rfl, by decide +kernel, by decide +kernel, by decide +kernel, m_mem (i := 58) (by decide +kernel) rfl⟩
def M_D_count : MM := (⟨"HoleFillerModel", "count", "(I)I"⟩, prog_10_method_41_code, 4, (Option.some FieldType.int), [])
theorem me_D_count : m_me M_D_count 1 := ⟨m_mem (i := 1130) (by decide +kernel) rfl, by decide +kernel, by decide +kernel, by decide +kernel, m_mem (i := 58) (by decide +kernel) rfl⟩
def M_L_operation : MM := (⟨"HoleFillerLaw", "operation", "(LHoleFiller;III[J)I"⟩, method_3_code, 6, (Option.some FieldType.int), [((0), (12), (15), (13))])
theorem me_L_operation : m_me M_L_operation 5 := ⟨m_mem (i := 361) (by decide +kernel) rfl, by decide +kernel, by decide +kernel, by decide +kernel, m_mem (i := 49) (by decide +kernel) rfl⟩
def M_L_hole : MM := (⟨"HoleFillerLaw", "hole", "(LHoleFiller;I[J)I"⟩, method_4_code, 4, (Option.some FieldType.int), [((0), (9), (12), (13))])
theorem me_L_hole : m_me M_L_hole 3 := ⟨m_mem (i := 455) (by decide +kernel) rfl, by decide +kernel, by decide +kernel, by decide +kernel, m_mem (i := 49) (by decide +kernel) rfl⟩
def M_L_begin : MM := (⟨"HoleFillerLaw", "begin", "(LHoleFiller;II[J)I"⟩, method_5_code, 5, (Option.some FieldType.int), [((0), (10), (13), (13))])
theorem me_L_begin : m_me M_L_begin 4 := ⟨m_mem (i := 467) (by decide +kernel) rfl, by decide +kernel, by decide +kernel, by decide +kernel, m_mem (i := 49) (by decide +kernel) rfl⟩
def M_L_put : MM := (⟨"HoleFillerLaw", "put", "(LHoleFiller;III[J)I"⟩, method_6_code, 6, (Option.some FieldType.int), [((0), (12), (15), (26)), ((0), (12), (19), (13))])
theorem me_L_put : m_me M_L_put 5 := ⟨m_mem (i := 489) (by decide +kernel) rfl, by decide +kernel, by decide +kernel, by decide +kernel, m_mem (i := 49) (by decide +kernel) rfl⟩
def M_L_unify : MM := (⟨"HoleFillerLaw", "unify", "(LHoleFiller;II[J)I"⟩, method_7_code, 5, (Option.some FieldType.int), [((0), (10), (13), (13)), ((0), (10), (17), (26))])
theorem me_L_unify : m_me M_L_unify 4 := ⟨m_mem (i := 590) (by decide +kernel) rfl, by decide +kernel, by decide +kernel, by decide +kernel, m_mem (i := 49) (by decide +kernel) rfl⟩
def M_L_read : MM := (⟨"HoleFillerLaw", "read", "(LHoleFiller;I[J)I"⟩, method_8_code, 4, (Option.some FieldType.int), [((0), (9), (12), (13)), ((0), (9), (15), (26))])
theorem me_L_read : m_me M_L_read 3 := ⟨m_mem (i := 755) (by decide +kernel) rfl, by decide +kernel, by decide +kernel, by decide +kernel, m_mem (i := 49) (by decide +kernel) rfl⟩
def M_L_item : MM := (⟨"HoleFillerLaw", "item", "(LHoleFiller;I[J)I"⟩, method_9_code, 4, (Option.some FieldType.int), [((0), (9), (12), (37))])
theorem me_L_item : m_me M_L_item 3 := ⟨m_mem (i := 784) (by decide +kernel) rfl, by decide +kernel, by decide +kernel, by decide +kernel, m_mem (i := 49) (by decide +kernel) rfl⟩
def M_L_isSame : MM := (⟨"HoleFillerLaw", "isSame", "(LHoleFiller;II[J)I"⟩, method_10_code, 5, (Option.some FieldType.int), [((0), (17), (20), (13)), ((0), (17), (24), (26))])
theorem me_L_isSame : m_me M_L_isSame 4 := ⟨m_mem (i := 809) (by decide +kernel) rfl, by decide +kernel, by decide +kernel, by decide +kernel, m_mem (i := 49) (by decide +kernel) rfl⟩
def M_L_size : MM := (⟨"HoleFillerLaw", "size", "(LHoleFiller;I[J)I"⟩, method_11_code, 4, (Option.some FieldType.int), [((0), (9), (12), (13))])
theorem me_L_size : m_me M_L_size 3 := ⟨m_mem (i := 819) (by decide +kernel) rfl, by decide +kernel, by decide +kernel, by decide +kernel, m_mem (i := 49) (by decide +kernel) rfl⟩
def M_L_uses : MM := (⟨"HoleFillerLaw", "uses", "(LHoleFiller;I[J)I"⟩, method_12_code, 4, (Option.some FieldType.int), [((0), (9), (12), (13))])
theorem me_L_uses : m_me M_L_uses 3 := ⟨m_mem (i := 832) (by decide +kernel) rfl, by decide +kernel, by decide +kernel, by decide +kernel, m_mem (i := 49) (by decide +kernel) rfl⟩
theorem f_H_15 : m_fl "HoleFiller" 15 0 0 := ⟨_, _, _, rfl, by decide, u_H, Or.inl (m_mem (i := 309) (by decide +kernel) rfl)⟩
theorem p_H_15 : m_fp "HoleFiller" 15 0 0 (.object "HoleFiller$Operations") true := ⟨_, _, _, tyH, rfl, by decide, u_H, Or.inl (m_mem (i := 309) (by decide +kernel) rfl), tyH_ok, nmH, rfl, by decide +kernel, by decide +kernel⟩
theorem f_H_24 : m_fl "HoleFiller" 24 0 1 := ⟨_, _, _, rfl, by decide, u_H, Or.inl (m_mem (i := 310) (by decide +kernel) rfl)⟩
theorem p_H_24 : m_fp "HoleFiller" 24 0 1 (.object "HoleFiller$Holes") true := ⟨_, _, _, tyH, rfl, by decide, u_H, Or.inl (m_mem (i := 310) (by decide +kernel) rfl), tyH_ok, nmH, rfl, by decide +kernel, by decide +kernel⟩
theorem f_H_30 : m_fl "HoleFiller" 30 0 2 := ⟨_, _, _, rfl, by decide, u_H, Or.inl (m_mem (i := 311) (by decide +kernel) rfl)⟩
theorem p_H_30 : m_fp "HoleFiller" 30 0 2 (.array (.object "HoleFiller$Slot")) true := ⟨_, _, _, tyH, rfl, by decide, u_H, Or.inl (m_mem (i := 311) (by decide +kernel) rfl), tyH_ok, nmH, rfl, by decide +kernel, by decide +kernel⟩
theorem f_H_42 : m_fl "HoleFiller" 42 0 3 := ⟨_, _, _, rfl, by decide, u_H, Or.inl (m_mem (i := 312) (by decide +kernel) rfl)⟩
theorem p_H_42 : m_fp "HoleFiller" 42 0 3 (.object "HoleFiller$Cursor") true := ⟨_, _, _, tyH, rfl, by decide, u_H, Or.inl (m_mem (i := 312) (by decide +kernel) rfl), tyH_ok, nmH, rfl, by decide +kernel, by decide +kernel⟩
theorem f_H_46 : m_fl "HoleFiller" 46 0 4 := ⟨_, _, _, rfl, by decide, u_H, Or.inl (m_mem (i := 313) (by decide +kernel) rfl)⟩
theorem p_H_46 : m_fp "HoleFiller" 46 0 4 (.object "HoleFiller$Cursor") true := ⟨_, _, _, tyH, rfl, by decide, u_H, Or.inl (m_mem (i := 313) (by decide +kernel) rfl), tyH_ok, nmH, rfl, by decide +kernel, by decide +kernel⟩
theorem f_H_54 : m_fl "HoleFiller" 54 0 5 := ⟨_, _, _, rfl, by decide, u_H, Or.inl (m_mem (i := 314) (by decide +kernel) rfl)⟩
theorem p_H_54 : m_fp "HoleFiller" 54 0 5 (.object "HoleFiller$Unifier") true := ⟨_, _, _, tyH, rfl, by decide, u_H, Or.inl (m_mem (i := 314) (by decide +kernel) rfl), tyH_ok, nmH, rfl, by decide +kernel, by decide +kernel⟩
theorem f_H_61 : m_fl "HoleFiller" 61 0 6 := ⟨_, _, _, rfl, by decide, u_H, Or.inl (m_mem (i := 315) (by decide +kernel) rfl)⟩
theorem p_H_61 : m_fp "HoleFiller" 61 0 6 (.object "HoleFiller$Reader") true := ⟨_, _, _, tyH, rfl, by decide, u_H, Or.inl (m_mem (i := 315) (by decide +kernel) rfl), tyH_ok, nmH, rfl, by decide +kernel, by decide +kernel⟩
theorem f_H_132 : m_fl "HoleFiller" 132 3 8 := ⟨_, _, _, rfl, by decide, u_G, Or.inr ⟨"HoleFiller", by decide +kernel⟩⟩
theorem f_H_136 : m_fl "HoleFiller" 136 3 7 := ⟨_, _, _, rfl, by decide, u_G, Or.inr ⟨"HoleFiller", by decide +kernel⟩⟩
theorem f_H_142 : m_fl "HoleFiller" 142 0 7 := ⟨_, _, _, rfl, by decide, u_H, Or.inl (m_mem (i := 316) (by decide +kernel) rfl)⟩
theorem p_H_142 : m_fp "HoleFiller" 142 0 7 (.int) false := ⟨_, _, _, tyH, rfl, by decide, u_H, Or.inl (m_mem (i := 316) (by decide +kernel) rfl), tyH_ok, nmH, rfl, by decide +kernel, by decide +kernel⟩
theorem f_H_148 : m_fl "HoleFiller" 148 0 8 := ⟨_, _, _, rfl, by decide, u_H, Or.inl (m_mem (i := 317) (by decide +kernel) rfl)⟩
theorem p_H_148 : m_fp "HoleFiller" 148 0 8 (.int) false := ⟨_, _, _, tyH, rfl, by decide, u_H, Or.inl (m_mem (i := 317) (by decide +kernel) rfl), tyH_ok, nmH, rfl, by decide +kernel, by decide +kernel⟩
theorem f_H_155 : m_fl "HoleFiller" 155 5 1 := ⟨_, _, _, rfl, by decide, u_R, Or.inr ⟨"HoleFiller", by decide +kernel⟩⟩
theorem f_H_163 : m_fl "HoleFiller" 163 5 0 := ⟨_, _, _, rfl, by decide, u_R, Or.inr ⟨"HoleFiller", by decide +kernel⟩⟩
theorem f_H_186 : m_fl "HoleFiller" 186 3 4 := ⟨_, _, _, rfl, by decide, u_G, Or.inr ⟨"HoleFiller", by decide +kernel⟩⟩
theorem f_H_192 : m_fl "HoleFiller" 192 3 2 := ⟨_, _, _, rfl, by decide, u_G, Or.inr ⟨"HoleFiller", by decide +kernel⟩⟩
theorem f_H_195 : m_fl "HoleFiller" 195 3 3 := ⟨_, _, _, rfl, by decide, u_G, Or.inr ⟨"HoleFiller", by decide +kernel⟩⟩
theorem f_H_204 : m_fl "HoleFiller" 204 3 6 := ⟨_, _, _, rfl, by decide, u_G, Or.inr ⟨"HoleFiller", by decide +kernel⟩⟩
theorem f_H_207 : m_fl "HoleFiller" 207 4 2 := ⟨_, _, _, rfl, by decide, u_O, Or.inr ⟨"HoleFiller", by decide +kernel⟩⟩
theorem f_H_208 : m_fl "HoleFiller" 208 5 2 := ⟨_, _, _, rfl, by decide, u_R, Or.inr ⟨"HoleFiller", by decide +kernel⟩⟩
theorem f_H_219 : m_fl "HoleFiller" 219 6 6 := ⟨_, _, _, rfl, by decide, u_S, Or.inr ⟨"HoleFiller", by decide +kernel⟩⟩
theorem f_H_233 : m_fl "HoleFiller" 233 6 4 := ⟨_, _, _, rfl, by decide, u_S, Or.inr ⟨"HoleFiller", by decide +kernel⟩⟩
theorem f_H_238 : m_fl "HoleFiller" 238 6 1 := ⟨_, _, _, rfl, by decide, u_S, Or.inr ⟨"HoleFiller", by decide +kernel⟩⟩
theorem f_H_240 : m_fl "HoleFiller" 240 6 5 := ⟨_, _, _, rfl, by decide, u_S, Or.inr ⟨"HoleFiller", by decide +kernel⟩⟩
theorem f_C_9 : m_fl "HoleFiller$Cells" 9 1 0 := ⟨_, _, _, rfl, by decide, u_C, Or.inl (m_mem (i := 82) (by decide +kernel) rfl)⟩
theorem p_C_9 : m_fp "HoleFiller$Cells" 9 1 0 (.array .int) false := ⟨_, _, _, tyC, rfl, by decide, u_C, Or.inl (m_mem (i := 82) (by decide +kernel) rfl), tyC_ok, nmC, rfl, by decide +kernel, by decide +kernel⟩
theorem f_C_15 : m_fl "HoleFiller$Cells" 15 1 1 := ⟨_, _, _, rfl, by decide, u_C, Or.inl (m_mem (i := 83) (by decide +kernel) rfl)⟩
theorem p_C_15 : m_fp "HoleFiller$Cells" 15 1 1 (.array .int) false := ⟨_, _, _, tyC, rfl, by decide, u_C, Or.inl (m_mem (i := 83) (by decide +kernel) rfl), tyC_ok, nmC, rfl, by decide +kernel, by decide +kernel⟩
theorem f_C_18 : m_fl "HoleFiller$Cells" 18 1 2 := ⟨_, _, _, rfl, by decide, u_C, Or.inl (m_mem (i := 84) (by decide +kernel) rfl)⟩
theorem p_C_18 : m_fp "HoleFiller$Cells" 18 1 2 (.int) false := ⟨_, _, _, tyC, rfl, by decide, u_C, Or.inl (m_mem (i := 84) (by decide +kernel) rfl), tyC_ok, nmC, rfl, by decide +kernel, by decide +kernel⟩
theorem f_U_9 : m_fl "HoleFiller$Cursor" 9 2 2 := ⟨_, _, _, rfl, by decide, u_U, Or.inl (m_mem (i := 204) (by decide +kernel) rfl)⟩
theorem p_U_9 : m_fp "HoleFiller$Cursor" 9 2 2 (.array .int) true := ⟨_, _, _, tyU, rfl, by decide, u_U, Or.inl (m_mem (i := 204) (by decide +kernel) rfl), tyU_ok, nmU, rfl, by decide +kernel, by decide +kernel⟩
theorem f_U_15 : m_fl "HoleFiller$Cursor" 15 2 3 := ⟨_, _, _, rfl, by decide, u_U, Or.inl (m_mem (i := 205) (by decide +kernel) rfl)⟩
theorem p_U_15 : m_fp "HoleFiller$Cursor" 15 2 3 (.array .int) true := ⟨_, _, _, tyU, rfl, by decide, u_U, Or.inl (m_mem (i := 205) (by decide +kernel) rfl), tyU_ok, nmU, rfl, by decide +kernel, by decide +kernel⟩
theorem f_U_18 : m_fl "HoleFiller$Cursor" 18 2 4 := ⟨_, _, _, rfl, by decide, u_U, Or.inl (m_mem (i := 206) (by decide +kernel) rfl)⟩
theorem p_U_18 : m_fp "HoleFiller$Cursor" 18 2 4 (.array .int) true := ⟨_, _, _, tyU, rfl, by decide, u_U, Or.inl (m_mem (i := 206) (by decide +kernel) rfl), tyU_ok, nmU, rfl, by decide +kernel, by decide +kernel⟩
theorem f_U_21 : m_fl "HoleFiller$Cursor" 21 2 5 := ⟨_, _, _, rfl, by decide, u_U, Or.inl (m_mem (i := 207) (by decide +kernel) rfl)⟩
theorem p_U_21 : m_fp "HoleFiller$Cursor" 21 2 5 (.array .int) true := ⟨_, _, _, tyU, rfl, by decide, u_U, Or.inl (m_mem (i := 207) (by decide +kernel) rfl), tyU_ok, nmU, rfl, by decide +kernel, by decide +kernel⟩
theorem f_U_24 : m_fl "HoleFiller$Cursor" 24 2 10 := ⟨_, _, _, rfl, by decide, u_U, Or.inl (m_mem (i := 217) (by decide +kernel) rfl)⟩
theorem p_U_24 : m_fp "HoleFiller$Cursor" 24 2 10 (.array .int) true := ⟨_, _, _, tyU, rfl, by decide, u_U, Or.inl (m_mem (i := 217) (by decide +kernel) rfl), tyU_ok, nmU, rfl, by decide +kernel, by decide +kernel⟩
theorem f_U_27 : m_fl "HoleFiller$Cursor" 27 2 0 := ⟨_, _, _, rfl, by decide, u_U, Or.inl (m_mem (i := 202) (by decide +kernel) rfl)⟩
theorem p_U_27 : m_fp "HoleFiller$Cursor" 27 2 0 (.object "HoleFiller$Cells") true := ⟨_, _, _, tyU, rfl, by decide, u_U, Or.inl (m_mem (i := 202) (by decide +kernel) rfl), tyU_ok, nmU, rfl, by decide +kernel, by decide +kernel⟩
theorem f_U_31 : m_fl "HoleFiller$Cursor" 31 2 1 := ⟨_, _, _, rfl, by decide, u_U, Or.inl (m_mem (i := 203) (by decide +kernel) rfl)⟩
theorem p_U_31 : m_fp "HoleFiller$Cursor" 31 2 1 (.object "HoleFiller$Holes") true := ⟨_, _, _, tyU, rfl, by decide, u_U, Or.inl (m_mem (i := 203) (by decide +kernel) rfl), tyU_ok, nmU, rfl, by decide +kernel, by decide +kernel⟩
theorem f_U_35 : m_fl "HoleFiller$Cursor" 35 2 6 := ⟨_, _, _, rfl, by decide, u_U, Or.inl (m_mem (i := 208) (by decide +kernel) rfl)⟩
theorem p_U_35 : m_fp "HoleFiller$Cursor" 35 2 6 (.int) false := ⟨_, _, _, tyU, rfl, by decide, u_U, Or.inl (m_mem (i := 208) (by decide +kernel) rfl), tyU_ok, nmU, rfl, by decide +kernel, by decide +kernel⟩
theorem f_U_47 : m_fl "HoleFiller$Cursor" 47 2 7 := ⟨_, _, _, rfl, by decide, u_U, Or.inl (m_mem (i := 211) (by decide +kernel) rfl)⟩
theorem p_U_47 : m_fp "HoleFiller$Cursor" 47 2 7 (.int) false := ⟨_, _, _, tyU, rfl, by decide, u_U, Or.inl (m_mem (i := 211) (by decide +kernel) rfl), tyU_ok, nmU, rfl, by decide +kernel, by decide +kernel⟩
theorem f_U_50 : m_fl "HoleFiller$Cursor" 50 2 8 := ⟨_, _, _, rfl, by decide, u_U, Or.inl (m_mem (i := 214) (by decide +kernel) rfl)⟩
theorem p_U_50 : m_fp "HoleFiller$Cursor" 50 2 8 (.int) false := ⟨_, _, _, tyU, rfl, by decide, u_U, Or.inl (m_mem (i := 214) (by decide +kernel) rfl), tyU_ok, nmU, rfl, by decide +kernel, by decide +kernel⟩
theorem f_U_53 : m_fl "HoleFiller$Cursor" 53 2 9 := ⟨_, _, _, rfl, by decide, u_U, Or.inl (m_mem (i := 215) (by decide +kernel) rfl)⟩
theorem p_U_53 : m_fp "HoleFiller$Cursor" 53 2 9 (.int) false := ⟨_, _, _, tyU, rfl, by decide, u_U, Or.inl (m_mem (i := 215) (by decide +kernel) rfl), tyU_ok, nmU, rfl, by decide +kernel, by decide +kernel⟩
theorem f_U_56 : m_fl "HoleFiller$Cursor" 56 2 11 := ⟨_, _, _, rfl, by decide, u_U, Or.inl (m_mem (i := 222) (by decide +kernel) rfl)⟩
theorem p_U_56 : m_fp "HoleFiller$Cursor" 56 2 11 (.int) false := ⟨_, _, _, tyU, rfl, by decide, u_U, Or.inl (m_mem (i := 222) (by decide +kernel) rfl), tyU_ok, nmU, rfl, by decide +kernel, by decide +kernel⟩
theorem f_U_95 : m_fl "HoleFiller$Cursor" 95 3 2 := ⟨_, _, _, rfl, by decide, u_G, Or.inr ⟨"HoleFiller", by decide +kernel⟩⟩
theorem f_U_98 : m_fl "HoleFiller$Cursor" 98 3 3 := ⟨_, _, _, rfl, by decide, u_G, Or.inr ⟨"HoleFiller", by decide +kernel⟩⟩
theorem f_G_9 : m_fl "HoleFiller$Holes" 9 3 1 := ⟨_, _, _, rfl, by decide, u_G, Or.inl (m_mem (i := 119) (by decide +kernel) rfl)⟩
theorem p_G_9 : m_fp "HoleFiller$Holes" 9 3 1 (.array .int) true := ⟨_, _, _, tyG, rfl, by decide, u_G, Or.inl (m_mem (i := 119) (by decide +kernel) rfl), tyG_ok, nmG, rfl, by decide +kernel, by decide +kernel⟩
theorem f_G_15 : m_fl "HoleFiller$Holes" 15 3 2 := ⟨_, _, _, rfl, by decide, u_G, Or.inl (m_mem (i := 120) (by decide +kernel) rfl)⟩
theorem p_G_15 : m_fp "HoleFiller$Holes" 15 3 2 (.array .int) true := ⟨_, _, _, tyG, rfl, by decide, u_G, Or.inl (m_mem (i := 120) (by decide +kernel) rfl), tyG_ok, nmG, rfl, by decide +kernel, by decide +kernel⟩
theorem f_G_18 : m_fl "HoleFiller$Holes" 18 3 3 := ⟨_, _, _, rfl, by decide, u_G, Or.inl (m_mem (i := 123) (by decide +kernel) rfl)⟩
theorem p_G_18 : m_fp "HoleFiller$Holes" 18 3 3 (.array .int) true := ⟨_, _, _, tyG, rfl, by decide, u_G, Or.inl (m_mem (i := 123) (by decide +kernel) rfl), tyG_ok, nmG, rfl, by decide +kernel, by decide +kernel⟩
theorem f_G_21 : m_fl "HoleFiller$Holes" 21 3 4 := ⟨_, _, _, rfl, by decide, u_G, Or.inl (m_mem (i := 126) (by decide +kernel) rfl)⟩
theorem p_G_21 : m_fp "HoleFiller$Holes" 21 3 4 (.array .int) true := ⟨_, _, _, tyG, rfl, by decide, u_G, Or.inl (m_mem (i := 126) (by decide +kernel) rfl), tyG_ok, nmG, rfl, by decide +kernel, by decide +kernel⟩
theorem f_G_24 : m_fl "HoleFiller$Holes" 24 3 5 := ⟨_, _, _, rfl, by decide, u_G, Or.inl (m_mem (i := 128) (by decide +kernel) rfl)⟩
theorem p_G_24 : m_fp "HoleFiller$Holes" 24 3 5 (.array .int) true := ⟨_, _, _, tyG, rfl, by decide, u_G, Or.inl (m_mem (i := 128) (by decide +kernel) rfl), tyG_ok, nmG, rfl, by decide +kernel, by decide +kernel⟩
theorem f_G_27 : m_fl "HoleFiller$Holes" 27 3 0 := ⟨_, _, _, rfl, by decide, u_G, Or.inl (m_mem (i := 118) (by decide +kernel) rfl)⟩
theorem p_G_27 : m_fp "HoleFiller$Holes" 27 3 0 (.object "HoleFiller$Cells") true := ⟨_, _, _, tyG, rfl, by decide, u_G, Or.inl (m_mem (i := 118) (by decide +kernel) rfl), tyG_ok, nmG, rfl, by decide +kernel, by decide +kernel⟩
theorem f_G_31 : m_fl "HoleFiller$Holes" 31 3 6 := ⟨_, _, _, rfl, by decide, u_G, Or.inl (m_mem (i := 129) (by decide +kernel) rfl)⟩
theorem p_G_31 : m_fp "HoleFiller$Holes" 31 3 6 (.int) false := ⟨_, _, _, tyG, rfl, by decide, u_G, Or.inl (m_mem (i := 129) (by decide +kernel) rfl), tyG_ok, nmG, rfl, by decide +kernel, by decide +kernel⟩
theorem f_G_39 : m_fl "HoleFiller$Holes" 39 3 7 := ⟨_, _, _, rfl, by decide, u_G, Or.inl (m_mem (i := 131) (by decide +kernel) rfl)⟩
theorem p_G_39 : m_fp "HoleFiller$Holes" 39 3 7 (.int) false := ⟨_, _, _, tyG, rfl, by decide, u_G, Or.inl (m_mem (i := 131) (by decide +kernel) rfl), tyG_ok, nmG, rfl, by decide +kernel, by decide +kernel⟩
theorem f_G_46 : m_fl "HoleFiller$Holes" 46 1 2 := ⟨_, _, _, rfl, by decide, u_C, Or.inr ⟨"HoleFiller", by decide +kernel⟩⟩
theorem p_G_46 : m_fp "HoleFiller$Holes" 46 1 2 (.int) false := ⟨_, _, _, tyC, rfl, by decide, u_C, Or.inr ⟨rfl, "HoleFiller", by decide +kernel⟩, tyC_ok, nmC, rfl, by decide +kernel, by decide +kernel⟩
theorem f_G_66 : m_fl "HoleFiller$Holes" 66 3 8 := ⟨_, _, _, rfl, by decide, u_G, Or.inl (m_mem (i := 134) (by decide +kernel) rfl)⟩
theorem p_G_66 : m_fp "HoleFiller$Holes" 66 3 8 (.int) false := ⟨_, _, _, tyG, rfl, by decide, u_G, Or.inl (m_mem (i := 134) (by decide +kernel) rfl), tyG_ok, nmG, rfl, by decide +kernel, by decide +kernel⟩
theorem f_O_9 : m_fl "HoleFiller$Operations" 9 4 0 := ⟨_, _, _, rfl, by decide, u_O, Or.inl (m_mem (i := 101) (by decide +kernel) rfl)⟩
theorem p_O_9 : m_fp "HoleFiller$Operations" 9 4 0 (.array .int) true := ⟨_, _, _, tyO, rfl, by decide, u_O, Or.inl (m_mem (i := 101) (by decide +kernel) rfl), tyO_ok, nmO, rfl, by decide +kernel, by decide +kernel⟩
theorem f_O_15 : m_fl "HoleFiller$Operations" 15 4 1 := ⟨_, _, _, rfl, by decide, u_O, Or.inl (m_mem (i := 102) (by decide +kernel) rfl)⟩
theorem p_O_15 : m_fp "HoleFiller$Operations" 15 4 1 (.array .int) true := ⟨_, _, _, tyO, rfl, by decide, u_O, Or.inl (m_mem (i := 102) (by decide +kernel) rfl), tyO_ok, nmO, rfl, by decide +kernel, by decide +kernel⟩
theorem f_O_18 : m_fl "HoleFiller$Operations" 18 4 2 := ⟨_, _, _, rfl, by decide, u_O, Or.inl (m_mem (i := 103) (by decide +kernel) rfl)⟩
theorem p_O_18 : m_fp "HoleFiller$Operations" 18 4 2 (.int) false := ⟨_, _, _, tyO, rfl, by decide, u_O, Or.inl (m_mem (i := 103) (by decide +kernel) rfl), tyO_ok, nmO, rfl, by decide +kernel, by decide +kernel⟩
theorem f_R_9 : m_fl "HoleFiller$Reader" 9 5 0 := ⟨_, _, _, rfl, by decide, u_R, Or.inl (m_mem (i := 290) (by decide +kernel) rfl)⟩
theorem p_R_9 : m_fp "HoleFiller$Reader" 9 5 0 (.array .int) false := ⟨_, _, _, tyR, rfl, by decide, u_R, Or.inl (m_mem (i := 290) (by decide +kernel) rfl), tyR_ok, nmR, rfl, by decide +kernel, by decide +kernel⟩
theorem f_R_15 : m_fl "HoleFiller$Reader" 15 5 3 := ⟨_, _, _, rfl, by decide, u_R, Or.inl (m_mem (i := 296) (by decide +kernel) rfl)⟩
theorem p_R_15 : m_fp "HoleFiller$Reader" 15 5 3 (.array .int) true := ⟨_, _, _, tyR, rfl, by decide, u_R, Or.inl (m_mem (i := 296) (by decide +kernel) rfl), tyR_ok, nmR, rfl, by decide +kernel, by decide +kernel⟩
theorem f_R_18 : m_fl "HoleFiller$Reader" 18 5 4 := ⟨_, _, _, rfl, by decide, u_R, Or.inl (m_mem (i := 297) (by decide +kernel) rfl)⟩
theorem p_R_18 : m_fp "HoleFiller$Reader" 18 5 4 (.array .int) true := ⟨_, _, _, tyR, rfl, by decide, u_R, Or.inl (m_mem (i := 297) (by decide +kernel) rfl), tyR_ok, nmR, rfl, by decide +kernel, by decide +kernel⟩
theorem f_R_21 : m_fl "HoleFiller$Reader" 21 5 1 := ⟨_, _, _, rfl, by decide, u_R, Or.inl (m_mem (i := 292) (by decide +kernel) rfl)⟩
theorem p_R_21 : m_fp "HoleFiller$Reader" 21 5 1 (.int) false := ⟨_, _, _, tyR, rfl, by decide, u_R, Or.inl (m_mem (i := 292) (by decide +kernel) rfl), tyR_ok, nmR, rfl, by decide +kernel, by decide +kernel⟩
theorem f_R_25 : m_fl "HoleFiller$Reader" 25 5 2 := ⟨_, _, _, rfl, by decide, u_R, Or.inl (m_mem (i := 294) (by decide +kernel) rfl)⟩
theorem p_R_25 : m_fp "HoleFiller$Reader" 25 5 2 (.int) false := ⟨_, _, _, tyR, rfl, by decide, u_R, Or.inl (m_mem (i := 294) (by decide +kernel) rfl), tyR_ok, nmR, rfl, by decide +kernel, by decide +kernel⟩
theorem f_R_41 : m_fl "HoleFiller$Reader" 41 2 7 := ⟨_, _, _, rfl, by decide, u_U, Or.inr ⟨"HoleFiller", by decide +kernel⟩⟩
theorem f_R_48 : m_fl "HoleFiller$Reader" 48 2 8 := ⟨_, _, _, rfl, by decide, u_U, Or.inr ⟨"HoleFiller", by decide +kernel⟩⟩
theorem f_R_71 : m_fl "HoleFiller$Reader" 71 2 11 := ⟨_, _, _, rfl, by decide, u_U, Or.inr ⟨"HoleFiller", by decide +kernel⟩⟩
theorem f_R_74 : m_fl "HoleFiller$Reader" 74 2 10 := ⟨_, _, _, rfl, by decide, u_U, Or.inr ⟨"HoleFiller", by decide +kernel⟩⟩
theorem f_S_9 : m_fl "HoleFiller$Slot" 9 6 2 := ⟨_, _, _, rfl, by decide, u_S, Or.inl (m_mem (i := 164) (by decide +kernel) rfl)⟩
theorem p_S_9 : m_fp "HoleFiller$Slot" 9 6 2 (.array .int) true := ⟨_, _, _, tyS, rfl, by decide, u_S, Or.inl (m_mem (i := 164) (by decide +kernel) rfl), tyS_ok, nmS, rfl, by decide +kernel, by decide +kernel⟩
theorem f_S_15 : m_fl "HoleFiller$Slot" 15 6 0 := ⟨_, _, _, rfl, by decide, u_S, Or.inl (m_mem (i := 161) (by decide +kernel) rfl)⟩
theorem p_S_15 : m_fp "HoleFiller$Slot" 15 6 0 (.object "HoleFiller$Cells") true := ⟨_, _, _, tyS, rfl, by decide, u_S, Or.inl (m_mem (i := 161) (by decide +kernel) rfl), tyS_ok, nmS, rfl, by decide +kernel, by decide +kernel⟩
theorem f_S_19 : m_fl "HoleFiller$Slot" 19 6 1 := ⟨_, _, _, rfl, by decide, u_S, Or.inl (m_mem (i := 162) (by decide +kernel) rfl)⟩
theorem p_S_19 : m_fp "HoleFiller$Slot" 19 6 1 (.int) true := ⟨_, _, _, tyS, rfl, by decide, u_S, Or.inl (m_mem (i := 162) (by decide +kernel) rfl), tyS_ok, nmS, rfl, by decide +kernel, by decide +kernel⟩
theorem f_S_23 : m_fl "HoleFiller$Slot" 23 6 4 := ⟨_, _, _, rfl, by decide, u_S, Or.inl (m_mem (i := 166) (by decide +kernel) rfl)⟩
theorem p_S_23 : m_fp "HoleFiller$Slot" 23 6 4 (.int) false := ⟨_, _, _, tyS, rfl, by decide, u_S, Or.inl (m_mem (i := 166) (by decide +kernel) rfl), tyS_ok, nmS, rfl, by decide +kernel, by decide +kernel⟩
theorem f_S_26 : m_fl "HoleFiller$Slot" 26 6 5 := ⟨_, _, _, rfl, by decide, u_S, Or.inl (m_mem (i := 168) (by decide +kernel) rfl)⟩
theorem p_S_26 : m_fp "HoleFiller$Slot" 26 6 5 (.int) false := ⟨_, _, _, tyS, rfl, by decide, u_S, Or.inl (m_mem (i := 168) (by decide +kernel) rfl), tyS_ok, nmS, rfl, by decide +kernel, by decide +kernel⟩
theorem f_S_29 : m_fl "HoleFiller$Slot" 29 6 6 := ⟨_, _, _, rfl, by decide, u_S, Or.inl (m_mem (i := 170) (by decide +kernel) rfl)⟩
theorem p_S_29 : m_fp "HoleFiller$Slot" 29 6 6 (.int) false := ⟨_, _, _, tyS, rfl, by decide, u_S, Or.inl (m_mem (i := 170) (by decide +kernel) rfl), tyS_ok, nmS, rfl, by decide +kernel, by decide +kernel⟩
theorem f_S_32 : m_fl "HoleFiller$Slot" 32 6 7 := ⟨_, _, _, rfl, by decide, u_S, Or.inl (m_mem (i := 172) (by decide +kernel) rfl)⟩
theorem p_S_32 : m_fp "HoleFiller$Slot" 32 6 7 (.int) false := ⟨_, _, _, tyS, rfl, by decide, u_S, Or.inl (m_mem (i := 172) (by decide +kernel) rfl), tyS_ok, nmS, rfl, by decide +kernel, by decide +kernel⟩
theorem f_S_39 : m_fl "HoleFiller$Slot" 39 6 3 := ⟨_, _, _, rfl, by decide, u_S, Or.inl (m_mem (i := 165) (by decide +kernel) rfl)⟩
theorem p_S_39 : m_fp "HoleFiller$Slot" 39 6 3 (.int) false := ⟨_, _, _, tyS, rfl, by decide, u_S, Or.inl (m_mem (i := 165) (by decide +kernel) rfl), tyS_ok, nmS, rfl, by decide +kernel, by decide +kernel⟩
theorem f_S_53 : m_fl "HoleFiller$Slot" 53 6 9 := ⟨_, _, _, rfl, by decide, u_S, Or.inl (m_mem (i := 174) (by decide +kernel) rfl)⟩
theorem p_S_53 : m_fp "HoleFiller$Slot" 53 6 9 (.int) false := ⟨_, _, _, tyS, rfl, by decide, u_S, Or.inl (m_mem (i := 174) (by decide +kernel) rfl), tyS_ok, nmS, rfl, by decide +kernel, by decide +kernel⟩
theorem f_S_63 : m_fl "HoleFiller$Slot" 63 6 8 := ⟨_, _, _, rfl, by decide, u_S, Or.inl (m_mem (i := 173) (by decide +kernel) rfl)⟩
theorem p_S_63 : m_fp "HoleFiller$Slot" 63 6 8 (.int) false := ⟨_, _, _, tyS, rfl, by decide, u_S, Or.inl (m_mem (i := 173) (by decide +kernel) rfl), tyS_ok, nmS, rfl, by decide +kernel, by decide +kernel⟩
theorem f_N_9 : m_fl "HoleFiller$Unifier" 9 7 6 := ⟨_, _, _, rfl, by decide, u_N, Or.inl (m_mem (i := 262) (by decide +kernel) rfl)⟩
theorem p_N_9 : m_fp "HoleFiller$Unifier" 9 7 6 (.array .int) true := ⟨_, _, _, tyN, rfl, by decide, u_N, Or.inl (m_mem (i := 262) (by decide +kernel) rfl), tyN_ok, nmN, rfl, by decide +kernel, by decide +kernel⟩
theorem f_N_15 : m_fl "HoleFiller$Unifier" 15 7 7 := ⟨_, _, _, rfl, by decide, u_N, Or.inl (m_mem (i := 263) (by decide +kernel) rfl)⟩
theorem p_N_15 : m_fp "HoleFiller$Unifier" 15 7 7 (.array .int) true := ⟨_, _, _, tyN, rfl, by decide, u_N, Or.inl (m_mem (i := 263) (by decide +kernel) rfl), tyN_ok, nmN, rfl, by decide +kernel, by decide +kernel⟩
theorem f_N_18 : m_fl "HoleFiller$Unifier" 18 7 0 := ⟨_, _, _, rfl, by decide, u_N, Or.inl (m_mem (i := 256) (by decide +kernel) rfl)⟩
theorem p_N_18 : m_fp "HoleFiller$Unifier" 18 7 0 (.object "HoleFiller$Cells") true := ⟨_, _, _, tyN, rfl, by decide, u_N, Or.inl (m_mem (i := 256) (by decide +kernel) rfl), tyN_ok, nmN, rfl, by decide +kernel, by decide +kernel⟩
theorem f_N_22 : m_fl "HoleFiller$Unifier" 22 7 1 := ⟨_, _, _, rfl, by decide, u_N, Or.inl (m_mem (i := 257) (by decide +kernel) rfl)⟩
theorem p_N_22 : m_fp "HoleFiller$Unifier" 22 7 1 (.object "HoleFiller$Holes") true := ⟨_, _, _, tyN, rfl, by decide, u_N, Or.inl (m_mem (i := 257) (by decide +kernel) rfl), tyN_ok, nmN, rfl, by decide +kernel, by decide +kernel⟩
theorem f_N_26 : m_fl "HoleFiller$Unifier" 26 7 2 := ⟨_, _, _, rfl, by decide, u_N, Or.inl (m_mem (i := 258) (by decide +kernel) rfl)⟩
theorem p_N_26 : m_fp "HoleFiller$Unifier" 26 7 2 (.object "HoleFiller$Operations") true := ⟨_, _, _, tyN, rfl, by decide, u_N, Or.inl (m_mem (i := 258) (by decide +kernel) rfl), tyN_ok, nmN, rfl, by decide +kernel, by decide +kernel⟩
theorem f_N_30 : m_fl "HoleFiller$Unifier" 30 7 3 := ⟨_, _, _, rfl, by decide, u_N, Or.inl (m_mem (i := 259) (by decide +kernel) rfl)⟩
theorem p_N_30 : m_fp "HoleFiller$Unifier" 30 7 3 (.object "HoleFiller$Cursor") true := ⟨_, _, _, tyN, rfl, by decide, u_N, Or.inl (m_mem (i := 259) (by decide +kernel) rfl), tyN_ok, nmN, rfl, by decide +kernel, by decide +kernel⟩
theorem f_N_34 : m_fl "HoleFiller$Unifier" 34 7 4 := ⟨_, _, _, rfl, by decide, u_N, Or.inl (m_mem (i := 260) (by decide +kernel) rfl)⟩
theorem p_N_34 : m_fp "HoleFiller$Unifier" 34 7 4 (.object "HoleFiller$Cursor") true := ⟨_, _, _, tyN, rfl, by decide, u_N, Or.inl (m_mem (i := 260) (by decide +kernel) rfl), tyN_ok, nmN, rfl, by decide +kernel, by decide +kernel⟩
theorem f_N_42 : m_fl "HoleFiller$Unifier" 42 7 5 := ⟨_, _, _, rfl, by decide, u_N, Or.inl (m_mem (i := 261) (by decide +kernel) rfl)⟩
theorem p_N_42 : m_fp "HoleFiller$Unifier" 42 7 5 (.object "HoleFiller$Cursor") true := ⟨_, _, _, tyN, rfl, by decide, u_N, Or.inl (m_mem (i := 261) (by decide +kernel) rfl), tyN_ok, nmN, rfl, by decide +kernel, by decide +kernel⟩
theorem f_N_50 : m_fl "HoleFiller$Unifier" 50 2 7 := ⟨_, _, _, rfl, by decide, u_U, Or.inr ⟨"HoleFiller", by decide +kernel⟩⟩
theorem f_N_54 : m_fl "HoleFiller$Unifier" 54 2 8 := ⟨_, _, _, rfl, by decide, u_U, Or.inr ⟨"HoleFiller", by decide +kernel⟩⟩
theorem f_N_72 : m_fl "HoleFiller$Unifier" 72 2 11 := ⟨_, _, _, rfl, by decide, u_U, Or.inr ⟨"HoleFiller", by decide +kernel⟩⟩
theorem f_N_75 : m_fl "HoleFiller$Unifier" 75 2 10 := ⟨_, _, _, rfl, by decide, u_U, Or.inr ⟨"HoleFiller", by decide +kernel⟩⟩
theorem f_N_107 : m_fl "HoleFiller$Unifier" 107 7 8 := ⟨_, _, _, rfl, by decide, u_N, Or.inl (m_mem (i := 264) (by decide +kernel) rfl)⟩
theorem p_N_107 : m_fp "HoleFiller$Unifier" 107 7 8 (.int) false := ⟨_, _, _, tyN, rfl, by decide, u_N, Or.inl (m_mem (i := 264) (by decide +kernel) rfl), tyN_ok, nmN, rfl, by decide +kernel, by decide +kernel⟩
theorem f_N_110 : m_fl "HoleFiller$Unifier" 110 1 2 := ⟨_, _, _, rfl, by decide, u_C, Or.inr ⟨"HoleFiller", by decide +kernel⟩⟩
theorem f_N_142 : m_fl "HoleFiller$Unifier" 142 2 9 := ⟨_, _, _, rfl, by decide, u_U, Or.inr ⟨"HoleFiller", by decide +kernel⟩⟩
theorem f_D_7 : m_fl "HoleFillerModel" 7 8 4 := ⟨_, _, _, rfl, by decide, u_D, Or.inl (m_mem (i := 857) (by decide +kernel) rfl)⟩
theorem p_D_7 : m_fp "HoleFillerModel" 7 8 4 (.array .int) true := ⟨_, _, _, tyD, rfl, by decide, u_D, Or.inl (m_mem (i := 857) (by decide +kernel) rfl), tyD_ok, nmD, rfl, by decide +kernel, by decide +kernel⟩
theorem f_D_13 : m_fl "HoleFillerModel" 13 8 5 := ⟨_, _, _, rfl, by decide, u_D, Or.inl (m_mem (i := 858) (by decide +kernel) rfl)⟩
theorem p_D_13 : m_fp "HoleFillerModel" 13 8 5 (.array .int) true := ⟨_, _, _, tyD, rfl, by decide, u_D, Or.inl (m_mem (i := 858) (by decide +kernel) rfl), tyD_ok, nmD, rfl, by decide +kernel, by decide +kernel⟩
theorem f_D_16 : m_fl "HoleFillerModel" 16 8 6 := ⟨_, _, _, rfl, by decide, u_D, Or.inl (m_mem (i := 859) (by decide +kernel) rfl)⟩
theorem p_D_16 : m_fp "HoleFillerModel" 16 8 6 (.array .int) true := ⟨_, _, _, tyD, rfl, by decide, u_D, Or.inl (m_mem (i := 859) (by decide +kernel) rfl), tyD_ok, nmD, rfl, by decide +kernel, by decide +kernel⟩
theorem f_D_19 : m_fl "HoleFillerModel" 19 8 7 := ⟨_, _, _, rfl, by decide, u_D, Or.inl (m_mem (i := 860) (by decide +kernel) rfl)⟩
theorem p_D_19 : m_fp "HoleFillerModel" 19 8 7 (.array .int) true := ⟨_, _, _, tyD, rfl, by decide, u_D, Or.inl (m_mem (i := 860) (by decide +kernel) rfl), tyD_ok, nmD, rfl, by decide +kernel, by decide +kernel⟩
theorem f_D_23 : m_fl "HoleFillerModel" 23 8 8 := ⟨_, _, _, rfl, by decide, u_D, Or.inl (m_mem (i := 861) (by decide +kernel) rfl)⟩
theorem p_D_23 : m_fp "HoleFillerModel" 23 8 8 (.array .int) true := ⟨_, _, _, tyD, rfl, by decide, u_D, Or.inl (m_mem (i := 861) (by decide +kernel) rfl), tyD_ok, nmD, rfl, by decide +kernel, by decide +kernel⟩
theorem f_D_26 : m_fl "HoleFillerModel" 26 8 9 := ⟨_, _, _, rfl, by decide, u_D, Or.inl (m_mem (i := 862) (by decide +kernel) rfl)⟩
theorem p_D_26 : m_fp "HoleFillerModel" 26 8 9 (.array .boolean) true := ⟨_, _, _, tyD, rfl, by decide, u_D, Or.inl (m_mem (i := 862) (by decide +kernel) rfl), tyD_ok, nmD, rfl, by decide +kernel, by decide +kernel⟩
theorem f_D_30 : m_fl "HoleFillerModel" 30 8 10 := ⟨_, _, _, rfl, by decide, u_D, Or.inl (m_mem (i := 863) (by decide +kernel) rfl)⟩
theorem p_D_30 : m_fp "HoleFillerModel" 30 8 10 (.array .boolean) true := ⟨_, _, _, tyD, rfl, by decide, u_D, Or.inl (m_mem (i := 863) (by decide +kernel) rfl), tyD_ok, nmD, rfl, by decide +kernel, by decide +kernel⟩
theorem f_D_33 : m_fl "HoleFillerModel" 33 8 11 := ⟨_, _, _, rfl, by decide, u_D, Or.inl (m_mem (i := 864) (by decide +kernel) rfl)⟩
theorem p_D_33 : m_fp "HoleFillerModel" 33 8 11 (.array .int) true := ⟨_, _, _, tyD, rfl, by decide, u_D, Or.inl (m_mem (i := 864) (by decide +kernel) rfl), tyD_ok, nmD, rfl, by decide +kernel, by decide +kernel⟩
theorem f_D_36 : m_fl "HoleFillerModel" 36 8 12 := ⟨_, _, _, rfl, by decide, u_D, Or.inl (m_mem (i := 865) (by decide +kernel) rfl)⟩
theorem p_D_36 : m_fp "HoleFillerModel" 36 8 12 (.array .int) true := ⟨_, _, _, tyD, rfl, by decide, u_D, Or.inl (m_mem (i := 865) (by decide +kernel) rfl), tyD_ok, nmD, rfl, by decide +kernel, by decide +kernel⟩
theorem f_D_39 : m_fl "HoleFillerModel" 39 8 13 := ⟨_, _, _, rfl, by decide, u_D, Or.inl (m_mem (i := 866) (by decide +kernel) rfl)⟩
theorem p_D_39 : m_fp "HoleFillerModel" 39 8 13 (.array .int) true := ⟨_, _, _, tyD, rfl, by decide, u_D, Or.inl (m_mem (i := 866) (by decide +kernel) rfl), tyD_ok, nmD, rfl, by decide +kernel, by decide +kernel⟩
theorem f_D_42 : m_fl "HoleFillerModel" 42 8 14 := ⟨_, _, _, rfl, by decide, u_D, Or.inl (m_mem (i := 867) (by decide +kernel) rfl)⟩
theorem p_D_42 : m_fp "HoleFillerModel" 42 8 14 (.array .int) true := ⟨_, _, _, tyD, rfl, by decide, u_D, Or.inl (m_mem (i := 867) (by decide +kernel) rfl), tyD_ok, nmD, rfl, by decide +kernel, by decide +kernel⟩
theorem f_D_45 : m_fl "HoleFillerModel" 45 8 15 := ⟨_, _, _, rfl, by decide, u_D, Or.inl (m_mem (i := 868) (by decide +kernel) rfl)⟩
theorem p_D_45 : m_fp "HoleFillerModel" 45 8 15 (.array .int) true := ⟨_, _, _, tyD, rfl, by decide, u_D, Or.inl (m_mem (i := 868) (by decide +kernel) rfl), tyD_ok, nmD, rfl, by decide +kernel, by decide +kernel⟩
theorem f_D_48 : m_fl "HoleFillerModel" 48 8 16 := ⟨_, _, _, rfl, by decide, u_D, Or.inl (m_mem (i := 869) (by decide +kernel) rfl)⟩
theorem p_D_48 : m_fp "HoleFillerModel" 48 8 16 (.array .int) true := ⟨_, _, _, tyD, rfl, by decide, u_D, Or.inl (m_mem (i := 869) (by decide +kernel) rfl), tyD_ok, nmD, rfl, by decide +kernel, by decide +kernel⟩
theorem f_D_51 : m_fl "HoleFillerModel" 51 8 17 := ⟨_, _, _, rfl, by decide, u_D, Or.inl (m_mem (i := 870) (by decide +kernel) rfl)⟩
theorem p_D_51 : m_fp "HoleFillerModel" 51 8 17 (.array .int) true := ⟨_, _, _, tyD, rfl, by decide, u_D, Or.inl (m_mem (i := 870) (by decide +kernel) rfl), tyD_ok, nmD, rfl, by decide +kernel, by decide +kernel⟩
theorem f_D_54 : m_fl "HoleFillerModel" 54 8 18 := ⟨_, _, _, rfl, by decide, u_D, Or.inl (m_mem (i := 871) (by decide +kernel) rfl)⟩
theorem p_D_54 : m_fp "HoleFillerModel" 54 8 18 (.array .boolean) true := ⟨_, _, _, tyD, rfl, by decide, u_D, Or.inl (m_mem (i := 871) (by decide +kernel) rfl), tyD_ok, nmD, rfl, by decide +kernel, by decide +kernel⟩
theorem f_D_57 : m_fl "HoleFillerModel" 57 8 19 := ⟨_, _, _, rfl, by decide, u_D, Or.inl (m_mem (i := 872) (by decide +kernel) rfl)⟩
theorem p_D_57 : m_fp "HoleFillerModel" 57 8 19 (.array .int) true := ⟨_, _, _, tyD, rfl, by decide, u_D, Or.inl (m_mem (i := 872) (by decide +kernel) rfl), tyD_ok, nmD, rfl, by decide +kernel, by decide +kernel⟩
theorem f_D_60 : m_fl "HoleFillerModel" 60 8 20 := ⟨_, _, _, rfl, by decide, u_D, Or.inl (m_mem (i := 873) (by decide +kernel) rfl)⟩
theorem p_D_60 : m_fp "HoleFillerModel" 60 8 20 (.array .int) true := ⟨_, _, _, tyD, rfl, by decide, u_D, Or.inl (m_mem (i := 873) (by decide +kernel) rfl), tyD_ok, nmD, rfl, by decide +kernel, by decide +kernel⟩
theorem f_D_63 : m_fl "HoleFillerModel" 63 8 21 := ⟨_, _, _, rfl, by decide, u_D, Or.inl (m_mem (i := 874) (by decide +kernel) rfl)⟩
theorem p_D_63 : m_fp "HoleFillerModel" 63 8 21 (.array .int) true := ⟨_, _, _, tyD, rfl, by decide, u_D, Or.inl (m_mem (i := 874) (by decide +kernel) rfl), tyD_ok, nmD, rfl, by decide +kernel, by decide +kernel⟩
theorem f_D_66 : m_fl "HoleFillerModel" 66 8 22 := ⟨_, _, _, rfl, by decide, u_D, Or.inl (m_mem (i := 875) (by decide +kernel) rfl)⟩
theorem p_D_66 : m_fp "HoleFillerModel" 66 8 22 (.array .int) true := ⟨_, _, _, tyD, rfl, by decide, u_D, Or.inl (m_mem (i := 875) (by decide +kernel) rfl), tyD_ok, nmD, rfl, by decide +kernel, by decide +kernel⟩
theorem f_D_69 : m_fl "HoleFillerModel" 69 8 23 := ⟨_, _, _, rfl, by decide, u_D, Or.inl (m_mem (i := 876) (by decide +kernel) rfl)⟩
theorem p_D_69 : m_fp "HoleFillerModel" 69 8 23 (.array .int) true := ⟨_, _, _, tyD, rfl, by decide, u_D, Or.inl (m_mem (i := 876) (by decide +kernel) rfl), tyD_ok, nmD, rfl, by decide +kernel, by decide +kernel⟩
theorem p_D_72 : m_fp "HoleFillerModel" 72 8 24 (.array .int) true := ⟨_, _, _, tyD, rfl, by decide, u_D, Or.inl (m_mem (i := 877) (by decide +kernel) rfl), tyD_ok, nmD, rfl, by decide +kernel, by decide +kernel⟩
theorem f_D_76 : m_fl "HoleFillerModel" 76 8 25 := ⟨_, _, _, rfl, by decide, u_D, Or.inl (m_mem (i := 878) (by decide +kernel) rfl)⟩
theorem p_D_76 : m_fp "HoleFillerModel" 76 8 25 (.array .int) true := ⟨_, _, _, tyD, rfl, by decide, u_D, Or.inl (m_mem (i := 878) (by decide +kernel) rfl), tyD_ok, nmD, rfl, by decide +kernel, by decide +kernel⟩
theorem f_D_79 : m_fl "HoleFillerModel" 79 8 26 := ⟨_, _, _, rfl, by decide, u_D, Or.inl (m_mem (i := 879) (by decide +kernel) rfl)⟩
theorem p_D_79 : m_fp "HoleFillerModel" 79 8 26 (.array .int) true := ⟨_, _, _, tyD, rfl, by decide, u_D, Or.inl (m_mem (i := 879) (by decide +kernel) rfl), tyD_ok, nmD, rfl, by decide +kernel, by decide +kernel⟩
theorem f_D_82 : m_fl "HoleFillerModel" 82 8 27 := ⟨_, _, _, rfl, by decide, u_D, Or.inl (m_mem (i := 880) (by decide +kernel) rfl)⟩
theorem p_D_82 : m_fp "HoleFillerModel" 82 8 27 (.array .int) true := ⟨_, _, _, tyD, rfl, by decide, u_D, Or.inl (m_mem (i := 880) (by decide +kernel) rfl), tyD_ok, nmD, rfl, by decide +kernel, by decide +kernel⟩
theorem f_D_85 : m_fl "HoleFillerModel" 85 8 28 := ⟨_, _, _, rfl, by decide, u_D, Or.inl (m_mem (i := 881) (by decide +kernel) rfl)⟩
theorem p_D_85 : m_fp "HoleFillerModel" 85 8 28 (.array .int) true := ⟨_, _, _, tyD, rfl, by decide, u_D, Or.inl (m_mem (i := 881) (by decide +kernel) rfl), tyD_ok, nmD, rfl, by decide +kernel, by decide +kernel⟩
theorem f_D_88 : m_fl "HoleFillerModel" 88 8 32 := ⟨_, _, _, rfl, by decide, u_D, Or.inl (m_mem (i := 885) (by decide +kernel) rfl)⟩
theorem p_D_88 : m_fp "HoleFillerModel" 88 8 32 (.array .int) true := ⟨_, _, _, tyD, rfl, by decide, u_D, Or.inl (m_mem (i := 885) (by decide +kernel) rfl), tyD_ok, nmD, rfl, by decide +kernel, by decide +kernel⟩
theorem f_D_91 : m_fl "HoleFillerModel" 91 8 33 := ⟨_, _, _, rfl, by decide, u_D, Or.inl (m_mem (i := 886) (by decide +kernel) rfl)⟩
theorem p_D_91 : m_fp "HoleFillerModel" 91 8 33 (.array .int) true := ⟨_, _, _, tyD, rfl, by decide, u_D, Or.inl (m_mem (i := 886) (by decide +kernel) rfl), tyD_ok, nmD, rfl, by decide +kernel, by decide +kernel⟩
theorem f_D_94 : m_fl "HoleFillerModel" 94 8 34 := ⟨_, _, _, rfl, by decide, u_D, Or.inl (m_mem (i := 887) (by decide +kernel) rfl)⟩
theorem p_D_94 : m_fp "HoleFillerModel" 94 8 34 (.array .int) true := ⟨_, _, _, tyD, rfl, by decide, u_D, Or.inl (m_mem (i := 887) (by decide +kernel) rfl), tyD_ok, nmD, rfl, by decide +kernel, by decide +kernel⟩
theorem f_D_97 : m_fl "HoleFillerModel" 97 8 35 := ⟨_, _, _, rfl, by decide, u_D, Or.inl (m_mem (i := 888) (by decide +kernel) rfl)⟩
theorem p_D_97 : m_fp "HoleFillerModel" 97 8 35 (.array .int) true := ⟨_, _, _, tyD, rfl, by decide, u_D, Or.inl (m_mem (i := 888) (by decide +kernel) rfl), tyD_ok, nmD, rfl, by decide +kernel, by decide +kernel⟩
theorem f_D_100 : m_fl "HoleFillerModel" 100 8 0 := ⟨_, _, _, rfl, by decide, u_D, Or.inl (m_mem (i := 853) (by decide +kernel) rfl)⟩
theorem p_D_100 : m_fp "HoleFillerModel" 100 8 0 (.int) false := ⟨_, _, _, tyD, rfl, by decide, u_D, Or.inl (m_mem (i := 853) (by decide +kernel) rfl), tyD_ok, nmD, rfl, by decide +kernel, by decide +kernel⟩
theorem f_D_108 : m_fl "HoleFillerModel" 108 8 1 := ⟨_, _, _, rfl, by decide, u_D, Or.inl (m_mem (i := 854) (by decide +kernel) rfl)⟩
theorem p_D_108 : m_fp "HoleFillerModel" 108 8 1 (.int) false := ⟨_, _, _, tyD, rfl, by decide, u_D, Or.inl (m_mem (i := 854) (by decide +kernel) rfl), tyD_ok, nmD, rfl, by decide +kernel, by decide +kernel⟩
theorem f_D_111 : m_fl "HoleFillerModel" 111 8 2 := ⟨_, _, _, rfl, by decide, u_D, Or.inl (m_mem (i := 855) (by decide +kernel) rfl)⟩
theorem p_D_111 : m_fp "HoleFillerModel" 111 8 2 (.int) false := ⟨_, _, _, tyD, rfl, by decide, u_D, Or.inl (m_mem (i := 855) (by decide +kernel) rfl), tyD_ok, nmD, rfl, by decide +kernel, by decide +kernel⟩
theorem f_D_144 : m_fl "HoleFillerModel" 144 8 3 := ⟨_, _, _, rfl, by decide, u_D, Or.inl (m_mem (i := 856) (by decide +kernel) rfl)⟩
theorem p_D_144 : m_fp "HoleFillerModel" 144 8 3 (.int) false := ⟨_, _, _, tyD, rfl, by decide, u_D, Or.inl (m_mem (i := 856) (by decide +kernel) rfl), tyD_ok, nmD, rfl, by decide +kernel, by decide +kernel⟩
theorem f_D_151 : m_fl "HoleFillerModel" 151 8 31 := ⟨_, _, _, rfl, by decide, u_D, Or.inl (m_mem (i := 884) (by decide +kernel) rfl)⟩
theorem p_D_151 : m_fp "HoleFillerModel" 151 8 31 (.int) false := ⟨_, _, _, tyD, rfl, by decide, u_D, Or.inl (m_mem (i := 884) (by decide +kernel) rfl), tyD_ok, nmD, rfl, by decide +kernel, by decide +kernel⟩
theorem f_D_154 : m_fl "HoleFillerModel" 154 8 29 := ⟨_, _, _, rfl, by decide, u_D, Or.inl (m_mem (i := 882) (by decide +kernel) rfl)⟩
theorem p_D_154 : m_fp "HoleFillerModel" 154 8 29 (.int) false := ⟨_, _, _, tyD, rfl, by decide, u_D, Or.inl (m_mem (i := 882) (by decide +kernel) rfl), tyD_ok, nmD, rfl, by decide +kernel, by decide +kernel⟩
theorem f_D_157 : m_fl "HoleFillerModel" 157 8 30 := ⟨_, _, _, rfl, by decide, u_D, Or.inl (m_mem (i := 883) (by decide +kernel) rfl)⟩
theorem p_D_157 : m_fp "HoleFillerModel" 157 8 30 (.int) false := ⟨_, _, _, tyD, rfl, by decide, u_D, Or.inl (m_mem (i := 883) (by decide +kernel) rfl), tyD_ok, nmD, rfl, by decide +kernel, by decide +kernel⟩
theorem f_D_215 : m_fl "HoleFillerModel" 215 8 38 := ⟨_, _, _, rfl, by decide, u_D, Or.inl (m_mem (i := 891) (by decide +kernel) rfl)⟩
theorem p_D_215 : m_fp "HoleFillerModel" 215 8 38 (.int) false := ⟨_, _, _, tyD, rfl, by decide, u_D, Or.inl (m_mem (i := 891) (by decide +kernel) rfl), tyD_ok, nmD, rfl, by decide +kernel, by decide +kernel⟩
theorem f_D_218 : m_fl "HoleFillerModel" 218 8 39 := ⟨_, _, _, rfl, by decide, u_D, Or.inl (m_mem (i := 892) (by decide +kernel) rfl)⟩
theorem p_D_218 : m_fp "HoleFillerModel" 218 8 39 (.int) false := ⟨_, _, _, tyD, rfl, by decide, u_D, Or.inl (m_mem (i := 892) (by decide +kernel) rfl), tyD_ok, nmD, rfl, by decide +kernel, by decide +kernel⟩
theorem f_D_221 : m_fl "HoleFillerModel" 221 8 37 := ⟨_, _, _, rfl, by decide, u_D, Or.inl (m_mem (i := 890) (by decide +kernel) rfl)⟩
theorem p_D_221 : m_fp "HoleFillerModel" 221 8 37 (.int) false := ⟨_, _, _, tyD, rfl, by decide, u_D, Or.inl (m_mem (i := 890) (by decide +kernel) rfl), tyD_ok, nmD, rfl, by decide +kernel, by decide +kernel⟩
theorem f_D_224 : m_fl "HoleFillerModel" 224 8 36 := ⟨_, _, _, rfl, by decide, u_D, Or.inl (m_mem (i := 889) (by decide +kernel) rfl)⟩
theorem p_D_224 : m_fp "HoleFillerModel" 224 8 36 (.int) false := ⟨_, _, _, tyD, rfl, by decide, u_D, Or.inl (m_mem (i := 889) (by decide +kernel) rfl), tyD_ok, nmD, rfl, by decide +kernel, by decide +kernel⟩
theorem lo_H_3 : Cond.methodLink "HoleFiller" 3 Lib.objectInit ∈ m_Ts := m_mem (i := 73) (by decide +kernel) rfl
theorem l_H_11 : m_lI "HoleFiller" 11 M_C_init := ⟨m_mem (i := 79) (by decide +kernel) rfl, rfl, rfl, rfl, Or.inr ⟨"HoleFiller", by decide +kernel⟩⟩
theorem l_H_14 : m_lI "HoleFiller" 14 M_O_init := ⟨m_mem (i := 98) (by decide +kernel) rfl, rfl, rfl, rfl, Or.inr ⟨"HoleFiller", by decide +kernel⟩⟩
theorem l_H_21 : m_lI "HoleFiller" 21 M_G_init := ⟨m_mem (i := 115) (by decide +kernel) rfl, rfl, rfl, rfl, Or.inl (m_mem (i := 114) (by decide +kernel) rfl)⟩
theorem l_H_34 : m_lI "HoleFiller" 34 M_S_init := ⟨m_mem (i := 158) (by decide +kernel) rfl, rfl, rfl, rfl, Or.inl (m_mem (i := 157) (by decide +kernel) rfl)⟩
theorem l_H_39 : m_lI "HoleFiller" 39 M_U_init := ⟨m_mem (i := 199) (by decide +kernel) rfl, rfl, rfl, rfl, Or.inl (m_mem (i := 198) (by decide +kernel) rfl)⟩
theorem l_H_51 : m_lI "HoleFiller" 51 M_N_init := ⟨m_mem (i := 251) (by decide +kernel) rfl, rfl, rfl, rfl, Or.inl (m_mem (i := 250) (by decide +kernel) rfl)⟩
theorem l_H_60 : m_lI "HoleFiller" 60 M_R_init := ⟨m_mem (i := 287) (by decide +kernel) rfl, rfl, rfl, rfl, Or.inr ⟨"HoleFiller", by decide +kernel⟩⟩
theorem l_H_65 : m_lS "HoleFiller" 65 M_H_mayBind := ⟨m_mem (i := 368) (by decide +kernel) rfl, Or.inl (m_mem (i := 367) (by decide +kernel) rfl)⟩
theorem l_H_78 : m_lV "HoleFiller" 78 M_O_tell := ⟨m_mem (i := 440) (by decide +kernel) rfl, m_mem (i := 441) (by decide +kernel) rfl, Or.inl (m_mem (i := 439) (by decide +kernel) rfl)⟩
theorem l_H_84 : m_lV "HoleFiller" 84 M_G_tell := ⟨m_mem (i := 462) (by decide +kernel) rfl, m_mem (i := 463) (by decide +kernel) rfl, Or.inl (m_mem (i := 461) (by decide +kernel) rfl)⟩
theorem l_H_87 : m_lV "HoleFiller" 87 M_H_slotAt := ⟨m_mem (i := 474) (by decide +kernel) rfl, m_mem (i := 2) (by decide +kernel) rfl, Or.inl (m_mem (i := 472) (by decide +kernel) rfl)⟩
theorem l_H_93 : m_lV "HoleFiller" 93 M_S_restart := ⟨m_mem (i := 479) (by decide +kernel) rfl, m_mem (i := 480) (by decide +kernel) rfl, Or.inl (m_mem (i := 478) (by decide +kernel) rfl)⟩
theorem l_H_97 : m_lV "HoleFiller" 97 M_S_itemsDue := ⟨m_mem (i := 484) (by decide +kernel) rfl, m_mem (i := 485) (by decide +kernel) rfl, Or.inl (m_mem (i := 483) (by decide +kernel) rfl)⟩
theorem l_H_106 : m_lV "HoleFiller" 106 M_H_mayStand := ⟨m_mem (i := 513) (by decide +kernel) rfl, m_mem (i := 3) (by decide +kernel) rfl, Or.inl (m_mem (i := 511) (by decide +kernel) rfl)⟩
theorem l_H_112 : m_lV "HoleFiller" 112 M_H_hasRoom := ⟨m_mem (i := 544) (by decide +kernel) rfl, m_mem (i := 5) (by decide +kernel) rfl, Or.inl (m_mem (i := 542) (by decide +kernel) rfl)⟩
theorem l_H_115 : m_lV "HoleFiller" 115 M_S_takeVariable := ⟨m_mem (i := 559) (by decide +kernel) rfl, m_mem (i := 560) (by decide +kernel) rfl, Or.inl (m_mem (i := 558) (by decide +kernel) rfl)⟩
theorem l_H_118 : m_lV "HoleFiller" 118 M_S_takeOperation := ⟨m_mem (i := 575) (by decide +kernel) rfl, m_mem (i := 576) (by decide +kernel) rfl, Or.inl (m_mem (i := 574) (by decide +kernel) rfl)⟩
theorem l_H_122 : m_lV "HoleFiller" 122 M_G_parametersOf := ⟨m_mem (i := 581) (by decide +kernel) rfl, m_mem (i := 582) (by decide +kernel) rfl, Or.inl (m_mem (i := 580) (by decide +kernel) rfl)⟩
theorem l_H_125 : m_lV "HoleFiller" 125 M_S_takeHole := ⟨m_mem (i := 585) (by decide +kernel) rfl, m_mem (i := 586) (by decide +kernel) rfl, Or.inl (m_mem (i := 584) (by decide +kernel) rfl)⟩
theorem l_H_129 : m_lV "HoleFiller" 129 M_H_startBoth := ⟨m_mem (i := 597) (by decide +kernel) rfl, m_mem (i := 7) (by decide +kernel) rfl, Or.inl (m_mem (i := 595) (by decide +kernel) rfl)⟩
theorem l_H_139 : m_lV "HoleFiller" 139 M_N_solve := ⟨m_mem (i := 612) (by decide +kernel) rfl, m_mem (i := 613) (by decide +kernel) rfl, Or.inl (m_mem (i := 611) (by decide +kernel) rfl)⟩
theorem l_H_145 : m_lV "HoleFiller" 145 M_G_undoTo := ⟨m_mem (i := 349) (by decide +kernel) rfl, m_mem (i := 350) (by decide +kernel) rfl, Or.inl (m_mem (i := 348) (by decide +kernel) rfl)⟩
theorem l_H_151 : m_lV "HoleFiller" 151 M_R_takeAll := ⟨m_mem (i := 761) (by decide +kernel) rfl, m_mem (i := 762) (by decide +kernel) rfl, Or.inl (m_mem (i := 760) (by decide +kernel) rfl)⟩
theorem l_H_167 : m_lS "HoleFiller" 167 M_H_at := ⟨m_mem (i := 346) (by decide +kernel) rfl, Or.inl (m_mem (i := 806) (by decide +kernel) rfl)⟩
theorem l_H_172 : m_lV "HoleFiller" 172 M_U_advance := ⟨m_mem (i := 617) (by decide +kernel) rfl, m_mem (i := 618) (by decide +kernel) rfl, Or.inl (m_mem (i := 815) (by decide +kernel) rfl)⟩
theorem l_H_176 : m_lV "HoleFiller" 176 M_U_standsAs := ⟨m_mem (i := 750) (by decide +kernel) rfl, m_mem (i := 751) (by decide +kernel) rfl, Or.inl (m_mem (i := 816) (by decide +kernel) rfl)⟩
theorem l_H_180 : m_lV "HoleFiller" 180 M_H_refuseUntold := ⟨m_mem (i := 826) (by decide +kernel) rfl, m_mem (i := 24) (by decide +kernel) rfl, Or.inl (m_mem (i := 824) (by decide +kernel) rfl)⟩
theorem l_H_183 : m_lV "HoleFiller" 183 M_G_measureAll := ⟨m_mem (i := 735) (by decide +kernel) rfl, m_mem (i := 736) (by decide +kernel) rfl, Or.inl (m_mem (i := 829) (by decide +kernel) rfl)⟩
theorem l_H_189 : m_lV "HoleFiller" 189 M_G_isOpen := ⟨m_mem (i := 342) (by decide +kernel) rfl, m_mem (i := 343) (by decide +kernel) rfl, Or.inl (m_mem (i := 341) (by decide +kernel) rfl)⟩
theorem l_H_198 : m_lV "HoleFiller" 198 M_U_startAt := ⟨m_mem (i := 607) (by decide +kernel) rfl, m_mem (i := 608) (by decide +kernel) rfl, Or.inl (m_mem (i := 606) (by decide +kernel) rfl)⟩
theorem l_H_201 : m_lV "HoleFiller" 201 M_U_freeBits := ⟨m_mem (i := 838) (by decide +kernel) rfl, m_mem (i := 839) (by decide +kernel) rfl, Or.inl (m_mem (i := 837) (by decide +kernel) rfl)⟩
theorem l_H_213 : m_lV "HoleFiller" 213 M_S_mayTakeVariable := ⟨m_mem (i := 516) (by decide +kernel) rfl, m_mem (i := 517) (by decide +kernel) rfl, Or.inl (m_mem (i := 515) (by decide +kernel) rfl)⟩
theorem l_H_216 : m_lV "HoleFiller" 216 M_S_isBehindHole := ⟨m_mem (i := 528) (by decide +kernel) rfl, m_mem (i := 529) (by decide +kernel) rfl, Or.inl (m_mem (i := 540) (by decide +kernel) rfl)⟩
theorem l_H_222 : m_lV "HoleFiller" 222 M_S_variablesHere := ⟨m_mem (i := 520) (by decide +kernel) rfl, m_mem (i := 521) (by decide +kernel) rfl, Or.inl (m_mem (i := 546) (by decide +kernel) rfl)⟩
theorem l_H_225 : m_lV "HoleFiller" 225 M_O_mostBound := ⟨m_mem (i := 548) (by decide +kernel) rfl, m_mem (i := 549) (by decide +kernel) rfl, Or.inl (m_mem (i := 547) (by decide +kernel) rfl)⟩
theorem l_H_228 : m_lV "HoleFiller" 228 M_S_isWhole := ⟨m_mem (i := 600) (by decide +kernel) rfl, m_mem (i := 601) (by decide +kernel) rfl, Or.inl (m_mem (i := 599) (by decide +kernel) rfl)⟩
theorem lo_C_3 : Cond.methodLink "HoleFiller$Cells" 3 Lib.objectInit ∈ m_Ts := m_mem (i := 81) (by decide +kernel) rfl
theorem l_C_22 : m_lS "HoleFiller$Cells" 22 M_H_at := ⟨m_mem (i := 346) (by decide +kernel) rfl, Or.inr ⟨"HoleFiller", by decide +kernel⟩⟩
theorem l_C_26 : m_lS "HoleFiller$Cells" 26 M_H_set := ⟨m_mem (i := 353) (by decide +kernel) rfl, Or.inr ⟨"HoleFiller", by decide +kernel⟩⟩
theorem l_C_31 : m_lS "HoleFiller$Cells" 31 M_Ar_copyOf := ⟨m_mem (i := 666) (by decide +kernel) rfl, Or.inl (m_mem (i := 665) (by decide +kernel) rfl)⟩
theorem lo_U_3 : Cond.methodLink "HoleFiller$Cursor" 3 Lib.objectInit ∈ m_Ts := m_mem (i := 201) (by decide +kernel) rfl
theorem l_U_39 : m_lS "HoleFiller$Cursor" 39 M_H_set := ⟨m_mem (i := 353) (by decide +kernel) rfl, Or.inr ⟨"HoleFiller", by decide +kernel⟩⟩
theorem l_U_43 : m_lS "HoleFiller$Cursor" 43 M_H_at := ⟨m_mem (i := 346) (by decide +kernel) rfl, Or.inr ⟨"HoleFiller", by decide +kernel⟩⟩
theorem l_U_60 : m_lV "HoleFiller$Cursor" 60 M_U_leaveEnded := ⟨m_mem (i := 623) (by decide +kernel) rfl, m_mem (i := 8) (by decide +kernel) rfl, Or.inl (m_mem (i := 621) (by decide +kernel) rfl)⟩
theorem l_U_63 : m_lV "HoleFiller$Cursor" 63 M_C_boundAt := ⟨m_mem (i := 627) (by decide +kernel) rfl, m_mem (i := 628) (by decide +kernel) rfl, Or.inl (m_mem (i := 626) (by decide +kernel) rfl)⟩
theorem l_U_69 : m_lV "HoleFiller$Cursor" 69 M_C_codeAt := ⟨m_mem (i := 533) (by decide +kernel) rfl, m_mem (i := 534) (by decide +kernel) rfl, Or.inl (m_mem (i := 630) (by decide +kernel) rfl)⟩
theorem l_U_72 : m_lS "HoleFiller$Cursor" 72 M_H_sortOf := ⟨m_mem (i := 632) (by decide +kernel) rfl, Or.inr ⟨"HoleFiller", by decide +kernel⟩⟩
theorem l_U_75 : m_lS "HoleFiller$Cursor" 75 M_H_numberOf := ⟨m_mem (i := 538) (by decide +kernel) rfl, Or.inr ⟨"HoleFiller", by decide +kernel⟩⟩
theorem l_U_78 : m_lV "HoleFiller$Cursor" 78 M_G_parametersOf := ⟨m_mem (i := 581) (by decide +kernel) rfl, m_mem (i := 582) (by decide +kernel) rfl, Or.inl (m_mem (i := 635) (by decide +kernel) rfl)⟩
theorem l_U_83 : m_lV "HoleFiller$Cursor" 83 M_U_outside := ⟨m_mem (i := 638) (by decide +kernel) rfl, m_mem (i := 9) (by decide +kernel) rfl, Or.inl (m_mem (i := 636) (by decide +kernel) rfl)⟩
theorem l_U_87 : m_lV "HoleFiller$Cursor" 87 M_G_isOpen := ⟨m_mem (i := 342) (by decide +kernel) rfl, m_mem (i := 343) (by decide +kernel) rfl, Or.inl (m_mem (i := 640) (by decide +kernel) rfl)⟩
theorem l_U_91 : m_lV "HoleFiller$Cursor" 91 M_U_enterFilling := ⟨m_mem (i := 643) (by decide +kernel) rfl, m_mem (i := 10) (by decide +kernel) rfl, Or.inl (m_mem (i := 641) (by decide +kernel) rfl)⟩
theorem l_U_101 : m_lV "HoleFiller$Cursor" 101 M_U_bitOf := ⟨m_mem (i := 843) (by decide +kernel) rfl, m_mem (i := 25) (by decide +kernel) rfl, Or.inl (m_mem (i := 841) (by decide +kernel) rfl)⟩
theorem lo_G_3 : Cond.methodLink "HoleFiller$Holes" 3 Lib.objectInit ∈ m_Ts := m_mem (i := 117) (by decide +kernel) rfl
theorem l_G_35 : m_lS "HoleFiller$Holes" 35 M_H_set := ⟨m_mem (i := 353) (by decide +kernel) rfl, Or.inr ⟨"HoleFiller", by decide +kernel⟩⟩
theorem l_G_42 : m_lS "HoleFiller$Holes" 42 M_H_at := ⟨m_mem (i := 346) (by decide +kernel) rfl, Or.inr ⟨"HoleFiller", by decide +kernel⟩⟩
theorem l_G_51 : m_lS "HoleFiller$Holes" 51 M_H_codeOf := ⟨m_mem (i := 563) (by decide +kernel) rfl, Or.inr ⟨"HoleFiller", by decide +kernel⟩⟩
theorem l_G_55 : m_lV "HoleFiller$Holes" 55 M_C_append := ⟨m_mem (i := 661) (by decide +kernel) rfl, m_mem (i := 662) (by decide +kernel) rfl, Or.inl (m_mem (i := 660) (by decide +kernel) rfl)⟩
theorem l_G_59 : m_lV "HoleFiller$Holes" 59 M_G_parametersOf := ⟨m_mem (i := 581) (by decide +kernel) rfl, m_mem (i := 582) (by decide +kernel) rfl, Or.inl (m_mem (i := 681) (by decide +kernel) rfl)⟩
theorem l_G_63 : m_lV "HoleFiller$Holes" 63 M_G_fillFrom := ⟨m_mem (i := 683) (by decide +kernel) rfl, m_mem (i := 684) (by decide +kernel) rfl, Or.inl (m_mem (i := 682) (by decide +kernel) rfl)⟩
theorem l_G_69 : m_lS "HoleFiller$Holes" 69 M_Ar_fill := ⟨m_mem (i := 739) (by decide +kernel) rfl, Or.inl (m_mem (i := 738) (by decide +kernel) rfl)⟩
theorem l_G_75 : m_lV "HoleFiller$Holes" 75 M_G_sumFrom := ⟨m_mem (i := 743) (by decide +kernel) rfl, m_mem (i := 21) (by decide +kernel) rfl, Or.inl (m_mem (i := 741) (by decide +kernel) rfl)⟩
theorem l_G_78 : m_lS "HoleFiller$Holes" 78 M_Ma_max := ⟨m_mem (i := 556) (by decide +kernel) rfl, Or.inl (m_mem (i := 748) (by decide +kernel) rfl)⟩
theorem l_G_83 : m_lV "HoleFiller$Holes" 83 M_C_codeAt := ⟨m_mem (i := 533) (by decide +kernel) rfl, m_mem (i := 534) (by decide +kernel) rfl, Or.inl (m_mem (i := 745) (by decide +kernel) rfl)⟩
theorem l_G_86 : m_lS "HoleFiller$Holes" 86 M_H_sortOf := ⟨m_mem (i := 632) (by decide +kernel) rfl, Or.inr ⟨"HoleFiller", by decide +kernel⟩⟩
theorem l_G_89 : m_lS "HoleFiller$Holes" 89 M_H_numberOf := ⟨m_mem (i := 538) (by decide +kernel) rfl, Or.inr ⟨"HoleFiller", by decide +kernel⟩⟩
theorem lo_O_3 : Cond.methodLink "HoleFiller$Operations" 3 Lib.objectInit ∈ m_Ts := m_mem (i := 100) (by decide +kernel) rfl
theorem l_O_22 : m_lV "HoleFiller$Operations" 22 M_O_addArgument := ⟨m_mem (i := 445) (by decide +kernel) rfl, m_mem (i := 1) (by decide +kernel) rfl, Or.inl (m_mem (i := 443) (by decide +kernel) rfl)⟩
theorem l_O_26 : m_lV "HoleFiller$Operations" 26 M_O_arityOf := ⟨m_mem (i := 448) (by decide +kernel) rfl, m_mem (i := 449) (by decide +kernel) rfl, Or.inl (m_mem (i := 447) (by decide +kernel) rfl)⟩
theorem l_O_30 : m_lS "HoleFiller$Operations" 30 M_H_set := ⟨m_mem (i := 353) (by decide +kernel) rfl, Or.inr ⟨"HoleFiller", by decide +kernel⟩⟩
theorem l_O_34 : m_lS "HoleFiller$Operations" 34 M_H_at := ⟨m_mem (i := 346) (by decide +kernel) rfl, Or.inr ⟨"HoleFiller", by decide +kernel⟩⟩
theorem l_O_38 : m_lV "HoleFiller$Operations" 38 M_O_boundBy := ⟨m_mem (i := 552) (by decide +kernel) rfl, m_mem (i := 553) (by decide +kernel) rfl, Or.inl (m_mem (i := 551) (by decide +kernel) rfl)⟩
theorem l_O_42 : m_lS "HoleFiller$Operations" 42 M_Ma_max := ⟨m_mem (i := 556) (by decide +kernel) rfl, Or.inl (m_mem (i := 555) (by decide +kernel) rfl)⟩
theorem lo_R_3 : Cond.methodLink "HoleFiller$Reader" 3 Lib.objectInit ∈ m_Ts := m_mem (i := 289) (by decide +kernel) rfl
theorem l_R_28 : m_lS "HoleFiller$Reader" 28 M_Ar_fill := ⟨m_mem (i := 739) (by decide +kernel) rfl, Or.inl (m_mem (i := 764) (by decide +kernel) rfl)⟩
theorem l_R_35 : m_lV "HoleFiller$Reader" 35 M_U_advance := ⟨m_mem (i := 617) (by decide +kernel) rfl, m_mem (i := 618) (by decide +kernel) rfl, Or.inl (m_mem (i := 766) (by decide +kernel) rfl)⟩
theorem l_R_44 : m_lV "HoleFiller$Reader" 44 M_R_takeHole := ⟨m_mem (i := 769) (by decide +kernel) rfl, m_mem (i := 22) (by decide +kernel) rfl, Or.inl (m_mem (i := 767) (by decide +kernel) rfl)⟩
theorem l_R_51 : m_lS "HoleFiller$Reader" 51 M_H_codeOf := ⟨m_mem (i := 563) (by decide +kernel) rfl, Or.inr ⟨"HoleFiller", by decide +kernel⟩⟩
theorem l_R_55 : m_lV "HoleFiller$Reader" 55 M_R_append := ⟨m_mem (i := 779) (by decide +kernel) rfl, m_mem (i := 23) (by decide +kernel) rfl, Or.inl (m_mem (i := 777) (by decide +kernel) rfl)⟩
theorem l_R_59 : m_lS "HoleFiller$Reader" 59 M_H_at := ⟨m_mem (i := 346) (by decide +kernel) rfl, Or.inr ⟨"HoleFiller", by decide +kernel⟩⟩
theorem l_R_63 : m_lS "HoleFiller$Reader" 63 M_H_set := ⟨m_mem (i := 353) (by decide +kernel) rfl, Or.inr ⟨"HoleFiller", by decide +kernel⟩⟩
theorem l_R_67 : m_lS "HoleFiller$Reader" 67 M_R_risingOrder := ⟨m_mem (i := 774) (by decide +kernel) rfl, Or.inl (m_mem (i := 773) (by decide +kernel) rfl)⟩
theorem l_R_77 : m_lS "HoleFiller$Reader" 77 M_Ar_copyOf := ⟨m_mem (i := 666) (by decide +kernel) rfl, Or.inl (m_mem (i := 781) (by decide +kernel) rfl)⟩
theorem lo_S_3 : Cond.methodLink "HoleFiller$Slot" 3 Lib.objectInit ∈ m_Ts := m_mem (i := 160) (by decide +kernel) rfl
theorem l_S_35 : m_lS "HoleFiller$Slot" 35 M_H_set := ⟨m_mem (i := 353) (by decide +kernel) rfl, Or.inr ⟨"HoleFiller", by decide +kernel⟩⟩
theorem l_S_42 : m_lV "HoleFiller$Slot" 42 M_S_itemsDue := ⟨m_mem (i := 484) (by decide +kernel) rfl, m_mem (i := 485) (by decide +kernel) rfl, Or.inl (m_mem (i := 603) (by decide +kernel) rfl)⟩
theorem l_S_46 : m_lV "HoleFiller$Slot" 46 M_S_boundHere := ⟨m_mem (i := 525) (by decide +kernel) rfl, m_mem (i := 4) (by decide +kernel) rfl, Or.inl (m_mem (i := 523) (by decide +kernel) rfl)⟩
theorem l_S_49 : m_lV "HoleFiller$Slot" 49 M_S_isBehindHole := ⟨m_mem (i := 528) (by decide +kernel) rfl, m_mem (i := 529) (by decide +kernel) rfl, Or.inl (m_mem (i := 527) (by decide +kernel) rfl)⟩
theorem l_S_56 : m_lS "HoleFiller$Slot" 56 M_H_at := ⟨m_mem (i := 346) (by decide +kernel) rfl, Or.inr ⟨"HoleFiller", by decide +kernel⟩⟩
theorem l_S_60 : m_lV "HoleFiller$Slot" 60 M_S_variablesHere := ⟨m_mem (i := 520) (by decide +kernel) rfl, m_mem (i := 521) (by decide +kernel) rfl, Or.inl (m_mem (i := 519) (by decide +kernel) rfl)⟩
theorem l_S_66 : m_lV "HoleFiller$Slot" 66 M_C_codeAt := ⟨m_mem (i := 533) (by decide +kernel) rfl, m_mem (i := 534) (by decide +kernel) rfl, Or.inl (m_mem (i := 532) (by decide +kernel) rfl)⟩
theorem l_S_72 : m_lS "HoleFiller$Slot" 72 M_H_numberOf := ⟨m_mem (i := 538) (by decide +kernel) rfl, Or.inr ⟨"HoleFiller", by decide +kernel⟩⟩
theorem l_S_75 : m_lS "HoleFiller$Slot" 75 M_H_codeOf := ⟨m_mem (i := 563) (by decide +kernel) rfl, Or.inr ⟨"HoleFiller", by decide +kernel⟩⟩
theorem l_S_79 : m_lV "HoleFiller$Slot" 79 M_S_write := ⟨m_mem (i := 567) (by decide +kernel) rfl, m_mem (i := 6) (by decide +kernel) rfl, Or.inl (m_mem (i := 565) (by decide +kernel) rfl)⟩
theorem l_S_83 : m_lV "HoleFiller$Slot" 83 M_O_arityOf := ⟨m_mem (i := 448) (by decide +kernel) rfl, m_mem (i := 449) (by decide +kernel) rfl, Or.inl (m_mem (i := 578) (by decide +kernel) rfl)⟩
theorem l_S_88 : m_lV "HoleFiller$Slot" 88 M_O_boundBy := ⟨m_mem (i := 552) (by decide +kernel) rfl, m_mem (i := 553) (by decide +kernel) rfl, Or.inl (m_mem (i := 579) (by decide +kernel) rfl)⟩
theorem l_S_91 : m_lV "HoleFiller$Slot" 91 M_C_write := ⟨m_mem (i := 570) (by decide +kernel) rfl, m_mem (i := 571) (by decide +kernel) rfl, Or.inl (m_mem (i := 569) (by decide +kernel) rfl)⟩
theorem lo_N_3 : Cond.methodLink "HoleFiller$Unifier" 3 Lib.objectInit ∈ m_Ts := m_mem (i := 253) (by decide +kernel) rfl
theorem l_N_39 : m_lI "HoleFiller$Unifier" 39 M_U_init := ⟨m_mem (i := 199) (by decide +kernel) rfl, rfl, rfl, rfl, Or.inl (m_mem (i := 255) (by decide +kernel) rfl)⟩
theorem l_N_46 : m_lV "HoleFiller$Unifier" 46 M_U_advance := ⟨m_mem (i := 617) (by decide +kernel) rfl, m_mem (i := 618) (by decide +kernel) rfl, Or.inl (m_mem (i := 616) (by decide +kernel) rfl)⟩
theorem l_N_57 : m_lV "HoleFiller$Unifier" 57 M_N_narrowToSame := ⟨m_mem (i := 647) (by decide +kernel) rfl, m_mem (i := 11) (by decide +kernel) rfl, Or.inl (m_mem (i := 645) (by decide +kernel) rfl)⟩
theorem l_N_61 : m_lV "HoleFiller$Unifier" 61 M_N_joinHoles := ⟨m_mem (i := 688) (by decide +kernel) rfl, m_mem (i := 12) (by decide +kernel) rfl, Or.inl (m_mem (i := 686) (by decide +kernel) rfl)⟩
theorem l_N_64 : m_lV "HoleFiller$Unifier" 64 M_N_fillWithTerm := ⟨m_mem (i := 696) (by decide +kernel) rfl, m_mem (i := 13) (by decide +kernel) rfl, Or.inl (m_mem (i := 694) (by decide +kernel) rfl)⟩
theorem l_N_68 : m_lV "HoleFiller$Unifier" 68 M_U_standsAs := ⟨m_mem (i := 750) (by decide +kernel) rfl, m_mem (i := 751) (by decide +kernel) rfl, Or.inl (m_mem (i := 749) (by decide +kernel) rfl)⟩
theorem l_N_78 : m_lS "HoleFiller$Unifier" 78 M_H_at := ⟨m_mem (i := 346) (by decide +kernel) rfl, Or.inr ⟨"HoleFiller", by decide +kernel⟩⟩
theorem l_N_82 : m_lS "HoleFiller$Unifier" 82 M_H_set := ⟨m_mem (i := 353) (by decide +kernel) rfl, Or.inr ⟨"HoleFiller", by decide +kernel⟩⟩
theorem l_N_86 : m_lV "HoleFiller$Unifier" 86 M_G_makeNew := ⟨m_mem (i := 652) (by decide +kernel) rfl, m_mem (i := 653) (by decide +kernel) rfl, Or.inl (m_mem (i := 651) (by decide +kernel) rfl)⟩
theorem l_N_92 : m_lV "HoleFiller$Unifier" 92 M_G_fillWithHole := ⟨m_mem (i := 656) (by decide +kernel) rfl, m_mem (i := 657) (by decide +kernel) rfl, Or.inl (m_mem (i := 655) (by decide +kernel) rfl)⟩
theorem l_N_96 : m_lV "HoleFiller$Unifier" 96 M_U_parameterFor := ⟨m_mem (i := 691) (by decide +kernel) rfl, m_mem (i := 692) (by decide +kernel) rfl, Or.inl (m_mem (i := 690) (by decide +kernel) rfl)⟩
theorem l_N_99 : m_lV "HoleFiller$Unifier" 99 M_U_copyFrom := ⟨m_mem (i := 699) (by decide +kernel) rfl, m_mem (i := 700) (by decide +kernel) rfl, Or.inl (m_mem (i := 698) (by decide +kernel) rfl)⟩
theorem l_N_103 : m_lV "HoleFiller$Unifier" 103 M_N_admitTerm := ⟨m_mem (i := 704) (by decide +kernel) rfl, m_mem (i := 14) (by decide +kernel) rfl, Or.inl (m_mem (i := 702) (by decide +kernel) rfl)⟩
theorem l_N_115 : m_lV "HoleFiller$Unifier" 115 M_N_copyTerm := ⟨m_mem (i := 721) (by decide +kernel) rfl, m_mem (i := 18) (by decide +kernel) rfl, Or.inl (m_mem (i := 719) (by decide +kernel) rfl)⟩
theorem l_N_119 : m_lV "HoleFiller$Unifier" 119 M_G_fillFrom := ⟨m_mem (i := 683) (by decide +kernel) rfl, m_mem (i := 684) (by decide +kernel) rfl, Or.inl (m_mem (i := 733) (by decide +kernel) rfl)⟩
theorem l_N_123 : m_lV "HoleFiller$Unifier" 123 M_G_measureAll := ⟨m_mem (i := 735) (by decide +kernel) rfl, m_mem (i := 736) (by decide +kernel) rfl, Or.inl (m_mem (i := 734) (by decide +kernel) rfl)⟩
theorem l_N_126 : m_lV "HoleFiller$Unifier" 126 M_N_isForeign := ⟨m_mem (i := 708) (by decide +kernel) rfl, m_mem (i := 15) (by decide +kernel) rfl, Or.inl (m_mem (i := 706) (by decide +kernel) rfl)⟩
theorem l_N_130 : m_lV "HoleFiller$Unifier" 130 M_N_dropForeign := ⟨m_mem (i := 712) (by decide +kernel) rfl, m_mem (i := 16) (by decide +kernel) rfl, Or.inl (m_mem (i := 710) (by decide +kernel) rfl)⟩
theorem l_N_133 : m_lV "HoleFiller$Unifier" 133 M_N_dueAfter := ⟨m_mem (i := 716) (by decide +kernel) rfl, m_mem (i := 17) (by decide +kernel) rfl, Or.inl (m_mem (i := 714) (by decide +kernel) rfl)⟩
theorem l_N_137 : m_lV "HoleFiller$Unifier" 137 M_O_arityOf := ⟨m_mem (i := 448) (by decide +kernel) rfl, m_mem (i := 449) (by decide +kernel) rfl, Or.inl (m_mem (i := 718) (by decide +kernel) rfl)⟩
theorem l_N_145 : m_lV "HoleFiller$Unifier" 145 M_N_copyHere := ⟨m_mem (i := 725) (by decide +kernel) rfl, m_mem (i := 19) (by decide +kernel) rfl, Or.inl (m_mem (i := 723) (by decide +kernel) rfl)⟩
theorem l_N_148 : m_lV "HoleFiller$Unifier" 148 M_N_inside := ⟨m_mem (i := 729) (by decide +kernel) rfl, m_mem (i := 20) (by decide +kernel) rfl, Or.inl (m_mem (i := 727) (by decide +kernel) rfl)⟩
theorem l_N_152 : m_lS "HoleFiller$Unifier" 152 M_H_codeOf := ⟨m_mem (i := 563) (by decide +kernel) rfl, Or.inr ⟨"HoleFiller", by decide +kernel⟩⟩
theorem l_N_156 : m_lV "HoleFiller$Unifier" 156 M_C_append := ⟨m_mem (i := 661) (by decide +kernel) rfl, m_mem (i := 662) (by decide +kernel) rfl, Or.inl (m_mem (i := 732) (by decide +kernel) rfl)⟩
theorem l_L_7 : m_lV "HoleFillerLaw" 7 M_H_operation := ⟨m_mem (i := 364) (by decide +kernel) rfl, m_mem (i := 365) (by decide +kernel) rfl, Or.inl (m_mem (i := 363) (by decide +kernel) rfl)⟩
theorem l_L_15 : m_lV "HoleFillerLaw" 15 M_H_hole := ⟨m_mem (i := 457) (by decide +kernel) rfl, m_mem (i := 458) (by decide +kernel) rfl, Or.inl (m_mem (i := 456) (by decide +kernel) rfl)⟩
theorem l_L_19 : m_lV "HoleFillerLaw" 19 M_H_begin := ⟨m_mem (i := 469) (by decide +kernel) rfl, m_mem (i := 470) (by decide +kernel) rfl, Or.inl (m_mem (i := 468) (by decide +kernel) rfl)⟩
theorem l_L_23 : m_lV "HoleFillerLaw" 23 M_H_put := ⟨m_mem (i := 492) (by decide +kernel) rfl, m_mem (i := 493) (by decide +kernel) rfl, Or.inl (m_mem (i := 491) (by decide +kernel) rfl)⟩
theorem l_L_28 : m_lV "HoleFillerLaw" 28 M_H_unify := ⟨m_mem (i := 592) (by decide +kernel) rfl, m_mem (i := 593) (by decide +kernel) rfl, Or.inl (m_mem (i := 591) (by decide +kernel) rfl)⟩
theorem l_L_31 : m_lV "HoleFillerLaw" 31 M_H_read := ⟨m_mem (i := 757) (by decide +kernel) rfl, m_mem (i := 758) (by decide +kernel) rfl, Or.inl (m_mem (i := 756) (by decide +kernel) rfl)⟩
theorem l_L_34 : m_lV "HoleFillerLaw" 34 M_H_item := ⟨m_mem (i := 787) (by decide +kernel) rfl, m_mem (i := 788) (by decide +kernel) rfl, Or.inl (m_mem (i := 786) (by decide +kernel) rfl)⟩
theorem l_L_39 : m_lV "HoleFillerLaw" 39 M_H_isSame := ⟨m_mem (i := 811) (by decide +kernel) rfl, m_mem (i := 812) (by decide +kernel) rfl, Or.inl (m_mem (i := 810) (by decide +kernel) rfl)⟩
theorem l_L_43 : m_lV "HoleFillerLaw" 43 M_H_size := ⟨m_mem (i := 821) (by decide +kernel) rfl, m_mem (i := 822) (by decide +kernel) rfl, Or.inl (m_mem (i := 820) (by decide +kernel) rfl)⟩
theorem l_L_46 : m_lV "HoleFillerLaw" 46 M_H_uses := ⟨m_mem (i := 834) (by decide +kernel) rfl, m_mem (i := 835) (by decide +kernel) rfl, Or.inl (m_mem (i := 833) (by decide +kernel) rfl)⟩
theorem lo_D_1 : Cond.methodLink "HoleFillerModel" 1 Lib.objectInit ∈ m_Ts := m_mem (i := 850) (by decide +kernel) rfl
theorem l_D_104 : m_lV "HoleFillerModel" 104 M_D_fails := ⟨m_mem (i := 985) (by decide +kernel) rfl, m_mem (i := 26) (by decide +kernel) rfl, Or.inl (m_mem (i := 983) (by decide +kernel) rfl)⟩
theorem l_D_114 : m_lS "HoleFillerModel" 114 M_D_isSlot := ⟨m_mem (i := 996) (by decide +kernel) rfl, Or.inl (m_mem (i := 995) (by decide +kernel) rfl)⟩
theorem l_D_118 : m_lV "HoleFillerModel" 118 M_D_fits := ⟨m_mem (i := 1004) (by decide +kernel) rfl, m_mem (i := 27) (by decide +kernel) rfl, Or.inl (m_mem (i := 1002) (by decide +kernel) rfl)⟩
theorem l_D_122 : m_lV "HoleFillerModel" 122 M_D_isTooWide := ⟨m_mem (i := 1008) (by decide +kernel) rfl, m_mem (i := 28) (by decide +kernel) rfl, Or.inl (m_mem (i := 1006) (by decide +kernel) rfl)⟩
theorem l_D_125 : m_lV "HoleFillerModel" 125 M_D_wait := ⟨m_mem (i := 1012) (by decide +kernel) rfl, m_mem (i := 29) (by decide +kernel) rfl, Or.inl (m_mem (i := 1010) (by decide +kernel) rfl)⟩
theorem l_D_129 : m_lS "HoleFillerModel" 129 M_D_sort := ⟨m_mem (i := 1039) (by decide +kernel) rfl, Or.inl (m_mem (i := 1038) (by decide +kernel) rfl)⟩
theorem l_D_133 : m_lV "HoleFillerModel" 133 M_D_measure := ⟨m_mem (i := 1043) (by decide +kernel) rfl, m_mem (i := 35) (by decide +kernel) rfl, Or.inl (m_mem (i := 1041) (by decide +kernel) rfl)⟩
theorem l_D_137 : m_lV "HoleFillerModel" 137 M_D_again := ⟨m_mem (i := 1036) (by decide +kernel) rfl, m_mem (i := 34) (by decide +kernel) rfl, Or.inl (m_mem (i := 1034) (by decide +kernel) rfl)⟩
theorem l_D_141 : m_lV "HoleFillerModel" 141 M_D_write := ⟨m_mem (i := 1032) (by decide +kernel) rfl, m_mem (i := 33) (by decide +kernel) rfl, Or.inl (m_mem (i := 1030) (by decide +kernel) rfl)⟩
theorem l_D_147 : m_lS "HoleFillerModel" 147 M_D_sizeOf := ⟨m_mem (i := 1085) (by decide +kernel) rfl, Or.inl (m_mem (i := 1084) (by decide +kernel) rfl)⟩
theorem l_D_160 : m_lV "HoleFillerModel" 160 M_D_same := ⟨m_mem (i := 1055) (by decide +kernel) rfl, m_mem (i := 38) (by decide +kernel) rfl, Or.inl (m_mem (i := 1053) (by decide +kernel) rfl)⟩
theorem l_D_164 : m_lV "HoleFillerModel" 164 M_D_both := ⟨m_mem (i := 1071) (by decide +kernel) rfl, m_mem (i := 42) (by decide +kernel) rfl, Or.inl (m_mem (i := 1069) (by decide +kernel) rfl)⟩
theorem l_D_167 : m_lV "HoleFillerModel" 167 M_D_fill := ⟨m_mem (i := 1078) (by decide +kernel) rfl, m_mem (i := 43) (by decide +kernel) rfl, Or.inl (m_mem (i := 1076) (by decide +kernel) rfl)⟩
theorem l_D_171 : m_lV "HoleFillerModel" 171 M_D_parts := ⟨m_mem (i := 1093) (by decide +kernel) rfl, m_mem (i := 46) (by decide +kernel) rfl, Or.inl (m_mem (i := 1091) (by decide +kernel) rfl)⟩
theorem l_D_174 : m_lV "HoleFillerModel" 174 M_D_partEnd := ⟨m_mem (i := 1097) (by decide +kernel) rfl, m_mem (i := 47) (by decide +kernel) rfl, Or.inl (m_mem (i := 1095) (by decide +kernel) rfl)⟩
theorem l_D_177 : m_lV "HoleFillerModel" 177 M_D_equation := ⟨m_mem (i := 1047) (by decide +kernel) rfl, m_mem (i := 36) (by decide +kernel) rfl, Or.inl (m_mem (i := 1045) (by decide +kernel) rfl)⟩
theorem l_D_181 : m_lV "HoleFillerModel" 181 M_D_isFull := ⟨m_mem (i := 1059) (by decide +kernel) rfl, m_mem (i := 39) (by decide +kernel) rfl, Or.inl (m_mem (i := 1057) (by decide +kernel) rfl)⟩
theorem l_D_185 : m_lV "HoleFillerModel" 185 M_D_make := ⟨m_mem (i := 1063) (by decide +kernel) rfl, m_mem (i := 40) (by decide +kernel) rfl, Or.inl (m_mem (i := 1061) (by decide +kernel) rfl)⟩
theorem l_D_188 : m_lV "HoleFillerModel" 188 M_D_pass := ⟨m_mem (i := 1067) (by decide +kernel) rfl, m_mem (i := 41) (by decide +kernel) rfl, Or.inl (m_mem (i := 1065) (by decide +kernel) rfl)⟩
theorem l_D_192 : m_lS "HoleFillerModel" 192 M_D_find := ⟨m_mem (i := 1074) (by decide +kernel) rfl, Or.inl (m_mem (i := 1073) (by decide +kernel) rfl)⟩
theorem l_D_196 : m_lV "HoleFillerModel" 196 M_D_hindrance := ⟨m_mem (i := 1082) (by decide +kernel) rfl, m_mem (i := 44) (by decide +kernel) rfl, Or.inl (m_mem (i := 1080) (by decide +kernel) rfl)⟩
theorem l_D_199 : m_lV "HoleFillerModel" 199 M_D_fullSize := ⟨m_mem (i := 1089) (by decide +kernel) rfl, m_mem (i := 45) (by decide +kernel) rfl, Or.inl (m_mem (i := 1087) (by decide +kernel) rfl)⟩
theorem l_D_202 : m_lV "HoleFillerModel" 202 M_D_isWhole := ⟨m_mem (i := 1024) (by decide +kernel) rfl, m_mem (i := 31) (by decide +kernel) rfl, Or.inl (m_mem (i := 1022) (by decide +kernel) rfl)⟩
theorem l_D_205 : m_lV "HoleFillerModel" 205 M_D_refuses := ⟨m_mem (i := 1020) (by decide +kernel) rfl, m_mem (i := 30) (by decide +kernel) rfl, Or.inl (m_mem (i := 1018) (by decide +kernel) rfl)⟩
theorem l_D_209 : m_lV "HoleFillerModel" 209 M_D_slot := ⟨m_mem (i := 1028) (by decide +kernel) rfl, m_mem (i := 32) (by decide +kernel) rfl, Or.inl (m_mem (i := 1026) (by decide +kernel) rfl)⟩
theorem l_D_212 : m_lV "HoleFillerModel" 212 M_D_step := ⟨m_mem (i := 1051) (by decide +kernel) rfl, m_mem (i := 37) (by decide +kernel) rfl, Or.inl (m_mem (i := 1049) (by decide +kernel) rfl)⟩
theorem l_D_227 : m_lV "HoleFillerModel" 227 M_D_rank := ⟨m_mem (i := 1105) (by decide +kernel) rfl, m_mem (i := 48) (by decide +kernel) rfl, Or.inl (m_mem (i := 1103) (by decide +kernel) rfl)⟩
theorem l_Ar_304 : m_lS "java/util/Arrays" 304 M_Ma_min := ⟨m_mem (i := 676) (by decide +kernel) rfl, Or.inl (m_mem (i := 675) (by decide +kernel) rfl)⟩
theorem oi_inst : Cond.instanceMethod Lib.objectInit ∈ m_Ts := m_mem (i := 74) (by decide +kernel) rfl
theorem oi_code : Cond.code Lib.objectInit ⟨#[0xb1]⟩ 1 none ∈ m_Ts := m_mem (i := 75) (by decide +kernel) rfl
theorem nw_H_9 : m_nw "HoleFiller" 9 1 [mn, mn, mi 0] 3 := ⟨_, _, tyC, [.null, .null, .int 0], rfl, u_C, tyC_ok, m_mem (i := 76) (by decide +kernel) rfl, m_mem (i := 77) (by decide +kernel) rfl, m_mem (i := 51) (by decide +kernel) rfl, by decide +kernel, rfl⟩
theorem nw_H_12 : m_nw "HoleFiller" 12 4 [mn, mn, mi 0] 3 := ⟨_, _, tyO, [.null, .null, .int 0], rfl, u_O, tyO_ok, m_mem (i := 95) (by decide +kernel) rfl, m_mem (i := 96) (by decide +kernel) rfl, m_mem (i := 52) (by decide +kernel) rfl, by decide +kernel, rfl⟩
theorem nw_H_19 : m_nw "HoleFiller" 19 3 [mn, mn, mn, mn, mn, mn, mi 0, mi 0, mi 0] 9 := ⟨_, _, tyG, [.null, .null, .null, .null, .null, .null, .int 0, .int 0, .int 0], rfl, u_G, tyG_ok, m_mem (i := 112) (by decide +kernel) rfl, m_mem (i := 113) (by decide +kernel) rfl, m_mem (i := 53) (by decide +kernel) rfl, by decide +kernel, rfl⟩
theorem nw_H_28 : m_nw "HoleFiller" 28 6 [mn, mi 0, mn, mi 0, mi 0, mi 0, mi 0, mi 0, mi 0, mi 0] 10 := ⟨_, _, tyS, [.null, .int 0, .null, .int 0, .int 0, .int 0, .int 0, .int 0, .int 0, .int 0], rfl, u_S, tyS_ok, m_mem (i := 154) (by decide +kernel) rfl, m_mem (i := 156) (by decide +kernel) rfl, m_mem (i := 54) (by decide +kernel) rfl, by decide +kernel, rfl⟩
theorem nw_H_37 : m_nw "HoleFiller" 37 2 [mn, mn, mn, mn, mn, mn, mi 0, mi 0, mi 0, mi 0, mn, mi 0] 12 := ⟨_, _, tyU, [.null, .null, .null, .null, .null, .null, .int 0, .int 0, .int 0, .int 0, .null, .int 0], rfl, u_U, tyU_ok, m_mem (i := 196) (by decide +kernel) rfl, m_mem (i := 197) (by decide +kernel) rfl, m_mem (i := 55) (by decide +kernel) rfl, by decide +kernel, rfl⟩
theorem nw_H_49 : m_nw "HoleFiller" 49 7 [mn, mn, mn, mn, mn, mn, mn, mn, mi 0] 9 := ⟨_, _, tyN, [.null, .null, .null, .null, .null, .null, .null, .null, .int 0], rfl, u_N, tyN_ok, m_mem (i := 248) (by decide +kernel) rfl, m_mem (i := 249) (by decide +kernel) rfl, m_mem (i := 56) (by decide +kernel) rfl, by decide +kernel, rfl⟩
theorem nw_H_58 : m_nw "HoleFiller" 58 5 [mn, mi 0, mi 0, mn, mn] 5 := ⟨_, _, tyR, [.null, .int 0, .int 0, .null, .null], rfl, u_R, tyR_ok, m_mem (i := 284) (by decide +kernel) rfl, m_mem (i := 285) (by decide +kernel) rfl, m_mem (i := 57) (by decide +kernel) rfl, by decide +kernel, rfl⟩
theorem nw_N_37 : m_nw "HoleFiller$Unifier" 37 2 [mn, mn, mn, mn, mn, mn, mi 0, mi 0, mi 0, mi 0, mn, mi 0] 12 := ⟨_, _, tyU, [.null, .null, .null, .null, .null, .null, .int 0, .int 0, .int 0, .int 0, .null, .int 0], rfl, u_U, tyU_ok, m_mem (i := 254) (by decide +kernel) rfl, m_mem (i := 197) (by decide +kernel) rfl, m_mem (i := 55) (by decide +kernel) rfl, by decide +kernel, rfl⟩
theorem ms_max : Cond.static Lib.Math.max.name ∈ m_Ts := m_mem (i := 556) (by decide +kernel) rfl
theorem mc_max : Cond.code Lib.Math.max.name Lib.Math.max.code 2 (some .int) ∈ m_Ts := m_mem (i := 557) (by decide +kernel) rfl
theorem ms_min : Cond.static Lib.Math.min.name ∈ m_Ts := m_mem (i := 676) (by decide +kernel) rfl
theorem mc_min : Cond.code Lib.Math.min.name Lib.Math.min.code 2 (some .int) ∈ m_Ts := m_mem (i := 677) (by decide +kernel) rfl
theorem mi_Math : Cond.initialized "java/lang/Math" ∈ m_Ts := m_mem (i := 64) (by decide +kernel) rfl
theorem lm_G_78 : Cond.methodLink "HoleFiller$Holes" 78 Lib.Math.max.name ∈ m_Ts := m_mem (i := 748) (by decide +kernel) rfl
theorem lm_O_42 : Cond.methodLink "HoleFiller$Operations" 42 Lib.Math.max.name ∈ m_Ts := m_mem (i := 555) (by decide +kernel) rfl
theorem ac_lk : Cond.methodLink "java/util/Arrays" 150 arraycopyName ∈ m_Ts := m_mem (i := 678) (by decide +kernel) rfl
theorem ac_nat : Cond.native arraycopyName ∈ m_Ts := m_mem (i := 680) (by decide +kernel) rfl
theorem ac_st : Cond.static arraycopyName ∈ m_Ts := m_mem (i := 679) (by decide +kernel) rfl
theorem ac_ini : Cond.initialized "java/lang/System" ∈ m_Ts := m_mem (i := 66) (by decide +kernel) rfl
theorem lm_Ar_304 : Cond.methodLink "java/util/Arrays" 304 Lib.Math.min.name ∈ m_Ts := m_mem (i := 675) (by decide +kernel) rfl
theorem k_H_171 : Cond.constant "HoleFiller" 171 1000000 ∈ m_Ts := m_mem (i := 814) (by decide +kernel) rfl
theorem k_C_30 : Cond.constant "HoleFiller$Cells" 30 130800 ∈ m_Ts := m_mem (i := 664) (by decide +kernel) rfl
theorem k_U_59 : Cond.constant "HoleFiller$Cursor" 59 1000000 ∈ m_Ts := m_mem (i := 620) (by decide +kernel) rfl
theorem k_R_34 : Cond.constant "HoleFiller$Reader" 34 1000000 ∈ m_Ts := m_mem (i := 765) (by decide +kernel) rfl
theorem k_N_45 : Cond.constant "HoleFiller$Unifier" 45 1000000 ∈ m_Ts := m_mem (i := 615) (by decide +kernel) rfl
theorem k_D_22 : Cond.constant "HoleFillerModel" 22 129600 ∈ m_Ts := m_mem (i := 851) (by decide +kernel) rfl
theorem k_D_75 : Cond.constant "HoleFillerModel" 75 131072 ∈ m_Ts := m_mem (i := 852) (by decide +kernel) rfl
theorem tw_H_71 : m_tw "HoleFiller" 69 71 73 "java/lang/IllegalArgumentException" "an argument binds 0 to 2 variables" ["java/lang/RuntimeException", "java/lang/Exception"] := m_tw_of (by decide +kernel) (by decide +kernel) (m_mem (i := 370) (by decide +kernel) rfl) (m_mem (i := 62) (by decide +kernel) rfl) (by decide +kernel) (by decide +kernel)
theorem tw_H_76 : m_tw "HoleFiller" 69 76 73 "java/lang/IllegalArgumentException" "an argument behind one that is not there" ["java/lang/RuntimeException", "java/lang/Exception"] := m_tw_of (by decide +kernel) (by decide +kernel) (m_mem (i := 370) (by decide +kernel) rfl) (m_mem (i := 62) (by decide +kernel) rfl) (by decide +kernel) (by decide +kernel)
theorem tw_H_82 : m_tw "HoleFiller" 69 82 73 "java/lang/IllegalArgumentException" "a hole has 0 to 4 parameters" ["java/lang/RuntimeException", "java/lang/Exception"] := m_tw_of (by decide +kernel) (by decide +kernel) (m_mem (i := 370) (by decide +kernel) rfl) (m_mem (i := 62) (by decide +kernel) rfl) (by decide +kernel) (by decide +kernel)
theorem tw_H_91 : m_tw "HoleFiller" 69 91 73 "java/lang/IllegalArgumentException" "a depth is 0 to 6" ["java/lang/RuntimeException", "java/lang/Exception"] := m_tw_of (by decide +kernel) (by decide +kernel) (m_mem (i := 370) (by decide +kernel) rfl) (m_mem (i := 62) (by decide +kernel) rfl) (by decide +kernel) (by decide +kernel)
theorem tw_H_211 : m_tw "HoleFiller" 69 211 73 "java/lang/IllegalArgumentException" "no such slot" ["java/lang/RuntimeException", "java/lang/Exception"] := m_tw_of (by decide +kernel) (by decide +kernel) (m_mem (i := 370) (by decide +kernel) rfl) (m_mem (i := 62) (by decide +kernel) rfl) (by decide +kernel) (by decide +kernel)
theorem tw_H_103 : m_tw "HoleFiller" 101 103 105 "java/lang/IllegalStateException" "no item is due" ["java/lang/RuntimeException", "java/lang/Exception"] := m_tw_of (by decide +kernel) (by decide +kernel) (m_mem (i := 495) (by decide +kernel) rfl) (m_mem (i := 63) (by decide +kernel) rfl) (by decide +kernel) (by decide +kernel)
theorem tw_H_110 : m_tw "HoleFiller" 69 110 73 "java/lang/IllegalArgumentException" "this item can't stand there" ["java/lang/RuntimeException", "java/lang/Exception"] := m_tw_of (by decide +kernel) (by decide +kernel) (m_mem (i := 370) (by decide +kernel) rfl) (m_mem (i := 62) (by decide +kernel) rfl) (by decide +kernel) (by decide +kernel)
theorem tw_H_231 : m_tw "HoleFiller" 101 231 105 "java/lang/IllegalStateException" "a term is not whole" ["java/lang/RuntimeException", "java/lang/Exception"] := m_tw_of (by decide +kernel) (by decide +kernel) (m_mem (i := 495) (by decide +kernel) rfl) (m_mem (i := 63) (by decide +kernel) rfl) (by decide +kernel) (by decide +kernel)
theorem tw_H_236 : m_tw "HoleFiller" 101 236 105 "java/lang/IllegalStateException" "the terms have other depths" ["java/lang/RuntimeException", "java/lang/Exception"] := m_tw_of (by decide +kernel) (by decide +kernel) (m_mem (i := 495) (by decide +kernel) rfl) (m_mem (i := 63) (by decide +kernel) rfl) (by decide +kernel) (by decide +kernel)
theorem tw_H_160 : m_tw "HoleFiller" 158 160 162 "java/lang/IndexOutOfBoundsException" "no such item was read" ["java/lang/RuntimeException", "java/lang/Exception"] := m_tw_of (by decide +kernel) (by decide +kernel) (m_mem (i := 790) (by decide +kernel) rfl) (m_mem (i := 67) (by decide +kernel) rfl) (by decide +kernel) (by decide +kernel)
theorem tw_H_241 : m_tw "HoleFiller" 69 241 73 "java/lang/IllegalArgumentException" "no such hole was told" ["java/lang/RuntimeException", "java/lang/Exception"] := m_tw_of (by decide +kernel) (by decide +kernel) (m_mem (i := 370) (by decide +kernel) rfl) (m_mem (i := 62) (by decide +kernel) rfl) (by decide +kernel) (by decide +kernel)
