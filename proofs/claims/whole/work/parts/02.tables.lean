/-! THE TABLES: the words that ride over calls, the classes and their fields, the arrays' types, what else is taken along. Written by wip/whole/gen_tables.py. -/
def m_Ts : List Cond := lw_tbl.filter goodWord
theorem m_Ts_good : ∀ w ∈ m_Ts, goodWord w = true := fun _ h => (List.mem_filter.mp h).2
theorem m_mem {i : Nat} {w : Cond} (h : lw_tbl[i]? = some w) (hg : goodWord w = true) : w ∈ m_Ts := List.mem_filter.mpr ⟨List.mem_of_getElem? h, hg⟩
def tfH : u_T := fun k => match k with
  | 0 => ("HoleFiller", "operations", "LHoleFiller$Operations;", true)
  | 1 => ("HoleFiller", "holes", "LHoleFiller$Holes;", true)
  | 2 => ("HoleFiller", "slots", "[LHoleFiller$Slot;", true)
  | 3 => ("HoleFiller", "left", "LHoleFiller$Cursor;", true)
  | 4 => ("HoleFiller", "right", "LHoleFiller$Cursor;", true)
  | 5 => ("HoleFiller", "unifier", "LHoleFiller$Unifier;", true)
  | 6 => ("HoleFiller", "reader", "LHoleFiller$Reader;", true)
  | 7 => ("HoleFiller", "unifiedWithout", "I", false)
  | _ => ("HoleFiller", "unifiedWith", "I", false)
def tfC : u_T := fun k => match k with
  | 0 => ("HoleFiller$Cells", "codes", "[I", false)
  | 1 => ("HoleFiller$Cells", "bounds", "[I", false)
  | _ => ("HoleFiller$Cells", "top", "I", false)
def tfU : u_T := fun k => match k with
  | 0 => ("HoleFiller$Cursor", "cells", "LHoleFiller$Cells;", true)
  | 1 => ("HoleFiller$Cursor", "holes", "LHoleFiller$Holes;", true)
  | 2 => ("HoleFiller$Cursor", "next", "[I", true)
  | 3 => ("HoleFiller$Cursor", "end", "[I", true)
  | 4 => ("HoleFiller$Cursor", "boundAbove", "[I", true)
  | 5 => ("HoleFiller$Cursor", "images", "[I", true)
  | 6 => ("HoleFiller$Cursor", "top", "I", false)
  | 7 => ("HoleFiller$Cursor", "sort", "I", false)
  | 8 => ("HoleFiller$Cursor", "number", "I", false)
  | 9 => ("HoleFiller$Cursor", "bound", "I", false)
  | 10 => ("HoleFiller$Cursor", "variables", "[I", true)
  | _ => ("HoleFiller$Cursor", "variableCount", "I", false)
def tfG : u_T := fun k => match k with
  | 0 => ("HoleFiller$Holes", "cells", "LHoleFiller$Cells;", true)
  | 1 => ("HoleFiller$Holes", "parameters", "[I", true)
  | 2 => ("HoleFiller$Holes", "from", "[I", true)
  | 3 => ("HoleFiller$Holes", "to", "[I", true)
  | 4 => ("HoleFiller$Holes", "sizes", "[I", true)
  | 5 => ("HoleFiller$Holes", "order", "[I", true)
  | 6 => ("HoleFiller$Holes", "told", "I", false)
  | 7 => ("HoleFiller$Holes", "made", "I", false)
  | _ => ("HoleFiller$Holes", "filled", "I", false)
def tfO : u_T := fun k => match k with
  | 0 => ("HoleFiller$Operations", "arity", "[I", true)
  | 1 => ("HoleFiller$Operations", "binds", "[I", true)
  | _ => ("HoleFiller$Operations", "told", "I", false)
def tfR : u_T := fun k => match k with
  | 0 => ("HoleFiller$Reader", "items", "[I", false)
  | 1 => ("HoleFiller$Reader", "length", "I", false)
  | 2 => ("HoleFiller$Reader", "openHoles", "I", false)
  | 3 => ("HoleFiller$Reader", "names", "[I", true)
  | _ => ("HoleFiller$Reader", "orders", "[I", true)
def tfS : u_T := fun k => match k with
  | 0 => ("HoleFiller$Slot", "cells", "LHoleFiller$Cells;", true)
  | 1 => ("HoleFiller$Slot", "from", "I", true)
  | 2 => ("HoleFiller$Slot", "due", "[I", true)
  | 3 => ("HoleFiller$Slot", "dueCount", "I", false)
  | 4 => ("HoleFiller$Slot", "depth", "I", false)
  | 5 => ("HoleFiller$Slot", "length", "I", false)
  | 6 => ("HoleFiller$Slot", "ownSize", "I", false)
  | 7 => ("HoleFiller$Slot", "holeVariablesDue", "I", false)
  | 8 => ("HoleFiller$Slot", "holeVariablesFrom", "I", false)
  | _ => ("HoleFiller$Slot", "holeBound", "I", false)
def tfN : u_T := fun k => match k with
  | 0 => ("HoleFiller$Unifier", "cells", "LHoleFiller$Cells;", true)
  | 1 => ("HoleFiller$Unifier", "holes", "LHoleFiller$Holes;", true)
  | 2 => ("HoleFiller$Unifier", "operations", "LHoleFiller$Operations;", true)
  | 3 => ("HoleFiller$Unifier", "left", "LHoleFiller$Cursor;", true)
  | 4 => ("HoleFiller$Unifier", "right", "LHoleFiller$Cursor;", true)
  | 5 => ("HoleFiller$Unifier", "scout", "LHoleFiller$Cursor;", true)
  | 6 => ("HoleFiller$Unifier", "kept", "[I", true)
  | 7 => ("HoleFiller$Unifier", "keptRight", "[I", true)
  | _ => ("HoleFiller$Unifier", "termSize", "I", false)
def tfD : u_T := fun k => match k with
  | 0 => ("HoleFillerModel", "code", "I", false)
  | 1 => ("HoleFillerModel", "operations", "I", false)
  | 2 => ("HoleFillerModel", "told", "I", false)
  | 3 => ("HoleFillerModel", "fresh", "I", false)
  | 4 => ("HoleFillerModel", "arguments", "[I", true)
  | 5 => ("HoleFillerModel", "binds", "[I", true)
  | 6 => ("HoleFillerModel", "parameters", "[I", true)
  | 7 => ("HoleFillerModel", "length", "[I", true)
  | 8 => ("HoleFillerModel", "filling", "[I", true)
  | 9 => ("HoleFillerModel", "filled", "[Z", true)
  | 10 => ("HoleFillerModel", "was", "[Z", true)
  | 11 => ("HoleFillerModel", "items", "[I", true)
  | 12 => ("HoleFillerModel", "many", "[I", true)
  | 13 => ("HoleFillerModel", "sizes", "[I", true)
  | 14 => ("HoleFillerModel", "depths", "[I", true)
  | 15 => ("HoleFillerModel", "due", "[I", true)
  | 16 => ("HoleFillerModel", "kinds", "[I", true)
  | 17 => ("HoleFillerModel", "places", "[I", true)
  | 18 => ("HoleFillerModel", "begun", "[Z", true)
  | 19 => ("HoleFillerModel", "one", "[I", true)
  | 20 => ("HoleFillerModel", "two", "[I", true)
  | 21 => ("HoleFillerModel", "spare", "[I", true)
  | 22 => ("HoleFillerModel", "deep", "[I", true)
  | 23 => ("HoleFillerModel", "left", "[I", true)
  | 24 => ("HoleFillerModel", "at", "[I", true)
  | 25 => ("HoleFillerModel", "pile", "[I", true)
  | 26 => ("HoleFillerModel", "begins", "[I", true)
  | 27 => ("HoleFillerModel", "middles", "[I", true)
  | 28 => ("HoleFillerModel", "ends", "[I", true)
  | 29 => ("HoleFillerModel", "oneLong", "I", false)
  | 30 => ("HoleFillerModel", "twoLong", "I", false)
  | 31 => ("HoleFillerModel", "equations", "I", false)
  | 32 => ("HoleFillerModel", "mapped", "[I", true)
  | 33 => ("HoleFillerModel", "readItems", "[I", true)
  | 34 => ("HoleFillerModel", "numbers", "[I", true)
  | 35 => ("HoleFillerModel", "orders", "[I", true)
  | 36 => ("HoleFillerModel", "readLong", "I", false)
  | 37 => ("HoleFillerModel", "readHoles", "I", false)
  | 38 => ("HoleFillerModel", "good", "I", false)
  | _ => ("HoleFillerModel", "bad", "I", false)
def m_cl : List vw_C := [("HoleFiller", tfH, 9), ("HoleFiller$Cells", tfC, 3), ("HoleFiller$Cursor", tfU, 12), ("HoleFiller$Holes", tfG, 9), ("HoleFiller$Operations", tfO, 3), ("HoleFiller$Reader", tfR, 5), ("HoleFiller$Slot", tfS, 10), ("HoleFiller$Unifier", tfN, 9), ("HoleFillerModel", tfD, 40)]
def m_tys (ac : Nat → ClassId) : List (ClassId × FieldType) := [(ac 0, .int), (ac 1, .boolean), (ac 2, .long), (ac 9, .object "HoleFiller$Slot")]
def m_strs : List (String × Nat × String) := [("HoleFiller", 71, "an argument binds 0 to 2 variables"), ("HoleFiller", 76, "an argument behind one that is not there"), ("HoleFiller", 82, "a hole has 0 to 4 parameters"), ("HoleFiller", 211, "no such slot"), ("HoleFiller", 91, "a depth is 0 to 6"), ("HoleFiller", 103, "no item is due"), ("HoleFiller", 110, "this item can't stand there"), ("HoleFiller", 231, "a term is not whole"), ("HoleFiller", 236, "the terms have other depths"), ("HoleFiller", 160, "no such item was read"), ("HoleFiller", 241, "no such hole was told")]
def m_nestF : List (String × Nat × String × String × String × String) := [("HoleFiller$Unifier", 110, "HoleFiller$Cells", "top", "I", "HoleFiller"), ("HoleFiller$Holes", 46, "HoleFiller$Cells", "top", "I", "HoleFiller"), ("HoleFiller", 207, "HoleFiller$Operations", "told", "I", "HoleFiller"), ("HoleFiller$Cursor", 95, "HoleFiller$Holes", "from", "[I", "HoleFiller"), ("HoleFiller", 192, "HoleFiller$Holes", "from", "[I", "HoleFiller"), ("HoleFiller$Cursor", 98, "HoleFiller$Holes", "to", "[I", "HoleFiller"), ("HoleFiller", 195, "HoleFiller$Holes", "to", "[I", "HoleFiller"), ("HoleFiller", 186, "HoleFiller$Holes", "sizes", "[I", "HoleFiller"), ("HoleFiller", 204, "HoleFiller$Holes", "told", "I", "HoleFiller"), ("HoleFiller", 136, "HoleFiller$Holes", "made", "I", "HoleFiller"), ("HoleFiller", 132, "HoleFiller$Holes", "filled", "I", "HoleFiller"), ("HoleFiller", 238, "HoleFiller$Slot", "from", "I", "HoleFiller"), ("HoleFiller", 233, "HoleFiller$Slot", "depth", "I", "HoleFiller"), ("HoleFiller", 240, "HoleFiller$Slot", "length", "I", "HoleFiller"), ("HoleFiller", 219, "HoleFiller$Slot", "ownSize", "I", "HoleFiller"), ("HoleFiller$Unifier", 50, "HoleFiller$Cursor", "sort", "I", "HoleFiller"), ("HoleFiller$Reader", 41, "HoleFiller$Cursor", "sort", "I", "HoleFiller"), ("HoleFiller$Reader", 48, "HoleFiller$Cursor", "number", "I", "HoleFiller"), ("HoleFiller$Unifier", 54, "HoleFiller$Cursor", "number", "I", "HoleFiller"), ("HoleFiller$Unifier", 142, "HoleFiller$Cursor", "bound", "I", "HoleFiller"), ("HoleFiller$Unifier", 75, "HoleFiller$Cursor", "variables", "[I", "HoleFiller"), ("HoleFiller$Reader", 74, "HoleFiller$Cursor", "variables", "[I", "HoleFiller"), ("HoleFiller$Unifier", 72, "HoleFiller$Cursor", "variableCount", "I", "HoleFiller"), ("HoleFiller$Reader", 71, "HoleFiller$Cursor", "variableCount", "I", "HoleFiller"), ("HoleFiller", 163, "HoleFiller$Reader", "items", "[I", "HoleFiller"), ("HoleFiller", 155, "HoleFiller$Reader", "length", "I", "HoleFiller"), ("HoleFiller", 208, "HoleFiller$Reader", "openHoles", "I", "HoleFiller")]
def m_nestM : List (String × Nat × MethodName × String) := [("HoleFiller", 11, ⟨"HoleFiller$Cells", "<init>", "()V"⟩, "HoleFiller"), ("HoleFiller", 14, ⟨"HoleFiller$Operations", "<init>", "()V"⟩, "HoleFiller"), ("HoleFiller", 60, ⟨"HoleFiller$Reader", "<init>", "()V"⟩, "HoleFiller"), ("HoleFiller$Holes", 42, ⟨"HoleFiller", "at", "([II)I"⟩, "HoleFiller"), ("HoleFiller$Holes", 35, ⟨"HoleFiller", "set", "([III)V"⟩, "HoleFiller"), ("HoleFiller$Operations", 34, ⟨"HoleFiller", "at", "([II)I"⟩, "HoleFiller"), ("HoleFiller$Operations", 30, ⟨"HoleFiller", "set", "([III)V"⟩, "HoleFiller"), ("HoleFiller$Slot", 35, ⟨"HoleFiller", "set", "([III)V"⟩, "HoleFiller"), ("HoleFiller$Slot", 56, ⟨"HoleFiller", "at", "([II)I"⟩, "HoleFiller"), ("HoleFiller$Cells", 22, ⟨"HoleFiller", "at", "([II)I"⟩, "HoleFiller"), ("HoleFiller$Slot", 72, ⟨"HoleFiller", "numberOf", "(I)I"⟩, "HoleFiller"), ("HoleFiller$Slot", 75, ⟨"HoleFiller", "codeOf", "(II)I"⟩, "HoleFiller"), ("HoleFiller$Cells", 26, ⟨"HoleFiller", "set", "([III)V"⟩, "HoleFiller"), ("HoleFiller$Cursor", 39, ⟨"HoleFiller", "set", "([III)V"⟩, "HoleFiller"), ("HoleFiller$Cursor", 43, ⟨"HoleFiller", "at", "([II)I"⟩, "HoleFiller"), ("HoleFiller$Cursor", 72, ⟨"HoleFiller", "sortOf", "(I)I"⟩, "HoleFiller"), ("HoleFiller$Cursor", 75, ⟨"HoleFiller", "numberOf", "(I)I"⟩, "HoleFiller"), ("HoleFiller$Unifier", 78, ⟨"HoleFiller", "at", "([II)I"⟩, "HoleFiller"), ("HoleFiller$Unifier", 82, ⟨"HoleFiller", "set", "([III)V"⟩, "HoleFiller"), ("HoleFiller$Holes", 51, ⟨"HoleFiller", "codeOf", "(II)I"⟩, "HoleFiller"), ("HoleFiller$Unifier", 152, ⟨"HoleFiller", "codeOf", "(II)I"⟩, "HoleFiller"), ("HoleFiller$Holes", 86, ⟨"HoleFiller", "sortOf", "(I)I"⟩, "HoleFiller"), ("HoleFiller$Holes", 89, ⟨"HoleFiller", "numberOf", "(I)I"⟩, "HoleFiller"), ("HoleFiller$Reader", 59, ⟨"HoleFiller", "at", "([II)I"⟩, "HoleFiller"), ("HoleFiller$Reader", 63, ⟨"HoleFiller", "set", "([III)V"⟩, "HoleFiller"), ("HoleFiller$Reader", 51, ⟨"HoleFiller", "codeOf", "(II)I"⟩, "HoleFiller")]
def m_aos : List String := ["HoleFiller$Slot"]
def m_ncs : List (String × String) := [("java/lang/IllegalArgumentException", "java/lang/IllegalStateException"), ("java/lang/IllegalStateException", "java/lang/IllegalArgumentException")]
def m_cas : List (String × String) := [("java/lang/IllegalArgumentException", "java/lang/IllegalArgumentException"), ("java/lang/IllegalStateException", "java/lang/IllegalStateException"), ("java/lang/IndexOutOfBoundsException", "java/lang/IndexOutOfBoundsException")]
def m_decl : List MethodName := [⟨"java/lang/RuntimeException", "<init>", "()V"⟩, ⟨"java/lang/RuntimeException", "<init>", "(Ljava/lang/String;)V"⟩, ⟨"java/lang/Exception", "<init>", "()V"⟩, ⟨"java/lang/Exception", "<init>", "(Ljava/lang/String;)V"⟩, ⟨"java/lang/Throwable", "<init>", "()V"⟩, ⟨"java/lang/Throwable", "<init>", "(Ljava/lang/String;)V"⟩]
theorem m_Ts_int : Cond.arrayClass .int ∈ m_Ts := m_mem (i := 94) (by decide +kernel) rfl
theorem m_Ts_bool : Cond.arrayClass .boolean ∈ m_Ts := m_mem (i := 974) (by decide +kernel) rfl
theorem m_Ts_long : Cond.arrayClass .long ∈ m_Ts := m_mem (i := 1131) (by decide +kernel) rfl
