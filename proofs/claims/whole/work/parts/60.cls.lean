def RX0 : String := "RailPasses$Book"
def TX0 : u_T := fun k => match k with
  | 0 => ("RailPasses$Book", "lines", "LRailPasses$Table;", true)
  | 1 => ("RailPasses$Book", "trains", "LRailPasses$Table;", true)
  | 2 => ("RailPasses$Book", "laws", "LRailPasses$Table;", true)
  | 3 => ("RailPasses$Book", "passes", "LRailPasses$Table;", true)
  | 4 => ("RailPasses$Book", "rides", "LRailPasses$Table;", true)
  | 5 => ("RailPasses$Book", "wishes", "LRailPasses$Table;", true)
  | 6 => ("RailPasses$Book", "scans", "LRailPasses$Table;", true)
  | _ => ("RailPasses$Book", "today", "I", false)
def tyX0 : Nat → FieldType := fun k => match k with
  | 0 => .object "RailPasses$Table"
  | 1 => .object "RailPasses$Table"
  | 2 => .object "RailPasses$Table"
  | 3 => .object "RailPasses$Table"
  | 4 => .object "RailPasses$Table"
  | 5 => .object "RailPasses$Table"
  | 6 => .object "RailPasses$Table"
  | _ => .int
abbrev wsX00 : List Cond := u_ws RX0 TX0 8
theorem nmX0 : ∀ a, a < 8 → ∀ b, b < 8 → a ≠ b → (TX0 a).2.1 ≠ (TX0 b).2.1 := by decide +kernel
theorem tyX0_ok : ∀ k, k < 8 → parseFieldDescriptor (TX0 k).2.2.1 = some (tyX0 k) := by decide +kernel
def RX1 : String := "RailPasses$LawText"
def TX1 : u_T := fun k => match k with
  | 0 => ("RailPasses$LawText", "bytes", "[I", true)
  | 1 => ("RailPasses$LawText", "size", "I", false)
  | 2 => ("RailPasses$LawText", "first", "I", false)
  | 3 => ("RailPasses$LawText", "behind", "I", false)
  | 4 => ("RailPasses$LawText", "terms", "[I", true)
  | 5 => ("RailPasses$LawText", "kindsSeen", "I", false)
  | _ => ("RailPasses$LawText", "rules", "I", false)
def tyX1 : Nat → FieldType := fun k => match k with
  | 0 => .array .int
  | 1 => .int
  | 2 => .int
  | 3 => .int
  | 4 => .array .int
  | 5 => .int
  | _ => .int
abbrev wsX10 : List Cond := u_ws RX1 TX1 7
theorem nmX1 : ∀ a, a < 7 → ∀ b, b < 7 → a ≠ b → (TX1 a).2.1 ≠ (TX1 b).2.1 := by decide +kernel
theorem tyX1_ok : ∀ k, k < 7 → parseFieldDescriptor (TX1 k).2.2.1 = some (tyX1 k) := by decide +kernel
def RX2 : String := "RailPasses$Ledger"
def TX2 : u_T := fun k => match k with
  | 0 => ("RailPasses$Ledger", "order", "[I", true)
  | 1 => ("RailPasses$Ledger", "known", "I", false)
  | 2 => ("RailPasses$Ledger", "legs", "I", false)
  | 3 => ("RailPasses$Ledger", "wayless", "I", false)
  | 4 => ("RailPasses$Ledger", "doubted", "I", false)
  | _ => ("RailPasses$Ledger", "miles", "[I", true)
def tyX2 : Nat → FieldType := fun k => match k with
  | 0 => .array .int
  | 1 => .int
  | 2 => .int
  | 3 => .int
  | 4 => .int
  | _ => .array .int
abbrev wsX20 : List Cond := u_ws RX2 TX2 6
theorem nmX2 : ∀ a, a < 6 → ∀ b, b < 6 → a ≠ b → (TX2 a).2.1 ≠ (TX2 b).2.1 := by decide +kernel
theorem tyX2_ok : ∀ k, k < 6 → parseFieldDescriptor (TX2 k).2.2.1 = some (tyX2 k) := by decide +kernel
def RX3 : String := "RailPasses$Plan"
def TX3 : u_T := fun k => match k with
  | 0 => ("RailPasses$Plan", "days", "[I", true)
  | 1 => ("RailPasses$Plan", "spared", "[I", true)
  | 2 => ("RailPasses$Plan", "goers", "[I", true)
  | 3 => ("RailPasses$Plan", "size", "I", false)
  | 4 => ("RailPasses$Plan", "ranked", "[I", true)
  | 5 => ("RailPasses$Plan", "rankedSize", "I", false)
  | 6 => ("RailPasses$Plan", "daysToSpend", "I", false)
  | 7 => ("RailPasses$Plan", "within", "I", false)
  | 8 => ("RailPasses$Plan", "price", "I", false)
  | 9 => ("RailPasses$Plan", "fares", "I", false)
  | 10 => ("RailPasses$Plan", "spent", "I", false)
  | 11 => ("RailPasses$Plan", "cost", "I", false)
  | 12 => ("RailPasses$Plan", "chosen", "I", false)
  | _ => ("RailPasses$Plan", "start", "I", false)
def tyX3 : Nat → FieldType := fun k => match k with
  | 0 => .array .int
  | 1 => .array .int
  | 2 => .array .int
  | 3 => .int
  | 4 => .array .int
  | 5 => .int
  | 6 => .int
  | 7 => .int
  | 8 => .int
  | 9 => .int
  | 10 => .int
  | 11 => .int
  | 12 => .int
  | _ => .int
abbrev wsX30 : List Cond := u_ws RX3 TX3 14
theorem nmX3 : ∀ a, a < 14 → ∀ b, b < 14 → a ≠ b → (TX3 a).2.1 ≠ (TX3 b).2.1 := by decide +kernel
theorem tyX3_ok : ∀ k, k < 14 → parseFieldDescriptor (TX3 k).2.2.1 = some (tyX3 k) := by decide +kernel
def RX4 : String := "RailPasses$Proof"
def TX4 : u_T := fun k => match k with
  | _ => ("RailPasses$Proof", "rows", "LRailPasses$Table;", true)
def tyX4 : Nat → FieldType := fun k => match k with
  | _ => .object "RailPasses$Table"
abbrev wsX40 : List Cond := u_ws RX4 TX4 1
theorem nmX4 : ∀ a, a < 1 → ∀ b, b < 1 → a ≠ b → (TX4 a).2.1 ≠ (TX4 b).2.1 := by decide +kernel
theorem tyX4_ok : ∀ k, k < 1 → parseFieldDescriptor (TX4 k).2.2.1 = some (tyX4 k) := by decide +kernel
def RX5 : String := "RailPasses$Table"
def TX5 : u_T := fun k => match k with
  | 0 => ("RailPasses$Table", "cells", "[I", true)
  | 1 => ("RailPasses$Table", "limit", "I", true)
  | 2 => ("RailPasses$Table", "width", "I", true)
  | _ => ("RailPasses$Table", "size", "I", false)
def tyX5 : Nat → FieldType := fun k => match k with
  | 0 => .array .int
  | 1 => .int
  | 2 => .int
  | _ => .int
abbrev wsX50 : List Cond := u_ws RX5 TX5 4
theorem nmX5 : ∀ a, a < 4 → ∀ b, b < 4 → a ≠ b → (TX5 a).2.1 ≠ (TX5 b).2.1 := by decide +kernel
theorem tyX5_ok : ∀ k, k < 4 → parseFieldDescriptor (TX5 k).2.2.1 = some (tyX5 k) := by decide +kernel
def RX6 : String := "RailPasses$Ways"
def TX6 : u_T := fun k => match k with
  | _ => ("RailPasses$Ways", "keys", "[I", true)
def tyX6 : Nat → FieldType := fun k => match k with
  | _ => .array .int
abbrev wsX60 : List Cond := u_ws RX6 TX6 1
theorem nmX6 : ∀ a, a < 1 → ∀ b, b < 1 → a ≠ b → (TX6 a).2.1 ≠ (TX6 b).2.1 := by decide +kernel
theorem tyX6_ok : ∀ k, k < 1 → parseFieldDescriptor (TX6 k).2.2.1 = some (tyX6 k) := by decide +kernel
def RX7 : String := "RailPasses"
def TX7 : u_T := fun k => match k with
  | 0 => ("RailPasses", "now", "LRailPasses$Book;", true)
  | 1 => ("RailPasses", "kept", "LRailPasses$Book;", true)
  | 2 => ("RailPasses", "isKept", "Z", false)
  | 3 => ("RailPasses", "text", "LRailPasses$LawText;", true)
  | 4 => ("RailPasses", "ways", "LRailPasses$Ways;", true)
  | 5 => ("RailPasses", "plan", "LRailPasses$Plan;", true)
  | 6 => ("RailPasses", "proof", "LRailPasses$Proof;", true)
  | _ => ("RailPasses", "ledger", "LRailPasses$Ledger;", true)
def tyX7 : Nat → FieldType := fun k => match k with
  | 0 => .object "RailPasses$Book"
  | 1 => .object "RailPasses$Book"
  | 2 => .boolean
  | 3 => .object "RailPasses$LawText"
  | 4 => .object "RailPasses$Ways"
  | 5 => .object "RailPasses$Plan"
  | 6 => .object "RailPasses$Proof"
  | _ => .object "RailPasses$Ledger"
abbrev wsX70 : List Cond := u_ws RX7 TX7 8
theorem nmX7 : ∀ a, a < 8 → ∀ b, b < 8 → a ≠ b → (TX7 a).2.1 ≠ (TX7 b).2.1 := by decide +kernel
theorem tyX7_ok : ∀ k, k < 8 → parseFieldDescriptor (TX7 k).2.2.1 = some (tyX7 k) := by decide +kernel
def RX8 : String := "RailPassesModel"
def TX8 : u_T := fun k => match k with
  | 0 => ("RailPassesModel", "numbers", "[I", true)
  | 1 => ("RailPassesModel", "lines", "[I", true)
  | 2 => ("RailPassesModel", "trains", "[I", true)
  | 3 => ("RailPassesModel", "laws", "[I", true)
  | 4 => ("RailPassesModel", "passes", "[I", true)
  | 5 => ("RailPassesModel", "rides", "[I", true)
  | 6 => ("RailPassesModel", "wishes", "[I", true)
  | 7 => ("RailPassesModel", "scans", "[I", true)
  | 8 => ("RailPassesModel", "tape", "[I", true)
  | 9 => ("RailPassesModel", "tapeMany", "I", false)
  | 10 => ("RailPassesModel", "tokenKind", "I", false)
  | 11 => ("RailPassesModel", "tokenAt", "I", false)
  | 12 => ("RailPassesModel", "tokenEnd", "I", false)
  | 13 => ("RailPassesModel", "tokenValue", "I", false)
  | 14 => ("RailPassesModel", "fault", "I", false)
  | 15 => ("RailPassesModel", "seen", "I", false)
  | 16 => ("RailPassesModel", "gains", "[I", true)
  | 17 => ("RailPassesModel", "goers", "[I", true)
  | 18 => ("RailPassesModel", "isTaken", "[Z", true)
  | 19 => ("RailPassesModel", "takenMany", "I", false)
  | 20 => ("RailPassesModel", "takenGain", "I", false)
  | 21 => ("RailPassesModel", "takenGoers", "I", false)
  | 22 => ("RailPassesModel", "due", "[I", true)
  | 23 => ("RailPassesModel", "dueMany", "I", false)
  | 24 => ("RailPassesModel", "rows", "[I", true)
  | 25 => ("RailPassesModel", "rowMany", "I", false)
  | 26 => ("RailPassesModel", "far", "[I", true)
  | 27 => ("RailPassesModel", "told", "[I", true)
  | 28 => ("RailPassesModel", "rests", "[I", true)
  | 29 => ("RailPassesModel", "shares", "[I", true)
  | 30 => ("RailPassesModel", "isKept", "Z", false)
  | 31 => ("RailPassesModel", "kept", "[I", true)
  | _ => ("RailPassesModel", "place", "I", false)
def tyX8 : Nat → FieldType := fun k => match k with
  | 0 => .array .int
  | 1 => .array .int
  | 2 => .array .int
  | 3 => .array .int
  | 4 => .array .int
  | 5 => .array .int
  | 6 => .array .int
  | 7 => .array .int
  | 8 => .array .int
  | 9 => .int
  | 10 => .int
  | 11 => .int
  | 12 => .int
  | 13 => .int
  | 14 => .int
  | 15 => .int
  | 16 => .array .int
  | 17 => .array .int
  | 18 => .array .boolean
  | 19 => .int
  | 20 => .int
  | 21 => .int
  | 22 => .array .int
  | 23 => .int
  | 24 => .array .int
  | 25 => .int
  | 26 => .array .int
  | 27 => .array .int
  | 28 => .array .int
  | 29 => .array .int
  | 30 => .boolean
  | 31 => .array .int
  | _ => .int
abbrev wsX80 : List Cond := u_ws RX8 TX8 33
theorem nmX8 : ∀ a, a < 33 → ∀ b, b < 33 → a ≠ b → (TX8 a).2.1 ≠ (TX8 b).2.1 := by decide +kernel
theorem tyX8_ok : ∀ k, k < 33 → parseFieldDescriptor (TX8 k).2.2.1 = some (tyX8 k) := by decide +kernel
def RX9 : String := "RailPassesLaw"
abbrev rp_cls : List vw_C := [(RX0, TX0, 8), (RX1, TX1, 7), (RX2, TX2, 6), (RX3, TX3, 14), (RX4, TX4, 1), (RX5, TX5, 4), (RX6, TX6, 1), (RX7, TX7, 8), (RX8, TX8, 33)]
def rp_gt : List Cond := lw_tbl.filter goodWord
theorem rp_gt_of {w : Cond} (i : Nat) (h : lw_tbl[i]? = some w) (hg : goodWord w = true) : w ∈ rp_gt := List.mem_filter.mpr ⟨List.mem_of_getElem? h, hg⟩
theorem rp_gt_in {w : Cond} (h : w ∈ rp_gt) : w ∈ lw_tbl := (List.mem_filter.mp h).1
theorem rp_gt_good : GoodIn rp_gt rp_gt := fun w h => ⟨h, good_of_word (List.mem_filter.mp h).2⟩
def rp_cn (o : Nat) : String := [RX0, RX1, RX2, RX3, RX4, RX5, RX6, RX7, RX8, RX9].getD o ""
def rp_TT (o : Nat) : u_T := [TX0, TX1, TX2, TX3, TX4, TX5, TX6, TX7, TX8].getD o TX0
def rp_NN (o : Nat) : Nat := [8, 7, 6, 14, 1, 4, 1, 8, 33].getD o 0
def rp_ty (o : Nat) : Nat → FieldType := [tyX0, tyX1, tyX2, tyX3, tyX4, tyX5, tyX6, tyX7, tyX8].getD o tyX0
theorem rp_lay0 : ∀ k, k < 8 → lw_tbl[[171, 173, 175, 177, 179, 181, 183, 185].getD k 0]? = some (u_lay RX0 TX0 k) := by decide +kernel
theorem rp_in0 : ∀ w ∈ u_ws RX0 TX0 8, w ∈ rp_gt := by
  intro w hw
  obtain ⟨k, hk, rfl⟩ := List.mem_map.mp hw
  refine rp_gt_of _ (rp_lay0 k (List.mem_range.mp hk)) ?_
  unfold u_lay
  split <;> rfl
theorem rp_ins0 : Cond.instantiable RX0 8 ∈ rp_gt := rp_gt_of 106 (by decide +kernel) rfl
theorem rp_ini0 : Cond.initialized RX0 ∈ rp_gt := rp_gt_of 83 (by decide +kernel) rfl
theorem rp_lay1 : ∀ k, k < 7 → lw_tbl[[201, 203, 205, 207, 209, 211, 213].getD k 0]? = some (u_lay RX1 TX1 k) := by decide +kernel
theorem rp_in1 : ∀ w ∈ u_ws RX1 TX1 7, w ∈ rp_gt := by
  intro w hw
  obtain ⟨k, hk, rfl⟩ := List.mem_map.mp hw
  refine rp_gt_of _ (rp_lay1 k (List.mem_range.mp hk)) ?_
  unfold u_lay
  split <;> rfl
theorem rp_ins1 : Cond.instantiable RX1 7 ∈ rp_gt := rp_gt_of 189 (by decide +kernel) rfl
theorem rp_ini1 : Cond.initialized RX1 ∈ rp_gt := rp_gt_of 86 (by decide +kernel) rfl
theorem rp_lay2 : ∀ k, k < 6 → lw_tbl[[305, 307, 309, 311, 313, 315].getD k 0]? = some (u_lay RX2 TX2 k) := by decide +kernel
theorem rp_in2 : ∀ w ∈ u_ws RX2 TX2 6, w ∈ rp_gt := by
  intro w hw
  obtain ⟨k, hk, rfl⟩ := List.mem_map.mp hw
  refine rp_gt_of _ (rp_lay2 k (List.mem_range.mp hk)) ?_
  unfold u_lay
  split <;> rfl
theorem rp_ins2 : Cond.instantiable RX2 6 ∈ rp_gt := rp_gt_of 294 (by decide +kernel) rfl
theorem rp_ini2 : Cond.initialized RX2 ∈ rp_gt := rp_gt_of 90 (by decide +kernel) rfl
theorem rp_lay3 : ∀ k, k < 14 → lw_tbl[[251, 253, 255, 257, 259, 261, 263, 265, 267, 269, 271, 273, 275, 277].getD k 0]? = some (u_lay RX3 TX3 k) := by decide +kernel
theorem rp_in3 : ∀ w ∈ u_ws RX3 TX3 14, w ∈ rp_gt := by
  intro w hw
  obtain ⟨k, hk, rfl⟩ := List.mem_map.mp hw
  refine rp_gt_of _ (rp_lay3 k (List.mem_range.mp hk)) ?_
  unfold u_lay
  split <;> rfl
theorem rp_ins3 : Cond.instantiable RX3 14 ∈ rp_gt := rp_gt_of 232 (by decide +kernel) rfl
theorem rp_ini3 : Cond.initialized RX3 ∈ rp_gt := rp_gt_of 88 (by decide +kernel) rfl
theorem rp_lay4 : ∀ k, k < 1 → lw_tbl[[290].getD k 0]? = some (u_lay RX4 TX4 k) := by decide +kernel
theorem rp_in4 : ∀ w ∈ u_ws RX4 TX4 1, w ∈ rp_gt := by
  intro w hw
  obtain ⟨k, hk, rfl⟩ := List.mem_map.mp hw
  refine rp_gt_of _ (rp_lay4 k (List.mem_range.mp hk)) ?_
  unfold u_lay
  split <;> rfl
theorem rp_ins4 : Cond.instantiable RX4 1 ∈ rp_gt := rp_gt_of 281 (by decide +kernel) rfl
theorem rp_ini4 : Cond.initialized RX4 ∈ rp_gt := rp_gt_of 89 (by decide +kernel) rfl
theorem rp_lay5 : ∀ k, k < 4 → lw_tbl[[124, 126, 128, 130].getD k 0]? = some (u_lay RX5 TX5 k) := by decide +kernel
theorem rp_in5 : ∀ w ∈ u_ws RX5 TX5 4, w ∈ rp_gt := by
  intro w hw
  obtain ⟨k, hk, rfl⟩ := List.mem_map.mp hw
  refine rp_gt_of _ (rp_lay5 k (List.mem_range.mp hk)) ?_
  unfold u_lay
  split <;> rfl
theorem rp_ins5 : Cond.instantiable RX5 4 ∈ rp_gt := rp_gt_of 112 (by decide +kernel) rfl
theorem rp_ini5 : Cond.initialized RX5 ∈ rp_gt := rp_gt_of 84 (by decide +kernel) rfl
theorem rp_lay6 : ∀ k, k < 1 → lw_tbl[[228].getD k 0]? = some (u_lay RX6 TX6 k) := by decide +kernel
theorem rp_in6 : ∀ w ∈ u_ws RX6 TX6 1, w ∈ rp_gt := by
  intro w hw
  obtain ⟨k, hk, rfl⟩ := List.mem_map.mp hw
  refine rp_gt_of _ (rp_lay6 k (List.mem_range.mp hk)) ?_
  unfold u_lay
  split <;> rfl
theorem rp_ins6 : Cond.instantiable RX6 1 ∈ rp_gt := rp_gt_of 217 (by decide +kernel) rfl
theorem rp_ini6 : Cond.initialized RX6 ∈ rp_gt := rp_gt_of 87 (by decide +kernel) rfl
theorem rp_lay7 : ∀ k, k < 8 → lw_tbl[[326, 328, 330, 332, 334, 336, 338, 340].getD k 0]? = some (u_lay RX7 TX7 k) := by decide +kernel
theorem rp_in7 : ∀ w ∈ u_ws RX7 TX7 8, w ∈ rp_gt := by
  intro w hw
  obtain ⟨k, hk, rfl⟩ := List.mem_map.mp hw
  refine rp_gt_of _ (rp_lay7 k (List.mem_range.mp hk)) ?_
  unfold u_lay
  split <;> rfl
theorem rp_ins7 : Cond.instantiable RX7 8 ∈ rp_gt := rp_gt_of 98 (by decide +kernel) rfl
theorem rp_ini7 : Cond.initialized RX7 ∈ rp_gt := rp_gt_of 82 (by decide +kernel) rfl
theorem rp_lay8 : ∀ k, k < 33 → lw_tbl[[1019, 1021, 1023, 1025, 1027, 1029, 1031, 1033, 1035, 1037, 1039, 1041, 1043, 1045, 1047, 1049, 1051, 1053, 1055, 1057, 1059, 1061, 1063, 1065, 1067, 1069, 1071, 1073, 1075, 1077, 1079, 1081, 1083].getD k 0]? = some (u_lay RX8 TX8 k) := by decide +kernel
theorem rp_in8 : ∀ w ∈ u_ws RX8 TX8 33, w ∈ rp_gt := by
  intro w hw
  obtain ⟨k, hk, rfl⟩ := List.mem_map.mp hw
  refine rp_gt_of _ (rp_lay8 k (List.mem_range.mp hk)) ?_
  unfold u_lay
  split <;> rfl
theorem rp_ins8 : Cond.instantiable RX8 33 ∈ rp_gt := rp_gt_of 981 (by decide +kernel) rfl
theorem rp_ini8 : Cond.initialized RX8 ∈ rp_gt := rp_gt_of 91 (by decide +kernel) rfl
theorem rp_ini9 : Cond.initialized RX9 ∈ rp_gt := rp_gt_of 81 (by decide +kernel) rfl
/-- what is known of a class -/
def rp_CF (ci : Nat) : Prop := rp_cls[ci]? = some (rp_cn ci, rp_TT ci, rp_NN ci) ∧ (∀ w ∈ u_ws (rp_cn ci) (rp_TT ci) (rp_NN ci), w ∈ rp_gt) ∧ (∀ k, k < rp_NN ci → parseFieldDescriptor (rp_TT ci k).2.2.1 = some (rp_ty ci k)) ∧ (∀ a, a < rp_NN ci → ∀ b, b < rp_NN ci → a ≠ b → (rp_TT ci a).2.1 ≠ (rp_TT ci b).2.1) ∧ (rp_cf ci).length = rp_NN ci ∧ Cond.instantiable (rp_cn ci) (rp_NN ci) ∈ rp_gt ∧ Cond.initialized (rp_cn ci) ∈ rp_gt ∧ (∀ k, k < rp_NN ci → (rp_TT ci k).1 = rp_cn ci) ∧ (∀ k, k < rp_NN ci → defaultValue (rp_ty ci k) = (match (rp_cf ci)[k]? with
  | some (some v) => v
  | _ => .int 0)) ∧ ∀ k, k < rp_NN ci → ∀ a, (rp_cf ci)[k]? ≠ some (some (.ref a))
theorem rp_CF0 : rp_CF 0 := ⟨rfl, rp_in0, tyX0_ok, nmX0, rfl, rp_ins0, rp_ini0, by decide +kernel, by decide +kernel, fun k hk a => by
  have h : ∀ k, k < 8 → (match (rp_cf 0)[k]? with
    | some (some (.ref _)) => false
    | _ => true) = true := by decide +kernel
  intro e
  have := h k hk
  rw [e] at this
  cases this⟩
theorem rp_CF1 : rp_CF 1 := ⟨rfl, rp_in1, tyX1_ok, nmX1, rfl, rp_ins1, rp_ini1, by decide +kernel, by decide +kernel, fun k hk a => by
  have h : ∀ k, k < 7 → (match (rp_cf 1)[k]? with
    | some (some (.ref _)) => false
    | _ => true) = true := by decide +kernel
  intro e
  have := h k hk
  rw [e] at this
  cases this⟩
theorem rp_CF2 : rp_CF 2 := ⟨rfl, rp_in2, tyX2_ok, nmX2, rfl, rp_ins2, rp_ini2, by decide +kernel, by decide +kernel, fun k hk a => by
  have h : ∀ k, k < 6 → (match (rp_cf 2)[k]? with
    | some (some (.ref _)) => false
    | _ => true) = true := by decide +kernel
  intro e
  have := h k hk
  rw [e] at this
  cases this⟩
theorem rp_CF3 : rp_CF 3 := ⟨rfl, rp_in3, tyX3_ok, nmX3, rfl, rp_ins3, rp_ini3, by decide +kernel, by decide +kernel, fun k hk a => by
  have h : ∀ k, k < 14 → (match (rp_cf 3)[k]? with
    | some (some (.ref _)) => false
    | _ => true) = true := by decide +kernel
  intro e
  have := h k hk
  rw [e] at this
  cases this⟩
theorem rp_CF4 : rp_CF 4 := ⟨rfl, rp_in4, tyX4_ok, nmX4, rfl, rp_ins4, rp_ini4, by decide +kernel, by decide +kernel, fun k hk a => by
  have h : ∀ k, k < 1 → (match (rp_cf 4)[k]? with
    | some (some (.ref _)) => false
    | _ => true) = true := by decide +kernel
  intro e
  have := h k hk
  rw [e] at this
  cases this⟩
theorem rp_CF5 : rp_CF 5 := ⟨rfl, rp_in5, tyX5_ok, nmX5, rfl, rp_ins5, rp_ini5, by decide +kernel, by decide +kernel, fun k hk a => by
  have h : ∀ k, k < 4 → (match (rp_cf 5)[k]? with
    | some (some (.ref _)) => false
    | _ => true) = true := by decide +kernel
  intro e
  have := h k hk
  rw [e] at this
  cases this⟩
theorem rp_CF6 : rp_CF 6 := ⟨rfl, rp_in6, tyX6_ok, nmX6, rfl, rp_ins6, rp_ini6, by decide +kernel, by decide +kernel, fun k hk a => by
  have h : ∀ k, k < 1 → (match (rp_cf 6)[k]? with
    | some (some (.ref _)) => false
    | _ => true) = true := by decide +kernel
  intro e
  have := h k hk
  rw [e] at this
  cases this⟩
theorem rp_CF7 : rp_CF 7 := ⟨rfl, rp_in7, tyX7_ok, nmX7, rfl, rp_ins7, rp_ini7, by decide +kernel, by decide +kernel, fun k hk a => by
  have h : ∀ k, k < 8 → (match (rp_cf 7)[k]? with
    | some (some (.ref _)) => false
    | _ => true) = true := by decide +kernel
  intro e
  have := h k hk
  rw [e] at this
  cases this⟩
theorem rp_CF8 : rp_CF 8 := ⟨rfl, rp_in8, tyX8_ok, nmX8, rfl, rp_ins8, rp_ini8, by decide +kernel, by decide +kernel, fun k hk a => by
  have h : ∀ k, k < 33 → (match (rp_cf 8)[k]? with
    | some (some (.ref _)) => false
    | _ => true) = true := by decide +kernel
  intro e
  have := h k hk
  rw [e] at this
  cases this⟩
theorem rp_CFs : ∀ ci, ci < 9 → rp_CF ci := fun ci h => match ci, h with
  | 0, _ => rp_CF0
  | 1, _ => rp_CF1
  | 2, _ => rp_CF2
  | 3, _ => rp_CF3
  | 4, _ => rp_CF4
  | 5, _ => rp_CF5
  | 6, _ => rp_CF6
  | 7, _ => rp_CF7
  | 8, _ => rp_CF8
  | n + 9, h => absurd h (by omega)
