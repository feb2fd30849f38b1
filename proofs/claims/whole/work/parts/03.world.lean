-- the classes, the cells and what they hold (written by wip/whole/gen/world.py)
def R_T : String := "TriSplits"
def F_T : u_T := fun k => match k with
  | 0 => ("TriSplits", "reader", "LTriSplits$Reader;", true)
  | 1 => ("TriSplits", "store", "LTriSplits$Store;", true)
  | 2 => ("TriSplits", "factors", "LTriSplits$Factors;", true)
  | 3 => ("TriSplits", "others", "LTriSplits$Factors;", true)
  | 4 => ("TriSplits", "orders", "LTriSplits$Orders;", true)
  | 5 => ("TriSplits", "families", "LTriSplits$Families;", true)
  | 6 => ("TriSplits", "field", "LTriSplits$Field;", true)
  | 7 => ("TriSplits", "rows", "LTriSplits$Rows;", true)
  | _ => ("TriSplits", "letters", "LTriSplits$Letters;", true)
def G_T : Nat → FieldType := fun k => match k with
  | 0 => .object "TriSplits$Reader"
  | 1 => .object "TriSplits$Store"
  | 2 => .object "TriSplits$Factors"
  | 3 => .object "TriSplits$Factors"
  | 4 => .object "TriSplits$Orders"
  | 5 => .object "TriSplits$Families"
  | 6 => .object "TriSplits$Field"
  | 7 => .object "TriSplits$Rows"
  | _ => .object "TriSplits$Letters"
theorem n_T : ∀ a, a < 9 → ∀ b, b < 9 → a ≠ b → (F_T a).2.1 ≠ (F_T b).2.1 := by decide +kernel
theorem ty_T : ∀ k, k < 9 → parseFieldDescriptor (F_T k).2.2.1 = some (G_T k) := by decide +kernel
theorem ci_T : ∀ k, k < 9 → u_lay R_T F_T k ∈ ay_G
  | 0, _ => wd_203
  | 1, _ => wd_205
  | 2, _ => wd_207
  | 3, _ => wd_209
  | 4, _ => wd_211
  | 5, _ => wd_213
  | 6, _ => wd_215
  | 7, _ => wd_217
  | 8, _ => wd_219
  | k + 9, h => absurd h (by omega)
theorem i_T : ∀ w ∈ u_ws R_T F_T 9, w ∈ ay_G := fun w h => by
  obtain ⟨k, hk, rfl⟩ := List.mem_map.mp h
  exact ci_T k (List.mem_range.mp hk)
def R_Reader : String := "TriSplits$Reader"
def F_Reader : u_T := fun k => match k with
  | 0 => ("TriSplits$Reader", "tape", "LTriSplits$Tape;", true)
  | 1 => ("TriSplits$Reader", "polys", "[J", true)
  | 2 => ("TriSplits$Reader", "opened", "[I", true)
  | 3 => ("TriSplits$Reader", "at", "I", false)
  | 4 => ("TriSplits$Reader", "open", "I", false)
  | 5 => ("TriSplits$Reader", "fault", "I", false)
  | 6 => ("TriSplits$Reader", "within", "I", false)
  | _ => ("TriSplits$Reader", "innermost", "I", false)
def G_Reader : Nat → FieldType := fun k => match k with
  | 0 => .object "TriSplits$Tape"
  | 1 => .array .long
  | 2 => .array .int
  | 3 => .int
  | 4 => .int
  | 5 => .int
  | 6 => .int
  | _ => .int
theorem n_Reader : ∀ a, a < 8 → ∀ b, b < 8 → a ≠ b → (F_Reader a).2.1 ≠ (F_Reader b).2.1 := by decide +kernel
theorem ty_Reader : ∀ k, k < 8 → parseFieldDescriptor (F_Reader k).2.2.1 = some (G_Reader k) := by decide +kernel
theorem ci_Reader : ∀ k, k < 8 → u_lay R_Reader F_Reader k ∈ ay_G
  | 0, _ => wd_58
  | 1, _ => wd_60
  | 2, _ => wd_62
  | 3, _ => wd_64
  | 4, _ => wd_66
  | 5, _ => wd_68
  | 6, _ => wd_70
  | 7, _ => wd_72
  | k + 8, h => absurd h (by omega)
theorem i_Reader : ∀ w ∈ u_ws R_Reader F_Reader 8, w ∈ ay_G := fun w h => by
  obtain ⟨k, hk, rfl⟩ := List.mem_map.mp h
  exact ci_Reader k (List.mem_range.mp hk)
def R_Tape : String := "TriSplits$Tape"
def F_Tape : u_T := fun k => match k with
  | 0 => ("TriSplits$Tape", "bytes", "[B", true)
  | _ => ("TriSplits$Tape", "size", "I", false)
def G_Tape : Nat → FieldType := fun k => match k with
  | 0 => .array .byte
  | _ => .int
theorem n_Tape : ∀ a, a < 2 → ∀ b, b < 2 → a ≠ b → (F_Tape a).2.1 ≠ (F_Tape b).2.1 := by decide +kernel
theorem ty_Tape : ∀ k, k < 2 → parseFieldDescriptor (F_Tape k).2.2.1 = some (G_Tape k) := by decide +kernel
theorem ci_Tape : ∀ k, k < 2 → u_lay R_Tape F_Tape k ∈ ay_G
  | 0, _ => wd_44
  | 1, _ => wd_46
  | k + 2, h => absurd h (by omega)
theorem i_Tape : ∀ w ∈ u_ws R_Tape F_Tape 2, w ∈ ay_G := fun w h => by
  obtain ⟨k, hk, rfl⟩ := List.mem_map.mp h
  exact ci_Tape k (List.mem_range.mp hk)
def R_Store : String := "TriSplits$Store"
def F_Store : u_T := fun k => match k with
  | 0 => ("TriSplits$Store", "now", "[J", true)
  | 1 => ("TriSplits$Store", "past", "[J", true)
  | 2 => ("TriSplits$Store", "shelves", "[J", true)
  | 3 => ("TriSplits$Store", "undoable", "I", false)
  | 4 => ("TriSplits$Store", "slot", "I", false)
  | _ => ("TriSplits$Store", "kept", "I", false)
def G_Store : Nat → FieldType := fun k => match k with
  | 0 => .array .long
  | 1 => .array .long
  | 2 => .array .long
  | 3 => .int
  | 4 => .int
  | _ => .int
theorem n_Store : ∀ a, a < 6 → ∀ b, b < 6 → a ≠ b → (F_Store a).2.1 ≠ (F_Store b).2.1 := by decide +kernel
theorem ty_Store : ∀ k, k < 6 → parseFieldDescriptor (F_Store k).2.2.1 = some (G_Store k) := by decide +kernel
theorem ci_Store : ∀ k, k < 6 → u_lay R_Store F_Store k ∈ ay_G
  | 0, _ => wd_89
  | 1, _ => wd_91
  | 2, _ => wd_93
  | 3, _ => wd_95
  | 4, _ => wd_97
  | 5, _ => wd_99
  | k + 6, h => absurd h (by omega)
theorem i_Store : ∀ w ∈ u_ws R_Store F_Store 6, w ∈ ay_G := fun w h => by
  obtain ⟨k, hk, rfl⟩ := List.mem_map.mp h
  exact ci_Store k (List.mem_range.mp hk)
def R_Factors : String := "TriSplits$Factors"
def F_Factors : u_T := fun k => match k with
  | 0 => ("TriSplits$Factors", "bases", "[J", true)
  | 1 => ("TriSplits$Factors", "times", "[I", true)
  | 2 => ("TriSplits$Factors", "parts", "[J", true)
  | 3 => ("TriSplits$Factors", "unlike", "I", false)
  | _ => ("TriSplits$Factors", "all", "I", false)
def G_Factors : Nat → FieldType := fun k => match k with
  | 0 => .array .long
  | 1 => .array .int
  | 2 => .array .long
  | 3 => .int
  | _ => .int
theorem n_Factors : ∀ a, a < 5 → ∀ b, b < 5 → a ≠ b → (F_Factors a).2.1 ≠ (F_Factors b).2.1 := by decide +kernel
theorem ty_Factors : ∀ k, k < 5 → parseFieldDescriptor (F_Factors k).2.2.1 = some (G_Factors k) := by decide +kernel
theorem ci_Factors : ∀ k, k < 5 → u_lay R_Factors F_Factors k ∈ ay_G
  | 0, _ => wd_113
  | 1, _ => wd_115
  | 2, _ => wd_117
  | 3, _ => wd_119
  | 4, _ => wd_121
  | k + 5, h => absurd h (by omega)
theorem i_Factors : ∀ w ∈ u_ws R_Factors F_Factors 5, w ∈ ay_G := fun w h => by
  obtain ⟨k, hk, rfl⟩ := List.mem_map.mp h
  exact ci_Factors k (List.mem_range.mp hk)
def R_Orders : String := "TriSplits$Orders"
def F_Orders : u_T := fun k => match k with
  | 0 => ("TriSplits$Orders", "primes", "[J", true)
  | _ => ("TriSplits$Orders", "many", "I", false)
def G_Orders : Nat → FieldType := fun k => match k with
  | 0 => .array .long
  | _ => .int
theorem n_Orders : ∀ a, a < 2 → ∀ b, b < 2 → a ≠ b → (F_Orders a).2.1 ≠ (F_Orders b).2.1 := by decide +kernel
theorem ty_Orders : ∀ k, k < 2 → parseFieldDescriptor (F_Orders k).2.2.1 = some (G_Orders k) := by decide +kernel
theorem ci_Orders : ∀ k, k < 2 → u_lay R_Orders F_Orders k ∈ ay_G
  | 0, _ => wd_132
  | 1, _ => wd_134
  | k + 2, h => absurd h (by omega)
theorem i_Orders : ∀ w ∈ u_ws R_Orders F_Orders 2, w ∈ ay_G := fun w h => by
  obtain ⟨k, hk, rfl⟩ := List.mem_map.mp h
  exact ci_Orders k (List.mem_range.mp hk)
def R_Families : String := "TriSplits$Families"
def F_Families : u_T := fun k => match k with
  | _ => ("TriSplits$Families", "orders", "LTriSplits$Orders;", true)
def G_Families : Nat → FieldType := fun k => match k with
  | _ => .object "TriSplits$Orders"
theorem n_Families : ∀ a, a < 1 → ∀ b, b < 1 → a ≠ b → (F_Families a).2.1 ≠ (F_Families b).2.1 := by decide +kernel
theorem ty_Families : ∀ k, k < 1 → parseFieldDescriptor (F_Families k).2.2.1 = some (G_Families k) := by decide +kernel
theorem ci_Families : ∀ k, k < 1 → u_lay R_Families F_Families k ∈ ay_G
  | 0, _ => wd_146
  | k + 1, h => absurd h (by omega)
theorem i_Families : ∀ w ∈ u_ws R_Families F_Families 1, w ∈ ay_G := fun w h => by
  obtain ⟨k, hk, rfl⟩ := List.mem_map.mp h
  exact ci_Families k (List.mem_range.mp hk)
def R_Field : String := "TriSplits$Field"
def F_Field : u_T := fun k => match k with
  | 0 => ("TriSplits$Field", "coefficients", "[J", true)
  | _ => ("TriSplits$Field", "powers", "[J", true)
def G_Field : Nat → FieldType := fun k => match k with
  | 0 => .array .long
  | _ => .array .long
theorem n_Field : ∀ a, a < 2 → ∀ b, b < 2 → a ≠ b → (F_Field a).2.1 ≠ (F_Field b).2.1 := by decide +kernel
theorem ty_Field : ∀ k, k < 2 → parseFieldDescriptor (F_Field k).2.2.1 = some (G_Field k) := by decide +kernel
theorem ci_Field : ∀ k, k < 2 → u_lay R_Field F_Field k ∈ ay_G
  | 0, _ => wd_157
  | 1, _ => wd_159
  | k + 2, h => absurd h (by omega)
theorem i_Field : ∀ w ∈ u_ws R_Field F_Field 2, w ∈ ay_G := fun w h => by
  obtain ⟨k, hk, rfl⟩ := List.mem_map.mp h
  exact ci_Field k (List.mem_range.mp hk)
def R_Rows : String := "TriSplits$Rows"
def F_Rows : u_T := fun k => match k with
  | 0 => ("TriSplits$Rows", "row", "[J", true)
  | 1 => ("TriSplits$Rows", "many", "I", false)
  | 2 => ("TriSplits$Rows", "multipleN", "I", false)
  | _ => ("TriSplits$Rows", "multipleK", "I", false)
def G_Rows : Nat → FieldType := fun k => match k with
  | 0 => .array .long
  | 1 => .int
  | 2 => .int
  | _ => .int
theorem n_Rows : ∀ a, a < 4 → ∀ b, b < 4 → a ≠ b → (F_Rows a).2.1 ≠ (F_Rows b).2.1 := by decide +kernel
theorem ty_Rows : ∀ k, k < 4 → parseFieldDescriptor (F_Rows k).2.2.1 = some (G_Rows k) := by decide +kernel
theorem ci_Rows : ∀ k, k < 4 → u_lay R_Rows F_Rows k ∈ ay_G
  | 0, _ => wd_172
  | 1, _ => wd_174
  | 2, _ => wd_176
  | 3, _ => wd_178
  | k + 4, h => absurd h (by omega)
theorem i_Rows : ∀ w ∈ u_ws R_Rows F_Rows 4, w ∈ ay_G := fun w h => by
  obtain ⟨k, hk, rfl⟩ := List.mem_map.mp h
  exact ci_Rows k (List.mem_range.mp hk)
def R_Letters : String := "TriSplits$Letters"
def F_Letters : u_T := fun k => match k with
  | 0 => ("TriSplits$Letters", "bytes", "[B", true)
  | _ => ("TriSplits$Letters", "size", "I", false)
def G_Letters : Nat → FieldType := fun k => match k with
  | 0 => .array .byte
  | _ => .int
theorem n_Letters : ∀ a, a < 2 → ∀ b, b < 2 → a ≠ b → (F_Letters a).2.1 ≠ (F_Letters b).2.1 := by decide +kernel
theorem ty_Letters : ∀ k, k < 2 → parseFieldDescriptor (F_Letters k).2.2.1 = some (G_Letters k) := by decide +kernel
theorem ci_Letters : ∀ k, k < 2 → u_lay R_Letters F_Letters k ∈ ay_G
  | 0, _ => wd_189
  | 1, _ => wd_191
  | k + 2, h => absurd h (by omega)
theorem i_Letters : ∀ w ∈ u_ws R_Letters F_Letters 2, w ∈ ay_G := fun w h => by
  obtain ⟨k, hk, rfl⟩ := List.mem_map.mp h
  exact ci_Letters k (List.mem_range.mp hk)
def R_M : String := "TriSplitsModel"
def F_M : u_T := fun k => match k with
  | 0 => ("TriSplitsModel", "now", "[J", true)
  | 1 => ("TriSplitsModel", "was", "[J", true)
  | 2 => ("TriSplitsModel", "undone", "I", false)
  | 3 => ("TriSplitsModel", "kept", "[J", true)
  | 4 => ("TriSplitsModel", "isKept", "[Z", true)
  | 5 => ("TriSplitsModel", "factor", "[J", true)
  | 6 => ("TriSplitsModel", "factors", "I", false)
  | 7 => ("TriSplitsModel", "factored", "J", false)
  | 8 => ("TriSplitsModel", "prime", "[J", true)
  | 9 => ("TriSplitsModel", "primes", "I", false)
  | 10 => ("TriSplitsModel", "powers", "[J", true)
  | 11 => ("TriSplitsModel", "rows", "[J", true)
  | 12 => ("TriSplitsModel", "whiches", "[J", true)
  | 13 => ("TriSplitsModel", "solution", "J", false)
  | 14 => ("TriSplitsModel", "leads", "[I", true)
  | 15 => ("TriSplitsModel", "doing", "[J", true)
  | 16 => ("TriSplitsModel", "twice", "[J", true)
  | 17 => ("TriSplitsModel", "spelt", "I", false)
  | 18 => ("TriSplitsModel", "wanted", "I", false)
  | 19 => ("TriSplitsModel", "found", "I", false)
  | 20 => ("TriSplitsModel", "tape", "[B", true)
  | 21 => ("TriSplitsModel", "taped", "I", false)
  | 22 => ("TriSplitsModel", "spot", "I", false)
  | 23 => ("TriSplitsModel", "wrong", "I", false)
  | 24 => ("TriSplitsModel", "wrongOpen", "I", false)
  | 25 => ("TriSplitsModel", "wrongAt", "I", false)
  | 26 => ("TriSplitsModel", "number", "I", false)
  | 27 => ("TriSplitsModel", "numberAt", "I", false)
  | 28 => ("TriSplitsModel", "open", "I", false)
  | 29 => ("TriSplitsModel", "openAt", "[I", true)
  | 30 => ("TriSplitsModel", "value", "J", false)
  | 31 => ("TriSplitsModel", "read", "[J", true)
  | 32 => ("TriSplitsModel", "statements", "I", false)
  | 33 => ("TriSplitsModel", "divisors", "[J", true)
  | _ => ("TriSplitsModel", "divisorMany", "I", false)
def G_M : Nat → FieldType := fun k => match k with
  | 0 => .array .long
  | 1 => .array .long
  | 2 => .int
  | 3 => .array .long
  | 4 => .array .boolean
  | 5 => .array .long
  | 6 => .int
  | 7 => .long
  | 8 => .array .long
  | 9 => .int
  | 10 => .array .long
  | 11 => .array .long
  | 12 => .array .long
  | 13 => .long
  | 14 => .array .int
  | 15 => .array .long
  | 16 => .array .long
  | 17 => .int
  | 18 => .int
  | 19 => .int
  | 20 => .array .byte
  | 21 => .int
  | 22 => .int
  | 23 => .int
  | 24 => .int
  | 25 => .int
  | 26 => .int
  | 27 => .int
  | 28 => .int
  | 29 => .array .int
  | 30 => .long
  | 31 => .array .long
  | 32 => .int
  | 33 => .array .long
  | _ => .int
theorem n_M : ∀ a, a < 35 → ∀ b, b < 35 → a ≠ b → (F_M a).2.1 ≠ (F_M b).2.1 := by decide +kernel
theorem ty_M : ∀ k, k < 35 → parseFieldDescriptor (F_M k).2.2.1 = some (G_M k) := by decide +kernel
theorem ci_M : ∀ k, k < 35 → u_lay R_M F_M k ∈ ay_G
  | 0, _ => wd_1112
  | 1, _ => wd_1114
  | 2, _ => wd_1116
  | 3, _ => wd_1118
  | 4, _ => wd_1120
  | 5, _ => wd_1122
  | 6, _ => wd_1124
  | 7, _ => wd_1126
  | 8, _ => wd_1128
  | 9, _ => wd_1130
  | 10, _ => wd_1132
  | 11, _ => wd_1134
  | 12, _ => wd_1136
  | 13, _ => wd_1138
  | 14, _ => wd_1140
  | 15, _ => wd_1142
  | 16, _ => wd_1144
  | 17, _ => wd_1146
  | 18, _ => wd_1148
  | 19, _ => wd_1150
  | 20, _ => wd_1152
  | 21, _ => wd_1154
  | 22, _ => wd_1156
  | 23, _ => wd_1158
  | 24, _ => wd_1160
  | 25, _ => wd_1162
  | 26, _ => wd_1164
  | 27, _ => wd_1166
  | 28, _ => wd_1168
  | 29, _ => wd_1170
  | 30, _ => wd_1172
  | 31, _ => wd_1174
  | 32, _ => wd_1176
  | 33, _ => wd_1178
  | 34, _ => wd_1180
  | k + 35, h => absurd h (by omega)
theorem i_M : ∀ w ∈ u_ws R_M F_M 35, w ∈ ay_G := fun w h => by
  obtain ⟨k, hk, rfl⟩ := List.mem_map.mp h
  exact ci_M k (List.mem_range.mp hk)
abbrev ay_cl : List vw_C := [(R_T, F_T, 9), (R_Reader, F_Reader, 8), (R_Tape, F_Tape, 2), (R_Store, F_Store, 6), (R_Factors, F_Factors, 5), (R_Orders, F_Orders, 2), (R_Families, F_Families, 1), (R_Field, F_Field, 2), (R_Rows, F_Rows, 4), (R_Letters, F_Letters, 2), (R_M, F_M, 35)]
abbrev Wd : Type := (Nat → Nat → Int32) × (Nat → Nat → Int64)
/-- the base, the tables' numbers of the classes, of the four kinds of arrays, where the String constants and their rows of bytes lie -/
abbrev ayG : Type := Nat × va_G × (Nat → ClassId) × (Nat → Nat) × (Nat → Nat)
def ay_A (g : ayG) : Nat → Prop := fun q => g.1 ≤ q
abbrev ay_tys (g : ayG) : List (ClassId × FieldType) := [(g.2.2.1 0, .long), (g.2.2.1 1, .int), (g.2.2.1 2, .byte), (g.2.2.1 3, .boolean)]
/-- each cell: 0 a row of longs, 1 of ints, 2 of bytes, 3 of booleans, with its length; 10 and on: an object of a class -/
def ay_shL : List (Nat × Nat) := [(10, 0), (11, 0), (12, 0), (2, 300), (0, 10), (1, 6), (13, 0), (0, 13), (0, 130), (0, 26), (14, 0), (0, 31), (1, 31), (0, 31), (14, 0), (0, 31), (1, 31), (0, 31), (15, 0), (0, 16), (16, 0), (15, 0), (0, 16), (17, 0), (0, 32), (0, 256), (18, 0), (0, 2880), (19, 0), (2, 400), (20, 0), (0, 14), (0, 140), (0, 28), (3, 2), (0, 32), (0, 20), (0, 301), (0, 64), (0, 64), (1, 64), (0, 31), (0, 31), (2, 300), (1, 6), (0, 10), (0, 8192)]
def ay_sh (c : Nat) : Nat × Nat := ay_shL.getD c (99, 0)
theorem ay_shlt {c k n : Nat} (h : ay_sh c = (k, n)) (hk : k ≠ 99) : c < 47 := by
  rcases Nat.lt_or_ge c 47 with q | q
  · exact q
  · exfalso
    have h1 : ay_shL[c]? = none := List.getElem?_eq_none (by simpa [ay_shL] using q)
    unfold ay_sh at h
    rw [List.getD_eq_getElem?_getD, h1] at h
    exact hk (Prod.mk.inj h).1.symm
def ob_T (g : ayG) (w : Wd) (c : Nat) : List Value := [.ref (g.1 + (c + 1)), .ref (g.1 + (c + 6)), .ref (g.1 + (c + 10)), .ref (g.1 + (c + 14)), .ref (g.1 + (c + 18)), .ref (g.1 + (c + 20)), .ref (g.1 + (c + 23)), .ref (g.1 + (c + 26)), .ref (g.1 + (c + 28))]
def ob_Reader (g : ayG) (w : Wd) (c : Nat) : List Value := [.ref (g.1 + (c + 1)), .ref (g.1 + (c + 3)), .ref (g.1 + (c + 4)), .int (w.1 c 3), .int (w.1 c 4), .int (w.1 c 5), .int (w.1 c 6), .int (w.1 c 7)]
def ob_Tape (g : ayG) (w : Wd) (c : Nat) : List Value := [.ref (g.1 + (c + 1)), .int (w.1 c 1)]
def ob_Store (g : ayG) (w : Wd) (c : Nat) : List Value := [.ref (g.1 + (c + 1)), .ref (g.1 + (c + 2)), .ref (g.1 + (c + 3)), .int (w.1 c 3), .int (w.1 c 4), .int (w.1 c 5)]
def ob_Factors (g : ayG) (w : Wd) (c : Nat) : List Value := [.ref (g.1 + (c + 1)), .ref (g.1 + (c + 2)), .ref (g.1 + (c + 3)), .int (w.1 c 3), .int (w.1 c 4)]
def ob_Orders (g : ayG) (w : Wd) (c : Nat) : List Value := [.ref (g.1 + (c + 1)), .int (w.1 c 1)]
def ob_Families (g : ayG) (w : Wd) (c : Nat) : List Value := [.ref (g.1 + (c + 1))]
def ob_Field (g : ayG) (w : Wd) (c : Nat) : List Value := [.ref (g.1 + (c + 1)), .ref (g.1 + (c + 2))]
def ob_Rows (g : ayG) (w : Wd) (c : Nat) : List Value := [.ref (g.1 + (c + 1)), .int (w.1 c 1), .int (w.1 c 2), .int (w.1 c 3)]
def ob_Letters (g : ayG) (w : Wd) (c : Nat) : List Value := [.ref (g.1 + (c + 1)), .int (w.1 c 1)]
def ob_M (g : ayG) (w : Wd) (c : Nat) : List Value := [.ref (g.1 + (c + 1)), .ref (g.1 + (c + 2)), .int (w.1 c 2), .ref (g.1 + (c + 3)), .ref (g.1 + (c + 4)), .ref (g.1 + (c + 5)), .int (w.1 c 6), .long (w.2 c 7), .ref (g.1 + (c + 6)), .int (w.1 c 9), .ref (g.1 + (c + 7)), .ref (g.1 + (c + 8)), .ref (g.1 + (c + 9)), .long (w.2 c 13), .ref (g.1 + (c + 10)), .ref (g.1 + (c + 11)), .ref (g.1 + (c + 12)), .int (w.1 c 17), .int (w.1 c 18), .int (w.1 c 19), .ref (g.1 + (c + 13)), .int (w.1 c 21), .int (w.1 c 22), .int (w.1 c 23), .int (w.1 c 24), .int (w.1 c 25), .int (w.1 c 26), .int (w.1 c 27), .int (w.1 c 28), .ref (g.1 + (c + 14)), .long (w.2 c 30), .ref (g.1 + (c + 15)), .int (w.1 c 32), .ref (g.1 + (c + 16)), .int (w.1 c 34)]
def ay_ob (g : ayG) (w : Wd) (c : Nat) : Nat → Nat × List Value
  | 10 => (0, ob_T g w c)
  | 11 => (1, ob_Reader g w c)
  | 12 => (2, ob_Tape g w c)
  | 13 => (3, ob_Store g w c)
  | 14 => (4, ob_Factors g w c)
  | 15 => (5, ob_Orders g w c)
  | 16 => (6, ob_Families g w c)
  | 17 => (7, ob_Field g w c)
  | 18 => (8, ob_Rows g w c)
  | 19 => (9, ob_Letters g w c)
  | 20 => (10, ob_M g w c)
  | _ => (99, [])
def ay_el (g : ayG) (w : Wd) (c : Nat) : va_E :=
  if (ay_sh c).1 = 0 then .inl (g.2.2.1 0, (ay_sh c).2, .inr (.inl (w.2 c)))
  else if (ay_sh c).1 = 1 then .inl (g.2.2.1 1, (ay_sh c).2, .inl (w.1 c))
  else if (ay_sh c).1 = 2 then .inl (g.2.2.1 2, (ay_sh c).2, .inl (w.1 c))
  else if (ay_sh c).1 = 3 then .inl (g.2.2.1 3, (ay_sh c).2, .inl (w.1 c))
  else .inr (ay_ob g w c (ay_sh c).1)
def ay_W (g : ayG) (w : Wd) : va_W := (List.range 47).map fun c => (g.1 + c, ay_el g w c)
theorem el_J {g : ayG} {w : Wd} {c n : Nat} (h : ay_sh c = (0, n)) : ay_el g w c = .inl (g.2.2.1 0, n, .inr (.inl (w.2 c))) := by simp [ay_el, h]
theorem el_I {g : ayG} {w : Wd} {c n : Nat} (h : ay_sh c = (1, n)) : ay_el g w c = .inl (g.2.2.1 1, n, .inl (w.1 c)) := by simp [ay_el, h]
theorem el_B {g : ayG} {w : Wd} {c n : Nat} (h : ay_sh c = (2, n)) : ay_el g w c = .inl (g.2.2.1 2, n, .inl (w.1 c)) := by simp [ay_el, h]
theorem el_Z {g : ayG} {w : Wd} {c n : Nat} (h : ay_sh c = (3, n)) : ay_el g w c = .inl (g.2.2.1 3, n, .inl (w.1 c)) := by simp [ay_el, h]
theorem el_T {g : ayG} {w : Wd} {c : Nat} (h : ay_sh c = (10, 0)) : ay_el g w c = .inr (0, ob_T g w c) := by simp [ay_el, h, ay_ob]
theorem el_Reader {g : ayG} {w : Wd} {c : Nat} (h : ay_sh c = (11, 0)) : ay_el g w c = .inr (1, ob_Reader g w c) := by simp [ay_el, h, ay_ob]
theorem el_Tape {g : ayG} {w : Wd} {c : Nat} (h : ay_sh c = (12, 0)) : ay_el g w c = .inr (2, ob_Tape g w c) := by simp [ay_el, h, ay_ob]
theorem el_Store {g : ayG} {w : Wd} {c : Nat} (h : ay_sh c = (13, 0)) : ay_el g w c = .inr (3, ob_Store g w c) := by simp [ay_el, h, ay_ob]
theorem el_Factors {g : ayG} {w : Wd} {c : Nat} (h : ay_sh c = (14, 0)) : ay_el g w c = .inr (4, ob_Factors g w c) := by simp [ay_el, h, ay_ob]
theorem el_Orders {g : ayG} {w : Wd} {c : Nat} (h : ay_sh c = (15, 0)) : ay_el g w c = .inr (5, ob_Orders g w c) := by simp [ay_el, h, ay_ob]
theorem el_Families {g : ayG} {w : Wd} {c : Nat} (h : ay_sh c = (16, 0)) : ay_el g w c = .inr (6, ob_Families g w c) := by simp [ay_el, h, ay_ob]
theorem el_Field {g : ayG} {w : Wd} {c : Nat} (h : ay_sh c = (17, 0)) : ay_el g w c = .inr (7, ob_Field g w c) := by simp [ay_el, h, ay_ob]
theorem el_Rows {g : ayG} {w : Wd} {c : Nat} (h : ay_sh c = (18, 0)) : ay_el g w c = .inr (8, ob_Rows g w c) := by simp [ay_el, h, ay_ob]
theorem el_Letters {g : ayG} {w : Wd} {c : Nat} (h : ay_sh c = (19, 0)) : ay_el g w c = .inr (9, ob_Letters g w c) := by simp [ay_el, h, ay_ob]
theorem el_M {g : ayG} {w : Wd} {c : Nat} (h : ay_sh c = (20, 0)) : ay_el g w c = .inr (10, ob_M g w c) := by simp [ay_el, h, ay_ob]
theorem ay_Wat {g : ayG} {w : Wd} {c : Nat} (h : c < 47) : (ay_W g w)[c]? = some (g.1 + c, ay_el g w c) := by simp [ay_W, h]
theorem ay_Wat' {g : ayG} {w : Wd} {c : Nat} {q : Nat × va_E} (h : (ay_W g w)[c]? = some q) : c < 47 ∧ q = (g.1 + c, ay_el g w c) := by
  have h1 := (List.getElem?_eq_some_iff.mp h).1
  have h2 : c < 47 := by simpa [ay_W] using h1
  rw [ay_Wat h2] at h
  exact ⟨h2, (Option.some.inj h).symm⟩
theorem ay_WD {g : ayG} {w : Wd} : va_D (ay_A g) (ay_W g w) := by
  refine ⟨fun i j p q hp hq hpq => ?_, fun k q hq => ?_⟩
  · obtain ⟨-, rfl⟩ := ay_Wat' hp
    obtain ⟨-, rfl⟩ := ay_Wat' hq
    exact Nat.add_left_cancel hpq
  · obtain ⟨-, rfl⟩ := ay_Wat' hq
    exact Nat.le_add_right _ _
theorem ay_elc {g : ayG} {w w' : Wd} {c : Nat} (h1 : w'.1 c = w.1 c) (h2 : w'.2 c = w.2 c) : ay_el g w' c = ay_el g w c := by
  have hob : ∀ k, ay_ob g w' c k = ay_ob g w c k := by
    intro k
    unfold ay_ob
    split <;> simp only [ob_T, ob_Reader, ob_Tape, ob_Store, ob_Factors, ob_Orders, ob_Families, ob_Field, ob_Rows, ob_Letters, ob_M, h1, h2]
  simp only [ay_el, h1, h2, hob]
theorem ay_Wset {g : ayG} {w w' : Wd} {c : Nat} (hc : c < 47) (h : ∀ k, k ≠ c → w'.1 k = w.1 k ∧ w'.2 k = w.2 k) : (ay_W g w).set c (g.1 + c, ay_el g w' c) = ay_W g w' := by
  apply List.ext_getElem?
  intro i
  by_cases hi : i = c
  · subst hi
    rw [List.getElem?_set_self (by simpa [ay_W] using hc), ay_Wat hc]
  · rw [List.getElem?_set_ne (Ne.symm hi)]
    by_cases h2 : i < 47
    · rw [ay_Wat h2, ay_Wat h2, ay_elc (h i hi).1 (h i hi).2]
    · rw [List.getElem?_eq_none (by simpa [ay_W] using h2), List.getElem?_eq_none (by simpa [ay_W] using h2)]
def wI (w : Wd) (c j : Nat) (x : Int32) : Wd := (fun k => if k = c then upd (w.1 c) j x else w.1 k, w.2)
def wL (w : Wd) (c j : Nat) (x : Int64) : Wd := (w.1, fun k => if k = c then vp_updL (w.2 c) j x else w.2 k)
/-- a whole row of longs comes anew -/
def wR (w : Wd) (c : Nat) (f : Nat → Int64) : Wd := (w.1, fun k => if k = c then f else w.2 k)
theorem wI_1 (w : Wd) (c j k i : Nat) (x : Int32) : (wI w c j x).1 k i = if k = c ∧ i = j then x else w.1 k i := by
  simp only [wI]
  by_cases h : k = c
  · subst h; by_cases h2 : i = j <;> simp [upd, h2]
  · simp [h]
theorem wI_2 (w : Wd) (c j : Nat) (x : Int32) : (wI w c j x).2 = w.2 := rfl
theorem wL_2 (w : Wd) (c j k i : Nat) (x : Int64) : (wL w c j x).2 k i = if k = c ∧ i = j then x else w.2 k i := by
  simp only [wL]
  by_cases h : k = c
  · subst h; by_cases h2 : i = j <;> simp [vp_updL, h2]
  · simp [h]
theorem wL_1 (w : Wd) (c j : Nat) (x : Int64) : (wL w c j x).1 = w.1 := rfl
theorem wR_1 (w : Wd) (c : Nat) (f : Nat → Int64) : (wR w c f).1 = w.1 := rfl
theorem wR_2 (w : Wd) (c k i : Nat) (f : Nat → Int64) : (wR w c f).2 k i = if k = c then f i else w.2 k i := by
  simp only [wR]
  by_cases h : k = c <;> simp [h]
theorem wI_o {w : Wd} {c j : Nat} {x : Int32} (k : Nat) (h : k ≠ c) : (wI w c j x).1 k = w.1 k ∧ (wI w c j x).2 k = w.2 k := ⟨by simp [wI, h], rfl⟩
theorem wL_o {w : Wd} {c j : Nat} {x : Int64} (k : Nat) (h : k ≠ c) : (wL w c j x).1 k = w.1 k ∧ (wL w c j x).2 k = w.2 k := ⟨rfl, by simp [wL, h]⟩
theorem wR_o {w : Wd} {c : Nat} {f : Nat → Int64} (k : Nat) (h : k ≠ c) : (wR w c f).1 k = w.1 k ∧ (wR w c f).2 k = w.2 k := ⟨rfl, by simp [wR, h]⟩
theorem pf_Reader_at {g : ayG} {w : Wd} {c : Nat} {x : Int32} : ob_Reader g (wI w c 3 x) c = (ob_Reader g w c).set 3 (.int x) := by simp [ob_Reader, wI, upd]
theorem pf_Reader_open {g : ayG} {w : Wd} {c : Nat} {x : Int32} : ob_Reader g (wI w c 4 x) c = (ob_Reader g w c).set 4 (.int x) := by simp [ob_Reader, wI, upd]
theorem pf_Reader_fault {g : ayG} {w : Wd} {c : Nat} {x : Int32} : ob_Reader g (wI w c 5 x) c = (ob_Reader g w c).set 5 (.int x) := by simp [ob_Reader, wI, upd]
theorem pf_Reader_within {g : ayG} {w : Wd} {c : Nat} {x : Int32} : ob_Reader g (wI w c 6 x) c = (ob_Reader g w c).set 6 (.int x) := by simp [ob_Reader, wI, upd]
theorem pf_Reader_innermost {g : ayG} {w : Wd} {c : Nat} {x : Int32} : ob_Reader g (wI w c 7 x) c = (ob_Reader g w c).set 7 (.int x) := by simp [ob_Reader, wI, upd]
theorem pf_Tape_size {g : ayG} {w : Wd} {c : Nat} {x : Int32} : ob_Tape g (wI w c 1 x) c = (ob_Tape g w c).set 1 (.int x) := by simp [ob_Tape, wI, upd]
theorem pf_Store_undoable {g : ayG} {w : Wd} {c : Nat} {x : Int32} : ob_Store g (wI w c 3 x) c = (ob_Store g w c).set 3 (.int x) := by simp [ob_Store, wI, upd]
theorem pf_Store_slot {g : ayG} {w : Wd} {c : Nat} {x : Int32} : ob_Store g (wI w c 4 x) c = (ob_Store g w c).set 4 (.int x) := by simp [ob_Store, wI, upd]
theorem pf_Store_kept {g : ayG} {w : Wd} {c : Nat} {x : Int32} : ob_Store g (wI w c 5 x) c = (ob_Store g w c).set 5 (.int x) := by simp [ob_Store, wI, upd]
theorem pf_Factors_unlike {g : ayG} {w : Wd} {c : Nat} {x : Int32} : ob_Factors g (wI w c 3 x) c = (ob_Factors g w c).set 3 (.int x) := by simp [ob_Factors, wI, upd]
theorem pf_Factors_all {g : ayG} {w : Wd} {c : Nat} {x : Int32} : ob_Factors g (wI w c 4 x) c = (ob_Factors g w c).set 4 (.int x) := by simp [ob_Factors, wI, upd]
theorem pf_Orders_many {g : ayG} {w : Wd} {c : Nat} {x : Int32} : ob_Orders g (wI w c 1 x) c = (ob_Orders g w c).set 1 (.int x) := by simp [ob_Orders, wI, upd]
theorem pf_Rows_many {g : ayG} {w : Wd} {c : Nat} {x : Int32} : ob_Rows g (wI w c 1 x) c = (ob_Rows g w c).set 1 (.int x) := by simp [ob_Rows, wI, upd]
theorem pf_Rows_multipleN {g : ayG} {w : Wd} {c : Nat} {x : Int32} : ob_Rows g (wI w c 2 x) c = (ob_Rows g w c).set 2 (.int x) := by simp [ob_Rows, wI, upd]
theorem pf_Rows_multipleK {g : ayG} {w : Wd} {c : Nat} {x : Int32} : ob_Rows g (wI w c 3 x) c = (ob_Rows g w c).set 3 (.int x) := by simp [ob_Rows, wI, upd]
theorem pf_Letters_size {g : ayG} {w : Wd} {c : Nat} {x : Int32} : ob_Letters g (wI w c 1 x) c = (ob_Letters g w c).set 1 (.int x) := by simp [ob_Letters, wI, upd]
theorem pf_M_undone {g : ayG} {w : Wd} {c : Nat} {x : Int32} : ob_M g (wI w c 2 x) c = (ob_M g w c).set 2 (.int x) := by simp [ob_M, wI, upd]
theorem pf_M_factors {g : ayG} {w : Wd} {c : Nat} {x : Int32} : ob_M g (wI w c 6 x) c = (ob_M g w c).set 6 (.int x) := by simp [ob_M, wI, upd]
theorem pf_M_factored {g : ayG} {w : Wd} {c : Nat} {x : Int64} : ob_M g (wL w c 7 x) c = (ob_M g w c).set 7 (.long x) := by simp [ob_M, wL, vp_updL]
theorem pf_M_primes {g : ayG} {w : Wd} {c : Nat} {x : Int32} : ob_M g (wI w c 9 x) c = (ob_M g w c).set 9 (.int x) := by simp [ob_M, wI, upd]
theorem pf_M_solution {g : ayG} {w : Wd} {c : Nat} {x : Int64} : ob_M g (wL w c 13 x) c = (ob_M g w c).set 13 (.long x) := by simp [ob_M, wL, vp_updL]
theorem pf_M_spelt {g : ayG} {w : Wd} {c : Nat} {x : Int32} : ob_M g (wI w c 17 x) c = (ob_M g w c).set 17 (.int x) := by simp [ob_M, wI, upd]
theorem pf_M_wanted {g : ayG} {w : Wd} {c : Nat} {x : Int32} : ob_M g (wI w c 18 x) c = (ob_M g w c).set 18 (.int x) := by simp [ob_M, wI, upd]
theorem pf_M_found {g : ayG} {w : Wd} {c : Nat} {x : Int32} : ob_M g (wI w c 19 x) c = (ob_M g w c).set 19 (.int x) := by simp [ob_M, wI, upd]
theorem pf_M_taped {g : ayG} {w : Wd} {c : Nat} {x : Int32} : ob_M g (wI w c 21 x) c = (ob_M g w c).set 21 (.int x) := by simp [ob_M, wI, upd]
theorem pf_M_spot {g : ayG} {w : Wd} {c : Nat} {x : Int32} : ob_M g (wI w c 22 x) c = (ob_M g w c).set 22 (.int x) := by simp [ob_M, wI, upd]
theorem pf_M_wrong {g : ayG} {w : Wd} {c : Nat} {x : Int32} : ob_M g (wI w c 23 x) c = (ob_M g w c).set 23 (.int x) := by simp [ob_M, wI, upd]
theorem pf_M_wrongOpen {g : ayG} {w : Wd} {c : Nat} {x : Int32} : ob_M g (wI w c 24 x) c = (ob_M g w c).set 24 (.int x) := by simp [ob_M, wI, upd]
theorem pf_M_wrongAt {g : ayG} {w : Wd} {c : Nat} {x : Int32} : ob_M g (wI w c 25 x) c = (ob_M g w c).set 25 (.int x) := by simp [ob_M, wI, upd]
theorem pf_M_number {g : ayG} {w : Wd} {c : Nat} {x : Int32} : ob_M g (wI w c 26 x) c = (ob_M g w c).set 26 (.int x) := by simp [ob_M, wI, upd]
theorem pf_M_numberAt {g : ayG} {w : Wd} {c : Nat} {x : Int32} : ob_M g (wI w c 27 x) c = (ob_M g w c).set 27 (.int x) := by simp [ob_M, wI, upd]
theorem pf_M_open {g : ayG} {w : Wd} {c : Nat} {x : Int32} : ob_M g (wI w c 28 x) c = (ob_M g w c).set 28 (.int x) := by simp [ob_M, wI, upd]
theorem pf_M_value {g : ayG} {w : Wd} {c : Nat} {x : Int64} : ob_M g (wL w c 30 x) c = (ob_M g w c).set 30 (.long x) := by simp [ob_M, wL, vp_updL]
theorem pf_M_statements {g : ayG} {w : Wd} {c : Nat} {x : Int32} : ob_M g (wI w c 32 x) c = (ob_M g w c).set 32 (.int x) := by simp [ob_M, wI, upd]
theorem pf_M_divisorMany {g : ayG} {w : Wd} {c : Nat} {x : Int32} : ob_M g (wI w c 34 x) c = (ob_M g w c).set 34 (.int x) := by simp [ob_M, wI, upd]
def ay_slen : List Nat := [1, 1, 3, 3, 3]
def ay_sbyt : List (List Int32) := [[120], [112], [116, 114, 105], [114, 101, 118], [100, 101, 114]]
def ay_strs : List (String × Nat × String × Nat) := [("TriSplits$Reader", 119, "x", 0), ("TriSplits$Reader", 127, "p", 1), ("TriSplits$Reader", 129, "tri", 2), ("TriSplits$Reader", 134, "rev", 3), ("TriSplits$Reader", 140, "der", 4), ("TriSplitsModel", 381, "x", 0), ("TriSplitsModel", 386, "p", 1), ("TriSplitsModel", 388, "tri", 2), ("TriSplitsModel", 392, "rev", 3), ("TriSplitsModel", 397, "der", 4)]
