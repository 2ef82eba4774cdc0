/-! classes: their fields in the order of the slots -/
def F_PP : u_T := fun k => match k with
  | 0 => ("PicturePacker", "picture", "LPicturePacker$Picture;", true)
  | 1 => ("PicturePacker", "rows", "LPicturePacker$Rows;", true)
  | 2 => ("PicturePacker", "file", "LPicturePacker$Output;", true)
  | 3 => ("PicturePacker", "chunks", "LPicturePacker$Chunks;", true)
  | _ => ("PicturePacker", "packer", "LPicturePacker$Packer;", true)
def t_PP : Nat → FieldType := fun k => match k with
  | 0 => .object "PicturePacker$Picture"
  | 1 => .object "PicturePacker$Rows"
  | 2 => .object "PicturePacker$Output"
  | 3 => .object "PicturePacker$Chunks"
  | _ => .object "PicturePacker$Packer"
theorem n_PP : ∀ a, a < 5 → ∀ b, b < 5 → a ≠ b → (F_PP a).2.1 ≠ (F_PP b).2.1 := by decide +kernel
theorem t_PP_ok : ∀ k, k < 5 → parseFieldDescriptor (F_PP k).2.2.1 = some (t_PP k) := by decide +kernel
theorem in_PP : ∀ w ∈ u_ws "PicturePacker" F_PP 5, w ∈ TBL := by decide +kernel
def F_Pic : u_T := fun k => match k with
  | 0 => ("PicturePacker$Picture", "width", "I", true)
  | 1 => ("PicturePacker$Picture", "height", "I", true)
  | 2 => ("PicturePacker$Picture", "stride", "I", true)
  | _ => ("PicturePacker$Picture", "bytes", "[I", true)
def t_Pic : Nat → FieldType := fun k => match k with
  | 0 => .int
  | 1 => .int
  | 2 => .int
  | _ => .array .int
theorem n_Pic : ∀ a, a < 4 → ∀ b, b < 4 → a ≠ b → (F_Pic a).2.1 ≠ (F_Pic b).2.1 := by decide +kernel
theorem t_Pic_ok : ∀ k, k < 4 → parseFieldDescriptor (F_Pic k).2.2.1 = some (t_Pic k) := by decide +kernel
theorem in_Pic : ∀ w ∈ u_ws "PicturePacker$Picture" F_Pic 4, w ∈ TBL := by decide +kernel
def F_Rows : u_T := fun k => match k with
  | 0 => ("PicturePacker$Rows", "bytes", "[I", true)
  | 1 => ("PicturePacker$Rows", "filters", "[I", true)
  | 2 => ("PicturePacker$Rows", "picture", "LPicturePacker$Picture;", true)
  | _ => ("PicturePacker$Rows", "rowLength", "I", true)
def t_Rows : Nat → FieldType := fun k => match k with
  | 0 => .array .int
  | 1 => .array .int
  | 2 => .object "PicturePacker$Picture"
  | _ => .int
theorem n_Rows : ∀ a, a < 4 → ∀ b, b < 4 → a ≠ b → (F_Rows a).2.1 ≠ (F_Rows b).2.1 := by decide +kernel
theorem t_Rows_ok : ∀ k, k < 4 → parseFieldDescriptor (F_Rows k).2.2.1 = some (t_Rows k) := by decide +kernel
theorem in_Rows : ∀ w ∈ u_ws "PicturePacker$Rows" F_Rows 4, w ∈ TBL := by decide +kernel
def F_Out : u_T := fun k => match k with
  | 0 => ("PicturePacker$Output", "bytes", "[I", true)
  | 1 => ("PicturePacker$Output", "size", "I", false)
  | 2 => ("PicturePacker$Output", "gathered", "I", false)
  | _ => ("PicturePacker$Output", "gatheredBits", "I", false)
def t_Out : Nat → FieldType := fun k => match k with
  | 0 => .array .int
  | 1 => .int
  | 2 => .int
  | _ => .int
theorem n_Out : ∀ a, a < 4 → ∀ b, b < 4 → a ≠ b → (F_Out a).2.1 ≠ (F_Out b).2.1 := by decide +kernel
theorem t_Out_ok : ∀ k, k < 4 → parseFieldDescriptor (F_Out k).2.2.1 = some (t_Out k) := by decide +kernel
theorem in_Out : ∀ w ∈ u_ws "PicturePacker$Output" F_Out 4, w ∈ TBL := by decide +kernel
def F_Chk : u_T := fun k => match k with
  | 0 => ("PicturePacker$Chunks", "file", "LPicturePacker$Output;", true)
  | 1 => ("PicturePacker$Chunks", "crcOfByte", "[I", true)
  | _ => ("PicturePacker$Chunks", "start", "I", false)
def t_Chk : Nat → FieldType := fun k => match k with
  | 0 => .object "PicturePacker$Output"
  | 1 => .array .int
  | _ => .int
theorem n_Chk : ∀ a, a < 3 → ∀ b, b < 3 → a ≠ b → (F_Chk a).2.1 ≠ (F_Chk b).2.1 := by decide +kernel
theorem t_Chk_ok : ∀ k, k < 3 → parseFieldDescriptor (F_Chk k).2.2.1 = some (t_Chk k) := by decide +kernel
theorem in_Chk : ∀ w ∈ u_ws "PicturePacker$Chunks" F_Chk 3, w ∈ TBL := by decide +kernel
def F_Pak : u_T := fun k => match k with
  | 0 => ("PicturePacker$Packer", "bytes", "[I", true)
  | 1 => ("PicturePacker$Packer", "out", "LPicturePacker$Output;", true)
  | 2 => ("PicturePacker$Packer", "finder", "LPicturePacker$RunFinder;", true)
  | 3 => ("PicturePacker$Packer", "singles", "I", false)
  | 4 => ("PicturePacker$Packer", "runs", "I", false)
  | _ => ("PicturePacker$Packer", "longest", "I", false)
def t_Pak : Nat → FieldType := fun k => match k with
  | 0 => .array .int
  | 1 => .object "PicturePacker$Output"
  | 2 => .object "PicturePacker$RunFinder"
  | 3 => .int
  | 4 => .int
  | _ => .int
theorem n_Pak : ∀ a, a < 6 → ∀ b, b < 6 → a ≠ b → (F_Pak a).2.1 ≠ (F_Pak b).2.1 := by decide +kernel
theorem t_Pak_ok : ∀ k, k < 6 → parseFieldDescriptor (F_Pak k).2.2.1 = some (t_Pak k) := by decide +kernel
theorem in_Pak : ∀ w ∈ u_ws "PicturePacker$Packer" F_Pak 6, w ∈ TBL := by decide +kernel
def F_Fin : u_T := fun k => match k with
  | 0 => ("PicturePacker$RunFinder", "bytes", "[I", true)
  | 1 => ("PicturePacker$RunFinder", "newest", "[I", true)
  | 2 => ("PicturePacker$RunFinder", "next", "[I", true)
  | 3 => ("PicturePacker$RunFinder", "chained", "I", false)
  | 4 => ("PicturePacker$RunFinder", "length", "I", false)
  | _ => ("PicturePacker$RunFinder", "distance", "I", false)
def t_Fin : Nat → FieldType := fun k => match k with
  | 0 => .array .int
  | 1 => .array .int
  | 2 => .array .int
  | 3 => .int
  | 4 => .int
  | _ => .int
theorem n_Fin : ∀ a, a < 6 → ∀ b, b < 6 → a ≠ b → (F_Fin a).2.1 ≠ (F_Fin b).2.1 := by decide +kernel
theorem t_Fin_ok : ∀ k, k < 6 → parseFieldDescriptor (F_Fin k).2.2.1 = some (t_Fin k) := by decide +kernel
theorem in_Fin : ∀ w ∈ u_ws "PicturePacker$RunFinder" F_Fin 6, w ∈ TBL := by decide +kernel
def F_Mod : u_T := fun k => match k with
  | 0 => ("PicturePackerModel", "thrown", "I", false)
  | 1 => ("PicturePackerModel", "width", "I", true)
  | 2 => ("PicturePackerModel", "height", "I", true)
  | 3 => ("PicturePackerModel", "colours", "[I", true)
  | 4 => ("PicturePackerModel", "rows", "[I", true)
  | 5 => ("PicturePackerModel", "many", "I", false)
  | 6 => ("PicturePackerModel", "file", "[I", true)
  | 7 => ("PicturePackerModel", "size", "I", false)
  | 8 => ("PicturePackerModel", "bit", "I", false)
  | 9 => ("PicturePackerModel", "single", "I", false)
  | 10 => ("PicturePackerModel", "runs", "I", false)
  | _ => ("PicturePackerModel", "longest", "I", false)
def t_Mod : Nat → FieldType := fun k => match k with
  | 0 => .int
  | 1 => .int
  | 2 => .int
  | 3 => .array .int
  | 4 => .array .int
  | 5 => .int
  | 6 => .array .int
  | 7 => .int
  | 8 => .int
  | 9 => .int
  | 10 => .int
  | _ => .int
theorem n_Mod : ∀ a, a < 12 → ∀ b, b < 12 → a ≠ b → (F_Mod a).2.1 ≠ (F_Mod b).2.1 := by decide +kernel
theorem t_Mod_ok : ∀ k, k < 12 → parseFieldDescriptor (F_Mod k).2.2.1 = some (t_Mod k) := by decide +kernel
theorem in_Mod : ∀ w ∈ u_ws "PicturePackerModel" F_Mod 12, w ∈ TBL := by decide +kernel
abbrev classes : List vw_C := [("PicturePacker", F_PP, 5), ("PicturePacker$Picture", F_Pic, 4), ("PicturePacker$Rows", F_Rows, 4), ("PicturePacker$Output", F_Out, 4), ("PicturePacker$Chunks", F_Chk, 3), ("PicturePacker$Packer", F_Pak, 6), ("PicturePacker$RunFinder", F_Fin, 6), ("PicturePackerModel", F_Mod, 12)]
/-- an array of ints at its place -/
abbrev e_ar (a n : Nat → Nat) (cI : ClassId) (k : Nat) (f : Nat → Int32) : Nat × va_E := (a k, .inl (cI, n k, .inl f))
abbrev e_PP (a : Nat → Nat) : Nat × va_E := (a 0, .inr (0, [.ref (a 1), .ref (a 2), .ref (a 3), .ref (a 4), .ref (a 5)]))
abbrev e_Pic (a : Nat → Nat) (Pic_width : Int32) (Pic_height : Int32) (Pic_stride : Int32) : Nat × va_E := (a 1, .inr (1, [.int Pic_width, .int Pic_height, .int Pic_stride, .ref (a 8)]))
abbrev e_Rows (a : Nat → Nat) (Rows_rowLength : Int32) : Nat × va_E := (a 2, .inr (2, [.ref (a 9), .ref (a 10), .ref (a 1), .int Rows_rowLength]))
abbrev e_Out (a : Nat → Nat) (Out_size : Int32) (Out_gathered : Int32) (Out_gatheredBits : Int32) : Nat × va_E := (a 3, .inr (3, [.ref (a 11), .int Out_size, .int Out_gathered, .int Out_gatheredBits]))
abbrev e_Chk (a : Nat → Nat) (Chk_start : Int32) : Nat × va_E := (a 4, .inr (4, [.ref (a 3), .ref (a 12), .int Chk_start]))
abbrev e_Pak (a : Nat → Nat) (Pak_singles : Int32) (Pak_runs : Int32) (Pak_longest : Int32) : Nat × va_E := (a 5, .inr (5, [.ref (a 9), .ref (a 3), .ref (a 6), .int Pak_singles, .int Pak_runs, .int Pak_longest]))
abbrev e_Fin (a : Nat → Nat) (Fin_chained : Int32) (Fin_length : Int32) (Fin_distance : Int32) : Nat × va_E := (a 6, .inr (6, [.ref (a 9), .ref (a 13), .ref (a 14), .int Fin_chained, .int Fin_length, .int Fin_distance]))
abbrev e_Mod (a : Nat → Nat) (Mod_thrown : Int32) (Mod_width : Int32) (Mod_height : Int32) (Mod_many : Int32) (Mod_size : Int32) (Mod_bit : Int32) (Mod_single : Int32) (Mod_runs : Int32) (Mod_longest : Int32) : Nat × va_E := (a 7, .inr (7, [.int Mod_thrown, .int Mod_width, .int Mod_height, .ref (a 15), .ref (a 16), .int Mod_many, .ref (a 17), .int Mod_size, .int Mod_bit, .int Mod_single, .int Mod_runs, .int Mod_longest]))
