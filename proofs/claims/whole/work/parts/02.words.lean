def bF_BP : u_T := fun k => match k with
  | 0 => ("BlockPictures", "intake", "LBlockPictures$UnitIntake;", true)
  | 1 => ("BlockPictures", "parameters", "LBlockPictures$Parameters;", true)
  | 2 => ("BlockPictures", "decoder", "LBlockPictures$PictureDecoder;", true)
  | 3 => ("BlockPictures", "buffer", "LBlockPictures$PictureBuffer;", true)
  | 4 => ("BlockPictures", "writer", "LBlockPictures$UnitWriter;", true)
  | 5 => ("BlockPictures", "stopFault", "I", false)
  | _ => ("BlockPictures", "unitCount", "I", false)
def bt_BP : Nat → FieldType := fun k => match k with
  | 0 => .object "BlockPictures$UnitIntake"
  | 1 => .object "BlockPictures$Parameters"
  | 2 => .object "BlockPictures$PictureDecoder"
  | 3 => .object "BlockPictures$PictureBuffer"
  | 4 => .object "BlockPictures$UnitWriter"
  | 5 => .int
  | _ => .int
theorem bn_BP : ∀ a, a < 7 → ∀ b, b < 7 → a ≠ b → (bF_BP a).2.1 ≠ (bF_BP b).2.1 := by decide +kernel
theorem bt_BP_ok : ∀ k, k < 7 → parseFieldDescriptor (bF_BP k).2.2.1 = some (bt_BP k) := by decide +kernel
theorem bc_in_BP : ∀ w ∈ u_ws "BlockPictures" bF_BP 7, w ∈ bp_tb := fun w hw => bp_gd ((by decide +kernel : ∀ w ∈ u_ws "BlockPictures" bF_BP 7, w ∈ lw_tbl) w hw) ((by decide +kernel : ∀ w ∈ u_ws "BlockPictures" bF_BP 7, bp_okw w = true) w hw)
def bF_UI : u_T := fun k => match k with
  | 0 => ("BlockPictures$UnitIntake", "bytes", "[I", true)
  | 1 => ("BlockPictures$UnitIntake", "length", "I", false)
  | 2 => ("BlockPictures$UnitIntake", "endedLength", "I", false)
  | 3 => ("BlockPictures$UnitIntake", "zeros", "I", false)
  | 4 => ("BlockPictures$UnitIntake", "brokenBy", "I", false)
  | _ => ("BlockPictures$UnitIntake", "inside", "Z", false)
def bt_UI : Nat → FieldType := fun k => match k with
  | 0 => .array .int
  | 1 => .int
  | 2 => .int
  | 3 => .int
  | 4 => .int
  | _ => .boolean
theorem bn_UI : ∀ a, a < 6 → ∀ b, b < 6 → a ≠ b → (bF_UI a).2.1 ≠ (bF_UI b).2.1 := by decide +kernel
theorem bt_UI_ok : ∀ k, k < 6 → parseFieldDescriptor (bF_UI k).2.2.1 = some (bt_UI k) := by decide +kernel
theorem bc_in_UI : ∀ w ∈ u_ws "BlockPictures$UnitIntake" bF_UI 6, w ∈ bp_tb := fun w hw => bp_gd ((by decide +kernel : ∀ w ∈ u_ws "BlockPictures$UnitIntake" bF_UI 6, w ∈ lw_tbl) w hw) ((by decide +kernel : ∀ w ∈ u_ws "BlockPictures$UnitIntake" bF_UI 6, bp_okw w = true) w hw)
def bF_PA : u_T := fun k => match k with
  | 0 => ("BlockPictures$Parameters", "pending", "Z", false)
  | 1 => ("BlockPictures$Parameters", "pendingPlaces", "I", false)
  | 2 => ("BlockPictures$Parameters", "pendingBase", "I", false)
  | 3 => ("BlockPictures$Parameters", "taken", "Z", false)
  | 4 => ("BlockPictures$Parameters", "places", "I", false)
  | _ => ("BlockPictures$Parameters", "base", "I", false)
def bt_PA : Nat → FieldType := fun k => match k with
  | 0 => .boolean
  | 1 => .int
  | 2 => .int
  | 3 => .boolean
  | 4 => .int
  | _ => .int
theorem bn_PA : ∀ a, a < 6 → ∀ b, b < 6 → a ≠ b → (bF_PA a).2.1 ≠ (bF_PA b).2.1 := by decide +kernel
theorem bt_PA_ok : ∀ k, k < 6 → parseFieldDescriptor (bF_PA k).2.2.1 = some (bt_PA k) := by decide +kernel
theorem bc_in_PA : ∀ w ∈ u_ws "BlockPictures$Parameters" bF_PA 6, w ∈ bp_tb := fun w hw => bp_gd ((by decide +kernel : ∀ w ∈ u_ws "BlockPictures$Parameters" bF_PA 6, w ∈ lw_tbl) w hw) ((by decide +kernel : ∀ w ∈ u_ws "BlockPictures$Parameters" bF_PA 6, bp_okw w = true) w hw)
def bF_PD : u_T := fun k => match k with
  | 0 => ("BlockPictures$PictureDecoder", "bits", "LBlockPictures$BitReader;", true)
  | 1 => ("BlockPictures$PictureDecoder", "picture", "LBlockPictures$Picture;", true)
  | 2 => ("BlockPictures$PictureDecoder", "latest", "LBlockPictures$BlockRows;", false)
  | 3 => ("BlockPictures$PictureDecoder", "references", "[LBlockPictures$Picture;", true)
  | 4 => ("BlockPictures$PictureDecoder", "referenceCount", "I", false)
  | 5 => ("BlockPictures$PictureDecoder", "released", "I", false)
  | 6 => ("BlockPictures$PictureDecoder", "rows", "LBlockPictures$BlockRows;", false)
  | 7 => ("BlockPictures$PictureDecoder", "motion", "LBlockPictures$Motion;", true)
  | 8 => ("BlockPictures$PictureDecoder", "coefficients", "[I", true)
  | 9 => ("BlockPictures$PictureDecoder", "lastUsed", "I", false)
  | _ => ("BlockPictures$PictureDecoder", "q", "I", false)
def bt_PD : Nat → FieldType := fun k => match k with
  | 0 => .object "BlockPictures$BitReader"
  | 1 => .object "BlockPictures$Picture"
  | 2 => .object "BlockPictures$BlockRows"
  | 3 => .array (.object "BlockPictures$Picture")
  | 4 => .int
  | 5 => .int
  | 6 => .object "BlockPictures$BlockRows"
  | 7 => .object "BlockPictures$Motion"
  | 8 => .array .int
  | 9 => .int
  | _ => .int
theorem bn_PD : ∀ a, a < 11 → ∀ b, b < 11 → a ≠ b → (bF_PD a).2.1 ≠ (bF_PD b).2.1 := by decide +kernel
theorem bt_PD_ok : ∀ k, k < 11 → parseFieldDescriptor (bF_PD k).2.2.1 = some (bt_PD k) := by decide +kernel
theorem bc_in_PD : ∀ w ∈ u_ws "BlockPictures$PictureDecoder" bF_PD 11, w ∈ bp_tb := fun w hw => bp_gd ((by decide +kernel : ∀ w ∈ u_ws "BlockPictures$PictureDecoder" bF_PD 11, w ∈ lw_tbl) w hw) ((by decide +kernel : ∀ w ∈ u_ws "BlockPictures$PictureDecoder" bF_PD 11, bp_okw w = true) w hw)
def bF_PB : u_T := fun k => match k with
  | 0 => ("BlockPictures$PictureBuffer", "slots", "[LBlockPictures$Picture;", true)
  | 1 => ("BlockPictures$PictureBuffer", "count", "I", false)
  | 2 => ("BlockPictures$PictureBuffer", "places", "I", false)
  | 3 => ("BlockPictures$PictureBuffer", "shownSamples", "[I", true)
  | 4 => ("BlockPictures$PictureBuffer", "shownOrders", "[I", true)
  | _ => ("BlockPictures$PictureBuffer", "shownCount", "I", false)
def bt_PB : Nat → FieldType := fun k => match k with
  | 0 => .array (.object "BlockPictures$Picture")
  | 1 => .int
  | 2 => .int
  | 3 => .array .int
  | 4 => .array .int
  | _ => .int
theorem bn_PB : ∀ a, a < 6 → ∀ b, b < 6 → a ≠ b → (bF_PB a).2.1 ≠ (bF_PB b).2.1 := by decide +kernel
theorem bt_PB_ok : ∀ k, k < 6 → parseFieldDescriptor (bF_PB k).2.2.1 = some (bt_PB k) := by decide +kernel
theorem bc_in_PB : ∀ w ∈ u_ws "BlockPictures$PictureBuffer" bF_PB 6, w ∈ bp_tb := fun w hw => bp_gd ((by decide +kernel : ∀ w ∈ u_ws "BlockPictures$PictureBuffer" bF_PB 6, w ∈ lw_tbl) w hw) ((by decide +kernel : ∀ w ∈ u_ws "BlockPictures$PictureBuffer" bF_PB 6, bp_okw w = true) w hw)
def bF_UW : u_T := fun k => match k with
  | 0 => ("BlockPictures$UnitWriter", "source", "[I", true)
  | 1 => ("BlockPictures$UnitWriter", "bytes", "[I", true)
  | 2 => ("BlockPictures$UnitWriter", "count", "I", false)
  | 3 => ("BlockPictures$UnitWriter", "zeros", "I", false)
  | 4 => ("BlockPictures$UnitWriter", "gathered", "I", false)
  | _ => ("BlockPictures$UnitWriter", "gatheredBits", "I", false)
def bt_UW : Nat → FieldType := fun k => match k with
  | 0 => .array .int
  | 1 => .array .int
  | 2 => .int
  | 3 => .int
  | 4 => .int
  | _ => .int
theorem bn_UW : ∀ a, a < 6 → ∀ b, b < 6 → a ≠ b → (bF_UW a).2.1 ≠ (bF_UW b).2.1 := by decide +kernel
theorem bt_UW_ok : ∀ k, k < 6 → parseFieldDescriptor (bF_UW k).2.2.1 = some (bt_UW k) := by decide +kernel
theorem bc_in_UW : ∀ w ∈ u_ws "BlockPictures$UnitWriter" bF_UW 6, w ∈ bp_tb := fun w hw => bp_gd ((by decide +kernel : ∀ w ∈ u_ws "BlockPictures$UnitWriter" bF_UW 6, w ∈ lw_tbl) w hw) ((by decide +kernel : ∀ w ∈ u_ws "BlockPictures$UnitWriter" bF_UW 6, bp_okw w = true) w hw)
def bF_BR : u_T := fun k => match k with
  | 0 => ("BlockPictures$BitReader", "bytes", "[I", true)
  | 1 => ("BlockPictures$BitReader", "position", "I", false)
  | 2 => ("BlockPictures$BitReader", "dataEnd", "I", false)
  | _ => ("BlockPictures$BitReader", "failure", "I", false)
def bt_BR : Nat → FieldType := fun k => match k with
  | 0 => .array .int
  | 1 => .int
  | 2 => .int
  | _ => .int
theorem bn_BR : ∀ a, a < 4 → ∀ b, b < 4 → a ≠ b → (bF_BR a).2.1 ≠ (bF_BR b).2.1 := by decide +kernel
theorem bt_BR_ok : ∀ k, k < 4 → parseFieldDescriptor (bF_BR k).2.2.1 = some (bt_BR k) := by decide +kernel
theorem bc_in_BR : ∀ w ∈ u_ws "BlockPictures$BitReader" bF_BR 4, w ∈ bp_tb := fun w hw => bp_gd ((by decide +kernel : ∀ w ∈ u_ws "BlockPictures$BitReader" bF_BR 4, w ∈ lw_tbl) w hw) ((by decide +kernel : ∀ w ∈ u_ws "BlockPictures$BitReader" bF_BR 4, bp_okw w = true) w hw)
def bF_MO : u_T := fun k => match k with
  | 0 => ("BlockPictures$Motion", "window", "[I", true)
  | _ => ("BlockPictures$Motion", "across", "[I", true)
def bt_MO : Nat → FieldType := fun k => match k with
  | 0 => .array .int
  | _ => .array .int
theorem bn_MO : ∀ a, a < 2 → ∀ b, b < 2 → a ≠ b → (bF_MO a).2.1 ≠ (bF_MO b).2.1 := by decide +kernel
theorem bt_MO_ok : ∀ k, k < 2 → parseFieldDescriptor (bF_MO k).2.2.1 = some (bt_MO k) := by decide +kernel
theorem bc_in_MO : ∀ w ∈ u_ws "BlockPictures$Motion" bF_MO 2, w ∈ bp_tb := fun w hw => bp_gd ((by decide +kernel : ∀ w ∈ u_ws "BlockPictures$Motion" bF_MO 2, w ∈ lw_tbl) w hw) ((by decide +kernel : ∀ w ∈ u_ws "BlockPictures$Motion" bF_MO 2, bp_okw w = true) w hw)
def bF_RO : u_T := fun k => match k with
  | 0 => ("BlockPictures$BlockRows", "inter", "[Z", true)
  | 1 => ("BlockPictures$BlockRows", "residual", "[Z", true)
  | 2 => ("BlockPictures$BlockRows", "reference", "[I", true)
  | 3 => ("BlockPictures$BlockRows", "vx", "[I", true)
  | 4 => ("BlockPictures$BlockRows", "vy", "[I", true)
  | _ => ("BlockPictures$BlockRows", "smoothedLines", "I", false)
def bt_RO : Nat → FieldType := fun k => match k with
  | 0 => .array .boolean
  | 1 => .array .boolean
  | 2 => .array .int
  | 3 => .array .int
  | 4 => .array .int
  | _ => .int
theorem bn_RO : ∀ a, a < 6 → ∀ b, b < 6 → a ≠ b → (bF_RO a).2.1 ≠ (bF_RO b).2.1 := by decide +kernel
theorem bt_RO_ok : ∀ k, k < 6 → parseFieldDescriptor (bF_RO k).2.2.1 = some (bt_RO k) := by decide +kernel
theorem bc_in_RO : ∀ w ∈ u_ws "BlockPictures$BlockRows" bF_RO 6, w ∈ bp_tb := fun w hw => bp_gd ((by decide +kernel : ∀ w ∈ u_ws "BlockPictures$BlockRows" bF_RO 6, w ∈ lw_tbl) w hw) ((by decide +kernel : ∀ w ∈ u_ws "BlockPictures$BlockRows" bF_RO 6, bp_okw w = true) w hw)
def bF_PI : u_T := fun k => match k with
  | 0 => ("BlockPictures$Picture", "samples", "[I", true)
  | 1 => ("BlockPictures$Picture", "orderNumber", "I", false)
  | 2 => ("BlockPictures$Picture", "reference", "Z", false)
  | _ => ("BlockPictures$Picture", "waiting", "Z", false)
def bt_PI : Nat → FieldType := fun k => match k with
  | 0 => .array .int
  | 1 => .int
  | 2 => .boolean
  | _ => .boolean
theorem bn_PI : ∀ a, a < 4 → ∀ b, b < 4 → a ≠ b → (bF_PI a).2.1 ≠ (bF_PI b).2.1 := by decide +kernel
theorem bt_PI_ok : ∀ k, k < 4 → parseFieldDescriptor (bF_PI k).2.2.1 = some (bt_PI k) := by decide +kernel
theorem bc_in_PI : ∀ w ∈ u_ws "BlockPictures$Picture" bF_PI 4, w ∈ bp_tb := fun w hw => bp_gd ((by decide +kernel : ∀ w ∈ u_ws "BlockPictures$Picture" bF_PI 4, w ∈ lw_tbl) w hw) ((by decide +kernel : ∀ w ∈ u_ws "BlockPictures$Picture" bF_PI 4, bp_okw w = true) w hw)
def bF_M : u_T := fun k => match k with
  | 0 => ("BlockPicturesModel", "row", "[I", true)
  | 1 => ("BlockPicturesModel", "column", "[I", true)
  | 2 => ("BlockPicturesModel", "turn", "[I", true)
  | 3 => ("BlockPicturesModel", "unit", "[I", false)
  | 4 => ("BlockPicturesModel", "length", "I", false)
  | 5 => ("BlockPicturesModel", "inUnit", "Z", false)
  | 6 => ("BlockPicturesModel", "zeros", "I", false)
  | 7 => ("BlockPicturesModel", "ended", "I", false)
  | 8 => ("BlockPicturesModel", "fault", "I", false)
  | 9 => ("BlockPicturesModel", "units", "I", false)
  | 10 => ("BlockPicturesModel", "last", "I", false)
  | 11 => ("BlockPicturesModel", "next", "I", false)
  | 12 => ("BlockPicturesModel", "bad", "I", false)
  | 13 => ("BlockPicturesModel", "pending", "Z", false)
  | 14 => ("BlockPicturesModel", "pendingPlaces", "I", false)
  | 15 => ("BlockPicturesModel", "pendingBase", "I", false)
  | 16 => ("BlockPicturesModel", "taken", "Z", false)
  | 17 => ("BlockPicturesModel", "places", "I", false)
  | 18 => ("BlockPicturesModel", "base", "I", false)
  | 19 => ("BlockPicturesModel", "quality", "I", false)
  | 20 => ("BlockPicturesModel", "most", "I", false)
  | 21 => ("BlockPicturesModel", "moved", "I", false)
  | 22 => ("BlockPicturesModel", "released", "I", false)
  | 23 => ("BlockPicturesModel", "now", "[I", false)
  | 24 => ("BlockPicturesModel", "intra", "[Z", false)
  | 25 => ("BlockPicturesModel", "rest", "[Z", false)
  | 26 => ("BlockPicturesModel", "across", "[I", false)
  | 27 => ("BlockPicturesModel", "down", "[I", false)
  | 28 => ("BlockPicturesModel", "which", "[I", false)
  | 29 => ("BlockPicturesModel", "factor", "[I", false)
  | 30 => ("BlockPicturesModel", "lines", "I", false)
  | 31 => ("BlockPicturesModel", "latest", "[I", false)
  | 32 => ("BlockPicturesModel", "latestLines", "I", false)
  | 33 => ("BlockPicturesModel", "decoded", "Z", false)
  | 34 => ("BlockPicturesModel", "held", "I", false)
  | 35 => ("BlockPicturesModel", "samples", "[I", false)
  | 36 => ("BlockPicturesModel", "orders", "[I", false)
  | 37 => ("BlockPicturesModel", "marked", "[Z", false)
  | 38 => ("BlockPicturesModel", "waits", "[Z", false)
  | 39 => ("BlockPicturesModel", "shown", "I", false)
  | 40 => ("BlockPicturesModel", "shownOrders", "[I", false)
  | 41 => ("BlockPicturesModel", "shownSamples", "[I", false)
  | 42 => ("BlockPicturesModel", "source", "[I", false)
  | 43 => ("BlockPicturesModel", "out", "[I", false)
  | 44 => ("BlockPicturesModel", "outs", "I", false)
  | 45 => ("BlockPicturesModel", "outZeros", "I", false)
  | 46 => ("BlockPicturesModel", "part", "I", false)
  | _ => ("BlockPicturesModel", "partBits", "I", false)
def bt_M : Nat → FieldType := fun k => match k with
  | 0 => .array .int
  | 1 => .array .int
  | 2 => .array .int
  | 3 => .array .int
  | 4 => .int
  | 5 => .boolean
  | 6 => .int
  | 7 => .int
  | 8 => .int
  | 9 => .int
  | 10 => .int
  | 11 => .int
  | 12 => .int
  | 13 => .boolean
  | 14 => .int
  | 15 => .int
  | 16 => .boolean
  | 17 => .int
  | 18 => .int
  | 19 => .int
  | 20 => .int
  | 21 => .int
  | 22 => .int
  | 23 => .array .int
  | 24 => .array .boolean
  | 25 => .array .boolean
  | 26 => .array .int
  | 27 => .array .int
  | 28 => .array .int
  | 29 => .array .int
  | 30 => .int
  | 31 => .array .int
  | 32 => .int
  | 33 => .boolean
  | 34 => .int
  | 35 => .array .int
  | 36 => .array .int
  | 37 => .array .boolean
  | 38 => .array .boolean
  | 39 => .int
  | 40 => .array .int
  | 41 => .array .int
  | 42 => .array .int
  | 43 => .array .int
  | 44 => .int
  | 45 => .int
  | 46 => .int
  | _ => .int
theorem bn_M : ∀ a, a < 48 → ∀ b, b < 48 → a ≠ b → (bF_M a).2.1 ≠ (bF_M b).2.1 := by decide +kernel
theorem bt_M_ok : ∀ k, k < 48 → parseFieldDescriptor (bF_M k).2.2.1 = some (bt_M k) := by decide +kernel
theorem bm_in_M : ∀ w ∈ u_ws "BlockPicturesModel" bF_M 48, w ∈ bp_tb := fun w hw => bp_gd ((by decide +kernel : ∀ w ∈ u_ws "BlockPicturesModel" bF_M 48, w ∈ lw_tbl) w hw) ((by decide +kernel : ∀ w ∈ u_ws "BlockPicturesModel" bF_M 48, bp_okw w = true) w hw)
abbrev bp_cl : List vw_C := [("BlockPictures", bF_BP, 7), ("BlockPictures$UnitIntake", bF_UI, 6), ("BlockPictures$Parameters", bF_PA, 6), ("BlockPictures$PictureDecoder", bF_PD, 11), ("BlockPictures$PictureBuffer", bF_PB, 6), ("BlockPictures$UnitWriter", bF_UW, 6), ("BlockPictures$BitReader", bF_BR, 4), ("BlockPictures$Motion", bF_MO, 2), ("BlockPictures$BlockRows", bF_RO, 6), ("BlockPictures$Picture", bF_PI, 4), ("BlockPicturesModel", bF_M, 48)]
def bp_nest : List (String × Nat × MethodName) := [("BlockPictures", 9, ⟨"BlockPictures$UnitIntake", "<init>", "()V"⟩), ("BlockPictures", 18, ⟨"BlockPictures$Parameters", "<init>", "()V"⟩), ("BlockPictures$PictureDecoder", 11, ⟨"BlockPictures$BitReader", "<init>", "()V"⟩), ("BlockPictures$PictureDecoder", 20, ⟨"BlockPictures$Picture", "<init>", "()V"⟩), ("BlockPictures$PictureDecoder", 27, ⟨"BlockPictures$BlockRows", "<init>", "()V"⟩), ("BlockPictures$PictureDecoder", 41, ⟨"BlockPictures$Motion", "<init>", "()V"⟩), ("BlockPictures$PictureBuffer", 24, ⟨"BlockPictures$Picture", "<init>", "()V"⟩), ("BlockPictures", 39, ⟨"BlockPictures$UnitWriter", "<init>", "()V"⟩), ("BlockPictures$Motion", 34, ⟨"BlockPictures", "limit", "(I)I"⟩), ("BlockPictures$Motion", 38, ⟨"BlockPictures", "sampleNumber", "(II)I"⟩), ("BlockPictures$PictureDecoder", 142, ⟨"BlockPictures", "sampleNumber", "(II)I"⟩), ("BlockPictures$PictureDecoder", 174, ⟨"BlockPictures", "limit", "(I)I"⟩), ("BlockPictures$EdgeFilter", 15, ⟨"BlockPictures", "sampleNumber", "(II)I"⟩), ("BlockPictures$EdgeFilter", 36, ⟨"BlockPictures", "limit", "(I)I"⟩), ("BlockPictures$UnitWriter", 32, ⟨"BlockPictures", "sampleNumber", "(II)I"⟩)]
theorem tw_0 : Cond.selects "BlockPictures" ⟨"BlockPictures", "unitEndsAt", "(I)Z"⟩ ⟨"BlockPictures", "unitEndsAt", "(I)Z"⟩ ∈ bp_tb := bp_gd (List.mem_of_getElem? (i := 0) (by decide +kernel)) rfl
theorem tw_1 : Cond.selects "BlockPictures$UnitIntake" ⟨"BlockPictures$UnitIntake", "takeOutside", "(I)V"⟩ ⟨"BlockPictures$UnitIntake", "takeOutside", "(I)V"⟩ ∈ bp_tb := bp_gd (List.mem_of_getElem? (i := 1) (by decide +kernel)) rfl
theorem tw_2 : Cond.selects "BlockPictures$UnitIntake" ⟨"BlockPictures$UnitIntake", "takeMark", "(I)Z"⟩ ⟨"BlockPictures$UnitIntake", "takeMark", "(I)Z"⟩ ∈ bp_tb := bp_gd (List.mem_of_getElem? (i := 2) (by decide +kernel)) rfl
theorem tw_3 : Cond.selects "BlockPictures$UnitIntake" ⟨"BlockPictures$UnitIntake", "endUnit", "(I)Z"⟩ ⟨"BlockPictures$UnitIntake", "endUnit", "(I)Z"⟩ ∈ bp_tb := bp_gd (List.mem_of_getElem? (i := 3) (by decide +kernel)) rfl
theorem tw_4 : Cond.selects "BlockPictures$UnitIntake" ⟨"BlockPictures$UnitIntake", "append", "(I)V"⟩ ⟨"BlockPictures$UnitIntake", "append", "(I)V"⟩ ∈ bp_tb := bp_gd (List.mem_of_getElem? (i := 4) (by decide +kernel)) rfl
theorem tw_5 : Cond.selects "BlockPictures" ⟨"BlockPictures", "workThrough", "()V"⟩ ⟨"BlockPictures", "workThrough", "()V"⟩ ∈ bp_tb := bp_gd (List.mem_of_getElem? (i := 5) (by decide +kernel)) rfl
theorem tw_6 : Cond.selects "BlockPictures$BitReader" ⟨"BlockPictures$BitReader", "nextBit", "()I"⟩ ⟨"BlockPictures$BitReader", "nextBit", "()I"⟩ ∈ bp_tb := bp_gd (List.mem_of_getElem? (i := 6) (by decide +kernel)) rfl
theorem tw_7 : Cond.selects "BlockPictures" ⟨"BlockPictures", "takePicture", "(ZI)V"⟩ ⟨"BlockPictures", "takePicture", "(ZI)V"⟩ ∈ bp_tb := bp_gd (List.mem_of_getElem? (i := 7) (by decide +kernel)) rfl
theorem tw_8 : Cond.selects "BlockPictures$PictureDecoder" ⟨"BlockPictures$PictureDecoder", "readUseOfReferences", "(I)V"⟩ ⟨"BlockPictures$PictureDecoder", "readUseOfReferences", "(I)V"⟩ ∈ bp_tb := bp_gd (List.mem_of_getElem? (i := 8) (by decide +kernel)) rfl
theorem tw_9 : Cond.selects "BlockPictures$PictureDecoder" ⟨"BlockPictures$PictureDecoder", "putFirst", "(I)V"⟩ ⟨"BlockPictures$PictureDecoder", "putFirst", "(I)V"⟩ ∈ bp_tb := bp_gd (List.mem_of_getElem? (i := 9) (by decide +kernel)) rfl
theorem tw_10 : Cond.selects "BlockPictures$PictureDecoder" ⟨"BlockPictures$PictureDecoder", "readInter", "(IZ)V"⟩ ⟨"BlockPictures$PictureDecoder", "readInter", "(IZ)V"⟩ ∈ bp_tb := bp_gd (List.mem_of_getElem? (i := 10) (by decide +kernel)) rfl
theorem tw_11 : Cond.selects "BlockPictures$PictureDecoder" ⟨"BlockPictures$PictureDecoder", "within", "(I)I"⟩ ⟨"BlockPictures$PictureDecoder", "within", "(I)I"⟩ ∈ bp_tb := bp_gd (List.mem_of_getElem? (i := 11) (by decide +kernel)) rfl
theorem tw_12 : Cond.selects "BlockPictures$Motion" ⟨"BlockPictures$Motion", "fillWindow", "([III)V"⟩ ⟨"BlockPictures$Motion", "fillWindow", "([III)V"⟩ ∈ bp_tb := bp_gd (List.mem_of_getElem? (i := 12) (by decide +kernel)) rfl
theorem tw_13 : Cond.selects "BlockPictures$Motion" ⟨"BlockPictures$Motion", "fillAcross", "()V"⟩ ⟨"BlockPictures$Motion", "fillAcross", "()V"⟩ ∈ bp_tb := bp_gd (List.mem_of_getElem? (i := 13) (by decide +kernel)) rfl
theorem tw_14 : Cond.selects "BlockPictures$PictureDecoder" ⟨"BlockPictures$PictureDecoder", "readIntra", "(I)Z"⟩ ⟨"BlockPictures$PictureDecoder", "readIntra", "(I)Z"⟩ ∈ bp_tb := bp_gd (List.mem_of_getElem? (i := 14) (by decide +kernel)) rfl
theorem tw_15 : Cond.selects "BlockPictures$PictureDecoder" ⟨"BlockPictures$PictureDecoder", "predictMean", "(I)V"⟩ ⟨"BlockPictures$PictureDecoder", "predictMean", "(I)V"⟩ ∈ bp_tb := bp_gd (List.mem_of_getElem? (i := 15) (by decide +kernel)) rfl
theorem tw_16 : Cond.selects "BlockPictures$PictureDecoder" ⟨"BlockPictures$PictureDecoder", "predictFrom", "(IIII)V"⟩ ⟨"BlockPictures$PictureDecoder", "predictFrom", "(IIII)V"⟩ ∈ bp_tb := bp_gd (List.mem_of_getElem? (i := 16) (by decide +kernel)) rfl
theorem tw_17 : Cond.selects "BlockPictures$PictureDecoder" ⟨"BlockPictures$PictureDecoder", "readResidual", "()V"⟩ ⟨"BlockPictures$PictureDecoder", "readResidual", "()V"⟩ ∈ bp_tb := bp_gd (List.mem_of_getElem? (i := 17) (by decide +kernel)) rfl
theorem tw_18 : Cond.selects "BlockPictures$PictureDecoder" ⟨"BlockPictures$PictureDecoder", "scaleAt", "(I)I"⟩ ⟨"BlockPictures$PictureDecoder", "scaleAt", "(I)I"⟩ ∈ bp_tb := bp_gd (List.mem_of_getElem? (i := 18) (by decide +kernel)) rfl
theorem tw_19 : Cond.selects "BlockPictures$PictureDecoder" ⟨"BlockPictures$PictureDecoder", "addResidual", "(I)V"⟩ ⟨"BlockPictures$PictureDecoder", "addResidual", "(I)V"⟩ ∈ bp_tb := bp_gd (List.mem_of_getElem? (i := 19) (by decide +kernel)) rfl
theorem tw_20 : Cond.selects "BlockPictures$PictureDecoder" ⟨"BlockPictures$PictureDecoder", "residualAt", "(II)I"⟩ ⟨"BlockPictures$PictureDecoder", "residualAt", "(II)I"⟩ ∈ bp_tb := bp_gd (List.mem_of_getElem? (i := 20) (by decide +kernel)) rfl
theorem tw_21 : Cond.selects "BlockPictures$PictureBuffer" ⟨"BlockPictures$PictureBuffer", "showLeast", "()V"⟩ ⟨"BlockPictures$PictureBuffer", "showLeast", "()V"⟩ ∈ bp_tb := bp_gd (List.mem_of_getElem? (i := 21) (by decide +kernel)) rfl
theorem tw_22 : Cond.selects "BlockPictures$PictureBuffer" ⟨"BlockPictures$PictureBuffer", "leastWaiting", "()I"⟩ ⟨"BlockPictures$PictureBuffer", "leastWaiting", "()I"⟩ ∈ bp_tb := bp_gd (List.mem_of_getElem? (i := 22) (by decide +kernel)) rfl
theorem tw_23 : Cond.selects "BlockPictures$PictureBuffer" ⟨"BlockPictures$PictureBuffer", "show", "(LBlockPictures$Picture;)V"⟩ ⟨"BlockPictures$PictureBuffer", "show", "(LBlockPictures$Picture;)V"⟩ ∈ bp_tb := bp_gd (List.mem_of_getElem? (i := 23) (by decide +kernel)) rfl
theorem tw_24 : Cond.selects "BlockPictures$PictureBuffer" ⟨"BlockPictures$PictureBuffer", "makeRoomForReference", "()V"⟩ ⟨"BlockPictures$PictureBuffer", "makeRoomForReference", "()V"⟩ ∈ bp_tb := bp_gd (List.mem_of_getElem? (i := 24) (by decide +kernel)) rfl
theorem tw_25 : Cond.selects "BlockPictures$PictureBuffer" ⟨"BlockPictures$PictureBuffer", "sweep", "()V"⟩ ⟨"BlockPictures$PictureBuffer", "sweep", "()V"⟩ ∈ bp_tb := bp_gd (List.mem_of_getElem? (i := 25) (by decide +kernel)) rfl
theorem tw_26 : Cond.selects "BlockPictures$UnitWriter" ⟨"BlockPictures$UnitWriter", "begin", "(I)V"⟩ ⟨"BlockPictures$UnitWriter", "begin", "(I)V"⟩ ∈ bp_tb := bp_gd (List.mem_of_getElem? (i := 26) (by decide +kernel)) rfl
theorem tw_27 : Cond.selects "BlockPictures$UnitWriter" ⟨"BlockPictures$UnitWriter", "putBits", "(II)V"⟩ ⟨"BlockPictures$UnitWriter", "putBits", "(II)V"⟩ ∈ bp_tb := bp_gd (List.mem_of_getElem? (i := 27) (by decide +kernel)) rfl
theorem tw_28 : Cond.selects "BlockPictures$UnitWriter" ⟨"BlockPictures$UnitWriter", "putByte", "(I)V"⟩ ⟨"BlockPictures$UnitWriter", "putByte", "(I)V"⟩ ∈ bp_tb := bp_gd (List.mem_of_getElem? (i := 28) (by decide +kernel)) rfl
theorem tw_29 : Cond.selects "BlockPictures$UnitWriter" ⟨"BlockPictures$UnitWriter", "append", "(I)V"⟩ ⟨"BlockPictures$UnitWriter", "append", "(I)V"⟩ ∈ bp_tb := bp_gd (List.mem_of_getElem? (i := 29) (by decide +kernel)) rfl
theorem tw_30 : Cond.selects "BlockPictures$UnitWriter" ⟨"BlockPictures$UnitWriter", "putNumber", "(I)V"⟩ ⟨"BlockPictures$UnitWriter", "putNumber", "(I)V"⟩ ∈ bp_tb := bp_gd (List.mem_of_getElem? (i := 30) (by decide +kernel)) rfl
theorem tw_31 : Cond.selects "BlockPictures$UnitWriter" ⟨"BlockPictures$UnitWriter", "close", "()V"⟩ ⟨"BlockPictures$UnitWriter", "close", "()V"⟩ ∈ bp_tb := bp_gd (List.mem_of_getElem? (i := 31) (by decide +kernel)) rfl
theorem tw_32 : Cond.selects "BlockPicturesModel" ⟨"BlockPicturesModel", "clearLatest", "()V"⟩ ⟨"BlockPicturesModel", "clearLatest", "()V"⟩ ∈ bp_tb := bp_gd (List.mem_of_getElem? (i := 32) (by decide +kernel)) rfl
theorem tw_33 : Cond.selects "BlockPicturesModel" ⟨"BlockPicturesModel", "take", "(I)V"⟩ ⟨"BlockPicturesModel", "take", "(I)V"⟩ ∈ bp_tb := bp_gd (List.mem_of_getElem? (i := 33) (by decide +kernel)) rfl
theorem tw_34 : Cond.selects "BlockPicturesModel" ⟨"BlockPicturesModel", "close", "(I)V"⟩ ⟨"BlockPicturesModel", "close", "(I)V"⟩ ∈ bp_tb := bp_gd (List.mem_of_getElem? (i := 34) (by decide +kernel)) rfl
theorem tw_35 : Cond.selects "BlockPicturesModel" ⟨"BlockPicturesModel", "finish", "()V"⟩ ⟨"BlockPicturesModel", "finish", "()V"⟩ ∈ bp_tb := bp_gd (List.mem_of_getElem? (i := 35) (by decide +kernel)) rfl
theorem tw_36 : Cond.selects "BlockPicturesModel" ⟨"BlockPicturesModel", "work", "()V"⟩ ⟨"BlockPicturesModel", "work", "()V"⟩ ∈ bp_tb := bp_gd (List.mem_of_getElem? (i := 36) (by decide +kernel)) rfl
theorem tw_37 : Cond.selects "BlockPicturesModel" ⟨"BlockPicturesModel", "parameters", "()V"⟩ ⟨"BlockPicturesModel", "parameters", "()V"⟩ ∈ bp_tb := bp_gd (List.mem_of_getElem? (i := 37) (by decide +kernel)) rfl
theorem tw_38 : Cond.selects "BlockPicturesModel" ⟨"BlockPicturesModel", "number", "(II)I"⟩ ⟨"BlockPicturesModel", "number", "(II)I"⟩ ∈ bp_tb := bp_gd (List.mem_of_getElem? (i := 38) (by decide +kernel)) rfl
theorem tw_39 : Cond.selects "BlockPicturesModel" ⟨"BlockPicturesModel", "bits", "(I)I"⟩ ⟨"BlockPicturesModel", "bits", "(I)I"⟩ ∈ bp_tb := bp_gd (List.mem_of_getElem? (i := 39) (by decide +kernel)) rfl
theorem tw_40 : Cond.selects "BlockPicturesModel" ⟨"BlockPicturesModel", "toEnd", "()V"⟩ ⟨"BlockPicturesModel", "toEnd", "()V"⟩ ∈ bp_tb := bp_gd (List.mem_of_getElem? (i := 40) (by decide +kernel)) rfl
theorem tw_41 : Cond.selects "BlockPicturesModel" ⟨"BlockPicturesModel", "picture", "(ZI)V"⟩ ⟨"BlockPicturesModel", "picture", "(ZI)V"⟩ ∈ bp_tb := bp_gd (List.mem_of_getElem? (i := 41) (by decide +kernel)) rfl
theorem tw_42 : Cond.selects "BlockPicturesModel" ⟨"BlockPicturesModel", "references", "()I"⟩ ⟨"BlockPicturesModel", "references", "()I"⟩ ∈ bp_tb := bp_gd (List.mem_of_getElem? (i := 42) (by decide +kernel)) rfl
theorem tw_43 : Cond.selects "BlockPicturesModel" ⟨"BlockPicturesModel", "signed", "()I"⟩ ⟨"BlockPicturesModel", "signed", "()I"⟩ ∈ bp_tb := bp_gd (List.mem_of_getElem? (i := 43) (by decide +kernel)) rfl
theorem tw_44 : Cond.selects "BlockPicturesModel" ⟨"BlockPicturesModel", "block", "(ZI)V"⟩ ⟨"BlockPicturesModel", "block", "(ZI)V"⟩ ∈ bp_tb := bp_gd (List.mem_of_getElem? (i := 44) (by decide +kernel)) rfl
theorem tw_45 : Cond.selects "BlockPicturesModel" ⟨"BlockPicturesModel", "interBlock", "(IZ)V"⟩ ⟨"BlockPicturesModel", "interBlock", "(IZ)V"⟩ ∈ bp_tb := bp_gd (List.mem_of_getElem? (i := 45) (by decide +kernel)) rfl
theorem tw_46 : Cond.selects "BlockPicturesModel" ⟨"BlockPicturesModel", "guessed", "(IZ)I"⟩ ⟨"BlockPicturesModel", "guessed", "(IZ)I"⟩ ∈ bp_tb := bp_gd (List.mem_of_getElem? (i := 46) (by decide +kernel)) rfl
theorem tw_47 : Cond.selects "BlockPicturesModel" ⟨"BlockPicturesModel", "residual", "(I)V"⟩ ⟨"BlockPicturesModel", "residual", "(I)V"⟩ ∈ bp_tb := bp_gd (List.mem_of_getElem? (i := 47) (by decide +kernel)) rfl
theorem tw_48 : Cond.selects "BlockPicturesModel" ⟨"BlockPicturesModel", "listed", "(I)I"⟩ ⟨"BlockPicturesModel", "listed", "(I)I"⟩ ∈ bp_tb := bp_gd (List.mem_of_getElem? (i := 48) (by decide +kernel)) rfl
theorem tw_49 : Cond.selects "BlockPicturesModel" ⟨"BlockPicturesModel", "reference", "(I)I"⟩ ⟨"BlockPicturesModel", "reference", "(I)I"⟩ ∈ bp_tb := bp_gd (List.mem_of_getElem? (i := 49) (by decide +kernel)) rfl
theorem tw_50 : Cond.selects "BlockPicturesModel" ⟨"BlockPicturesModel", "half", "(III)I"⟩ ⟨"BlockPicturesModel", "half", "(III)I"⟩ ∈ bp_tb := bp_gd (List.mem_of_getElem? (i := 50) (by decide +kernel)) rfl
theorem tw_51 : Cond.selects "BlockPicturesModel" ⟨"BlockPicturesModel", "sampleOf", "(III)I"⟩ ⟨"BlockPicturesModel", "sampleOf", "(III)I"⟩ ∈ bp_tb := bp_gd (List.mem_of_getElem? (i := 51) (by decide +kernel)) rfl
theorem tw_52 : Cond.selects "BlockPicturesModel" ⟨"BlockPicturesModel", "added", "(II)I"⟩ ⟨"BlockPicturesModel", "added", "(II)I"⟩ ∈ bp_tb := bp_gd (List.mem_of_getElem? (i := 52) (by decide +kernel)) rfl
theorem tw_53 : Cond.selects "BlockPicturesModel" ⟨"BlockPicturesModel", "intraBlock", "(I)V"⟩ ⟨"BlockPicturesModel", "intraBlock", "(I)V"⟩ ∈ bp_tb := bp_gd (List.mem_of_getElem? (i := 53) (by decide +kernel)) rfl
theorem tw_54 : Cond.selects "BlockPicturesModel" ⟨"BlockPicturesModel", "edges", "()V"⟩ ⟨"BlockPicturesModel", "edges", "()V"⟩ ∈ bp_tb := bp_gd (List.mem_of_getElem? (i := 54) (by decide +kernel)) rfl
theorem tw_55 : Cond.selects "BlockPicturesModel" ⟨"BlockPicturesModel", "edge", "(IIII)V"⟩ ⟨"BlockPicturesModel", "edge", "(IIII)V"⟩ ∈ bp_tb := bp_gd (List.mem_of_getElem? (i := 55) (by decide +kernel)) rfl
theorem tw_56 : Cond.selects "BlockPicturesModel" ⟨"BlockPicturesModel", "strength", "(II)I"⟩ ⟨"BlockPicturesModel", "strength", "(II)I"⟩ ∈ bp_tb := bp_gd (List.mem_of_getElem? (i := 56) (by decide +kernel)) rfl
theorem tw_57 : Cond.selects "BlockPicturesModel" ⟨"BlockPicturesModel", "line", "(III)V"⟩ ⟨"BlockPicturesModel", "line", "(III)V"⟩ ∈ bp_tb := bp_gd (List.mem_of_getElem? (i := 57) (by decide +kernel)) rfl
theorem tw_58 : Cond.selects "BlockPicturesModel" ⟨"BlockPicturesModel", "remember", "()V"⟩ ⟨"BlockPicturesModel", "remember", "()V"⟩ ∈ bp_tb := bp_gd (List.mem_of_getElem? (i := 58) (by decide +kernel)) rfl
theorem tw_59 : Cond.selects "BlockPicturesModel" ⟨"BlockPicturesModel", "keep", "(ZIZ)V"⟩ ⟨"BlockPicturesModel", "keep", "(ZIZ)V"⟩ ∈ bp_tb := bp_gd (List.mem_of_getElem? (i := 59) (by decide +kernel)) rfl
theorem tw_60 : Cond.selects "BlockPicturesModel" ⟨"BlockPicturesModel", "showAll", "()V"⟩ ⟨"BlockPicturesModel", "showAll", "()V"⟩ ∈ bp_tb := bp_gd (List.mem_of_getElem? (i := 60) (by decide +kernel)) rfl
theorem tw_61 : Cond.selects "BlockPicturesModel" ⟨"BlockPicturesModel", "showFirst", "()V"⟩ ⟨"BlockPicturesModel", "showFirst", "()V"⟩ ∈ bp_tb := bp_gd (List.mem_of_getElem? (i := 61) (by decide +kernel)) rfl
theorem tw_62 : Cond.selects "BlockPicturesModel" ⟨"BlockPicturesModel", "first", "()I"⟩ ⟨"BlockPicturesModel", "first", "()I"⟩ ∈ bp_tb := bp_gd (List.mem_of_getElem? (i := 62) (by decide +kernel)) rfl
theorem tw_63 : Cond.selects "BlockPicturesModel" ⟨"BlockPicturesModel", "show", "(I)V"⟩ ⟨"BlockPicturesModel", "show", "(I)V"⟩ ∈ bp_tb := bp_gd (List.mem_of_getElem? (i := 63) (by decide +kernel)) rfl
theorem tw_64 : Cond.selects "BlockPicturesModel" ⟨"BlockPicturesModel", "clean", "()V"⟩ ⟨"BlockPicturesModel", "clean", "()V"⟩ ∈ bp_tb := bp_gd (List.mem_of_getElem? (i := 64) (by decide +kernel)) rfl
theorem tw_65 : Cond.selects "BlockPicturesModel" ⟨"BlockPicturesModel", "byteOut", "(I)V"⟩ ⟨"BlockPicturesModel", "byteOut", "(I)V"⟩ ∈ bp_tb := bp_gd (List.mem_of_getElem? (i := 65) (by decide +kernel)) rfl
theorem tw_66 : Cond.selects "BlockPicturesModel" ⟨"BlockPicturesModel", "numberOut", "(I)V"⟩ ⟨"BlockPicturesModel", "numberOut", "(I)V"⟩ ∈ bp_tb := bp_gd (List.mem_of_getElem? (i := 66) (by decide +kernel)) rfl
theorem tw_67 : Cond.selects "BlockPicturesModel" ⟨"BlockPicturesModel", "bitsOut", "(II)V"⟩ ⟨"BlockPicturesModel", "bitsOut", "(II)V"⟩ ∈ bp_tb := bp_gd (List.mem_of_getElem? (i := 67) (by decide +kernel)) rfl
theorem tw_69 : Cond.initialized "BlockPictures" ∈ bp_tb := bp_gd (List.mem_of_getElem? (i := 69) (by decide +kernel)) rfl
theorem tw_70 : Cond.initialized "BlockPictures$UnitIntake" ∈ bp_tb := bp_gd (List.mem_of_getElem? (i := 70) (by decide +kernel)) rfl
theorem tw_71 : Cond.initialized "BlockPictures$Parameters" ∈ bp_tb := bp_gd (List.mem_of_getElem? (i := 71) (by decide +kernel)) rfl
theorem tw_72 : Cond.initialized "BlockPictures$PictureDecoder" ∈ bp_tb := bp_gd (List.mem_of_getElem? (i := 72) (by decide +kernel)) rfl
theorem tw_73 : Cond.initialized "BlockPictures$BitReader" ∈ bp_tb := bp_gd (List.mem_of_getElem? (i := 73) (by decide +kernel)) rfl
theorem tw_74 : Cond.initialized "BlockPictures$Picture" ∈ bp_tb := bp_gd (List.mem_of_getElem? (i := 74) (by decide +kernel)) rfl
theorem tw_75 : Cond.initialized "BlockPictures$BlockRows" ∈ bp_tb := bp_gd (List.mem_of_getElem? (i := 75) (by decide +kernel)) rfl
theorem tw_76 : Cond.initialized "BlockPictures$Motion" ∈ bp_tb := bp_gd (List.mem_of_getElem? (i := 76) (by decide +kernel)) rfl
theorem tw_77 : Cond.initialized "BlockPictures$PictureBuffer" ∈ bp_tb := bp_gd (List.mem_of_getElem? (i := 77) (by decide +kernel)) rfl
theorem tw_78 : Cond.initialized "BlockPictures$UnitWriter" ∈ bp_tb := bp_gd (List.mem_of_getElem? (i := 78) (by decide +kernel)) rfl
theorem tw_79 : Cond.initialized "BlockPicturesModel" ∈ bp_tb := bp_gd (List.mem_of_getElem? (i := 79) (by decide +kernel)) rfl
theorem tw_80 : Cond.initialized "java/lang/System" ∈ bp_tb := bp_gd (List.mem_of_getElem? (i := 80) (by decide +kernel)) rfl
theorem tw_81 : Cond.initialized "java/lang/Math" ∈ bp_tb := bp_gd (List.mem_of_getElem? (i := 81) (by decide +kernel)) rfl
theorem tw_82 : Cond.initialized "java/util/Arrays" ∈ bp_tb := bp_gd (List.mem_of_getElem? (i := 82) (by decide +kernel)) rfl
theorem tw_83 : Cond.initialized "BlockPictures$EdgeFilter" ∈ bp_tb := bp_gd (List.mem_of_getElem? (i := 83) (by decide +kernel)) rfl
theorem tw_98 : Cond.fieldLink "BlockPictures$UnitIntake" 11 "BlockPictures$UnitIntake" "bytes" "[I" ∈ bp_tb := bp_gd (List.mem_of_getElem? (i := 98) (by decide +kernel)) rfl
theorem tw_99 : Cond.fieldLink "BlockPictures" 146 "BlockPictures$UnitIntake" "bytes" "[I" ∈ bp_tb := bp_gd (List.mem_of_getElem? (i := 99) (by decide +kernel)) rfl
theorem tw_100 : Cond.fieldLink "BlockPictures$UnitIntake" 15 "BlockPictures$UnitIntake" "length" "I" ∈ bp_tb := bp_gd (List.mem_of_getElem? (i := 100) (by decide +kernel)) rfl
theorem tw_101 : Cond.fieldLink "BlockPictures$UnitIntake" 19 "BlockPictures$UnitIntake" "endedLength" "I" ∈ bp_tb := bp_gd (List.mem_of_getElem? (i := 101) (by decide +kernel)) rfl
theorem tw_102 : Cond.fieldLink "BlockPictures" 151 "BlockPictures$UnitIntake" "endedLength" "I" ∈ bp_tb := bp_gd (List.mem_of_getElem? (i := 102) (by decide +kernel)) rfl
theorem tw_103 : Cond.fieldLink "BlockPictures$UnitIntake" 22 "BlockPictures$UnitIntake" "zeros" "I" ∈ bp_tb := bp_gd (List.mem_of_getElem? (i := 103) (by decide +kernel)) rfl
theorem tw_104 : Cond.fieldLink "BlockPictures$UnitIntake" 25 "BlockPictures$UnitIntake" "brokenBy" "I" ∈ bp_tb := bp_gd (List.mem_of_getElem? (i := 104) (by decide +kernel)) rfl
theorem tw_105 : Cond.fieldLink "BlockPictures" 143 "BlockPictures$UnitIntake" "brokenBy" "I" ∈ bp_tb := bp_gd (List.mem_of_getElem? (i := 105) (by decide +kernel)) rfl
theorem tw_106 : Cond.fieldLink "BlockPictures$UnitIntake" 28 "BlockPictures$UnitIntake" "inside" "Z" ∈ bp_tb := bp_gd (List.mem_of_getElem? (i := 106) (by decide +kernel)) rfl
theorem tw_127 : Cond.fieldLink "BlockPictures$Parameters" 9 "BlockPictures$Parameters" "pending" "Z" ∈ bp_tb := bp_gd (List.mem_of_getElem? (i := 127) (by decide +kernel)) rfl
theorem tw_128 : Cond.fieldLink "BlockPictures" 187 "BlockPictures$Parameters" "pending" "Z" ∈ bp_tb := bp_gd (List.mem_of_getElem? (i := 128) (by decide +kernel)) rfl
theorem tw_129 : Cond.fieldLink "BlockPictures$Parameters" 31 "BlockPictures$Parameters" "pendingPlaces" "I" ∈ bp_tb := bp_gd (List.mem_of_getElem? (i := 129) (by decide +kernel)) rfl
theorem tw_130 : Cond.fieldLink "BlockPictures$Parameters" 34 "BlockPictures$Parameters" "pendingBase" "I" ∈ bp_tb := bp_gd (List.mem_of_getElem? (i := 130) (by decide +kernel)) rfl
theorem tw_131 : Cond.fieldLink "BlockPictures$Parameters" 15 "BlockPictures$Parameters" "taken" "Z" ∈ bp_tb := bp_gd (List.mem_of_getElem? (i := 131) (by decide +kernel)) rfl
theorem tw_132 : Cond.fieldLink "BlockPictures" 190 "BlockPictures$Parameters" "taken" "Z" ∈ bp_tb := bp_gd (List.mem_of_getElem? (i := 132) (by decide +kernel)) rfl
theorem tw_133 : Cond.fieldLink "BlockPictures$Parameters" 40 "BlockPictures$Parameters" "places" "I" ∈ bp_tb := bp_gd (List.mem_of_getElem? (i := 133) (by decide +kernel)) rfl
theorem tw_134 : Cond.fieldLink "BlockPictures" 214 "BlockPictures$Parameters" "places" "I" ∈ bp_tb := bp_gd (List.mem_of_getElem? (i := 134) (by decide +kernel)) rfl
theorem tw_135 : Cond.fieldLink "BlockPictures$Parameters" 37 "BlockPictures$Parameters" "base" "I" ∈ bp_tb := bp_gd (List.mem_of_getElem? (i := 135) (by decide +kernel)) rfl
theorem tw_161 : Cond.fieldLink "BlockPictures$BitReader" 13 "BlockPictures$BitReader" "bytes" "[I" ∈ bp_tb := bp_gd (List.mem_of_getElem? (i := 161) (by decide +kernel)) rfl
theorem tw_162 : Cond.fieldLink "BlockPictures$BitReader" 27 "BlockPictures$BitReader" "position" "I" ∈ bp_tb := bp_gd (List.mem_of_getElem? (i := 162) (by decide +kernel)) rfl
theorem tw_163 : Cond.fieldLink "BlockPictures$BitReader" 30 "BlockPictures$BitReader" "dataEnd" "I" ∈ bp_tb := bp_gd (List.mem_of_getElem? (i := 163) (by decide +kernel)) rfl
theorem tw_164 : Cond.fieldLink "BlockPictures$BitReader" 23 "BlockPictures$BitReader" "failure" "I" ∈ bp_tb := bp_gd (List.mem_of_getElem? (i := 164) (by decide +kernel)) rfl
theorem tw_165 : Cond.fieldLink "BlockPictures$Parameters" 27 "BlockPictures$BitReader" "failure" "I" ∈ bp_tb := bp_gd (List.mem_of_getElem? (i := 165) (by decide +kernel)) rfl
theorem tw_166 : Cond.fieldLink "BlockPictures$PictureDecoder" 98 "BlockPictures$BitReader" "failure" "I" ∈ bp_tb := bp_gd (List.mem_of_getElem? (i := 166) (by decide +kernel)) rfl
theorem tw_167 : Cond.fieldLink "BlockPictures" 174 "BlockPictures$BitReader" "failure" "I" ∈ bp_tb := bp_gd (List.mem_of_getElem? (i := 167) (by decide +kernel)) rfl
theorem tw_183 : Cond.fieldLink "BlockPictures$Picture" 9 "BlockPictures$Picture" "samples" "[I" ∈ bp_tb := bp_gd (List.mem_of_getElem? (i := 183) (by decide +kernel)) rfl
theorem tw_184 : Cond.fieldLink "BlockPictures$Motion" 18 "BlockPictures$Picture" "samples" "[I" ∈ bp_tb := bp_gd (List.mem_of_getElem? (i := 184) (by decide +kernel)) rfl
theorem tw_185 : Cond.fieldLink "BlockPictures$PictureDecoder" 139 "BlockPictures$Picture" "samples" "[I" ∈ bp_tb := bp_gd (List.mem_of_getElem? (i := 185) (by decide +kernel)) rfl
theorem tw_186 : Cond.fieldLink "BlockPictures$PictureBuffer" 65 "BlockPictures$Picture" "samples" "[I" ∈ bp_tb := bp_gd (List.mem_of_getElem? (i := 186) (by decide +kernel)) rfl
theorem tw_187 : Cond.fieldLink "BlockPictures" 103 "BlockPictures$Picture" "samples" "[I" ∈ bp_tb := bp_gd (List.mem_of_getElem? (i := 187) (by decide +kernel)) rfl
theorem tw_188 : Cond.fieldLink "BlockPictures$Picture" 21 "BlockPictures$Picture" "orderNumber" "I" ∈ bp_tb := bp_gd (List.mem_of_getElem? (i := 188) (by decide +kernel)) rfl
theorem tw_189 : Cond.fieldLink "BlockPictures$PictureDecoder" 57 "BlockPictures$Picture" "orderNumber" "I" ∈ bp_tb := bp_gd (List.mem_of_getElem? (i := 189) (by decide +kernel)) rfl
theorem tw_190 : Cond.fieldLink "BlockPictures$PictureBuffer" 52 "BlockPictures$Picture" "orderNumber" "I" ∈ bp_tb := bp_gd (List.mem_of_getElem? (i := 190) (by decide +kernel)) rfl
theorem tw_191 : Cond.fieldLink "BlockPictures" 91 "BlockPictures$Picture" "orderNumber" "I" ∈ bp_tb := bp_gd (List.mem_of_getElem? (i := 191) (by decide +kernel)) rfl
theorem tw_192 : Cond.fieldLink "BlockPictures$Picture" 25 "BlockPictures$Picture" "reference" "Z" ∈ bp_tb := bp_gd (List.mem_of_getElem? (i := 192) (by decide +kernel)) rfl
theorem tw_193 : Cond.fieldLink "BlockPictures$PictureDecoder" 61 "BlockPictures$Picture" "reference" "Z" ∈ bp_tb := bp_gd (List.mem_of_getElem? (i := 193) (by decide +kernel)) rfl
theorem tw_194 : Cond.fieldLink "BlockPictures$PictureBuffer" 35 "BlockPictures$Picture" "reference" "Z" ∈ bp_tb := bp_gd (List.mem_of_getElem? (i := 194) (by decide +kernel)) rfl
theorem tw_195 : Cond.fieldLink "BlockPictures" 96 "BlockPictures$Picture" "reference" "Z" ∈ bp_tb := bp_gd (List.mem_of_getElem? (i := 195) (by decide +kernel)) rfl
theorem tw_196 : Cond.fieldLink "BlockPictures$Picture" 29 "BlockPictures$Picture" "waiting" "Z" ∈ bp_tb := bp_gd (List.mem_of_getElem? (i := 196) (by decide +kernel)) rfl
theorem tw_197 : Cond.fieldLink "BlockPictures$PictureDecoder" 65 "BlockPictures$Picture" "waiting" "Z" ∈ bp_tb := bp_gd (List.mem_of_getElem? (i := 197) (by decide +kernel)) rfl
theorem tw_198 : Cond.fieldLink "BlockPictures$PictureBuffer" 62 "BlockPictures$Picture" "waiting" "Z" ∈ bp_tb := bp_gd (List.mem_of_getElem? (i := 198) (by decide +kernel)) rfl
theorem tw_199 : Cond.fieldLink "BlockPictures" 100 "BlockPictures$Picture" "waiting" "Z" ∈ bp_tb := bp_gd (List.mem_of_getElem? (i := 199) (by decide +kernel)) rfl
theorem tw_215 : Cond.fieldLink "BlockPictures$BlockRows" 9 "BlockPictures$BlockRows" "inter" "[Z" ∈ bp_tb := bp_gd (List.mem_of_getElem? (i := 215) (by decide +kernel)) rfl
theorem tw_216 : Cond.fieldLink "BlockPictures$PictureDecoder" 104 "BlockPictures$BlockRows" "inter" "[Z" ∈ bp_tb := bp_gd (List.mem_of_getElem? (i := 216) (by decide +kernel)) rfl
theorem tw_217 : Cond.fieldLink "BlockPictures" 110 "BlockPictures$BlockRows" "inter" "[Z" ∈ bp_tb := bp_gd (List.mem_of_getElem? (i := 217) (by decide +kernel)) rfl
theorem tw_218 : Cond.fieldLink "BlockPictures$BlockRows" 15 "BlockPictures$BlockRows" "residual" "[Z" ∈ bp_tb := bp_gd (List.mem_of_getElem? (i := 218) (by decide +kernel)) rfl
theorem tw_219 : Cond.fieldLink "BlockPictures$PictureDecoder" 128 "BlockPictures$BlockRows" "residual" "[Z" ∈ bp_tb := bp_gd (List.mem_of_getElem? (i := 219) (by decide +kernel)) rfl
theorem tw_220 : Cond.fieldLink "BlockPictures$BlockRows" 18 "BlockPictures$BlockRows" "reference" "[I" ∈ bp_tb := bp_gd (List.mem_of_getElem? (i := 220) (by decide +kernel)) rfl
theorem tw_221 : Cond.fieldLink "BlockPictures$PictureDecoder" 112 "BlockPictures$BlockRows" "reference" "[I" ∈ bp_tb := bp_gd (List.mem_of_getElem? (i := 221) (by decide +kernel)) rfl
theorem tw_222 : Cond.fieldLink "BlockPictures$BlockRows" 22 "BlockPictures$BlockRows" "vx" "[I" ∈ bp_tb := bp_gd (List.mem_of_getElem? (i := 222) (by decide +kernel)) rfl
theorem tw_223 : Cond.fieldLink "BlockPictures$PictureDecoder" 114 "BlockPictures$BlockRows" "vx" "[I" ∈ bp_tb := bp_gd (List.mem_of_getElem? (i := 223) (by decide +kernel)) rfl
theorem tw_224 : Cond.fieldLink "BlockPictures" 116 "BlockPictures$BlockRows" "vx" "[I" ∈ bp_tb := bp_gd (List.mem_of_getElem? (i := 224) (by decide +kernel)) rfl
theorem tw_225 : Cond.fieldLink "BlockPictures$BlockRows" 25 "BlockPictures$BlockRows" "vy" "[I" ∈ bp_tb := bp_gd (List.mem_of_getElem? (i := 225) (by decide +kernel)) rfl
theorem tw_226 : Cond.fieldLink "BlockPictures$PictureDecoder" 117 "BlockPictures$BlockRows" "vy" "[I" ∈ bp_tb := bp_gd (List.mem_of_getElem? (i := 226) (by decide +kernel)) rfl
theorem tw_227 : Cond.fieldLink "BlockPictures" 119 "BlockPictures$BlockRows" "vy" "[I" ∈ bp_tb := bp_gd (List.mem_of_getElem? (i := 227) (by decide +kernel)) rfl
theorem tw_228 : Cond.fieldLink "BlockPictures$BlockRows" 32 "BlockPictures$BlockRows" "smoothedLines" "I" ∈ bp_tb := bp_gd (List.mem_of_getElem? (i := 228) (by decide +kernel)) rfl
theorem tw_229 : Cond.fieldLink "BlockPictures" 122 "BlockPictures$BlockRows" "smoothedLines" "I" ∈ bp_tb := bp_gd (List.mem_of_getElem? (i := 229) (by decide +kernel)) rfl
theorem tw_230 : Cond.fieldLink "BlockPictures$PictureDecoder" 186 "BlockPictures$BlockRows" "smoothedLines" "I" ∈ bp_tb := bp_gd (List.mem_of_getElem? (i := 230) (by decide +kernel)) rfl
theorem tw_252 : Cond.fieldLink "BlockPictures$Motion" 11 "BlockPictures$Motion" "window" "[I" ∈ bp_tb := bp_gd (List.mem_of_getElem? (i := 252) (by decide +kernel)) rfl
theorem tw_253 : Cond.fieldLink "BlockPictures$Motion" 15 "BlockPictures$Motion" "across" "[I" ∈ bp_tb := bp_gd (List.mem_of_getElem? (i := 253) (by decide +kernel)) rfl
theorem tw_259 : Cond.fieldLink "BlockPictures$PictureDecoder" 12 "BlockPictures$PictureDecoder" "bits" "LBlockPictures$BitReader;" ∈ bp_tb := bp_gd (List.mem_of_getElem? (i := 259) (by decide +kernel)) rfl
theorem tw_260 : Cond.fieldLink "BlockPictures" 147 "BlockPictures$PictureDecoder" "bits" "LBlockPictures$BitReader;" ∈ bp_tb := bp_gd (List.mem_of_getElem? (i := 260) (by decide +kernel)) rfl
theorem tw_261 : Cond.fieldLink "BlockPictures$PictureDecoder" 21 "BlockPictures$PictureDecoder" "picture" "LBlockPictures$Picture;" ∈ bp_tb := bp_gd (List.mem_of_getElem? (i := 261) (by decide +kernel)) rfl
theorem tw_262 : Cond.fieldLink "BlockPictures" 224 "BlockPictures$PictureDecoder" "picture" "LBlockPictures$Picture;" ∈ bp_tb := bp_gd (List.mem_of_getElem? (i := 262) (by decide +kernel)) rfl
theorem tw_263 : Cond.fieldLink "BlockPictures$PictureDecoder" 28 "BlockPictures$PictureDecoder" "latest" "LBlockPictures$BlockRows;" ∈ bp_tb := bp_gd (List.mem_of_getElem? (i := 263) (by decide +kernel)) rfl
theorem tw_264 : Cond.fieldLink "BlockPictures" 106 "BlockPictures$PictureDecoder" "latest" "LBlockPictures$BlockRows;" ∈ bp_tb := bp_gd (List.mem_of_getElem? (i := 264) (by decide +kernel)) rfl
theorem tw_265 : Cond.fieldLink "BlockPictures$PictureDecoder" 32 "BlockPictures$PictureDecoder" "references" "[LBlockPictures$Picture;" ∈ bp_tb := bp_gd (List.mem_of_getElem? (i := 265) (by decide +kernel)) rfl
theorem tw_266 : Cond.fieldLink "BlockPictures" 177 "BlockPictures$PictureDecoder" "references" "[LBlockPictures$Picture;" ∈ bp_tb := bp_gd (List.mem_of_getElem? (i := 266) (by decide +kernel)) rfl
theorem tw_267 : Cond.fieldLink "BlockPictures$PictureDecoder" 85 "BlockPictures$PictureDecoder" "referenceCount" "I" ∈ bp_tb := bp_gd (List.mem_of_getElem? (i := 267) (by decide +kernel)) rfl
theorem tw_268 : Cond.fieldLink "BlockPictures" 184 "BlockPictures$PictureDecoder" "referenceCount" "I" ∈ bp_tb := bp_gd (List.mem_of_getElem? (i := 268) (by decide +kernel)) rfl
theorem tw_269 : Cond.fieldLink "BlockPictures$PictureDecoder" 79 "BlockPictures$PictureDecoder" "released" "I" ∈ bp_tb := bp_gd (List.mem_of_getElem? (i := 269) (by decide +kernel)) rfl
theorem tw_270 : Cond.fieldLink "BlockPictures" 218 "BlockPictures$PictureDecoder" "released" "I" ∈ bp_tb := bp_gd (List.mem_of_getElem? (i := 270) (by decide +kernel)) rfl
theorem tw_271 : Cond.fieldLink "BlockPictures$PictureDecoder" 36 "BlockPictures$PictureDecoder" "rows" "LBlockPictures$BlockRows;" ∈ bp_tb := bp_gd (List.mem_of_getElem? (i := 271) (by decide +kernel)) rfl
theorem tw_272 : Cond.fieldLink "BlockPictures$PictureDecoder" 42 "BlockPictures$PictureDecoder" "motion" "LBlockPictures$Motion;" ∈ bp_tb := bp_gd (List.mem_of_getElem? (i := 272) (by decide +kernel)) rfl
theorem tw_273 : Cond.fieldLink "BlockPictures$PictureDecoder" 46 "BlockPictures$PictureDecoder" "coefficients" "[I" ∈ bp_tb := bp_gd (List.mem_of_getElem? (i := 273) (by decide +kernel)) rfl
theorem tw_274 : Cond.fieldLink "BlockPictures$PictureDecoder" 88 "BlockPictures$PictureDecoder" "lastUsed" "I" ∈ bp_tb := bp_gd (List.mem_of_getElem? (i := 274) (by decide +kernel)) rfl
theorem tw_275 : Cond.fieldLink "BlockPictures$PictureDecoder" 72 "BlockPictures$PictureDecoder" "q" "I" ∈ bp_tb := bp_gd (List.mem_of_getElem? (i := 275) (by decide +kernel)) rfl
theorem tw_307 : Cond.fieldLink "BlockPictures$PictureBuffer" 11 "BlockPictures$PictureBuffer" "slots" "[LBlockPictures$Picture;" ∈ bp_tb := bp_gd (List.mem_of_getElem? (i := 307) (by decide +kernel)) rfl
theorem tw_308 : Cond.fieldLink "BlockPictures" 87 "BlockPictures$PictureBuffer" "slots" "[LBlockPictures$Picture;" ∈ bp_tb := bp_gd (List.mem_of_getElem? (i := 308) (by decide +kernel)) rfl
theorem tw_309 : Cond.fieldLink "BlockPictures$PictureBuffer" 25 "BlockPictures$PictureBuffer" "count" "I" ∈ bp_tb := bp_gd (List.mem_of_getElem? (i := 309) (by decide +kernel)) rfl
theorem tw_310 : Cond.fieldLink "BlockPictures" 84 "BlockPictures$PictureBuffer" "count" "I" ∈ bp_tb := bp_gd (List.mem_of_getElem? (i := 310) (by decide +kernel)) rfl
theorem tw_311 : Cond.fieldLink "BlockPictures$PictureBuffer" 29 "BlockPictures$PictureBuffer" "places" "I" ∈ bp_tb := bp_gd (List.mem_of_getElem? (i := 311) (by decide +kernel)) rfl
theorem tw_312 : Cond.fieldLink "BlockPictures" 217 "BlockPictures$PictureBuffer" "places" "I" ∈ bp_tb := bp_gd (List.mem_of_getElem? (i := 312) (by decide +kernel)) rfl
theorem tw_313 : Cond.fieldLink "BlockPictures$PictureBuffer" 17 "BlockPictures$PictureBuffer" "shownSamples" "[I" ∈ bp_tb := bp_gd (List.mem_of_getElem? (i := 313) (by decide +kernel)) rfl
theorem tw_314 : Cond.fieldLink "BlockPictures" 80 "BlockPictures$PictureBuffer" "shownSamples" "[I" ∈ bp_tb := bp_gd (List.mem_of_getElem? (i := 314) (by decide +kernel)) rfl
theorem tw_315 : Cond.fieldLink "BlockPictures$PictureBuffer" 21 "BlockPictures$PictureBuffer" "shownOrders" "[I" ∈ bp_tb := bp_gd (List.mem_of_getElem? (i := 315) (by decide +kernel)) rfl
theorem tw_316 : Cond.fieldLink "BlockPictures$PictureBuffer" 32 "BlockPictures$PictureBuffer" "shownCount" "I" ∈ bp_tb := bp_gd (List.mem_of_getElem? (i := 316) (by decide +kernel)) rfl
theorem tw_317 : Cond.fieldLink "BlockPictures" 55 "BlockPictures$PictureBuffer" "shownCount" "I" ∈ bp_tb := bp_gd (List.mem_of_getElem? (i := 317) (by decide +kernel)) rfl
theorem tw_337 : Cond.fieldLink "BlockPictures$UnitWriter" 9 "BlockPictures$UnitWriter" "source" "[I" ∈ bp_tb := bp_gd (List.mem_of_getElem? (i := 337) (by decide +kernel)) rfl
theorem tw_338 : Cond.fieldLink "BlockPictures" 125 "BlockPictures$UnitWriter" "source" "[I" ∈ bp_tb := bp_gd (List.mem_of_getElem? (i := 338) (by decide +kernel)) rfl
theorem tw_339 : Cond.fieldLink "BlockPictures$UnitWriter" 15 "BlockPictures$UnitWriter" "bytes" "[I" ∈ bp_tb := bp_gd (List.mem_of_getElem? (i := 339) (by decide +kernel)) rfl
theorem tw_340 : Cond.fieldLink "BlockPictures" 137 "BlockPictures$UnitWriter" "bytes" "[I" ∈ bp_tb := bp_gd (List.mem_of_getElem? (i := 340) (by decide +kernel)) rfl
theorem tw_341 : Cond.fieldLink "BlockPictures$UnitWriter" 36 "BlockPictures$UnitWriter" "count" "I" ∈ bp_tb := bp_gd (List.mem_of_getElem? (i := 341) (by decide +kernel)) rfl
theorem tw_342 : Cond.fieldLink "BlockPictures" 132 "BlockPictures$UnitWriter" "count" "I" ∈ bp_tb := bp_gd (List.mem_of_getElem? (i := 342) (by decide +kernel)) rfl
theorem tw_343 : Cond.fieldLink "BlockPictures$UnitWriter" 40 "BlockPictures$UnitWriter" "zeros" "I" ∈ bp_tb := bp_gd (List.mem_of_getElem? (i := 343) (by decide +kernel)) rfl
theorem tw_344 : Cond.fieldLink "BlockPictures$UnitWriter" 43 "BlockPictures$UnitWriter" "gathered" "I" ∈ bp_tb := bp_gd (List.mem_of_getElem? (i := 344) (by decide +kernel)) rfl
theorem tw_345 : Cond.fieldLink "BlockPictures$UnitWriter" 46 "BlockPictures$UnitWriter" "gatheredBits" "I" ∈ bp_tb := bp_gd (List.mem_of_getElem? (i := 345) (by decide +kernel)) rfl
theorem tw_359 : Cond.fieldLink "BlockPictures" 10 "BlockPictures" "intake" "LBlockPictures$UnitIntake;" ∈ bp_tb := bp_gd (List.mem_of_getElem? (i := 359) (by decide +kernel)) rfl
theorem tw_360 : Cond.fieldLink "BlockPictures" 19 "BlockPictures" "parameters" "LBlockPictures$Parameters;" ∈ bp_tb := bp_gd (List.mem_of_getElem? (i := 360) (by decide +kernel)) rfl
theorem tw_361 : Cond.fieldLink "BlockPictures" 26 "BlockPictures" "decoder" "LBlockPictures$PictureDecoder;" ∈ bp_tb := bp_gd (List.mem_of_getElem? (i := 361) (by decide +kernel)) rfl
theorem tw_362 : Cond.fieldLink "BlockPictures" 33 "BlockPictures" "buffer" "LBlockPictures$PictureBuffer;" ∈ bp_tb := bp_gd (List.mem_of_getElem? (i := 362) (by decide +kernel)) rfl
theorem tw_363 : Cond.fieldLink "BlockPictures" 40 "BlockPictures" "writer" "LBlockPictures$UnitWriter;" ∈ bp_tb := bp_gd (List.mem_of_getElem? (i := 363) (by decide +kernel)) rfl
theorem tw_364 : Cond.fieldLink "BlockPictures" 51 "BlockPictures" "stopFault" "I" ∈ bp_tb := bp_gd (List.mem_of_getElem? (i := 364) (by decide +kernel)) rfl
theorem tw_365 : Cond.fieldLink "BlockPictures" 73 "BlockPictures" "unitCount" "I" ∈ bp_tb := bp_gd (List.mem_of_getElem? (i := 365) (by decide +kernel)) rfl
theorem tw_385 : Cond.methodLink "BlockPictures" 44 ⟨"BlockPictures", "unitEndsAt", "(I)Z"⟩ ∈ bp_tb := bp_gd (List.mem_of_getElem? (i := 385) (by decide +kernel)) rfl
theorem tw_387 : Cond.instanceMethod ⟨"BlockPictures", "unitEndsAt", "(I)Z"⟩ ∈ bp_tb := bp_gd (List.mem_of_getElem? (i := 387) (by decide +kernel)) rfl
theorem tw_388 : Cond.code ⟨"BlockPictures", "unitEndsAt", "(I)Z"⟩ prog_1_method_19_code 3 (Option.some .boolean) ∈ bp_tb := bp_gd (List.mem_of_getElem? (i := 388) (by decide +kernel)) rfl
theorem tw_389 : Cond.methodLink "BlockPictures" 140 ⟨"BlockPictures$UnitIntake", "take", "(I)Z"⟩ ∈ bp_tb := bp_gd (List.mem_of_getElem? (i := 389) (by decide +kernel)) rfl
theorem tw_390 : Cond.instanceMethod ⟨"BlockPictures$UnitIntake", "take", "(I)Z"⟩ ∈ bp_tb := bp_gd (List.mem_of_getElem? (i := 390) (by decide +kernel)) rfl
theorem tw_391 : Cond.selects "BlockPictures$UnitIntake" ⟨"BlockPictures$UnitIntake", "take", "(I)Z"⟩ ⟨"BlockPictures$UnitIntake", "take", "(I)Z"⟩ ∈ bp_tb := bp_gd (List.mem_of_getElem? (i := 391) (by decide +kernel)) rfl
theorem tw_392 : Cond.code ⟨"BlockPictures$UnitIntake", "take", "(I)Z"⟩ prog_10_method_3_code 2 (Option.some .boolean) ∈ bp_tb := bp_gd (List.mem_of_getElem? (i := 392) (by decide +kernel)) rfl
theorem tw_393 : Cond.methodLink "BlockPictures$UnitIntake" 32 ⟨"BlockPictures$UnitIntake", "takeOutside", "(I)V"⟩ ∈ bp_tb := bp_gd (List.mem_of_getElem? (i := 393) (by decide +kernel)) rfl
theorem tw_395 : Cond.instanceMethod ⟨"BlockPictures$UnitIntake", "takeOutside", "(I)V"⟩ ∈ bp_tb := bp_gd (List.mem_of_getElem? (i := 395) (by decide +kernel)) rfl
theorem tw_396 : Cond.code ⟨"BlockPictures$UnitIntake", "takeOutside", "(I)V"⟩ prog_10_method_5_code 2 (Option.none : Option Jvm.ClassFile.FieldType) ∈ bp_tb := bp_gd (List.mem_of_getElem? (i := 396) (by decide +kernel)) rfl
theorem tw_397 : Cond.methodLink "BlockPictures$UnitIntake" 36 ⟨"BlockPictures$UnitIntake", "takeMark", "(I)Z"⟩ ∈ bp_tb := bp_gd (List.mem_of_getElem? (i := 397) (by decide +kernel)) rfl
theorem tw_399 : Cond.instanceMethod ⟨"BlockPictures$UnitIntake", "takeMark", "(I)Z"⟩ ∈ bp_tb := bp_gd (List.mem_of_getElem? (i := 399) (by decide +kernel)) rfl
theorem tw_400 : Cond.code ⟨"BlockPictures$UnitIntake", "takeMark", "(I)Z"⟩ prog_10_method_6_code 2 (Option.some .boolean) ∈ bp_tb := bp_gd (List.mem_of_getElem? (i := 400) (by decide +kernel)) rfl
theorem tw_401 : Cond.methodLink "BlockPictures$UnitIntake" 43 ⟨"BlockPictures$UnitIntake", "endUnit", "(I)Z"⟩ ∈ bp_tb := bp_gd (List.mem_of_getElem? (i := 401) (by decide +kernel)) rfl
theorem tw_403 : Cond.instanceMethod ⟨"BlockPictures$UnitIntake", "endUnit", "(I)Z"⟩ ∈ bp_tb := bp_gd (List.mem_of_getElem? (i := 403) (by decide +kernel)) rfl
theorem tw_404 : Cond.code ⟨"BlockPictures$UnitIntake", "endUnit", "(I)Z"⟩ prog_10_method_7_code 2 (Option.some .boolean) ∈ bp_tb := bp_gd (List.mem_of_getElem? (i := 404) (by decide +kernel)) rfl
theorem tw_405 : Cond.methodLink "BlockPictures$UnitIntake" 40 ⟨"BlockPictures$UnitIntake", "append", "(I)V"⟩ ∈ bp_tb := bp_gd (List.mem_of_getElem? (i := 405) (by decide +kernel)) rfl
theorem tw_407 : Cond.instanceMethod ⟨"BlockPictures$UnitIntake", "append", "(I)V"⟩ ∈ bp_tb := bp_gd (List.mem_of_getElem? (i := 407) (by decide +kernel)) rfl
theorem tw_408 : Cond.code ⟨"BlockPictures$UnitIntake", "append", "(I)V"⟩ prog_10_method_8_code 2 (Option.none : Option Jvm.ClassFile.FieldType) ∈ bp_tb := bp_gd (List.mem_of_getElem? (i := 408) (by decide +kernel)) rfl
theorem tw_409 : Cond.methodLink "BlockPictures" 48 ⟨"BlockPictures", "workThrough", "()V"⟩ ∈ bp_tb := bp_gd (List.mem_of_getElem? (i := 409) (by decide +kernel)) rfl
theorem tw_411 : Cond.instanceMethod ⟨"BlockPictures", "workThrough", "()V"⟩ ∈ bp_tb := bp_gd (List.mem_of_getElem? (i := 411) (by decide +kernel)) rfl
theorem tw_412 : Cond.code ⟨"BlockPictures", "workThrough", "()V"⟩ prog_1_method_20_code 4 (Option.none : Option Jvm.ClassFile.FieldType) ∈ bp_tb := bp_gd (List.mem_of_getElem? (i := 412) (by decide +kernel)) rfl
theorem tw_413 : Cond.methodLink "BlockPictures" 154 ⟨"BlockPictures$BitReader", "open", "([II)V"⟩ ∈ bp_tb := bp_gd (List.mem_of_getElem? (i := 413) (by decide +kernel)) rfl
theorem tw_414 : Cond.instanceMethod ⟨"BlockPictures$BitReader", "open", "([II)V"⟩ ∈ bp_tb := bp_gd (List.mem_of_getElem? (i := 414) (by decide +kernel)) rfl
theorem tw_415 : Cond.selects "BlockPictures$BitReader" ⟨"BlockPictures$BitReader", "open", "([II)V"⟩ ⟨"BlockPictures$BitReader", "open", "([II)V"⟩ ∈ bp_tb := bp_gd (List.mem_of_getElem? (i := 415) (by decide +kernel)) rfl
theorem tw_416 : Cond.code ⟨"BlockPictures$BitReader", "open", "([II)V"⟩ prog_2_method_2_code 4 (Option.none : Option Jvm.ClassFile.FieldType) ∈ bp_tb := bp_gd (List.mem_of_getElem? (i := 416) (by decide +kernel)) rfl
theorem tw_417 : Cond.methodLink "BlockPictures$BitReader" 17 ⟨"java/lang/System", "arraycopy", "(Ljava/lang/Object;ILjava/lang/Object;II)V"⟩ ∈ bp_tb := bp_gd (List.mem_of_getElem? (i := 417) (by decide +kernel)) rfl
theorem tw_418 : Cond.static ⟨"java/lang/System", "arraycopy", "(Ljava/lang/Object;ILjava/lang/Object;II)V"⟩ ∈ bp_tb := bp_gd (List.mem_of_getElem? (i := 418) (by decide +kernel)) rfl
theorem tw_419 : Cond.native ⟨"java/lang/System", "arraycopy", "(Ljava/lang/Object;ILjava/lang/Object;II)V"⟩ ∈ bp_tb := bp_gd (List.mem_of_getElem? (i := 419) (by decide +kernel)) rfl
theorem tw_420 : Cond.methodLink "BlockPictures" 160 ⟨"BlockPictures$BitReader", "fail", "(I)V"⟩ ∈ bp_tb := bp_gd (List.mem_of_getElem? (i := 420) (by decide +kernel)) rfl
theorem tw_421 : Cond.instanceMethod ⟨"BlockPictures$BitReader", "fail", "(I)V"⟩ ∈ bp_tb := bp_gd (List.mem_of_getElem? (i := 421) (by decide +kernel)) rfl
theorem tw_422 : Cond.selects "BlockPictures$BitReader" ⟨"BlockPictures$BitReader", "fail", "(I)V"⟩ ⟨"BlockPictures$BitReader", "fail", "(I)V"⟩ ∈ bp_tb := bp_gd (List.mem_of_getElem? (i := 422) (by decide +kernel)) rfl
theorem tw_423 : Cond.code ⟨"BlockPictures$BitReader", "fail", "(I)V"⟩ prog_2_method_3_code 2 (Option.none : Option Jvm.ClassFile.FieldType) ∈ bp_tb := bp_gd (List.mem_of_getElem? (i := 423) (by decide +kernel)) rfl
theorem tw_424 : Cond.methodLink "BlockPictures" 163 ⟨"BlockPictures$BitReader", "needMark", "()V"⟩ ∈ bp_tb := bp_gd (List.mem_of_getElem? (i := 424) (by decide +kernel)) rfl
theorem tw_425 : Cond.instanceMethod ⟨"BlockPictures$BitReader", "needMark", "()V"⟩ ∈ bp_tb := bp_gd (List.mem_of_getElem? (i := 425) (by decide +kernel)) rfl
theorem tw_426 : Cond.selects "BlockPictures$BitReader" ⟨"BlockPictures$BitReader", "needMark", "()V"⟩ ⟨"BlockPictures$BitReader", "needMark", "()V"⟩ ∈ bp_tb := bp_gd (List.mem_of_getElem? (i := 426) (by decide +kernel)) rfl
theorem tw_427 : Cond.code ⟨"BlockPictures$BitReader", "needMark", "()V"⟩ prog_2_method_4_code 1 (Option.none : Option Jvm.ClassFile.FieldType) ∈ bp_tb := bp_gd (List.mem_of_getElem? (i := 427) (by decide +kernel)) rfl
theorem tw_428 : Cond.methodLink "BlockPictures$BitReader" 33 ⟨"BlockPictures$BitReader", "fail", "(I)V"⟩ ∈ bp_tb := bp_gd (List.mem_of_getElem? (i := 428) (by decide +kernel)) rfl
theorem tw_429 : Cond.methodLink "BlockPictures" 166 ⟨"BlockPictures$Parameters", "readPending", "(LBlockPictures$BitReader;)V"⟩ ∈ bp_tb := bp_gd (List.mem_of_getElem? (i := 429) (by decide +kernel)) rfl
theorem tw_430 : Cond.instanceMethod ⟨"BlockPictures$Parameters", "readPending", "(LBlockPictures$BitReader;)V"⟩ ∈ bp_tb := bp_gd (List.mem_of_getElem? (i := 430) (by decide +kernel)) rfl
theorem tw_431 : Cond.selects "BlockPictures$Parameters" ⟨"BlockPictures$Parameters", "readPending", "(LBlockPictures$BitReader;)V"⟩ ⟨"BlockPictures$Parameters", "readPending", "(LBlockPictures$BitReader;)V"⟩ ∈ bp_tb := bp_gd (List.mem_of_getElem? (i := 431) (by decide +kernel)) rfl
theorem tw_432 : Cond.code ⟨"BlockPictures$Parameters", "readPending", "(LBlockPictures$BitReader;)V"⟩ prog_6_method_3_code 4 (Option.none : Option Jvm.ClassFile.FieldType) ∈ bp_tb := bp_gd (List.mem_of_getElem? (i := 432) (by decide +kernel)) rfl
theorem tw_433 : Cond.methodLink "BlockPictures$Parameters" 18 ⟨"BlockPictures$BitReader", "number", "(II)I"⟩ ∈ bp_tb := bp_gd (List.mem_of_getElem? (i := 433) (by decide +kernel)) rfl
theorem tw_434 : Cond.instanceMethod ⟨"BlockPictures$BitReader", "number", "(II)I"⟩ ∈ bp_tb := bp_gd (List.mem_of_getElem? (i := 434) (by decide +kernel)) rfl
theorem tw_435 : Cond.selects "BlockPictures$BitReader" ⟨"BlockPictures$BitReader", "number", "(II)I"⟩ ⟨"BlockPictures$BitReader", "number", "(II)I"⟩ ∈ bp_tb := bp_gd (List.mem_of_getElem? (i := 435) (by decide +kernel)) rfl
theorem tw_436 : Cond.code ⟨"BlockPictures$BitReader", "number", "(II)I"⟩ prog_2_method_8_code 6 (Option.some .int) ∈ bp_tb := bp_gd (List.mem_of_getElem? (i := 436) (by decide +kernel)) rfl
theorem tw_437 : Cond.methodLink "BlockPictures$BitReader" 37 ⟨"BlockPictures$BitReader", "nextBit", "()I"⟩ ∈ bp_tb := bp_gd (List.mem_of_getElem? (i := 437) (by decide +kernel)) rfl
theorem tw_439 : Cond.instanceMethod ⟨"BlockPictures$BitReader", "nextBit", "()I"⟩ ∈ bp_tb := bp_gd (List.mem_of_getElem? (i := 439) (by decide +kernel)) rfl
theorem tw_440 : Cond.code ⟨"BlockPictures$BitReader", "nextBit", "()I"⟩ prog_2_method_10_code 2 (Option.some .int) ∈ bp_tb := bp_gd (List.mem_of_getElem? (i := 440) (by decide +kernel)) rfl
theorem tw_441 : Cond.methodLink "BlockPictures$Parameters" 24 ⟨"BlockPictures$BitReader", "needEnd", "()V"⟩ ∈ bp_tb := bp_gd (List.mem_of_getElem? (i := 441) (by decide +kernel)) rfl
theorem tw_442 : Cond.instanceMethod ⟨"BlockPictures$BitReader", "needEnd", "()V"⟩ ∈ bp_tb := bp_gd (List.mem_of_getElem? (i := 442) (by decide +kernel)) rfl
theorem tw_443 : Cond.selects "BlockPictures$BitReader" ⟨"BlockPictures$BitReader", "needEnd", "()V"⟩ ⟨"BlockPictures$BitReader", "needEnd", "()V"⟩ ∈ bp_tb := bp_gd (List.mem_of_getElem? (i := 443) (by decide +kernel)) rfl
theorem tw_444 : Cond.code ⟨"BlockPictures$BitReader", "needEnd", "()V"⟩ prog_2_method_5_code 1 (Option.none : Option Jvm.ClassFile.FieldType) ∈ bp_tb := bp_gd (List.mem_of_getElem? (i := 444) (by decide +kernel)) rfl
theorem tw_445 : Cond.methodLink "BlockPictures" 170 ⟨"BlockPictures", "takePicture", "(ZI)V"⟩ ∈ bp_tb := bp_gd (List.mem_of_getElem? (i := 445) (by decide +kernel)) rfl
theorem tw_447 : Cond.instanceMethod ⟨"BlockPictures", "takePicture", "(ZI)V"⟩ ∈ bp_tb := bp_gd (List.mem_of_getElem? (i := 447) (by decide +kernel)) rfl
theorem tw_448 : Cond.code ⟨"BlockPictures", "takePicture", "(ZI)V"⟩ prog_1_method_21_code 4 (Option.none : Option Jvm.ClassFile.FieldType) ∈ bp_tb := bp_gd (List.mem_of_getElem? (i := 448) (by decide +kernel)) rfl
theorem tw_449 : Cond.methodLink "BlockPictures" 180 ⟨"BlockPictures$PictureBuffer", "listReferences", "([LBlockPictures$Picture;)I"⟩ ∈ bp_tb := bp_gd (List.mem_of_getElem? (i := 449) (by decide +kernel)) rfl
theorem tw_450 : Cond.instanceMethod ⟨"BlockPictures$PictureBuffer", "listReferences", "([LBlockPictures$Picture;)I"⟩ ∈ bp_tb := bp_gd (List.mem_of_getElem? (i := 450) (by decide +kernel)) rfl
theorem tw_451 : Cond.selects "BlockPictures$PictureBuffer" ⟨"BlockPictures$PictureBuffer", "listReferences", "([LBlockPictures$Picture;)I"⟩ ⟨"BlockPictures$PictureBuffer", "listReferences", "([LBlockPictures$Picture;)I"⟩ ∈ bp_tb := bp_gd (List.mem_of_getElem? (i := 451) (by decide +kernel)) rfl
theorem tw_452 : Cond.code ⟨"BlockPictures$PictureBuffer", "listReferences", "([LBlockPictures$Picture;)I"⟩ prog_8_method_4_code 4 (Option.some .int) ∈ bp_tb := bp_gd (List.mem_of_getElem? (i := 452) (by decide +kernel)) rfl
theorem tw_453 : Cond.methodLink "BlockPictures" 193 ⟨"BlockPictures$Parameters", "baseFor", "(Z)I"⟩ ∈ bp_tb := bp_gd (List.mem_of_getElem? (i := 453) (by decide +kernel)) rfl
theorem tw_454 : Cond.instanceMethod ⟨"BlockPictures$Parameters", "baseFor", "(Z)I"⟩ ∈ bp_tb := bp_gd (List.mem_of_getElem? (i := 454) (by decide +kernel)) rfl
theorem tw_455 : Cond.selects "BlockPictures$Parameters" ⟨"BlockPictures$Parameters", "baseFor", "(Z)I"⟩ ⟨"BlockPictures$Parameters", "baseFor", "(Z)I"⟩ ∈ bp_tb := bp_gd (List.mem_of_getElem? (i := 455) (by decide +kernel)) rfl
theorem tw_456 : Cond.code ⟨"BlockPictures$Parameters", "baseFor", "(Z)I"⟩ prog_6_method_4_code 2 (Option.some .int) ∈ bp_tb := bp_gd (List.mem_of_getElem? (i := 456) (by decide +kernel)) rfl
theorem tw_457 : Cond.methodLink "BlockPictures" 197 ⟨"BlockPictures$PictureDecoder", "readHeader", "(ZII)V"⟩ ∈ bp_tb := bp_gd (List.mem_of_getElem? (i := 457) (by decide +kernel)) rfl
theorem tw_458 : Cond.instanceMethod ⟨"BlockPictures$PictureDecoder", "readHeader", "(ZII)V"⟩ ∈ bp_tb := bp_gd (List.mem_of_getElem? (i := 458) (by decide +kernel)) rfl
theorem tw_459 : Cond.selects "BlockPictures$PictureDecoder" ⟨"BlockPictures$PictureDecoder", "readHeader", "(ZII)V"⟩ ⟨"BlockPictures$PictureDecoder", "readHeader", "(ZII)V"⟩ ∈ bp_tb := bp_gd (List.mem_of_getElem? (i := 459) (by decide +kernel)) rfl
theorem tw_460 : Cond.code ⟨"BlockPictures$PictureDecoder", "readHeader", "(ZII)V"⟩ prog_9_method_3_code 4 (Option.none : Option Jvm.ClassFile.FieldType) ∈ bp_tb := bp_gd (List.mem_of_getElem? (i := 460) (by decide +kernel)) rfl
theorem tw_461 : Cond.methodLink "BlockPictures$PictureDecoder" 53 ⟨"BlockPictures$BitReader", "number", "(II)I"⟩ ∈ bp_tb := bp_gd (List.mem_of_getElem? (i := 461) (by decide +kernel)) rfl
theorem tw_462 : Cond.methodLink "BlockPictures$PictureDecoder" 68 ⟨"BlockPictures$BitReader", "signed", "(I)I"⟩ ∈ bp_tb := bp_gd (List.mem_of_getElem? (i := 462) (by decide +kernel)) rfl
theorem tw_463 : Cond.static ⟨"BlockPictures$BitReader", "signed", "(I)I"⟩ ∈ bp_tb := bp_gd (List.mem_of_getElem? (i := 463) (by decide +kernel)) rfl
theorem tw_464 : Cond.code ⟨"BlockPictures$BitReader", "signed", "(I)I"⟩ prog_2_method_9_code 1 (Option.some .int) ∈ bp_tb := bp_gd (List.mem_of_getElem? (i := 464) (by decide +kernel)) rfl
theorem tw_465 : Cond.methodLink "BlockPictures$PictureDecoder" 75 ⟨"BlockPictures$BitReader", "fail", "(I)V"⟩ ∈ bp_tb := bp_gd (List.mem_of_getElem? (i := 465) (by decide +kernel)) rfl
theorem tw_466 : Cond.methodLink "BlockPictures$PictureDecoder" 82 ⟨"BlockPictures$PictureDecoder", "readUseOfReferences", "(I)V"⟩ ∈ bp_tb := bp_gd (List.mem_of_getElem? (i := 466) (by decide +kernel)) rfl
theorem tw_468 : Cond.instanceMethod ⟨"BlockPictures$PictureDecoder", "readUseOfReferences", "(I)V"⟩ ∈ bp_tb := bp_gd (List.mem_of_getElem? (i := 468) (by decide +kernel)) rfl
theorem tw_469 : Cond.code ⟨"BlockPictures$PictureDecoder", "readUseOfReferences", "(I)V"⟩ prog_9_method_4_code 3 (Option.none : Option Jvm.ClassFile.FieldType) ∈ bp_tb := bp_gd (List.mem_of_getElem? (i := 469) (by decide +kernel)) rfl
theorem tw_470 : Cond.methodLink "BlockPictures$PictureDecoder" 91 ⟨"BlockPictures$BitReader", "flag", "()Z"⟩ ∈ bp_tb := bp_gd (List.mem_of_getElem? (i := 470) (by decide +kernel)) rfl
theorem tw_471 : Cond.instanceMethod ⟨"BlockPictures$BitReader", "flag", "()Z"⟩ ∈ bp_tb := bp_gd (List.mem_of_getElem? (i := 471) (by decide +kernel)) rfl
theorem tw_472 : Cond.selects "BlockPictures$BitReader" ⟨"BlockPictures$BitReader", "flag", "()Z"⟩ ⟨"BlockPictures$BitReader", "flag", "()Z"⟩ ∈ bp_tb := bp_gd (List.mem_of_getElem? (i := 472) (by decide +kernel)) rfl
theorem tw_473 : Cond.code ⟨"BlockPictures$BitReader", "flag", "()Z"⟩ prog_2_method_7_code 1 (Option.some .boolean) ∈ bp_tb := bp_gd (List.mem_of_getElem? (i := 473) (by decide +kernel)) rfl
theorem tw_474 : Cond.methodLink "BlockPictures$PictureDecoder" 95 ⟨"BlockPictures$PictureDecoder", "putFirst", "(I)V"⟩ ∈ bp_tb := bp_gd (List.mem_of_getElem? (i := 474) (by decide +kernel)) rfl
theorem tw_476 : Cond.instanceMethod ⟨"BlockPictures$PictureDecoder", "putFirst", "(I)V"⟩ ∈ bp_tb := bp_gd (List.mem_of_getElem? (i := 476) (by decide +kernel)) rfl
theorem tw_477 : Cond.code ⟨"BlockPictures$PictureDecoder", "putFirst", "(I)V"⟩ prog_9_method_5_code 4 (Option.none : Option Jvm.ClassFile.FieldType) ∈ bp_tb := bp_gd (List.mem_of_getElem? (i := 477) (by decide +kernel)) rfl
theorem tw_478 : Cond.methodLink "BlockPictures" 201 ⟨"BlockPictures$PictureDecoder", "readBlocks", "(Z)V"⟩ ∈ bp_tb := bp_gd (List.mem_of_getElem? (i := 478) (by decide +kernel)) rfl
theorem tw_479 : Cond.instanceMethod ⟨"BlockPictures$PictureDecoder", "readBlocks", "(Z)V"⟩ ∈ bp_tb := bp_gd (List.mem_of_getElem? (i := 479) (by decide +kernel)) rfl
theorem tw_480 : Cond.selects "BlockPictures$PictureDecoder" ⟨"BlockPictures$PictureDecoder", "readBlocks", "(Z)V"⟩ ⟨"BlockPictures$PictureDecoder", "readBlocks", "(Z)V"⟩ ∈ bp_tb := bp_gd (List.mem_of_getElem? (i := 480) (by decide +kernel)) rfl
theorem tw_481 : Cond.code ⟨"BlockPictures$PictureDecoder", "readBlocks", "(Z)V"⟩ prog_9_method_6_code 5 (Option.none : Option Jvm.ClassFile.FieldType) ∈ bp_tb := bp_gd (List.mem_of_getElem? (i := 481) (by decide +kernel)) rfl
theorem tw_482 : Cond.methodLink "BlockPictures$PictureDecoder" 101 ⟨"BlockPictures$BlockRows", "clearBlock", "(I)V"⟩ ∈ bp_tb := bp_gd (List.mem_of_getElem? (i := 482) (by decide +kernel)) rfl
theorem tw_483 : Cond.instanceMethod ⟨"BlockPictures$BlockRows", "clearBlock", "(I)V"⟩ ∈ bp_tb := bp_gd (List.mem_of_getElem? (i := 483) (by decide +kernel)) rfl
theorem tw_484 : Cond.selects "BlockPictures$BlockRows" ⟨"BlockPictures$BlockRows", "clearBlock", "(I)V"⟩ ⟨"BlockPictures$BlockRows", "clearBlock", "(I)V"⟩ ∈ bp_tb := bp_gd (List.mem_of_getElem? (i := 484) (by decide +kernel)) rfl
theorem tw_485 : Cond.code ⟨"BlockPictures$BlockRows", "clearBlock", "(I)V"⟩ prog_3_method_3_code 2 (Option.none : Option Jvm.ClassFile.FieldType) ∈ bp_tb := bp_gd (List.mem_of_getElem? (i := 485) (by decide +kernel)) rfl
theorem tw_486 : Cond.methodLink "BlockPictures$PictureDecoder" 108 ⟨"BlockPictures$PictureDecoder", "readInter", "(IZ)V"⟩ ∈ bp_tb := bp_gd (List.mem_of_getElem? (i := 486) (by decide +kernel)) rfl
theorem tw_488 : Cond.instanceMethod ⟨"BlockPictures$PictureDecoder", "readInter", "(IZ)V"⟩ ∈ bp_tb := bp_gd (List.mem_of_getElem? (i := 488) (by decide +kernel)) rfl
theorem tw_489 : Cond.code ⟨"BlockPictures$PictureDecoder", "readInter", "(IZ)V"⟩ prog_9_method_10_code 5 (Option.none : Option Jvm.ClassFile.FieldType) ∈ bp_tb := bp_gd (List.mem_of_getElem? (i := 489) (by decide +kernel)) rfl
theorem tw_490 : Cond.methodLink "BlockPictures$PictureDecoder" 152 ⟨"BlockPictures$BlockRows", "predicted", "([II)I"⟩ ∈ bp_tb := bp_gd (List.mem_of_getElem? (i := 490) (by decide +kernel)) rfl
theorem tw_491 : Cond.static ⟨"BlockPictures$BlockRows", "predicted", "([II)I"⟩ ∈ bp_tb := bp_gd (List.mem_of_getElem? (i := 491) (by decide +kernel)) rfl
theorem tw_492 : Cond.code ⟨"BlockPictures$BlockRows", "predicted", "([II)I"⟩ prog_3_method_4_code 5 (Option.some .int) ∈ bp_tb := bp_gd (List.mem_of_getElem? (i := 492) (by decide +kernel)) rfl
theorem tw_493 : Cond.methodLink "BlockPictures$BlockRows" 36 ⟨"java/lang/Math", "min", "(II)I"⟩ ∈ bp_tb := bp_gd (List.mem_of_getElem? (i := 493) (by decide +kernel)) rfl
theorem tw_494 : Cond.static ⟨"java/lang/Math", "min", "(II)I"⟩ ∈ bp_tb := bp_gd (List.mem_of_getElem? (i := 494) (by decide +kernel)) rfl
theorem tw_495 : Cond.code ⟨"java/lang/Math", "min", "(II)I"⟩ prog_14_method_69_code 2 (Option.some .int) ∈ bp_tb := bp_gd (List.mem_of_getElem? (i := 495) (by decide +kernel)) rfl
theorem tw_496 : Cond.methodLink "BlockPictures$BlockRows" 42 ⟨"java/lang/Math", "max", "(II)I"⟩ ∈ bp_tb := bp_gd (List.mem_of_getElem? (i := 496) (by decide +kernel)) rfl
theorem tw_497 : Cond.static ⟨"java/lang/Math", "max", "(II)I"⟩ ∈ bp_tb := bp_gd (List.mem_of_getElem? (i := 497) (by decide +kernel)) rfl
theorem tw_498 : Cond.code ⟨"java/lang/Math", "max", "(II)I"⟩ prog_14_method_65_code 2 (Option.some .int) ∈ bp_tb := bp_gd (List.mem_of_getElem? (i := 498) (by decide +kernel)) rfl
theorem tw_499 : Cond.methodLink "BlockPictures$PictureDecoder" 156 ⟨"BlockPictures$PictureDecoder", "within", "(I)I"⟩ ∈ bp_tb := bp_gd (List.mem_of_getElem? (i := 499) (by decide +kernel)) rfl
theorem tw_501 : Cond.instanceMethod ⟨"BlockPictures$PictureDecoder", "within", "(I)I"⟩ ∈ bp_tb := bp_gd (List.mem_of_getElem? (i := 501) (by decide +kernel)) rfl
theorem tw_502 : Cond.code ⟨"BlockPictures$PictureDecoder", "within", "(I)I"⟩ prog_9_method_11_code 2 (Option.some .int) ∈ bp_tb := bp_gd (List.mem_of_getElem? (i := 502) (by decide +kernel)) rfl
theorem tw_503 : Cond.methodLink "BlockPictures$PictureDecoder" 120 ⟨"BlockPictures$Motion", "predict", "(LBlockPictures$Picture;LBlockPictures$Picture;III)V"⟩ ∈ bp_tb := bp_gd (List.mem_of_getElem? (i := 503) (by decide +kernel)) rfl
theorem tw_504 : Cond.instanceMethod ⟨"BlockPictures$Motion", "predict", "(LBlockPictures$Picture;LBlockPictures$Picture;III)V"⟩ ∈ bp_tb := bp_gd (List.mem_of_getElem? (i := 504) (by decide +kernel)) rfl
theorem tw_505 : Cond.selects "BlockPictures$Motion" ⟨"BlockPictures$Motion", "predict", "(LBlockPictures$Picture;LBlockPictures$Picture;III)V"⟩ ⟨"BlockPictures$Motion", "predict", "(LBlockPictures$Picture;LBlockPictures$Picture;III)V"⟩ ∈ bp_tb := bp_gd (List.mem_of_getElem? (i := 505) (by decide +kernel)) rfl
theorem tw_506 : Cond.code ⟨"BlockPictures$Motion", "predict", "(LBlockPictures$Picture;LBlockPictures$Picture;III)V"⟩ prog_5_method_2_code 13 (Option.none : Option Jvm.ClassFile.FieldType) ∈ bp_tb := bp_gd (List.mem_of_getElem? (i := 506) (by decide +kernel)) rfl
theorem tw_507 : Cond.methodLink "BlockPictures$Motion" 23 ⟨"BlockPictures$Motion", "fillWindow", "([III)V"⟩ ∈ bp_tb := bp_gd (List.mem_of_getElem? (i := 507) (by decide +kernel)) rfl
theorem tw_509 : Cond.instanceMethod ⟨"BlockPictures$Motion", "fillWindow", "([III)V"⟩ ∈ bp_tb := bp_gd (List.mem_of_getElem? (i := 509) (by decide +kernel)) rfl
theorem tw_510 : Cond.code ⟨"BlockPictures$Motion", "fillWindow", "([III)V"⟩ prog_5_method_3_code 8 (Option.none : Option Jvm.ClassFile.FieldType) ∈ bp_tb := bp_gd (List.mem_of_getElem? (i := 510) (by decide +kernel)) rfl
theorem tw_511 : Cond.methodLink "BlockPictures$Motion" 42 ⟨"java/lang/Math", "min", "(II)I"⟩ ∈ bp_tb := bp_gd (List.mem_of_getElem? (i := 511) (by decide +kernel)) rfl
theorem tw_512 : Cond.methodLink "BlockPictures$Motion" 47 ⟨"java/lang/Math", "max", "(II)I"⟩ ∈ bp_tb := bp_gd (List.mem_of_getElem? (i := 512) (by decide +kernel)) rfl
theorem tw_513 : Cond.methodLink "BlockPictures$Motion" 27 ⟨"BlockPictures$Motion", "fillAcross", "()V"⟩ ∈ bp_tb := bp_gd (List.mem_of_getElem? (i := 513) (by decide +kernel)) rfl
theorem tw_515 : Cond.instanceMethod ⟨"BlockPictures$Motion", "fillAcross", "()V"⟩ ∈ bp_tb := bp_gd (List.mem_of_getElem? (i := 515) (by decide +kernel)) rfl
theorem tw_516 : Cond.code ⟨"BlockPictures$Motion", "fillAcross", "()V"⟩ prog_5_method_4_code 3 (Option.none : Option Jvm.ClassFile.FieldType) ∈ bp_tb := bp_gd (List.mem_of_getElem? (i := 516) (by decide +kernel)) rfl
theorem tw_517 : Cond.methodLink "BlockPictures$Motion" 30 ⟨"BlockPictures$Motion", "taps", "([III)I"⟩ ∈ bp_tb := bp_gd (List.mem_of_getElem? (i := 517) (by decide +kernel)) rfl
theorem tw_518 : Cond.static ⟨"BlockPictures$Motion", "taps", "([III)I"⟩ ∈ bp_tb := bp_gd (List.mem_of_getElem? (i := 518) (by decide +kernel)) rfl
theorem tw_519 : Cond.code ⟨"BlockPictures$Motion", "taps", "([III)I"⟩ prog_5_method_5_code 3 (Option.some .int) ∈ bp_tb := bp_gd (List.mem_of_getElem? (i := 519) (by decide +kernel)) rfl
theorem tw_521 : Cond.static ⟨"BlockPictures", "limit", "(I)I"⟩ ∈ bp_tb := bp_gd (List.mem_of_getElem? (i := 521) (by decide +kernel)) rfl
theorem tw_522 : Cond.code ⟨"BlockPictures", "limit", "(I)I"⟩ prog_1_method_22_code 1 (Option.some .int) ∈ bp_tb := bp_gd (List.mem_of_getElem? (i := 522) (by decide +kernel)) rfl
theorem tw_524 : Cond.static ⟨"BlockPictures", "sampleNumber", "(II)I"⟩ ∈ bp_tb := bp_gd (List.mem_of_getElem? (i := 524) (by decide +kernel)) rfl
theorem tw_525 : Cond.code ⟨"BlockPictures", "sampleNumber", "(II)I"⟩ prog_1_method_23_code 2 (Option.some .int) ∈ bp_tb := bp_gd (List.mem_of_getElem? (i := 525) (by decide +kernel)) rfl
theorem tw_526 : Cond.methodLink "BlockPictures$PictureDecoder" 124 ⟨"BlockPictures$PictureDecoder", "readIntra", "(I)Z"⟩ ∈ bp_tb := bp_gd (List.mem_of_getElem? (i := 526) (by decide +kernel)) rfl
theorem tw_528 : Cond.instanceMethod ⟨"BlockPictures$PictureDecoder", "readIntra", "(I)Z"⟩ ∈ bp_tb := bp_gd (List.mem_of_getElem? (i := 528) (by decide +kernel)) rfl
theorem tw_529 : Cond.code ⟨"BlockPictures$PictureDecoder", "readIntra", "(I)Z"⟩ prog_9_method_7_code 4 (Option.some .boolean) ∈ bp_tb := bp_gd (List.mem_of_getElem? (i := 529) (by decide +kernel)) rfl
theorem tw_530 : Cond.methodLink "BlockPictures$PictureDecoder" 137 ⟨"BlockPictures$BitReader", "bits", "(I)I"⟩ ∈ bp_tb := bp_gd (List.mem_of_getElem? (i := 530) (by decide +kernel)) rfl
theorem tw_531 : Cond.instanceMethod ⟨"BlockPictures$BitReader", "bits", "(I)I"⟩ ∈ bp_tb := bp_gd (List.mem_of_getElem? (i := 531) (by decide +kernel)) rfl
theorem tw_532 : Cond.selects "BlockPictures$BitReader" ⟨"BlockPictures$BitReader", "bits", "(I)I"⟩ ⟨"BlockPictures$BitReader", "bits", "(I)I"⟩ ∈ bp_tb := bp_gd (List.mem_of_getElem? (i := 532) (by decide +kernel)) rfl
theorem tw_533 : Cond.code ⟨"BlockPictures$BitReader", "bits", "(I)I"⟩ prog_2_method_6_code 4 (Option.some .int) ∈ bp_tb := bp_gd (List.mem_of_getElem? (i := 533) (by decide +kernel)) rfl
theorem tw_535 : Cond.methodLink "BlockPictures$PictureDecoder" 145 ⟨"BlockPictures$PictureDecoder", "predictMean", "(I)V"⟩ ∈ bp_tb := bp_gd (List.mem_of_getElem? (i := 535) (by decide +kernel)) rfl
theorem tw_537 : Cond.instanceMethod ⟨"BlockPictures$PictureDecoder", "predictMean", "(I)V"⟩ ∈ bp_tb := bp_gd (List.mem_of_getElem? (i := 537) (by decide +kernel)) rfl
theorem tw_538 : Cond.code ⟨"BlockPictures$PictureDecoder", "predictMean", "(I)V"⟩ prog_9_method_8_code 8 (Option.none : Option Jvm.ClassFile.FieldType) ∈ bp_tb := bp_gd (List.mem_of_getElem? (i := 538) (by decide +kernel)) rfl
theorem tw_539 : Cond.methodLink "BlockPictures$PictureDecoder" 148 ⟨"BlockPictures$PictureDecoder", "predictFrom", "(IIII)V"⟩ ∈ bp_tb := bp_gd (List.mem_of_getElem? (i := 539) (by decide +kernel)) rfl
theorem tw_541 : Cond.instanceMethod ⟨"BlockPictures$PictureDecoder", "predictFrom", "(IIII)V"⟩ ∈ bp_tb := bp_gd (List.mem_of_getElem? (i := 541) (by decide +kernel)) rfl
theorem tw_542 : Cond.code ⟨"BlockPictures$PictureDecoder", "predictFrom", "(IIII)V"⟩ prog_9_method_9_code 7 (Option.none : Option Jvm.ClassFile.FieldType) ∈ bp_tb := bp_gd (List.mem_of_getElem? (i := 542) (by decide +kernel)) rfl
theorem tw_543 : Cond.methodLink "BlockPictures$PictureDecoder" 131 ⟨"BlockPictures$PictureDecoder", "readResidual", "()V"⟩ ∈ bp_tb := bp_gd (List.mem_of_getElem? (i := 543) (by decide +kernel)) rfl
theorem tw_545 : Cond.instanceMethod ⟨"BlockPictures$PictureDecoder", "readResidual", "()V"⟩ ∈ bp_tb := bp_gd (List.mem_of_getElem? (i := 545) (by decide +kernel)) rfl
theorem tw_546 : Cond.code ⟨"BlockPictures$PictureDecoder", "readResidual", "()V"⟩ prog_9_method_12_code 5 (Option.none : Option Jvm.ClassFile.FieldType) ∈ bp_tb := bp_gd (List.mem_of_getElem? (i := 546) (by decide +kernel)) rfl
theorem tw_547 : Cond.methodLink "BlockPictures$PictureDecoder" 159 ⟨"java/util/Arrays", "fill", "([II)V"⟩ ∈ bp_tb := bp_gd (List.mem_of_getElem? (i := 547) (by decide +kernel)) rfl
theorem tw_548 : Cond.static ⟨"java/util/Arrays", "fill", "([II)V"⟩ ∈ bp_tb := bp_gd (List.mem_of_getElem? (i := 548) (by decide +kernel)) rfl
theorem tw_549 : Cond.code ⟨"java/util/Arrays", "fill", "([II)V"⟩ prog_16_method_103_code 4 (Option.none : Option Jvm.ClassFile.FieldType) ∈ bp_tb := bp_gd (List.mem_of_getElem? (i := 549) (by decide +kernel)) rfl
theorem tw_550 : Cond.fieldLink "BlockPictures$PictureDecoder" 165 "BlockPictures$PictureDecoder" "STANDS" "[I" ∈ bp_tb := bp_gd (List.mem_of_getElem? (i := 550) (by decide +kernel)) rfl
theorem tw_552 : Cond.methodLink "BlockPictures$PictureDecoder" 168 ⟨"BlockPictures$PictureDecoder", "scaleAt", "(I)I"⟩ ∈ bp_tb := bp_gd (List.mem_of_getElem? (i := 552) (by decide +kernel)) rfl
theorem tw_554 : Cond.instanceMethod ⟨"BlockPictures$PictureDecoder", "scaleAt", "(I)I"⟩ ∈ bp_tb := bp_gd (List.mem_of_getElem? (i := 554) (by decide +kernel)) rfl
theorem tw_555 : Cond.code ⟨"BlockPictures$PictureDecoder", "scaleAt", "(I)I"⟩ prog_9_method_13_code 4 (Option.some .int) ∈ bp_tb := bp_gd (List.mem_of_getElem? (i := 555) (by decide +kernel)) rfl
theorem tw_556 : Cond.methodLink "BlockPictures$PictureDecoder" 134 ⟨"BlockPictures$PictureDecoder", "addResidual", "(I)V"⟩ ∈ bp_tb := bp_gd (List.mem_of_getElem? (i := 556) (by decide +kernel)) rfl
theorem tw_558 : Cond.instanceMethod ⟨"BlockPictures$PictureDecoder", "addResidual", "(I)V"⟩ ∈ bp_tb := bp_gd (List.mem_of_getElem? (i := 558) (by decide +kernel)) rfl
theorem tw_559 : Cond.code ⟨"BlockPictures$PictureDecoder", "addResidual", "(I)V"⟩ prog_9_method_14_code 4 (Option.none : Option Jvm.ClassFile.FieldType) ∈ bp_tb := bp_gd (List.mem_of_getElem? (i := 559) (by decide +kernel)) rfl
theorem tw_560 : Cond.methodLink "BlockPictures$PictureDecoder" 171 ⟨"BlockPictures$PictureDecoder", "residualAt", "(II)I"⟩ ∈ bp_tb := bp_gd (List.mem_of_getElem? (i := 560) (by decide +kernel)) rfl
theorem tw_562 : Cond.instanceMethod ⟨"BlockPictures$PictureDecoder", "residualAt", "(II)I"⟩ ∈ bp_tb := bp_gd (List.mem_of_getElem? (i := 562) (by decide +kernel)) rfl
theorem tw_563 : Cond.code ⟨"BlockPictures$PictureDecoder", "residualAt", "(II)I"⟩ prog_9_method_15_code 5 (Option.some .int) ∈ bp_tb := bp_gd (List.mem_of_getElem? (i := 563) (by decide +kernel)) rfl
theorem tw_564 : Cond.fieldLink "BlockPictures$PictureDecoder" 177 "BlockPictures$PictureDecoder" "TRANSFORM" "[I" ∈ bp_tb := bp_gd (List.mem_of_getElem? (i := 564) (by decide +kernel)) rfl
theorem tw_567 : Cond.methodLink "BlockPictures" 205 ⟨"BlockPictures$BitReader", "needEnd", "()V"⟩ ∈ bp_tb := bp_gd (List.mem_of_getElem? (i := 567) (by decide +kernel)) rfl
theorem tw_568 : Cond.methodLink "BlockPictures" 208 ⟨"BlockPictures$PictureDecoder", "finish", "()V"⟩ ∈ bp_tb := bp_gd (List.mem_of_getElem? (i := 568) (by decide +kernel)) rfl
theorem tw_569 : Cond.instanceMethod ⟨"BlockPictures$PictureDecoder", "finish", "()V"⟩ ∈ bp_tb := bp_gd (List.mem_of_getElem? (i := 569) (by decide +kernel)) rfl
theorem tw_570 : Cond.selects "BlockPictures$PictureDecoder" ⟨"BlockPictures$PictureDecoder", "finish", "()V"⟩ ⟨"BlockPictures$PictureDecoder", "finish", "()V"⟩ ∈ bp_tb := bp_gd (List.mem_of_getElem? (i := 570) (by decide +kernel)) rfl
theorem tw_571 : Cond.code ⟨"BlockPictures$PictureDecoder", "finish", "()V"⟩ prog_9_method_16_code 2 (Option.none : Option Jvm.ClassFile.FieldType) ∈ bp_tb := bp_gd (List.mem_of_getElem? (i := 571) (by decide +kernel)) rfl
theorem tw_572 : Cond.methodLink "BlockPictures$PictureDecoder" 180 ⟨"BlockPictures$EdgeFilter", "smooth", "([ILBlockPictures$BlockRows;I)I"⟩ ∈ bp_tb := bp_gd (List.mem_of_getElem? (i := 572) (by decide +kernel)) rfl
theorem tw_573 : Cond.static ⟨"BlockPictures$EdgeFilter", "smooth", "([ILBlockPictures$BlockRows;I)I"⟩ ∈ bp_tb := bp_gd (List.mem_of_getElem? (i := 573) (by decide +kernel)) rfl
theorem tw_574 : Cond.code ⟨"BlockPictures$EdgeFilter", "smooth", "([ILBlockPictures$BlockRows;I)I"⟩ prog_4_method_2_code 12 (Option.some .int) ∈ bp_tb := bp_gd (List.mem_of_getElem? (i := 574) (by decide +kernel)) rfl
theorem tw_575 : Cond.methodLink "BlockPictures$EdgeFilter" 9 ⟨"BlockPictures$BlockRows", "strength", "(II)I"⟩ ∈ bp_tb := bp_gd (List.mem_of_getElem? (i := 575) (by decide +kernel)) rfl
theorem tw_576 : Cond.instanceMethod ⟨"BlockPictures$BlockRows", "strength", "(II)I"⟩ ∈ bp_tb := bp_gd (List.mem_of_getElem? (i := 576) (by decide +kernel)) rfl
theorem tw_577 : Cond.selects "BlockPictures$BlockRows" ⟨"BlockPictures$BlockRows", "strength", "(II)I"⟩ ⟨"BlockPictures$BlockRows", "strength", "(II)I"⟩ ∈ bp_tb := bp_gd (List.mem_of_getElem? (i := 577) (by decide +kernel)) rfl
theorem tw_578 : Cond.code ⟨"BlockPictures$BlockRows", "strength", "(II)I"⟩ prog_3_method_5_code 4 (Option.some .int) ∈ bp_tb := bp_gd (List.mem_of_getElem? (i := 578) (by decide +kernel)) rfl
theorem tw_579 : Cond.methodLink "BlockPictures$BlockRows" 45 ⟨"java/lang/Math", "abs", "(I)I"⟩ ∈ bp_tb := bp_gd (List.mem_of_getElem? (i := 579) (by decide +kernel)) rfl
theorem tw_580 : Cond.static ⟨"java/lang/Math", "abs", "(I)I"⟩ ∈ bp_tb := bp_gd (List.mem_of_getElem? (i := 580) (by decide +kernel)) rfl
theorem tw_581 : Cond.code ⟨"java/lang/Math", "abs", "(I)I"⟩ prog_14_method_59_code 1 (Option.some .int) ∈ bp_tb := bp_gd (List.mem_of_getElem? (i := 581) (by decide +kernel)) rfl
theorem tw_583 : Cond.methodLink "BlockPictures$EdgeFilter" 18 ⟨"BlockPictures$EdgeFilter", "smoothLine", "([IIIII)Z"⟩ ∈ bp_tb := bp_gd (List.mem_of_getElem? (i := 583) (by decide +kernel)) rfl
theorem tw_584 : Cond.static ⟨"BlockPictures$EdgeFilter", "smoothLine", "([IIIII)Z"⟩ ∈ bp_tb := bp_gd (List.mem_of_getElem? (i := 584) (by decide +kernel)) rfl
theorem tw_585 : Cond.code ⟨"BlockPictures$EdgeFilter", "smoothLine", "([IIIII)Z"⟩ prog_4_method_3_code 12 (Option.some .boolean) ∈ bp_tb := bp_gd (List.mem_of_getElem? (i := 585) (by decide +kernel)) rfl
theorem tw_586 : Cond.methodLink "BlockPictures$EdgeFilter" 24 ⟨"java/lang/Math", "abs", "(I)I"⟩ ∈ bp_tb := bp_gd (List.mem_of_getElem? (i := 586) (by decide +kernel)) rfl
theorem tw_587 : Cond.methodLink "BlockPictures$EdgeFilter" 30 ⟨"java/lang/Math", "min", "(II)I"⟩ ∈ bp_tb := bp_gd (List.mem_of_getElem? (i := 587) (by decide +kernel)) rfl
theorem tw_588 : Cond.methodLink "BlockPictures$EdgeFilter" 33 ⟨"java/lang/Math", "max", "(II)I"⟩ ∈ bp_tb := bp_gd (List.mem_of_getElem? (i := 588) (by decide +kernel)) rfl
theorem tw_590 : Cond.methodLink "BlockPictures" 211 ⟨"BlockPictures$Parameters", "takePending", "()V"⟩ ∈ bp_tb := bp_gd (List.mem_of_getElem? (i := 590) (by decide +kernel)) rfl
theorem tw_591 : Cond.instanceMethod ⟨"BlockPictures$Parameters", "takePending", "()V"⟩ ∈ bp_tb := bp_gd (List.mem_of_getElem? (i := 591) (by decide +kernel)) rfl
theorem tw_592 : Cond.selects "BlockPictures$Parameters" ⟨"BlockPictures$Parameters", "takePending", "()V"⟩ ⟨"BlockPictures$Parameters", "takePending", "()V"⟩ ∈ bp_tb := bp_gd (List.mem_of_getElem? (i := 592) (by decide +kernel)) rfl
theorem tw_593 : Cond.code ⟨"BlockPictures$Parameters", "takePending", "()V"⟩ prog_6_method_5_code 1 (Option.none : Option Jvm.ClassFile.FieldType) ∈ bp_tb := bp_gd (List.mem_of_getElem? (i := 593) (by decide +kernel)) rfl
theorem tw_594 : Cond.methodLink "BlockPictures" 62 ⟨"BlockPictures$PictureBuffer", "showAll", "()V"⟩ ∈ bp_tb := bp_gd (List.mem_of_getElem? (i := 594) (by decide +kernel)) rfl
theorem tw_595 : Cond.instanceMethod ⟨"BlockPictures$PictureBuffer", "showAll", "()V"⟩ ∈ bp_tb := bp_gd (List.mem_of_getElem? (i := 595) (by decide +kernel)) rfl
theorem tw_596 : Cond.selects "BlockPictures$PictureBuffer" ⟨"BlockPictures$PictureBuffer", "showAll", "()V"⟩ ⟨"BlockPictures$PictureBuffer", "showAll", "()V"⟩ ∈ bp_tb := bp_gd (List.mem_of_getElem? (i := 596) (by decide +kernel)) rfl
theorem tw_597 : Cond.code ⟨"BlockPictures$PictureBuffer", "showAll", "()V"⟩ prog_8_method_5_code 2 (Option.none : Option Jvm.ClassFile.FieldType) ∈ bp_tb := bp_gd (List.mem_of_getElem? (i := 597) (by decide +kernel)) rfl
theorem tw_598 : Cond.methodLink "BlockPictures$PictureBuffer" 39 ⟨"BlockPictures$PictureBuffer", "showLeast", "()V"⟩ ∈ bp_tb := bp_gd (List.mem_of_getElem? (i := 598) (by decide +kernel)) rfl
theorem tw_600 : Cond.instanceMethod ⟨"BlockPictures$PictureBuffer", "showLeast", "()V"⟩ ∈ bp_tb := bp_gd (List.mem_of_getElem? (i := 600) (by decide +kernel)) rfl
theorem tw_601 : Cond.code ⟨"BlockPictures$PictureBuffer", "showLeast", "()V"⟩ prog_8_method_11_code 2 (Option.none : Option Jvm.ClassFile.FieldType) ∈ bp_tb := bp_gd (List.mem_of_getElem? (i := 601) (by decide +kernel)) rfl
theorem tw_602 : Cond.methodLink "BlockPictures$PictureBuffer" 48 ⟨"BlockPictures$PictureBuffer", "leastWaiting", "()I"⟩ ∈ bp_tb := bp_gd (List.mem_of_getElem? (i := 602) (by decide +kernel)) rfl
theorem tw_604 : Cond.instanceMethod ⟨"BlockPictures$PictureBuffer", "leastWaiting", "()I"⟩ ∈ bp_tb := bp_gd (List.mem_of_getElem? (i := 604) (by decide +kernel)) rfl
theorem tw_605 : Cond.code ⟨"BlockPictures$PictureBuffer", "leastWaiting", "()I"⟩ prog_8_method_10_code 3 (Option.some .int) ∈ bp_tb := bp_gd (List.mem_of_getElem? (i := 605) (by decide +kernel)) rfl
theorem tw_606 : Cond.methodLink "BlockPictures$PictureBuffer" 55 ⟨"BlockPictures$PictureBuffer", "show", "(LBlockPictures$Picture;)V"⟩ ∈ bp_tb := bp_gd (List.mem_of_getElem? (i := 606) (by decide +kernel)) rfl
theorem tw_608 : Cond.instanceMethod ⟨"BlockPictures$PictureBuffer", "show", "(LBlockPictures$Picture;)V"⟩ ∈ bp_tb := bp_gd (List.mem_of_getElem? (i := 608) (by decide +kernel)) rfl
theorem tw_609 : Cond.code ⟨"BlockPictures$PictureBuffer", "show", "(LBlockPictures$Picture;)V"⟩ prog_8_method_12_code 2 (Option.none : Option Jvm.ClassFile.FieldType) ∈ bp_tb := bp_gd (List.mem_of_getElem? (i := 609) (by decide +kernel)) rfl
theorem tw_610 : Cond.methodLink "BlockPictures$PictureBuffer" 68 ⟨"java/lang/System", "arraycopy", "(Ljava/lang/Object;ILjava/lang/Object;II)V"⟩ ∈ bp_tb := bp_gd (List.mem_of_getElem? (i := 610) (by decide +kernel)) rfl
theorem tw_611 : Cond.methodLink "BlockPictures" 221 ⟨"BlockPictures$PictureBuffer", "release", "(I)V"⟩ ∈ bp_tb := bp_gd (List.mem_of_getElem? (i := 611) (by decide +kernel)) rfl
theorem tw_612 : Cond.instanceMethod ⟨"BlockPictures$PictureBuffer", "release", "(I)V"⟩ ∈ bp_tb := bp_gd (List.mem_of_getElem? (i := 612) (by decide +kernel)) rfl
theorem tw_613 : Cond.selects "BlockPictures$PictureBuffer" ⟨"BlockPictures$PictureBuffer", "release", "(I)V"⟩ ⟨"BlockPictures$PictureBuffer", "release", "(I)V"⟩ ∈ bp_tb := bp_gd (List.mem_of_getElem? (i := 613) (by decide +kernel)) rfl
theorem tw_614 : Cond.code ⟨"BlockPictures$PictureBuffer", "release", "(I)V"⟩ prog_8_method_6_code 4 (Option.none : Option Jvm.ClassFile.FieldType) ∈ bp_tb := bp_gd (List.mem_of_getElem? (i := 614) (by decide +kernel)) rfl
theorem tw_619 : Cond.methodLink "BlockPictures$PictureBuffer" 42 ⟨"BlockPictures$PictureBuffer", "makeRoomForReference", "()V"⟩ ∈ bp_tb := bp_gd (List.mem_of_getElem? (i := 619) (by decide +kernel)) rfl
theorem tw_621 : Cond.instanceMethod ⟨"BlockPictures$PictureBuffer", "makeRoomForReference", "()V"⟩ ∈ bp_tb := bp_gd (List.mem_of_getElem? (i := 621) (by decide +kernel)) rfl
theorem tw_622 : Cond.code ⟨"BlockPictures$PictureBuffer", "makeRoomForReference", "()V"⟩ prog_8_method_8_code 4 (Option.none : Option Jvm.ClassFile.FieldType) ∈ bp_tb := bp_gd (List.mem_of_getElem? (i := 622) (by decide +kernel)) rfl
theorem tw_623 : Cond.methodLink "BlockPictures$PictureBuffer" 45 ⟨"BlockPictures$PictureBuffer", "sweep", "()V"⟩ ∈ bp_tb := bp_gd (List.mem_of_getElem? (i := 623) (by decide +kernel)) rfl
theorem tw_625 : Cond.instanceMethod ⟨"BlockPictures$PictureBuffer", "sweep", "()V"⟩ ∈ bp_tb := bp_gd (List.mem_of_getElem? (i := 625) (by decide +kernel)) rfl
theorem tw_626 : Cond.code ⟨"BlockPictures$PictureBuffer", "sweep", "()V"⟩ prog_8_method_9_code 4 (Option.none : Option Jvm.ClassFile.FieldType) ∈ bp_tb := bp_gd (List.mem_of_getElem? (i := 626) (by decide +kernel)) rfl
theorem tw_627 : Cond.methodLink "BlockPictures$PictureBuffer" 59 ⟨"BlockPictures$Picture", "copy", "(LBlockPictures$Picture;)V"⟩ ∈ bp_tb := bp_gd (List.mem_of_getElem? (i := 627) (by decide +kernel)) rfl
theorem tw_628 : Cond.instanceMethod ⟨"BlockPictures$Picture", "copy", "(LBlockPictures$Picture;)V"⟩ ∈ bp_tb := bp_gd (List.mem_of_getElem? (i := 628) (by decide +kernel)) rfl
theorem tw_629 : Cond.selects "BlockPictures$Picture" ⟨"BlockPictures$Picture", "copy", "(LBlockPictures$Picture;)V"⟩ ⟨"BlockPictures$Picture", "copy", "(LBlockPictures$Picture;)V"⟩ ∈ bp_tb := bp_gd (List.mem_of_getElem? (i := 629) (by decide +kernel)) rfl
theorem tw_630 : Cond.code ⟨"BlockPictures$Picture", "copy", "(LBlockPictures$Picture;)V"⟩ prog_7_method_2_code 2 (Option.none : Option Jvm.ClassFile.FieldType) ∈ bp_tb := bp_gd (List.mem_of_getElem? (i := 630) (by decide +kernel)) rfl
theorem tw_631 : Cond.methodLink "BlockPictures$Picture" 15 ⟨"java/lang/System", "arraycopy", "(Ljava/lang/Object;ILjava/lang/Object;II)V"⟩ ∈ bp_tb := bp_gd (List.mem_of_getElem? (i := 631) (by decide +kernel)) rfl
theorem tw_636 : Cond.methodLink "BlockPictures" 58 ⟨"BlockPictures$UnitIntake", "close", "()Z"⟩ ∈ bp_tb := bp_gd (List.mem_of_getElem? (i := 636) (by decide +kernel)) rfl
theorem tw_637 : Cond.instanceMethod ⟨"BlockPictures$UnitIntake", "close", "()Z"⟩ ∈ bp_tb := bp_gd (List.mem_of_getElem? (i := 637) (by decide +kernel)) rfl
theorem tw_638 : Cond.selects "BlockPictures$UnitIntake" ⟨"BlockPictures$UnitIntake", "close", "()Z"⟩ ⟨"BlockPictures$UnitIntake", "close", "()Z"⟩ ∈ bp_tb := bp_gd (List.mem_of_getElem? (i := 638) (by decide +kernel)) rfl
theorem tw_639 : Cond.code ⟨"BlockPictures$UnitIntake", "close", "()Z"⟩ prog_10_method_4_code 1 (Option.some .boolean) ∈ bp_tb := bp_gd (List.mem_of_getElem? (i := 639) (by decide +kernel)) rfl
theorem tw_640 : Cond.methodLink "BlockPictures" 65 ⟨"BlockPictures$Parameters", "clear", "()V"⟩ ∈ bp_tb := bp_gd (List.mem_of_getElem? (i := 640) (by decide +kernel)) rfl
theorem tw_641 : Cond.instanceMethod ⟨"BlockPictures$Parameters", "clear", "()V"⟩ ∈ bp_tb := bp_gd (List.mem_of_getElem? (i := 641) (by decide +kernel)) rfl
theorem tw_642 : Cond.selects "BlockPictures$Parameters" ⟨"BlockPictures$Parameters", "clear", "()V"⟩ ⟨"BlockPictures$Parameters", "clear", "()V"⟩ ∈ bp_tb := bp_gd (List.mem_of_getElem? (i := 642) (by decide +kernel)) rfl
theorem tw_643 : Cond.code ⟨"BlockPictures$Parameters", "clear", "()V"⟩ prog_6_method_2_code 1 (Option.none : Option Jvm.ClassFile.FieldType) ∈ bp_tb := bp_gd (List.mem_of_getElem? (i := 643) (by decide +kernel)) rfl
theorem tw_644 : Cond.methodLink "BlockPictures" 68 ⟨"BlockPictures$UnitIntake", "clear", "()V"⟩ ∈ bp_tb := bp_gd (List.mem_of_getElem? (i := 644) (by decide +kernel)) rfl
theorem tw_645 : Cond.instanceMethod ⟨"BlockPictures$UnitIntake", "clear", "()V"⟩ ∈ bp_tb := bp_gd (List.mem_of_getElem? (i := 645) (by decide +kernel)) rfl
theorem tw_646 : Cond.selects "BlockPictures$UnitIntake" ⟨"BlockPictures$UnitIntake", "clear", "()V"⟩ ⟨"BlockPictures$UnitIntake", "clear", "()V"⟩ ∈ bp_tb := bp_gd (List.mem_of_getElem? (i := 646) (by decide +kernel)) rfl
theorem tw_647 : Cond.code ⟨"BlockPictures$UnitIntake", "clear", "()V"⟩ prog_10_method_2_code 1 (Option.none : Option Jvm.ClassFile.FieldType) ∈ bp_tb := bp_gd (List.mem_of_getElem? (i := 647) (by decide +kernel)) rfl
theorem tw_652 : Cond.methodLink "BlockPictures" 69 ⟨"BlockPictures$PictureDecoder", "forgetLatest", "()V"⟩ ∈ bp_tb := bp_gd (List.mem_of_getElem? (i := 652) (by decide +kernel)) rfl
theorem tw_653 : Cond.instanceMethod ⟨"BlockPictures$PictureDecoder", "forgetLatest", "()V"⟩ ∈ bp_tb := bp_gd (List.mem_of_getElem? (i := 653) (by decide +kernel)) rfl
theorem tw_654 : Cond.selects "BlockPictures$PictureDecoder" ⟨"BlockPictures$PictureDecoder", "forgetLatest", "()V"⟩ ⟨"BlockPictures$PictureDecoder", "forgetLatest", "()V"⟩ ∈ bp_tb := bp_gd (List.mem_of_getElem? (i := 654) (by decide +kernel)) rfl
theorem tw_655 : Cond.code ⟨"BlockPictures$PictureDecoder", "forgetLatest", "()V"⟩ prog_9_method_2_code 1 (Option.none : Option Jvm.ClassFile.FieldType) ∈ bp_tb := bp_gd (List.mem_of_getElem? (i := 655) (by decide +kernel)) rfl
theorem tw_656 : Cond.methodLink "BlockPictures$PictureDecoder" 50 ⟨"BlockPictures$BlockRows", "clear", "()V"⟩ ∈ bp_tb := bp_gd (List.mem_of_getElem? (i := 656) (by decide +kernel)) rfl
theorem tw_657 : Cond.instanceMethod ⟨"BlockPictures$BlockRows", "clear", "()V"⟩ ∈ bp_tb := bp_gd (List.mem_of_getElem? (i := 657) (by decide +kernel)) rfl
theorem tw_658 : Cond.selects "BlockPictures$BlockRows" ⟨"BlockPictures$BlockRows", "clear", "()V"⟩ ⟨"BlockPictures$BlockRows", "clear", "()V"⟩ ∈ bp_tb := bp_gd (List.mem_of_getElem? (i := 658) (by decide +kernel)) rfl
theorem tw_659 : Cond.code ⟨"BlockPictures$BlockRows", "clear", "()V"⟩ prog_3_method_2_code 2 (Option.none : Option Jvm.ClassFile.FieldType) ∈ bp_tb := bp_gd (List.mem_of_getElem? (i := 659) (by decide +kernel)) rfl
theorem tw_660 : Cond.methodLink "BlockPictures$BlockRows" 28 ⟨"BlockPictures$BlockRows", "clearBlock", "(I)V"⟩ ∈ bp_tb := bp_gd (List.mem_of_getElem? (i := 660) (by decide +kernel)) rfl
theorem tw_661 : Cond.methodLink "BlockPictures" 72 ⟨"BlockPictures$PictureBuffer", "clear", "()V"⟩ ∈ bp_tb := bp_gd (List.mem_of_getElem? (i := 661) (by decide +kernel)) rfl
theorem tw_662 : Cond.instanceMethod ⟨"BlockPictures$PictureBuffer", "clear", "()V"⟩ ∈ bp_tb := bp_gd (List.mem_of_getElem? (i := 662) (by decide +kernel)) rfl
theorem tw_663 : Cond.selects "BlockPictures$PictureBuffer" ⟨"BlockPictures$PictureBuffer", "clear", "()V"⟩ ⟨"BlockPictures$PictureBuffer", "clear", "()V"⟩ ∈ bp_tb := bp_gd (List.mem_of_getElem? (i := 663) (by decide +kernel)) rfl
theorem tw_664 : Cond.code ⟨"BlockPictures$PictureBuffer", "clear", "()V"⟩ prog_8_method_2_code 1 (Option.none : Option Jvm.ClassFile.FieldType) ∈ bp_tb := bp_gd (List.mem_of_getElem? (i := 664) (by decide +kernel)) rfl
theorem tw_681 : Cond.methodLink "BlockPictures" 76 ⟨"BlockPictures$PictureBuffer", "shownOrder", "(I)I"⟩ ∈ bp_tb := bp_gd (List.mem_of_getElem? (i := 681) (by decide +kernel)) rfl
theorem tw_682 : Cond.instanceMethod ⟨"BlockPictures$PictureBuffer", "shownOrder", "(I)I"⟩ ∈ bp_tb := bp_gd (List.mem_of_getElem? (i := 682) (by decide +kernel)) rfl
theorem tw_683 : Cond.selects "BlockPictures$PictureBuffer" ⟨"BlockPictures$PictureBuffer", "shownOrder", "(I)I"⟩ ⟨"BlockPictures$PictureBuffer", "shownOrder", "(I)I"⟩ ∈ bp_tb := bp_gd (List.mem_of_getElem? (i := 683) (by decide +kernel)) rfl
theorem tw_684 : Cond.code ⟨"BlockPictures$PictureBuffer", "shownOrder", "(I)I"⟩ prog_8_method_3_code 2 (Option.some .int) ∈ bp_tb := bp_gd (List.mem_of_getElem? (i := 684) (by decide +kernel)) rfl
theorem tw_717 : Cond.methodLink "BlockPictures" 128 ⟨"BlockPictures$UnitWriter", "putParameters", "(II)V"⟩ ∈ bp_tb := bp_gd (List.mem_of_getElem? (i := 717) (by decide +kernel)) rfl
theorem tw_718 : Cond.instanceMethod ⟨"BlockPictures$UnitWriter", "putParameters", "(II)V"⟩ ∈ bp_tb := bp_gd (List.mem_of_getElem? (i := 718) (by decide +kernel)) rfl
theorem tw_719 : Cond.selects "BlockPictures$UnitWriter" ⟨"BlockPictures$UnitWriter", "putParameters", "(II)V"⟩ ⟨"BlockPictures$UnitWriter", "putParameters", "(II)V"⟩ ∈ bp_tb := bp_gd (List.mem_of_getElem? (i := 719) (by decide +kernel)) rfl
theorem tw_720 : Cond.code ⟨"BlockPictures$UnitWriter", "putParameters", "(II)V"⟩ prog_11_method_2_code 3 (Option.none : Option Jvm.ClassFile.FieldType) ∈ bp_tb := bp_gd (List.mem_of_getElem? (i := 720) (by decide +kernel)) rfl
theorem tw_721 : Cond.methodLink "BlockPictures$UnitWriter" 18 ⟨"BlockPictures$UnitWriter", "begin", "(I)V"⟩ ∈ bp_tb := bp_gd (List.mem_of_getElem? (i := 721) (by decide +kernel)) rfl
theorem tw_723 : Cond.instanceMethod ⟨"BlockPictures$UnitWriter", "begin", "(I)V"⟩ ∈ bp_tb := bp_gd (List.mem_of_getElem? (i := 723) (by decide +kernel)) rfl
theorem tw_724 : Cond.code ⟨"BlockPictures$UnitWriter", "begin", "(I)V"⟩ prog_11_method_4_code 2 (Option.none : Option Jvm.ClassFile.FieldType) ∈ bp_tb := bp_gd (List.mem_of_getElem? (i := 724) (by decide +kernel)) rfl
theorem tw_725 : Cond.methodLink "BlockPictures$UnitWriter" 28 ⟨"BlockPictures$UnitWriter", "putBits", "(II)V"⟩ ∈ bp_tb := bp_gd (List.mem_of_getElem? (i := 725) (by decide +kernel)) rfl
theorem tw_727 : Cond.instanceMethod ⟨"BlockPictures$UnitWriter", "putBits", "(II)V"⟩ ∈ bp_tb := bp_gd (List.mem_of_getElem? (i := 727) (by decide +kernel)) rfl
theorem tw_728 : Cond.code ⟨"BlockPictures$UnitWriter", "putBits", "(II)V"⟩ prog_11_method_7_code 4 (Option.none : Option Jvm.ClassFile.FieldType) ∈ bp_tb := bp_gd (List.mem_of_getElem? (i := 728) (by decide +kernel)) rfl
theorem tw_729 : Cond.methodLink "BlockPictures$UnitWriter" 51 ⟨"BlockPictures$UnitWriter", "putByte", "(I)V"⟩ ∈ bp_tb := bp_gd (List.mem_of_getElem? (i := 729) (by decide +kernel)) rfl
theorem tw_731 : Cond.instanceMethod ⟨"BlockPictures$UnitWriter", "putByte", "(I)V"⟩ ∈ bp_tb := bp_gd (List.mem_of_getElem? (i := 731) (by decide +kernel)) rfl
theorem tw_732 : Cond.code ⟨"BlockPictures$UnitWriter", "putByte", "(I)V"⟩ prog_11_method_8_code 2 (Option.none : Option Jvm.ClassFile.FieldType) ∈ bp_tb := bp_gd (List.mem_of_getElem? (i := 732) (by decide +kernel)) rfl
theorem tw_733 : Cond.methodLink "BlockPictures$UnitWriter" 54 ⟨"BlockPictures$UnitWriter", "append", "(I)V"⟩ ∈ bp_tb := bp_gd (List.mem_of_getElem? (i := 733) (by decide +kernel)) rfl
theorem tw_735 : Cond.instanceMethod ⟨"BlockPictures$UnitWriter", "append", "(I)V"⟩ ∈ bp_tb := bp_gd (List.mem_of_getElem? (i := 735) (by decide +kernel)) rfl
theorem tw_736 : Cond.code ⟨"BlockPictures$UnitWriter", "append", "(I)V"⟩ prog_11_method_9_code 2 (Option.none : Option Jvm.ClassFile.FieldType) ∈ bp_tb := bp_gd (List.mem_of_getElem? (i := 736) (by decide +kernel)) rfl
theorem tw_737 : Cond.methodLink "BlockPictures$UnitWriter" 22 ⟨"BlockPictures$UnitWriter", "putNumber", "(I)V"⟩ ∈ bp_tb := bp_gd (List.mem_of_getElem? (i := 737) (by decide +kernel)) rfl
theorem tw_739 : Cond.instanceMethod ⟨"BlockPictures$UnitWriter", "putNumber", "(I)V"⟩ ∈ bp_tb := bp_gd (List.mem_of_getElem? (i := 739) (by decide +kernel)) rfl
theorem tw_740 : Cond.code ⟨"BlockPictures$UnitWriter", "putNumber", "(I)V"⟩ prog_11_method_6_code 3 (Option.none : Option Jvm.ClassFile.FieldType) ∈ bp_tb := bp_gd (List.mem_of_getElem? (i := 740) (by decide +kernel)) rfl
theorem tw_741 : Cond.methodLink "BlockPictures$UnitWriter" 25 ⟨"BlockPictures$UnitWriter", "close", "()V"⟩ ∈ bp_tb := bp_gd (List.mem_of_getElem? (i := 741) (by decide +kernel)) rfl
theorem tw_743 : Cond.instanceMethod ⟨"BlockPictures$UnitWriter", "close", "()V"⟩ ∈ bp_tb := bp_gd (List.mem_of_getElem? (i := 743) (by decide +kernel)) rfl
theorem tw_744 : Cond.code ⟨"BlockPictures$UnitWriter", "close", "()V"⟩ prog_11_method_5_code 1 (Option.none : Option Jvm.ClassFile.FieldType) ∈ bp_tb := bp_gd (List.mem_of_getElem? (i := 744) (by decide +kernel)) rfl
theorem tw_745 : Cond.methodLink "BlockPictures" 133 ⟨"BlockPictures$UnitWriter", "putKeyPicture", "(I)V"⟩ ∈ bp_tb := bp_gd (List.mem_of_getElem? (i := 745) (by decide +kernel)) rfl
theorem tw_746 : Cond.instanceMethod ⟨"BlockPictures$UnitWriter", "putKeyPicture", "(I)V"⟩ ∈ bp_tb := bp_gd (List.mem_of_getElem? (i := 746) (by decide +kernel)) rfl
theorem tw_747 : Cond.selects "BlockPictures$UnitWriter" ⟨"BlockPictures$UnitWriter", "putKeyPicture", "(I)V"⟩ ⟨"BlockPictures$UnitWriter", "putKeyPicture", "(I)V"⟩ ∈ bp_tb := bp_gd (List.mem_of_getElem? (i := 747) (by decide +kernel)) rfl
theorem tw_748 : Cond.code ⟨"BlockPictures$UnitWriter", "putKeyPicture", "(I)V"⟩ prog_11_method_3_code 4 (Option.none : Option Jvm.ClassFile.FieldType) ∈ bp_tb := bp_gd (List.mem_of_getElem? (i := 748) (by decide +kernel)) rfl
theorem tw_764 : Cond.methodLink "BlockPicturesModel" 71 ⟨"BlockPicturesModel", "clearLatest", "()V"⟩ ∈ bp_tb := bp_gd (List.mem_of_getElem? (i := 764) (by decide +kernel)) rfl
theorem tw_766 : Cond.instanceMethod ⟨"BlockPicturesModel", "clearLatest", "()V"⟩ ∈ bp_tb := bp_gd (List.mem_of_getElem? (i := 766) (by decide +kernel)) rfl
theorem tw_767 : Cond.code ⟨"BlockPicturesModel", "clearLatest", "()V"⟩ prog_13_method_2_code 2 (Option.none : Option Jvm.ClassFile.FieldType) ∈ bp_tb := bp_gd (List.mem_of_getElem? (i := 767) (by decide +kernel)) rfl
theorem tw_768 : Cond.fieldLink "BlockPicturesModel" 7 "BlockPicturesModel" "row" "[I" ∈ bp_tb := bp_gd (List.mem_of_getElem? (i := 768) (by decide +kernel)) rfl
theorem tw_769 : Cond.fieldLink "BlockPicturesModel" 13 "BlockPicturesModel" "column" "[I" ∈ bp_tb := bp_gd (List.mem_of_getElem? (i := 769) (by decide +kernel)) rfl
theorem tw_770 : Cond.fieldLink "BlockPicturesModel" 16 "BlockPicturesModel" "turn" "[I" ∈ bp_tb := bp_gd (List.mem_of_getElem? (i := 770) (by decide +kernel)) rfl
theorem tw_771 : Cond.fieldLink "BlockPicturesModel" 19 "BlockPicturesModel" "unit" "[I" ∈ bp_tb := bp_gd (List.mem_of_getElem? (i := 771) (by decide +kernel)) rfl
theorem tw_772 : Cond.fieldLink "BlockPicturesModel" 88 "BlockPicturesModel" "length" "I" ∈ bp_tb := bp_gd (List.mem_of_getElem? (i := 772) (by decide +kernel)) rfl
theorem tw_773 : Cond.fieldLink "BlockPicturesModel" 82 "BlockPicturesModel" "inUnit" "Z" ∈ bp_tb := bp_gd (List.mem_of_getElem? (i := 773) (by decide +kernel)) rfl
theorem tw_774 : Cond.fieldLink "BlockPicturesModel" 85 "BlockPicturesModel" "zeros" "I" ∈ bp_tb := bp_gd (List.mem_of_getElem? (i := 774) (by decide +kernel)) rfl
theorem tw_775 : Cond.fieldLink "BlockPicturesModel" 101 "BlockPicturesModel" "ended" "I" ∈ bp_tb := bp_gd (List.mem_of_getElem? (i := 775) (by decide +kernel)) rfl
theorem tw_776 : Cond.fieldLink "BlockPicturesModel" 95 "BlockPicturesModel" "fault" "I" ∈ bp_tb := bp_gd (List.mem_of_getElem? (i := 776) (by decide +kernel)) rfl
theorem tw_777 : Cond.fieldLink "BlockPicturesModel" 141 "BlockPicturesModel" "units" "I" ∈ bp_tb := bp_gd (List.mem_of_getElem? (i := 777) (by decide +kernel)) rfl
theorem tw_778 : Cond.fieldLink "BlockPicturesModel" 123 "BlockPicturesModel" "last" "I" ∈ bp_tb := bp_gd (List.mem_of_getElem? (i := 778) (by decide +kernel)) rfl
theorem tw_779 : Cond.fieldLink "BlockPicturesModel" 120 "BlockPicturesModel" "next" "I" ∈ bp_tb := bp_gd (List.mem_of_getElem? (i := 779) (by decide +kernel)) rfl
theorem tw_780 : Cond.fieldLink "BlockPicturesModel" 117 "BlockPicturesModel" "bad" "I" ∈ bp_tb := bp_gd (List.mem_of_getElem? (i := 780) (by decide +kernel)) rfl
theorem tw_781 : Cond.fieldLink "BlockPicturesModel" 147 "BlockPicturesModel" "pending" "Z" ∈ bp_tb := bp_gd (List.mem_of_getElem? (i := 781) (by decide +kernel)) rfl
theorem tw_782 : Cond.fieldLink "BlockPicturesModel" 150 "BlockPicturesModel" "pendingPlaces" "I" ∈ bp_tb := bp_gd (List.mem_of_getElem? (i := 782) (by decide +kernel)) rfl
theorem tw_783 : Cond.fieldLink "BlockPicturesModel" 153 "BlockPicturesModel" "pendingBase" "I" ∈ bp_tb := bp_gd (List.mem_of_getElem? (i := 783) (by decide +kernel)) rfl
theorem tw_784 : Cond.fieldLink "BlockPicturesModel" 169 "BlockPicturesModel" "taken" "Z" ∈ bp_tb := bp_gd (List.mem_of_getElem? (i := 784) (by decide +kernel)) rfl
theorem tw_785 : Cond.fieldLink "BlockPicturesModel" 271 "BlockPicturesModel" "places" "I" ∈ bp_tb := bp_gd (List.mem_of_getElem? (i := 785) (by decide +kernel)) rfl
theorem tw_786 : Cond.fieldLink "BlockPicturesModel" 175 "BlockPicturesModel" "base" "I" ∈ bp_tb := bp_gd (List.mem_of_getElem? (i := 786) (by decide +kernel)) rfl
theorem tw_787 : Cond.fieldLink "BlockPicturesModel" 178 "BlockPicturesModel" "quality" "I" ∈ bp_tb := bp_gd (List.mem_of_getElem? (i := 787) (by decide +kernel)) rfl
theorem tw_788 : Cond.fieldLink "BlockPicturesModel" 181 "BlockPicturesModel" "most" "I" ∈ bp_tb := bp_gd (List.mem_of_getElem? (i := 788) (by decide +kernel)) rfl
theorem tw_789 : Cond.fieldLink "BlockPicturesModel" 159 "BlockPicturesModel" "moved" "I" ∈ bp_tb := bp_gd (List.mem_of_getElem? (i := 789) (by decide +kernel)) rfl
theorem tw_790 : Cond.fieldLink "BlockPicturesModel" 184 "BlockPicturesModel" "released" "I" ∈ bp_tb := bp_gd (List.mem_of_getElem? (i := 790) (by decide +kernel)) rfl
theorem tw_791 : Cond.fieldLink "BlockPicturesModel" 22 "BlockPicturesModel" "now" "[I" ∈ bp_tb := bp_gd (List.mem_of_getElem? (i := 791) (by decide +kernel)) rfl
theorem tw_792 : Cond.fieldLink "BlockPicturesModel" 25 "BlockPicturesModel" "intra" "[Z" ∈ bp_tb := bp_gd (List.mem_of_getElem? (i := 792) (by decide +kernel)) rfl
theorem tw_793 : Cond.fieldLink "BlockPicturesModel" 29 "BlockPicturesModel" "rest" "[Z" ∈ bp_tb := bp_gd (List.mem_of_getElem? (i := 793) (by decide +kernel)) rfl
theorem tw_794 : Cond.fieldLink "BlockPicturesModel" 32 "BlockPicturesModel" "across" "[I" ∈ bp_tb := bp_gd (List.mem_of_getElem? (i := 794) (by decide +kernel)) rfl
theorem tw_795 : Cond.fieldLink "BlockPicturesModel" 35 "BlockPicturesModel" "down" "[I" ∈ bp_tb := bp_gd (List.mem_of_getElem? (i := 795) (by decide +kernel)) rfl
theorem tw_796 : Cond.fieldLink "BlockPicturesModel" 38 "BlockPicturesModel" "which" "[I" ∈ bp_tb := bp_gd (List.mem_of_getElem? (i := 796) (by decide +kernel)) rfl
theorem tw_797 : Cond.fieldLink "BlockPicturesModel" 41 "BlockPicturesModel" "factor" "[I" ∈ bp_tb := bp_gd (List.mem_of_getElem? (i := 797) (by decide +kernel)) rfl
theorem tw_798 : Cond.fieldLink "BlockPicturesModel" 239 "BlockPicturesModel" "lines" "I" ∈ bp_tb := bp_gd (List.mem_of_getElem? (i := 798) (by decide +kernel)) rfl
theorem tw_799 : Cond.fieldLink "BlockPicturesModel" 44 "BlockPicturesModel" "latest" "[I" ∈ bp_tb := bp_gd (List.mem_of_getElem? (i := 799) (by decide +kernel)) rfl
theorem tw_800 : Cond.fieldLink "BlockPicturesModel" 74 "BlockPicturesModel" "latestLines" "I" ∈ bp_tb := bp_gd (List.mem_of_getElem? (i := 800) (by decide +kernel)) rfl
theorem tw_801 : Cond.fieldLink "BlockPicturesModel" 78 "BlockPicturesModel" "decoded" "Z" ∈ bp_tb := bp_gd (List.mem_of_getElem? (i := 801) (by decide +kernel)) rfl
theorem tw_802 : Cond.fieldLink "BlockPicturesModel" 156 "BlockPicturesModel" "held" "I" ∈ bp_tb := bp_gd (List.mem_of_getElem? (i := 802) (by decide +kernel)) rfl
theorem tw_803 : Cond.fieldLink "BlockPicturesModel" 47 "BlockPicturesModel" "samples" "[I" ∈ bp_tb := bp_gd (List.mem_of_getElem? (i := 803) (by decide +kernel)) rfl
theorem tw_804 : Cond.fieldLink "BlockPicturesModel" 50 "BlockPicturesModel" "orders" "[I" ∈ bp_tb := bp_gd (List.mem_of_getElem? (i := 804) (by decide +kernel)) rfl
theorem tw_805 : Cond.fieldLink "BlockPicturesModel" 53 "BlockPicturesModel" "marked" "[Z" ∈ bp_tb := bp_gd (List.mem_of_getElem? (i := 805) (by decide +kernel)) rfl
theorem tw_806 : Cond.fieldLink "BlockPicturesModel" 56 "BlockPicturesModel" "waits" "[Z" ∈ bp_tb := bp_gd (List.mem_of_getElem? (i := 806) (by decide +kernel)) rfl
theorem tw_807 : Cond.fieldLink "BlockPicturesModel" 256 "BlockPicturesModel" "shown" "I" ∈ bp_tb := bp_gd (List.mem_of_getElem? (i := 807) (by decide +kernel)) rfl
theorem tw_808 : Cond.fieldLink "BlockPicturesModel" 59 "BlockPicturesModel" "shownOrders" "[I" ∈ bp_tb := bp_gd (List.mem_of_getElem? (i := 808) (by decide +kernel)) rfl
theorem tw_809 : Cond.fieldLink "BlockPicturesModel" 62 "BlockPicturesModel" "shownSamples" "[I" ∈ bp_tb := bp_gd (List.mem_of_getElem? (i := 809) (by decide +kernel)) rfl
theorem tw_810 : Cond.fieldLink "BlockPicturesModel" 65 "BlockPicturesModel" "source" "[I" ∈ bp_tb := bp_gd (List.mem_of_getElem? (i := 810) (by decide +kernel)) rfl
theorem tw_811 : Cond.fieldLink "BlockPicturesModel" 68 "BlockPicturesModel" "out" "[I" ∈ bp_tb := bp_gd (List.mem_of_getElem? (i := 811) (by decide +kernel)) rfl
theorem tw_812 : Cond.fieldLink "BlockPicturesModel" 114 "BlockPicturesModel" "outs" "I" ∈ bp_tb := bp_gd (List.mem_of_getElem? (i := 812) (by decide +kernel)) rfl
theorem tw_813 : Cond.fieldLink "BlockPicturesModel" 277 "BlockPicturesModel" "outZeros" "I" ∈ bp_tb := bp_gd (List.mem_of_getElem? (i := 813) (by decide +kernel)) rfl
theorem tw_814 : Cond.fieldLink "BlockPicturesModel" 280 "BlockPicturesModel" "part" "I" ∈ bp_tb := bp_gd (List.mem_of_getElem? (i := 814) (by decide +kernel)) rfl
theorem tw_815 : Cond.fieldLink "BlockPicturesModel" 283 "BlockPicturesModel" "partBits" "I" ∈ bp_tb := bp_gd (List.mem_of_getElem? (i := 815) (by decide +kernel)) rfl
theorem tw_917 : Cond.methodLink "BlockPicturesModel" 107 ⟨"BlockPicturesModel", "within", "(III)Z"⟩ ∈ bp_tb := bp_gd (List.mem_of_getElem? (i := 917) (by decide +kernel)) rfl
theorem tw_918 : Cond.static ⟨"BlockPicturesModel", "within", "(III)Z"⟩ ∈ bp_tb := bp_gd (List.mem_of_getElem? (i := 918) (by decide +kernel)) rfl
theorem tw_919 : Cond.code ⟨"BlockPicturesModel", "within", "(III)Z"⟩ prog_13_method_3_code 3 (Option.some .boolean) ∈ bp_tb := bp_gd (List.mem_of_getElem? (i := 919) (by decide +kernel)) rfl
theorem tw_920 : Cond.methodLink "BlockPicturesModel" 111 ⟨"BlockPicturesModel", "take", "(I)V"⟩ ∈ bp_tb := bp_gd (List.mem_of_getElem? (i := 920) (by decide +kernel)) rfl
theorem tw_922 : Cond.instanceMethod ⟨"BlockPicturesModel", "take", "(I)V"⟩ ∈ bp_tb := bp_gd (List.mem_of_getElem? (i := 922) (by decide +kernel)) rfl
theorem tw_923 : Cond.code ⟨"BlockPicturesModel", "take", "(I)V"⟩ prog_13_method_6_code 2 (Option.none : Option Jvm.ClassFile.FieldType) ∈ bp_tb := bp_gd (List.mem_of_getElem? (i := 923) (by decide +kernel)) rfl
theorem tw_924 : Cond.methodLink "BlockPicturesModel" 91 ⟨"BlockPicturesModel", "close", "(I)V"⟩ ∈ bp_tb := bp_gd (List.mem_of_getElem? (i := 924) (by decide +kernel)) rfl
theorem tw_926 : Cond.instanceMethod ⟨"BlockPicturesModel", "close", "(I)V"⟩ ∈ bp_tb := bp_gd (List.mem_of_getElem? (i := 926) (by decide +kernel)) rfl
theorem tw_927 : Cond.code ⟨"BlockPicturesModel", "close", "(I)V"⟩ prog_13_method_7_code 2 (Option.none : Option Jvm.ClassFile.FieldType) ∈ bp_tb := bp_gd (List.mem_of_getElem? (i := 927) (by decide +kernel)) rfl
theorem tw_928 : Cond.methodLink "BlockPicturesModel" 98 ⟨"BlockPicturesModel", "finish", "()V"⟩ ∈ bp_tb := bp_gd (List.mem_of_getElem? (i := 928) (by decide +kernel)) rfl
theorem tw_930 : Cond.instanceMethod ⟨"BlockPicturesModel", "finish", "()V"⟩ ∈ bp_tb := bp_gd (List.mem_of_getElem? (i := 930) (by decide +kernel)) rfl
theorem tw_931 : Cond.code ⟨"BlockPicturesModel", "finish", "()V"⟩ prog_13_method_8_code 1 (Option.none : Option Jvm.ClassFile.FieldType) ∈ bp_tb := bp_gd (List.mem_of_getElem? (i := 931) (by decide +kernel)) rfl
theorem tw_932 : Cond.methodLink "BlockPicturesModel" 104 ⟨"BlockPicturesModel", "work", "()V"⟩ ∈ bp_tb := bp_gd (List.mem_of_getElem? (i := 932) (by decide +kernel)) rfl
theorem tw_934 : Cond.instanceMethod ⟨"BlockPicturesModel", "work", "()V"⟩ ∈ bp_tb := bp_gd (List.mem_of_getElem? (i := 934) (by decide +kernel)) rfl
theorem tw_935 : Cond.code ⟨"BlockPicturesModel", "work", "()V"⟩ prog_13_method_14_code 4 (Option.none : Option Jvm.ClassFile.FieldType) ∈ bp_tb := bp_gd (List.mem_of_getElem? (i := 935) (by decide +kernel)) rfl
theorem tw_936 : Cond.methodLink "BlockPicturesModel" 134 ⟨"BlockPicturesModel", "parameters", "()V"⟩ ∈ bp_tb := bp_gd (List.mem_of_getElem? (i := 936) (by decide +kernel)) rfl
theorem tw_938 : Cond.instanceMethod ⟨"BlockPicturesModel", "parameters", "()V"⟩ ∈ bp_tb := bp_gd (List.mem_of_getElem? (i := 938) (by decide +kernel)) rfl
theorem tw_939 : Cond.code ⟨"BlockPicturesModel", "parameters", "()V"⟩ prog_13_method_16_code 3 (Option.none : Option Jvm.ClassFile.FieldType) ∈ bp_tb := bp_gd (List.mem_of_getElem? (i := 939) (by decide +kernel)) rfl
theorem tw_940 : Cond.methodLink "BlockPicturesModel" 130 ⟨"BlockPicturesModel", "number", "(II)I"⟩ ∈ bp_tb := bp_gd (List.mem_of_getElem? (i := 940) (by decide +kernel)) rfl
theorem tw_942 : Cond.instanceMethod ⟨"BlockPicturesModel", "number", "(II)I"⟩ ∈ bp_tb := bp_gd (List.mem_of_getElem? (i := 942) (by decide +kernel)) rfl
theorem tw_943 : Cond.code ⟨"BlockPicturesModel", "number", "(II)I"⟩ prog_13_method_12_code 7 (Option.some .int) ∈ bp_tb := bp_gd (List.mem_of_getElem? (i := 943) (by decide +kernel)) rfl
theorem tw_944 : Cond.methodLink "BlockPicturesModel" 126 ⟨"BlockPicturesModel", "bits", "(I)I"⟩ ∈ bp_tb := bp_gd (List.mem_of_getElem? (i := 944) (by decide +kernel)) rfl
theorem tw_946 : Cond.instanceMethod ⟨"BlockPicturesModel", "bits", "(I)I"⟩ ∈ bp_tb := bp_gd (List.mem_of_getElem? (i := 946) (by decide +kernel)) rfl
theorem tw_947 : Cond.code ⟨"BlockPicturesModel", "bits", "(I)I"⟩ prog_13_method_11_code 5 (Option.some .int) ∈ bp_tb := bp_gd (List.mem_of_getElem? (i := 947) (by decide +kernel)) rfl
theorem tw_948 : Cond.methodLink "BlockPicturesModel" 144 ⟨"BlockPicturesModel", "toEnd", "()V"⟩ ∈ bp_tb := bp_gd (List.mem_of_getElem? (i := 948) (by decide +kernel)) rfl
theorem tw_950 : Cond.instanceMethod ⟨"BlockPicturesModel", "toEnd", "()V"⟩ ∈ bp_tb := bp_gd (List.mem_of_getElem? (i := 950) (by decide +kernel)) rfl
theorem tw_951 : Cond.code ⟨"BlockPicturesModel", "toEnd", "()V"⟩ prog_13_method_15_code 1 (Option.none : Option Jvm.ClassFile.FieldType) ∈ bp_tb := bp_gd (List.mem_of_getElem? (i := 951) (by decide +kernel)) rfl
theorem tw_952 : Cond.methodLink "BlockPicturesModel" 137 ⟨"BlockPicturesModel", "picture", "(ZI)V"⟩ ∈ bp_tb := bp_gd (List.mem_of_getElem? (i := 952) (by decide +kernel)) rfl
theorem tw_954 : Cond.instanceMethod ⟨"BlockPicturesModel", "picture", "(ZI)V"⟩ ∈ bp_tb := bp_gd (List.mem_of_getElem? (i := 954) (by decide +kernel)) rfl
theorem tw_955 : Cond.code ⟨"BlockPicturesModel", "picture", "(ZI)V"⟩ prog_13_method_20_code 7 (Option.none : Option Jvm.ClassFile.FieldType) ∈ bp_tb := bp_gd (List.mem_of_getElem? (i := 955) (by decide +kernel)) rfl
theorem tw_956 : Cond.methodLink "BlockPicturesModel" 165 ⟨"BlockPicturesModel", "references", "()I"⟩ ∈ bp_tb := bp_gd (List.mem_of_getElem? (i := 956) (by decide +kernel)) rfl
theorem tw_958 : Cond.instanceMethod ⟨"BlockPicturesModel", "references", "()I"⟩ ∈ bp_tb := bp_gd (List.mem_of_getElem? (i := 958) (by decide +kernel)) rfl
theorem tw_959 : Cond.code ⟨"BlockPicturesModel", "references", "()I"⟩ prog_13_method_17_code 3 (Option.some .int) ∈ bp_tb := bp_gd (List.mem_of_getElem? (i := 959) (by decide +kernel)) rfl
theorem tw_960 : Cond.methodLink "BlockPicturesModel" 172 ⟨"BlockPicturesModel", "signed", "()I"⟩ ∈ bp_tb := bp_gd (List.mem_of_getElem? (i := 960) (by decide +kernel)) rfl
theorem tw_962 : Cond.instanceMethod ⟨"BlockPicturesModel", "signed", "()I"⟩ ∈ bp_tb := bp_gd (List.mem_of_getElem? (i := 962) (by decide +kernel)) rfl
theorem tw_963 : Cond.code ⟨"BlockPicturesModel", "signed", "()I"⟩ prog_13_method_13_code 2 (Option.some .int) ∈ bp_tb := bp_gd (List.mem_of_getElem? (i := 963) (by decide +kernel)) rfl
theorem tw_964 : Cond.methodLink "BlockPicturesModel" 187 ⟨"BlockPicturesModel", "block", "(ZI)V"⟩ ∈ bp_tb := bp_gd (List.mem_of_getElem? (i := 964) (by decide +kernel)) rfl
theorem tw_966 : Cond.instanceMethod ⟨"BlockPicturesModel", "block", "(ZI)V"⟩ ∈ bp_tb := bp_gd (List.mem_of_getElem? (i := 966) (by decide +kernel)) rfl
theorem tw_967 : Cond.code ⟨"BlockPicturesModel", "block", "(ZI)V"⟩ prog_13_method_21_code 6 (Option.none : Option Jvm.ClassFile.FieldType) ∈ bp_tb := bp_gd (List.mem_of_getElem? (i := 967) (by decide +kernel)) rfl
theorem tw_968 : Cond.methodLink "BlockPicturesModel" 200 ⟨"BlockPicturesModel", "interBlock", "(IZ)V"⟩ ∈ bp_tb := bp_gd (List.mem_of_getElem? (i := 968) (by decide +kernel)) rfl
theorem tw_970 : Cond.instanceMethod ⟨"BlockPicturesModel", "interBlock", "(IZ)V"⟩ ∈ bp_tb := bp_gd (List.mem_of_getElem? (i := 970) (by decide +kernel)) rfl
theorem tw_971 : Cond.code ⟨"BlockPicturesModel", "interBlock", "(IZ)V"⟩ prog_13_method_26_code 11 (Option.none : Option Jvm.ClassFile.FieldType) ∈ bp_tb := bp_gd (List.mem_of_getElem? (i := 971) (by decide +kernel)) rfl
theorem tw_972 : Cond.methodLink "BlockPicturesModel" 223 ⟨"BlockPicturesModel", "guessed", "(IZ)I"⟩ ∈ bp_tb := bp_gd (List.mem_of_getElem? (i := 972) (by decide +kernel)) rfl
theorem tw_974 : Cond.instanceMethod ⟨"BlockPicturesModel", "guessed", "(IZ)I"⟩ ∈ bp_tb := bp_gd (List.mem_of_getElem? (i := 974) (by decide +kernel)) rfl
theorem tw_975 : Cond.code ⟨"BlockPicturesModel", "guessed", "(IZ)I"⟩ prog_13_method_25_code 7 (Option.some .int) ∈ bp_tb := bp_gd (List.mem_of_getElem? (i := 975) (by decide +kernel)) rfl
theorem tw_976 : Cond.methodLink "BlockPicturesModel" 219 ⟨"BlockPicturesModel", "middle", "(III)I"⟩ ∈ bp_tb := bp_gd (List.mem_of_getElem? (i := 976) (by decide +kernel)) rfl
theorem tw_977 : Cond.static ⟨"BlockPicturesModel", "middle", "(III)I"⟩ ∈ bp_tb := bp_gd (List.mem_of_getElem? (i := 977) (by decide +kernel)) rfl
theorem tw_978 : Cond.code ⟨"BlockPicturesModel", "middle", "(III)I"⟩ prog_13_method_24_code 5 (Option.some .int) ∈ bp_tb := bp_gd (List.mem_of_getElem? (i := 978) (by decide +kernel)) rfl
theorem tw_979 : Cond.methodLink "BlockPicturesModel" 207 ⟨"BlockPicturesModel", "residual", "(I)V"⟩ ∈ bp_tb := bp_gd (List.mem_of_getElem? (i := 979) (by decide +kernel)) rfl
theorem tw_981 : Cond.instanceMethod ⟨"BlockPicturesModel", "residual", "(I)V"⟩ ∈ bp_tb := bp_gd (List.mem_of_getElem? (i := 981) (by decide +kernel)) rfl
theorem tw_982 : Cond.code ⟨"BlockPicturesModel", "residual", "(I)V"⟩ prog_13_method_30_code 9 (Option.none : Option Jvm.ClassFile.FieldType) ∈ bp_tb := bp_gd (List.mem_of_getElem? (i := 982) (by decide +kernel)) rfl
theorem tw_983 : Cond.methodLink "BlockPicturesModel" 227 ⟨"BlockPicturesModel", "listed", "(I)I"⟩ ∈ bp_tb := bp_gd (List.mem_of_getElem? (i := 983) (by decide +kernel)) rfl
theorem tw_985 : Cond.instanceMethod ⟨"BlockPicturesModel", "listed", "(I)I"⟩ ∈ bp_tb := bp_gd (List.mem_of_getElem? (i := 985) (by decide +kernel)) rfl
theorem tw_986 : Cond.code ⟨"BlockPicturesModel", "listed", "(I)I"⟩ prog_13_method_19_code 2 (Option.some .int) ∈ bp_tb := bp_gd (List.mem_of_getElem? (i := 986) (by decide +kernel)) rfl
theorem tw_987 : Cond.methodLink "BlockPicturesModel" 162 ⟨"BlockPicturesModel", "reference", "(I)I"⟩ ∈ bp_tb := bp_gd (List.mem_of_getElem? (i := 987) (by decide +kernel)) rfl
theorem tw_989 : Cond.instanceMethod ⟨"BlockPicturesModel", "reference", "(I)I"⟩ ∈ bp_tb := bp_gd (List.mem_of_getElem? (i := 989) (by decide +kernel)) rfl
theorem tw_990 : Cond.code ⟨"BlockPicturesModel", "reference", "(I)I"⟩ prog_13_method_18_code 4 (Option.some .int) ∈ bp_tb := bp_gd (List.mem_of_getElem? (i := 990) (by decide +kernel)) rfl
theorem tw_991 : Cond.methodLink "BlockPicturesModel" 230 ⟨"BlockPicturesModel", "half", "(III)I"⟩ ∈ bp_tb := bp_gd (List.mem_of_getElem? (i := 991) (by decide +kernel)) rfl
theorem tw_993 : Cond.instanceMethod ⟨"BlockPicturesModel", "half", "(III)I"⟩ ∈ bp_tb := bp_gd (List.mem_of_getElem? (i := 993) (by decide +kernel)) rfl
theorem tw_994 : Cond.code ⟨"BlockPicturesModel", "half", "(III)I"⟩ prog_13_method_29_code 13 (Option.some .int) ∈ bp_tb := bp_gd (List.mem_of_getElem? (i := 994) (by decide +kernel)) rfl
theorem tw_995 : Cond.methodLink "BlockPicturesModel" 233 ⟨"BlockPicturesModel", "sampleOf", "(III)I"⟩ ∈ bp_tb := bp_gd (List.mem_of_getElem? (i := 995) (by decide +kernel)) rfl
theorem tw_997 : Cond.instanceMethod ⟨"BlockPicturesModel", "sampleOf", "(III)I"⟩ ∈ bp_tb := bp_gd (List.mem_of_getElem? (i := 997) (by decide +kernel)) rfl
theorem tw_998 : Cond.code ⟨"BlockPicturesModel", "sampleOf", "(III)I"⟩ prog_13_method_27_code 6 (Option.some .int) ∈ bp_tb := bp_gd (List.mem_of_getElem? (i := 998) (by decide +kernel)) rfl
theorem tw_999 : Cond.methodLink "BlockPicturesModel" 236 ⟨"BlockPicturesModel", "weight", "(I)I"⟩ ∈ bp_tb := bp_gd (List.mem_of_getElem? (i := 999) (by decide +kernel)) rfl
theorem tw_1000 : Cond.static ⟨"BlockPicturesModel", "weight", "(I)I"⟩ ∈ bp_tb := bp_gd (List.mem_of_getElem? (i := 1000) (by decide +kernel)) rfl
theorem tw_1001 : Cond.code ⟨"BlockPicturesModel", "weight", "(I)I"⟩ prog_13_method_28_code 1 (Option.some .int) ∈ bp_tb := bp_gd (List.mem_of_getElem? (i := 1001) (by decide +kernel)) rfl
theorem tw_1002 : Cond.methodLink "BlockPicturesModel" 216 ⟨"BlockPicturesModel", "limit", "(I)I"⟩ ∈ bp_tb := bp_gd (List.mem_of_getElem? (i := 1002) (by decide +kernel)) rfl
theorem tw_1003 : Cond.static ⟨"BlockPicturesModel", "limit", "(I)I"⟩ ∈ bp_tb := bp_gd (List.mem_of_getElem? (i := 1003) (by decide +kernel)) rfl
theorem tw_1004 : Cond.code ⟨"BlockPicturesModel", "limit", "(I)I"⟩ prog_13_method_4_code 1 (Option.some .int) ∈ bp_tb := bp_gd (List.mem_of_getElem? (i := 1004) (by decide +kernel)) rfl
theorem tw_1005 : Cond.methodLink "BlockPicturesModel" 213 ⟨"BlockPicturesModel", "added", "(II)I"⟩ ∈ bp_tb := bp_gd (List.mem_of_getElem? (i := 1005) (by decide +kernel)) rfl
theorem tw_1007 : Cond.instanceMethod ⟨"BlockPicturesModel", "added", "(II)I"⟩ ∈ bp_tb := bp_gd (List.mem_of_getElem? (i := 1007) (by decide +kernel)) rfl
theorem tw_1008 : Cond.code ⟨"BlockPicturesModel", "added", "(II)I"⟩ prog_13_method_31_code 6 (Option.some .int) ∈ bp_tb := bp_gd (List.mem_of_getElem? (i := 1008) (by decide +kernel)) rfl
theorem tw_1009 : Cond.methodLink "BlockPicturesModel" 204 ⟨"BlockPicturesModel", "intraBlock", "(I)V"⟩ ∈ bp_tb := bp_gd (List.mem_of_getElem? (i := 1009) (by decide +kernel)) rfl
theorem tw_1011 : Cond.instanceMethod ⟨"BlockPicturesModel", "intraBlock", "(I)V"⟩ ∈ bp_tb := bp_gd (List.mem_of_getElem? (i := 1011) (by decide +kernel)) rfl
theorem tw_1012 : Cond.code ⟨"BlockPicturesModel", "intraBlock", "(I)V"⟩ prog_13_method_23_code 11 (Option.none : Option Jvm.ClassFile.FieldType) ∈ bp_tb := bp_gd (List.mem_of_getElem? (i := 1012) (by decide +kernel)) rfl
theorem tw_1013 : Cond.methodLink "BlockPicturesModel" 210 ⟨"BlockPicturesModel", "corner", "(I)I"⟩ ∈ bp_tb := bp_gd (List.mem_of_getElem? (i := 1013) (by decide +kernel)) rfl
theorem tw_1014 : Cond.static ⟨"BlockPicturesModel", "corner", "(I)I"⟩ ∈ bp_tb := bp_gd (List.mem_of_getElem? (i := 1014) (by decide +kernel)) rfl
theorem tw_1015 : Cond.code ⟨"BlockPicturesModel", "corner", "(I)I"⟩ prog_13_method_22_code 1 (Option.some .int) ∈ bp_tb := bp_gd (List.mem_of_getElem? (i := 1015) (by decide +kernel)) rfl
theorem tw_1016 : Cond.methodLink "BlockPicturesModel" 190 ⟨"BlockPicturesModel", "edges", "()V"⟩ ∈ bp_tb := bp_gd (List.mem_of_getElem? (i := 1016) (by decide +kernel)) rfl
theorem tw_1018 : Cond.instanceMethod ⟨"BlockPicturesModel", "edges", "()V"⟩ ∈ bp_tb := bp_gd (List.mem_of_getElem? (i := 1018) (by decide +kernel)) rfl
theorem tw_1019 : Cond.code ⟨"BlockPicturesModel", "edges", "()V"⟩ prog_13_method_32_code 2 (Option.none : Option Jvm.ClassFile.FieldType) ∈ bp_tb := bp_gd (List.mem_of_getElem? (i := 1019) (by decide +kernel)) rfl
theorem tw_1020 : Cond.methodLink "BlockPicturesModel" 242 ⟨"BlockPicturesModel", "edge", "(IIII)V"⟩ ∈ bp_tb := bp_gd (List.mem_of_getElem? (i := 1020) (by decide +kernel)) rfl
theorem tw_1022 : Cond.instanceMethod ⟨"BlockPicturesModel", "edge", "(IIII)V"⟩ ∈ bp_tb := bp_gd (List.mem_of_getElem? (i := 1022) (by decide +kernel)) rfl
theorem tw_1023 : Cond.code ⟨"BlockPicturesModel", "edge", "(IIII)V"⟩ prog_13_method_34_code 7 (Option.none : Option Jvm.ClassFile.FieldType) ∈ bp_tb := bp_gd (List.mem_of_getElem? (i := 1023) (by decide +kernel)) rfl
theorem tw_1024 : Cond.methodLink "BlockPicturesModel" 249 ⟨"BlockPicturesModel", "strength", "(II)I"⟩ ∈ bp_tb := bp_gd (List.mem_of_getElem? (i := 1024) (by decide +kernel)) rfl
theorem tw_1026 : Cond.instanceMethod ⟨"BlockPicturesModel", "strength", "(II)I"⟩ ∈ bp_tb := bp_gd (List.mem_of_getElem? (i := 1026) (by decide +kernel)) rfl
theorem tw_1027 : Cond.code ⟨"BlockPicturesModel", "strength", "(II)I"⟩ prog_13_method_33_code 4 (Option.some .int) ∈ bp_tb := bp_gd (List.mem_of_getElem? (i := 1027) (by decide +kernel)) rfl
theorem tw_1028 : Cond.methodLink "BlockPicturesModel" 246 ⟨"BlockPicturesModel", "distance", "(II)I"⟩ ∈ bp_tb := bp_gd (List.mem_of_getElem? (i := 1028) (by decide +kernel)) rfl
theorem tw_1029 : Cond.static ⟨"BlockPicturesModel", "distance", "(II)I"⟩ ∈ bp_tb := bp_gd (List.mem_of_getElem? (i := 1029) (by decide +kernel)) rfl
theorem tw_1030 : Cond.code ⟨"BlockPicturesModel", "distance", "(II)I"⟩ prog_13_method_5_code 2 (Option.some .int) ∈ bp_tb := bp_gd (List.mem_of_getElem? (i := 1030) (by decide +kernel)) rfl
theorem tw_1031 : Cond.methodLink "BlockPicturesModel" 252 ⟨"BlockPicturesModel", "line", "(III)V"⟩ ∈ bp_tb := bp_gd (List.mem_of_getElem? (i := 1031) (by decide +kernel)) rfl
theorem tw_1033 : Cond.instanceMethod ⟨"BlockPicturesModel", "line", "(III)V"⟩ ∈ bp_tb := bp_gd (List.mem_of_getElem? (i := 1033) (by decide +kernel)) rfl
theorem tw_1034 : Cond.code ⟨"BlockPicturesModel", "line", "(III)V"⟩ prog_13_method_35_code 9 (Option.none : Option Jvm.ClassFile.FieldType) ∈ bp_tb := bp_gd (List.mem_of_getElem? (i := 1034) (by decide +kernel)) rfl
theorem tw_1035 : Cond.methodLink "BlockPicturesModel" 193 ⟨"BlockPicturesModel", "remember", "()V"⟩ ∈ bp_tb := bp_gd (List.mem_of_getElem? (i := 1035) (by decide +kernel)) rfl
theorem tw_1037 : Cond.instanceMethod ⟨"BlockPicturesModel", "remember", "()V"⟩ ∈ bp_tb := bp_gd (List.mem_of_getElem? (i := 1037) (by decide +kernel)) rfl
theorem tw_1038 : Cond.code ⟨"BlockPicturesModel", "remember", "()V"⟩ prog_13_method_36_code 2 (Option.none : Option Jvm.ClassFile.FieldType) ∈ bp_tb := bp_gd (List.mem_of_getElem? (i := 1038) (by decide +kernel)) rfl
theorem tw_1039 : Cond.methodLink "BlockPicturesModel" 196 ⟨"BlockPicturesModel", "keep", "(ZIZ)V"⟩ ∈ bp_tb := bp_gd (List.mem_of_getElem? (i := 1039) (by decide +kernel)) rfl
theorem tw_1041 : Cond.instanceMethod ⟨"BlockPicturesModel", "keep", "(ZIZ)V"⟩ ∈ bp_tb := bp_gd (List.mem_of_getElem? (i := 1041) (by decide +kernel)) rfl
theorem tw_1042 : Cond.code ⟨"BlockPicturesModel", "keep", "(ZIZ)V"⟩ prog_13_method_42_code 9 (Option.none : Option Jvm.ClassFile.FieldType) ∈ bp_tb := bp_gd (List.mem_of_getElem? (i := 1042) (by decide +kernel)) rfl
theorem tw_1043 : Cond.methodLink "BlockPicturesModel" 268 ⟨"BlockPicturesModel", "showAll", "()V"⟩ ∈ bp_tb := bp_gd (List.mem_of_getElem? (i := 1043) (by decide +kernel)) rfl
theorem tw_1045 : Cond.instanceMethod ⟨"BlockPicturesModel", "showAll", "()V"⟩ ∈ bp_tb := bp_gd (List.mem_of_getElem? (i := 1045) (by decide +kernel)) rfl
theorem tw_1046 : Cond.code ⟨"BlockPicturesModel", "showAll", "()V"⟩ prog_13_method_40_code 2 (Option.none : Option Jvm.ClassFile.FieldType) ∈ bp_tb := bp_gd (List.mem_of_getElem? (i := 1046) (by decide +kernel)) rfl
theorem tw_1047 : Cond.methodLink "BlockPicturesModel" 265 ⟨"BlockPicturesModel", "showFirst", "()V"⟩ ∈ bp_tb := bp_gd (List.mem_of_getElem? (i := 1047) (by decide +kernel)) rfl
theorem tw_1049 : Cond.instanceMethod ⟨"BlockPicturesModel", "showFirst", "()V"⟩ ∈ bp_tb := bp_gd (List.mem_of_getElem? (i := 1049) (by decide +kernel)) rfl
theorem tw_1050 : Cond.code ⟨"BlockPicturesModel", "showFirst", "()V"⟩ prog_13_method_39_code 3 (Option.none : Option Jvm.ClassFile.FieldType) ∈ bp_tb := bp_gd (List.mem_of_getElem? (i := 1050) (by decide +kernel)) rfl
theorem tw_1051 : Cond.methodLink "BlockPicturesModel" 259 ⟨"BlockPicturesModel", "first", "()I"⟩ ∈ bp_tb := bp_gd (List.mem_of_getElem? (i := 1051) (by decide +kernel)) rfl
theorem tw_1053 : Cond.instanceMethod ⟨"BlockPicturesModel", "first", "()I"⟩ ∈ bp_tb := bp_gd (List.mem_of_getElem? (i := 1053) (by decide +kernel)) rfl
theorem tw_1054 : Cond.code ⟨"BlockPicturesModel", "first", "()I"⟩ prog_13_method_38_code 3 (Option.some .int) ∈ bp_tb := bp_gd (List.mem_of_getElem? (i := 1054) (by decide +kernel)) rfl
theorem tw_1055 : Cond.methodLink "BlockPicturesModel" 262 ⟨"BlockPicturesModel", "show", "(I)V"⟩ ∈ bp_tb := bp_gd (List.mem_of_getElem? (i := 1055) (by decide +kernel)) rfl
theorem tw_1057 : Cond.instanceMethod ⟨"BlockPicturesModel", "show", "(I)V"⟩ ∈ bp_tb := bp_gd (List.mem_of_getElem? (i := 1057) (by decide +kernel)) rfl
theorem tw_1058 : Cond.code ⟨"BlockPicturesModel", "show", "(I)V"⟩ prog_13_method_37_code 3 (Option.none : Option Jvm.ClassFile.FieldType) ∈ bp_tb := bp_gd (List.mem_of_getElem? (i := 1058) (by decide +kernel)) rfl
theorem tw_1059 : Cond.methodLink "BlockPicturesModel" 274 ⟨"BlockPicturesModel", "clean", "()V"⟩ ∈ bp_tb := bp_gd (List.mem_of_getElem? (i := 1059) (by decide +kernel)) rfl
theorem tw_1061 : Cond.instanceMethod ⟨"BlockPicturesModel", "clean", "()V"⟩ ∈ bp_tb := bp_gd (List.mem_of_getElem? (i := 1061) (by decide +kernel)) rfl
theorem tw_1062 : Cond.code ⟨"BlockPicturesModel", "clean", "()V"⟩ prog_13_method_41_code 4 (Option.none : Option Jvm.ClassFile.FieldType) ∈ bp_tb := bp_gd (List.mem_of_getElem? (i := 1062) (by decide +kernel)) rfl
theorem tw_1123 : Cond.methodLink "BlockPicturesModel" 286 ⟨"BlockPicturesModel", "byteOut", "(I)V"⟩ ∈ bp_tb := bp_gd (List.mem_of_getElem? (i := 1123) (by decide +kernel)) rfl
theorem tw_1125 : Cond.instanceMethod ⟨"BlockPicturesModel", "byteOut", "(I)V"⟩ ∈ bp_tb := bp_gd (List.mem_of_getElem? (i := 1125) (by decide +kernel)) rfl
theorem tw_1126 : Cond.code ⟨"BlockPicturesModel", "byteOut", "(I)V"⟩ prog_13_method_56_code 2 (Option.none : Option Jvm.ClassFile.FieldType) ∈ bp_tb := bp_gd (List.mem_of_getElem? (i := 1126) (by decide +kernel)) rfl
theorem tw_1127 : Cond.methodLink "BlockPicturesModel" 293 ⟨"BlockPicturesModel", "numberOut", "(I)V"⟩ ∈ bp_tb := bp_gd (List.mem_of_getElem? (i := 1127) (by decide +kernel)) rfl
theorem tw_1129 : Cond.instanceMethod ⟨"BlockPicturesModel", "numberOut", "(I)V"⟩ ∈ bp_tb := bp_gd (List.mem_of_getElem? (i := 1129) (by decide +kernel)) rfl
theorem tw_1130 : Cond.code ⟨"BlockPicturesModel", "numberOut", "(I)V"⟩ prog_13_method_58_code 3 (Option.none : Option Jvm.ClassFile.FieldType) ∈ bp_tb := bp_gd (List.mem_of_getElem? (i := 1130) (by decide +kernel)) rfl
theorem tw_1131 : Cond.methodLink "BlockPicturesModel" 289 ⟨"BlockPicturesModel", "bitsOut", "(II)V"⟩ ∈ bp_tb := bp_gd (List.mem_of_getElem? (i := 1131) (by decide +kernel)) rfl
theorem tw_1133 : Cond.instanceMethod ⟨"BlockPicturesModel", "bitsOut", "(II)V"⟩ ∈ bp_tb := bp_gd (List.mem_of_getElem? (i := 1133) (by decide +kernel)) rfl
theorem tw_1134 : Cond.code ⟨"BlockPicturesModel", "bitsOut", "(II)V"⟩ prog_13_method_57_code 4 (Option.none : Option Jvm.ClassFile.FieldType) ∈ bp_tb := bp_gd (List.mem_of_getElem? (i := 1134) (by decide +kernel)) rfl
