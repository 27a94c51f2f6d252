/-! names and field tables (by wip/whole/gen.py, out of the claim's own texts) -/
def fx_T0 : u_T := fun k => match k with
  | 0 => ("FoxReply$Acts", "kept", "[LFoxReply$Chase;", true)
  | 1 => ("FoxReply$Acts", "next", "I", false)
  | _ => ("FoxReply$Acts", "many", "I", false)
def fx_T1 : u_T := fun k => match k with
  | 0 => ("FoxReply$Chase", "round", "I", false)
  | 1 => ("FoxReply$Chase", "foxPace", "I", false)
  | 2 => ("FoxReply$Chase", "law", "I", false)
  | 3 => ("FoxReply$Chase", "riders", "I", false)
  | 4 => ("FoxReply$Chase", "fox", "I", false)
  | 5 => ("FoxReply$Chase", "step", "I", false)
  | 6 => ("FoxReply$Chase", "gates", "J", false)
  | 7 => ("FoxReply$Chase", "run", "[I", true)
  | 8 => ("FoxReply$Chase", "pace", "[I", true)
  | 9 => ("FoxReply$Chase", "ground", "[I", true)
  | _ => ("FoxReply$Chase", "was", "[I", true)
def fx_T2 : u_T := fun k => match k with
  | 0 => ("FoxReply$HuntReader", "signs", "LFoxReply$Signs;", true)
  | 1 => ("FoxReply$HuntReader", "fault", "I", false)
  | _ => ("FoxReply$HuntReader", "told", "LFoxReply$Chase;", true)
def fx_T3 : u_T := fun k => match k with
  | 0 => ("FoxReply$Notes", "many", "I", false)
  | 1 => ("FoxReply$Notes", "steps", "[I", true)
  | 2 => ("FoxReply$Notes", "riders", "[I", true)
  | _ => ("FoxReply$Notes", "fars", "[I", true)
def fx_T4 : u_T := fun k => match k with
  | 0 => ("FoxReply$RowSearch", "stepper", "LFoxReply$Stepper;", true)
  | 1 => ("FoxReply$RowSearch", "behind", "[LFoxReply$Chase;", true)
  | 2 => ("FoxReply$RowSearch", "rule", "LFoxReply$Rule;", false)
  | 3 => ("FoxReply$RowSearch", "rider", "I", false)
  | 4 => ("FoxReply$RowSearch", "steps", "I", false)
  | 5 => ("FoxReply$RowSearch", "timesBefore", "I", false)
  | 6 => ("FoxReply$RowSearch", "first", "I", false)
  | 7 => ("FoxReply$RowSearch", "bestTimes", "I", false)
  | 8 => ("FoxReply$RowSearch", "bestRun", "I", false)
  | _ => ("FoxReply$RowSearch", "bestFirst", "I", false)
def fx_T5 : u_T := fun k => match k with
  | 0 => ("FoxReply$Rule", "codes", "[I", true)
  | 1 => ("FoxReply$Rule", "clauses", "I", true)
  | 2 => ("FoxReply$Rule", "sums", "[I", true)
  | _ => ("FoxReply$Rule", "tests", "[I", true)
def fx_T6 : u_T := fun k => match k with
  | 0 => ("FoxReply$RuleReader", "signs", "LFoxReply$Signs;", true)
  | 1 => ("FoxReply$RuleReader", "codes", "[I", true)
  | 2 => ("FoxReply$RuleReader", "sums", "[I", true)
  | 3 => ("FoxReply$RuleReader", "tests", "[I", true)
  | 4 => ("FoxReply$RuleReader", "waiting", "[I", true)
  | 5 => ("FoxReply$RuleReader", "codeCount", "I", false)
  | 6 => ("FoxReply$RuleReader", "clauses", "I", false)
  | 7 => ("FoxReply$RuleReader", "waitingCount", "I", false)
  | 8 => ("FoxReply$RuleReader", "deep", "I", false)
  | 9 => ("FoxReply$RuleReader", "brackets", "I", false)
  | 10 => ("FoxReply$RuleReader", "parts", "I", false)
  | 11 => ("FoxReply$RuleReader", "word", "I", false)
  | 12 => ("FoxReply$RuleReader", "want", "I", false)
  | 13 => ("FoxReply$RuleReader", "wantBehindSum", "I", false)
  | _ => ("FoxReply$RuleReader", "isBehindValue", "Z", false)
def fx_T7 : u_T := fun k => match k with
  | 0 => ("FoxReply$Signs", "text", "[B", true)
  | 1 => ("FoxReply$Signs", "length", "I", false)
  | 2 => ("FoxReply$Signs", "next", "I", false)
  | 3 => ("FoxReply$Signs", "kind", "I", false)
  | 4 => ("FoxReply$Signs", "place", "I", false)
  | _ => ("FoxReply$Signs", "value", "I", false)
def fx_T8 : u_T := fun k => match k with
  | 0 => ("FoxReply$Stepper", "words", "[J", true)
  | 1 => ("FoxReply$Stepper", "stack", "[J", true)
  | 2 => ("FoxReply$Stepper", "moves", "[I", true)
  | 3 => ("FoxReply$Stepper", "rowRider", "I", false)
  | _ => ("FoxReply$Stepper", "rowFields", "I", false)
def fx_T9 : u_T := fun k => match k with
  | 0 => ("FoxReply$World", "begun", "LFoxReply$Chase;", true)
  | 1 => ("FoxReply$World", "now", "LFoxReply$Chase;", true)
  | 2 => ("FoxReply$World", "notes", "LFoxReply$Notes;", true)
  | 3 => ("FoxReply$World", "force", "I", false)
  | _ => ("FoxReply$World", "x", "I", false)
def fx_T10 : u_T := fun k => match k with
  | 0 => ("FoxReply", "tape", "[B", true)
  | 1 => ("FoxReply", "tapeLength", "I", false)
  | 2 => ("FoxReply", "huntReader", "LFoxReply$HuntReader;", true)
  | 3 => ("FoxReply", "ruleReader", "LFoxReply$RuleReader;", true)
  | 4 => ("FoxReply", "rules", "[LFoxReply$Rule;", true)
  | 5 => ("FoxReply", "ruleCount", "I", false)
  | 6 => ("FoxReply", "world", "LFoxReply$World;", true)
  | 7 => ("FoxReply", "images", "[LFoxReply$World;", true)
  | 8 => ("FoxReply", "imageMade", "[Z", true)
  | 9 => ("FoxReply", "acts", "LFoxReply$Acts;", true)
  | 10 => ("FoxReply", "stepper", "LFoxReply$Stepper;", true)
  | 11 => ("FoxReply", "trial", "LFoxReply$Chase;", true)
  | 12 => ("FoxReply", "rowSearch", "LFoxReply$RowSearch;", true)
  | 13 => ("FoxReply", "byRun", "[I", true)
  | 14 => ("FoxReply", "gainOfOne", "[I", true)
  | 15 => ("FoxReply", "gainOfOther", "[I", true)
  | 16 => ("FoxReply", "isSo", "[Z", true)
  | _ => ("FoxReply", "seenRuns", "[I", true)
def fx_T11 : u_T := fun k => match k with
  | 0 => ("FoxReplyModel", "tape", "[B", true)
  | 1 => ("FoxReplyModel", "taped", "I", false)
  | 2 => ("FoxReplyModel", "rules", "I", false)
  | 3 => ("FoxReplyModel", "sign", "[I", true)
  | 4 => ("FoxReplyModel", "length", "[I", true)
  | 5 => ("FoxReplyModel", "clause", "[I", true)
  | 6 => ("FoxReplyModel", "clauses", "[I", true)
  | 7 => ("FoxReplyModel", "read", "[I", true)
  | 8 => ("FoxReplyModel", "next", "I", false)
  | 9 => ("FoxReplyModel", "wrong", "I", false)
  | 10 => ("FoxReplyModel", "number", "I", false)
  | 11 => ("FoxReplyModel", "text", "I", false)
  | 12 => ("FoxReplyModel", "made", "I", false)
  | 13 => ("FoxReplyModel", "deep", "I", false)
  | 14 => ("FoxReplyModel", "lines", "I", false)
  | 15 => ("FoxReplyModel", "open", "[I", true)
  | 16 => ("FoxReplyModel", "opened", "I", false)
  | 17 => ("FoxReplyModel", "stack", "[J", true)
  | 18 => ("FoxReplyModel", "top", "I", false)
  | 19 => ("FoxReplyModel", "word", "[J", true)
  | 20 => ("FoxReplyModel", "said", "[I", true)
  | 21 => ("FoxReplyModel", "force", "I", false)
  | 22 => ("FoxReplyModel", "x", "I", false)
  | 23 => ("FoxReplyModel", "rowRider", "I", false)
  | 24 => ("FoxReplyModel", "fields", "[I", true)
  | 25 => ("FoxReplyModel", "rowAt", "I", false)
  | 26 => ("FoxReplyModel", "rides", "[I", true)
  | 27 => ("FoxReplyModel", "wasSaid", "[I", true)
  | 28 => ("FoxReplyModel", "undone", "I", false)
  | 29 => ("FoxReplyModel", "kept", "[I", true)
  | 30 => ("FoxReplyModel", "hasBy", "[I", true)
  | 31 => ("FoxReplyModel", "isFit", "[Z", true)
  | 32 => ("FoxReplyModel", "runThen", "[I", true)
  | 33 => ("FoxReplyModel", "drawX", "J", false)
  | 34 => ("FoxReplyModel", "images", "[I", true)
  | 35 => ("FoxReplyModel", "imageForce", "[I", true)
  | 36 => ("FoxReplyModel", "imageX", "[I", true)
  | _ => ("FoxReplyModel", "isMade", "[Z", true)
def fx_cl : List vw_C := [("FoxReply$Acts", fx_T0, 3), ("FoxReply$Chase", fx_T1, 11), ("FoxReply$HuntReader", fx_T2, 3), ("FoxReply$Notes", fx_T3, 4), ("FoxReply$RowSearch", fx_T4, 10), ("FoxReply$Rule", fx_T5, 4), ("FoxReply$RuleReader", fx_T6, 15), ("FoxReply$Signs", fx_T7, 6), ("FoxReply$Stepper", fx_T8, 5), ("FoxReply$World", fx_T9, 5), ("FoxReply", fx_T10, 18), ("FoxReplyModel", fx_T11, 38)]
def fx_ty0 : Nat → FieldType := fun k => match k with
  | 0 => .array (.object "FoxReply$Chase")
  | 1 => .int
  | _ => .int
def fx_ty1 : Nat → FieldType := fun k => match k with
  | 0 => .int
  | 1 => .int
  | 2 => .int
  | 3 => .int
  | 4 => .int
  | 5 => .int
  | 6 => .long
  | 7 => .array .int
  | 8 => .array .int
  | 9 => .array .int
  | _ => .array .int
def fx_ty2 : Nat → FieldType := fun k => match k with
  | 0 => .object "FoxReply$Signs"
  | 1 => .int
  | _ => .object "FoxReply$Chase"
def fx_ty3 : Nat → FieldType := fun k => match k with
  | 0 => .int
  | 1 => .array .int
  | 2 => .array .int
  | _ => .array .int
def fx_ty4 : Nat → FieldType := fun k => match k with
  | 0 => .object "FoxReply$Stepper"
  | 1 => .array (.object "FoxReply$Chase")
  | 2 => .object "FoxReply$Rule"
  | 3 => .int
  | 4 => .int
  | 5 => .int
  | 6 => .int
  | 7 => .int
  | 8 => .int
  | _ => .int
def fx_ty5 : Nat → FieldType := fun k => match k with
  | 0 => .array .int
  | 1 => .int
  | 2 => .array .int
  | _ => .array .int
def fx_ty6 : Nat → FieldType := fun k => match k with
  | 0 => .object "FoxReply$Signs"
  | 1 => .array .int
  | 2 => .array .int
  | 3 => .array .int
  | 4 => .array .int
  | 5 => .int
  | 6 => .int
  | 7 => .int
  | 8 => .int
  | 9 => .int
  | 10 => .int
  | 11 => .int
  | 12 => .int
  | 13 => .int
  | _ => .boolean
def fx_ty7 : Nat → FieldType := fun k => match k with
  | 0 => .array .byte
  | 1 => .int
  | 2 => .int
  | 3 => .int
  | 4 => .int
  | _ => .int
def fx_ty8 : Nat → FieldType := fun k => match k with
  | 0 => .array .long
  | 1 => .array .long
  | 2 => .array .int
  | 3 => .int
  | _ => .int
def fx_ty9 : Nat → FieldType := fun k => match k with
  | 0 => .object "FoxReply$Chase"
  | 1 => .object "FoxReply$Chase"
  | 2 => .object "FoxReply$Notes"
  | 3 => .int
  | _ => .int
def fx_ty10 : Nat → FieldType := fun k => match k with
  | 0 => .array .byte
  | 1 => .int
  | 2 => .object "FoxReply$HuntReader"
  | 3 => .object "FoxReply$RuleReader"
  | 4 => .array (.object "FoxReply$Rule")
  | 5 => .int
  | 6 => .object "FoxReply$World"
  | 7 => .array (.object "FoxReply$World")
  | 8 => .array .boolean
  | 9 => .object "FoxReply$Acts"
  | 10 => .object "FoxReply$Stepper"
  | 11 => .object "FoxReply$Chase"
  | 12 => .object "FoxReply$RowSearch"
  | 13 => .array .int
  | 14 => .array .int
  | 15 => .array .int
  | 16 => .array .boolean
  | _ => .array .int
def fx_ty11 : Nat → FieldType := fun k => match k with
  | 0 => .array .byte
  | 1 => .int
  | 2 => .int
  | 3 => .array .int
  | 4 => .array .int
  | 5 => .array .int
  | 6 => .array .int
  | 7 => .array .int
  | 8 => .int
  | 9 => .int
  | 10 => .int
  | 11 => .int
  | 12 => .int
  | 13 => .int
  | 14 => .int
  | 15 => .array .int
  | 16 => .int
  | 17 => .array .long
  | 18 => .int
  | 19 => .array .long
  | 20 => .array .int
  | 21 => .int
  | 22 => .int
  | 23 => .int
  | 24 => .array .int
  | 25 => .int
  | 26 => .array .int
  | 27 => .array .int
  | 28 => .int
  | 29 => .array .int
  | 30 => .array .int
  | 31 => .array .boolean
  | 32 => .array .int
  | 33 => .long
  | 34 => .array .int
  | 35 => .array .int
  | 36 => .array .int
  | _ => .array .boolean
def fx_ty (ci : Nat) : Nat → FieldType := match ci with
  | 0 => fx_ty0
  | 1 => fx_ty1
  | 2 => fx_ty2
  | 3 => fx_ty3
  | 4 => fx_ty4
  | 5 => fx_ty5
  | 6 => fx_ty6
  | 7 => fx_ty7
  | 8 => fx_ty8
  | 9 => fx_ty9
  | 10 => fx_ty10
  | _ => fx_ty11
theorem fx_pl {ws : List Cond} (ps : List Nat) (h : ws = ps.filterMap (fun i => lw_tbl[i]?)) : ∀ w ∈ ws, w ∈ lw_tbl := by
  intro w hw
  rw [h] at hw
  obtain ⟨i, -, hi⟩ := List.mem_filterMap.mp hw
  exact List.mem_of_getElem? hi
set_option maxRecDepth 100000 in
theorem fx_in0 : ∀ w ∈ u_ws "FoxReply$Acts" fx_T0 3, w ∈ lw_tbl := fx_pl [379, 381, 383] (by decide +kernel)
theorem fx_tyok0 : ∀ k, k < 3 → parseFieldDescriptor (fx_T0 k).2.2.1 = some (fx_ty0 k) := by decide +kernel
theorem fx_nm0 : ∀ a, a < 3 → ∀ b, b < 3 → a ≠ b → (fx_T0 a).2.1 ≠ (fx_T0 b).2.1 := by decide +kernel
theorem fx_ins0 : Cond.instantiable "FoxReply$Acts" 3 ∈ lw_tbl := List.mem_of_getElem? (i := 367) (by decide +kernel)
theorem fx_ini0 : Cond.initialized "FoxReply$Acts" ∈ lw_tbl := List.mem_of_getElem? (i := 124) (by decide +kernel)
set_option maxRecDepth 100000 in
theorem fx_in1 : ∀ w ∈ u_ws "FoxReply$Chase" fx_T1 11, w ∈ lw_tbl := fx_pl [227, 229, 231, 233, 235, 237, 239, 241, 243, 245, 247] (by decide +kernel)
theorem fx_tyok1 : ∀ k, k < 11 → parseFieldDescriptor (fx_T1 k).2.2.1 = some (fx_ty1 k) := by decide +kernel
theorem fx_nm1 : ∀ a, a < 11 → ∀ b, b < 11 → a ≠ b → (fx_T1 a).2.1 ≠ (fx_T1 b).2.1 := by decide +kernel
theorem fx_ins1 : Cond.instantiable "FoxReply$Chase" 11 ∈ lw_tbl := List.mem_of_getElem? (i := 183) (by decide +kernel)
theorem fx_ini1 : Cond.initialized "FoxReply$Chase" ∈ lw_tbl := List.mem_of_getElem? (i := 120) (by decide +kernel)
set_option maxRecDepth 100000 in
theorem fx_in2 : ∀ w ∈ u_ws "FoxReply$HuntReader" fx_T2 3, w ∈ lw_tbl := fx_pl [255, 257, 259] (by decide +kernel)
theorem fx_tyok2 : ∀ k, k < 3 → parseFieldDescriptor (fx_T2 k).2.2.1 = some (fx_ty2 k) := by decide +kernel
theorem fx_nm2 : ∀ a, a < 3 → ∀ b, b < 3 → a ≠ b → (fx_T2 a).2.1 ≠ (fx_T2 b).2.1 := by decide +kernel
theorem fx_ins2 : Cond.instantiable "FoxReply$HuntReader" 3 ∈ lw_tbl := List.mem_of_getElem? (i := 147) (by decide +kernel)
theorem fx_ini2 : Cond.initialized "FoxReply$HuntReader" ∈ lw_tbl := List.mem_of_getElem? (i := 118) (by decide +kernel)
set_option maxRecDepth 100000 in
theorem fx_in3 : ∀ w ∈ u_ws "FoxReply$Notes" fx_T3 4, w ∈ lw_tbl := fx_pl [335, 337, 339, 341] (by decide +kernel)
theorem fx_tyok3 : ∀ k, k < 4 → parseFieldDescriptor (fx_T3 k).2.2.1 = some (fx_ty3 k) := by decide +kernel
theorem fx_nm3 : ∀ a, a < 4 → ∀ b, b < 4 → a ≠ b → (fx_T3 a).2.1 ≠ (fx_T3 b).2.1 := by decide +kernel
theorem fx_ins3 : Cond.instantiable "FoxReply$Notes" 4 ∈ lw_tbl := List.mem_of_getElem? (i := 325) (by decide +kernel)
theorem fx_ini3 : Cond.initialized "FoxReply$Notes" ∈ lw_tbl := List.mem_of_getElem? (i := 123) (by decide +kernel)
set_option maxRecDepth 100000 in
theorem fx_in4 : ∀ w ∈ u_ws "FoxReply$RowSearch" fx_T4 10, w ∈ lw_tbl := fx_pl [435, 437, 439, 441, 443, 445, 447, 449, 451, 453] (by decide +kernel)
theorem fx_tyok4 : ∀ k, k < 10 → parseFieldDescriptor (fx_T4 k).2.2.1 = some (fx_ty4 k) := by decide +kernel
theorem fx_nm4 : ∀ a, a < 10 → ∀ b, b < 10 → a ≠ b → (fx_T4 a).2.1 ≠ (fx_T4 b).2.1 := by decide +kernel
theorem fx_ins4 : Cond.instantiable "FoxReply$RowSearch" 10 ∈ lw_tbl := List.mem_of_getElem? (i := 415) (by decide +kernel)
theorem fx_ini4 : Cond.initialized "FoxReply$RowSearch" ∈ lw_tbl := List.mem_of_getElem? (i := 126) (by decide +kernel)
set_option maxRecDepth 100000 in
theorem fx_in5 : ∀ w ∈ u_ws "FoxReply$Rule" fx_T5 4, w ∈ lw_tbl := fx_pl [811, 813, 815, 817] (by decide +kernel)
theorem fx_tyok5 : ∀ k, k < 4 → parseFieldDescriptor (fx_T5 k).2.2.1 = some (fx_ty5 k) := by decide +kernel
theorem fx_nm5 : ∀ a, a < 4 → ∀ b, b < 4 → a ≠ b → (fx_T5 a).2.1 ≠ (fx_T5 b).2.1 := by decide +kernel
theorem fx_ins5 : Cond.instantiable "FoxReply$Rule" 4 ∈ lw_tbl := List.mem_of_getElem? (i := 788) (by decide +kernel)
theorem fx_ini5 : Cond.initialized "FoxReply$Rule" ∈ lw_tbl := List.mem_of_getElem? (i := 134) (by decide +kernel)
set_option maxRecDepth 100000 in
theorem fx_in6 : ∀ w ∈ u_ws "FoxReply$RuleReader" fx_T6 15, w ∈ lw_tbl := fx_pl [283, 285, 287, 289, 291, 293, 295, 297, 299, 301, 303, 305, 307, 309, 311] (by decide +kernel)
theorem fx_tyok6 : ∀ k, k < 15 → parseFieldDescriptor (fx_T6 k).2.2.1 = some (fx_ty6 k) := by decide +kernel
theorem fx_nm6 : ∀ a, a < 15 → ∀ b, b < 15 → a ≠ b → (fx_T6 a).2.1 ≠ (fx_T6 b).2.1 := by decide +kernel
theorem fx_ins6 : Cond.instantiable "FoxReply$RuleReader" 15 ∈ lw_tbl := List.mem_of_getElem? (i := 263) (by decide +kernel)
theorem fx_ini6 : Cond.initialized "FoxReply$RuleReader" ∈ lw_tbl := List.mem_of_getElem? (i := 121) (by decide +kernel)
set_option maxRecDepth 100000 in
theorem fx_in7 : ∀ w ∈ u_ws "FoxReply$Signs" fx_T7 6, w ∈ lw_tbl := fx_pl [164, 166, 168, 170, 172, 174] (by decide +kernel)
theorem fx_tyok7 : ∀ k, k < 6 → parseFieldDescriptor (fx_T7 k).2.2.1 = some (fx_ty7 k) := by decide +kernel
theorem fx_nm7 : ∀ a, a < 6 → ∀ b, b < 6 → a ≠ b → (fx_T7 a).2.1 ≠ (fx_T7 b).2.1 := by decide +kernel
theorem fx_ins7 : Cond.instantiable "FoxReply$Signs" 6 ∈ lw_tbl := List.mem_of_getElem? (i := 149) (by decide +kernel)
theorem fx_ini7 : Cond.initialized "FoxReply$Signs" ∈ lw_tbl := List.mem_of_getElem? (i := 119) (by decide +kernel)
set_option maxRecDepth 100000 in
theorem fx_in8 : ∀ w ∈ u_ws "FoxReply$Stepper" fx_T8 5, w ∈ lw_tbl := fx_pl [400, 402, 404, 406, 408] (by decide +kernel)
theorem fx_tyok8 : ∀ k, k < 5 → parseFieldDescriptor (fx_T8 k).2.2.1 = some (fx_ty8 k) := by decide +kernel
theorem fx_nm8 : ∀ a, a < 5 → ∀ b, b < 5 → a ≠ b → (fx_T8 a).2.1 ≠ (fx_T8 b).2.1 := by decide +kernel
theorem fx_ins8 : Cond.instantiable "FoxReply$Stepper" 5 ∈ lw_tbl := List.mem_of_getElem? (i := 388) (by decide +kernel)
theorem fx_ini8 : Cond.initialized "FoxReply$Stepper" ∈ lw_tbl := List.mem_of_getElem? (i := 125) (by decide +kernel)
set_option maxRecDepth 100000 in
theorem fx_in9 : ∀ w ∈ u_ws "FoxReply$World" fx_T9 5, w ∈ lw_tbl := fx_pl [354, 356, 358, 360, 362] (by decide +kernel)
theorem fx_tyok9 : ∀ k, k < 5 → parseFieldDescriptor (fx_T9 k).2.2.1 = some (fx_ty9 k) := by decide +kernel
theorem fx_nm9 : ∀ a, a < 5 → ∀ b, b < 5 → a ≠ b → (fx_T9 a).2.1 ≠ (fx_T9 b).2.1 := by decide +kernel
theorem fx_ins9 : Cond.instantiable "FoxReply$World" 5 ∈ lw_tbl := List.mem_of_getElem? (i := 317) (by decide +kernel)
theorem fx_ini9 : Cond.initialized "FoxReply$World" ∈ lw_tbl := List.mem_of_getElem? (i := 122) (by decide +kernel)
set_option maxRecDepth 100000 in
theorem fx_in10 : ∀ w ∈ u_ws "FoxReply" fx_T10 18, w ∈ lw_tbl := fx_pl [474, 476, 478, 480, 482, 484, 486, 488, 490, 492, 494, 496, 498, 500, 502, 504, 506, 508] (by decide +kernel)
theorem fx_tyok10 : ∀ k, k < 18 → parseFieldDescriptor (fx_T10 k).2.2.1 = some (fx_ty10 k) := by decide +kernel
theorem fx_nm10 : ∀ a, a < 18 → ∀ b, b < 18 → a ≠ b → (fx_T10 a).2.1 ≠ (fx_T10 b).2.1 := by decide +kernel
theorem fx_ins10 : Cond.instantiable "FoxReply" 18 ∈ lw_tbl := List.mem_of_getElem? (i := 139) (by decide +kernel)
theorem fx_ini10 : Cond.initialized "FoxReply" ∈ lw_tbl := List.mem_of_getElem? (i := 117) (by decide +kernel)
set_option maxRecDepth 100000 in
theorem fx_in11 : ∀ w ∈ u_ws "FoxReplyModel" fx_T11 38, w ∈ lw_tbl := fx_pl [1221, 1223, 1225, 1227, 1229, 1231, 1233, 1235, 1237, 1239, 1241, 1243, 1245, 1247, 1249, 1251, 1253, 1255, 1257, 1259, 1261, 1263, 1265, 1267, 1269, 1271, 1273, 1275, 1277, 1279, 1281, 1283, 1285, 1287, 1289, 1291, 1293, 1295] (by decide +kernel)
theorem fx_tyok11 : ∀ k, k < 38 → parseFieldDescriptor (fx_T11 k).2.2.1 = some (fx_ty11 k) := by decide +kernel
theorem fx_nm11 : ∀ a, a < 38 → ∀ b, b < 38 → a ≠ b → (fx_T11 a).2.1 ≠ (fx_T11 b).2.1 := by decide +kernel
theorem fx_ins11 : Cond.instantiable "FoxReplyModel" 38 ∈ lw_tbl := List.mem_of_getElem? (i := 1178) (by decide +kernel)
theorem fx_ini11 : Cond.initialized "FoxReplyModel" ∈ lw_tbl := List.mem_of_getElem? (i := 127) (by decide +kernel)
/-- what holds of each class of the table -/
theorem fx_clok : ∀ (ci : Nat) (q : vw_C), fx_cl[ci]? = some q → (∀ w ∈ u_ws q.1 q.2.1 q.2.2, w ∈ lw_tbl) ∧ (∀ k, k < q.2.2 → parseFieldDescriptor (q.2.1 k).2.2.1 = some (fx_ty ci k)) ∧ (∀ a, a < q.2.2 → ∀ b, b < q.2.2 → a ≠ b → (q.2.1 a).2.1 ≠ (q.2.1 b).2.1) ∧ Cond.instantiable q.1 q.2.2 ∈ lw_tbl ∧ Cond.initialized q.1 ∈ lw_tbl := by
  intro ci q h
  match ci, h with
  | 0, h => cases h; exact ⟨fx_in0, fx_tyok0, fx_nm0, fx_ins0, fx_ini0⟩
  | 1, h => cases h; exact ⟨fx_in1, fx_tyok1, fx_nm1, fx_ins1, fx_ini1⟩
  | 2, h => cases h; exact ⟨fx_in2, fx_tyok2, fx_nm2, fx_ins2, fx_ini2⟩
  | 3, h => cases h; exact ⟨fx_in3, fx_tyok3, fx_nm3, fx_ins3, fx_ini3⟩
  | 4, h => cases h; exact ⟨fx_in4, fx_tyok4, fx_nm4, fx_ins4, fx_ini4⟩
  | 5, h => cases h; exact ⟨fx_in5, fx_tyok5, fx_nm5, fx_ins5, fx_ini5⟩
  | 6, h => cases h; exact ⟨fx_in6, fx_tyok6, fx_nm6, fx_ins6, fx_ini6⟩
  | 7, h => cases h; exact ⟨fx_in7, fx_tyok7, fx_nm7, fx_ins7, fx_ini7⟩
  | 8, h => cases h; exact ⟨fx_in8, fx_tyok8, fx_nm8, fx_ins8, fx_ini8⟩
  | 9, h => cases h; exact ⟨fx_in9, fx_tyok9, fx_nm9, fx_ins9, fx_ini9⟩
  | 10, h => cases h; exact ⟨fx_in10, fx_tyok10, fx_nm10, fx_ins10, fx_ini10⟩
  | 11, h => cases h; exact ⟨fx_in11, fx_tyok11, fx_nm11, fx_ins11, fx_ini11⟩
  | n + 12, h => simp [fx_cl] at h
/-- the words that a callee takes over as they stand -/
def fx_tbl : List Cond := lw_tbl.filter goodWord
theorem fx_tb {w : Cond} (h : w ∈ lw_tbl) (g : goodWord w = true) : w ∈ fx_tbl := List.mem_filter.mpr ⟨h, g⟩
theorem fx_gi (c : Cond) (hc : c ∈ fx_tbl) : GoodIn fx_tbl (c :: fx_tbl) := by
  intro w hw
  have h : w ∈ fx_tbl := by
    rcases List.mem_cons.mp hw with rfl | h
    · exact hc
    · exact h
  exact ⟨h, good_of_word (List.mem_filter.mp h).2⟩
theorem fx_gi2 (c0 c : Cond) (hc : c ∈ fx_tbl) : GoodIn (c0 :: fx_tbl) (c :: fx_tbl) := fun w hw => ⟨List.mem_cons_of_mem _ (fx_gi c hc w hw).1, (fx_gi c hc w hw).2⟩
