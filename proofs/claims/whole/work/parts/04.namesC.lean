/-! Names and decode rows of KindRounds. Written by program (wip/gen). -/
def R_Q : String := "KindRounds"
def T_Q : u_T := fun k => match k with
  | 0 => ("KindRounds", "tape", "LKindRounds$Tape;", true)
  | 1 => ("KindRounds", "fault", "LKindRounds$Fault;", true)
  | 2 => ("KindRounds", "kinds", "LKindRounds$Kinds;", true)
  | 3 => ("KindRounds", "text", "LKindRounds$Text;", true)
  | 4 => ("KindRounds", "mentions", "LKindRounds$Mentions;", true)
  | 5 => ("KindRounds", "asked", "LKindRounds$Row;", true)
  | 6 => ("KindRounds", "parser", "LKindRounds$Parser;", true)
  | 7 => ("KindRounds", "checker", "LKindRounds$Checker;", true)
  | 8 => ("KindRounds", "solver", "LKindRounds$Solver;", true)
  | 9 => ("KindRounds", "plainer", "LKindRounds$Plainer;", true)
  | 10 => ("KindRounds", "shown", "LKindRounds$Line;", false)
  | _ => ("KindRounds", "spare", "LKindRounds$Line;", false)
def t_Q : Nat → FieldType := fun k => match k with
  | 0 => .object "KindRounds$Tape"
  | 1 => .object "KindRounds$Fault"
  | 2 => .object "KindRounds$Kinds"
  | 3 => .object "KindRounds$Text"
  | 4 => .object "KindRounds$Mentions"
  | 5 => .object "KindRounds$Row"
  | 6 => .object "KindRounds$Parser"
  | 7 => .object "KindRounds$Checker"
  | 8 => .object "KindRounds$Solver"
  | 9 => .object "KindRounds$Plainer"
  | 10 => .object "KindRounds$Line"
  | _ => .object "KindRounds$Line"
theorem t_Q_ok : ∀ k, k < 12 → parseFieldDescriptor (T_Q k).2.2.1 = some (t_Q k) := by decide +kernel
theorem n_Q : ∀ a, a < 12 → ∀ b, b < 12 → a ≠ b → (T_Q a).2.1 ≠ (T_Q b).2.1 := by decide +kernel
theorem i_Q : ∀ w ∈ u_ws "KindRounds" T_Q 12, w ∈ lw_good := by
  intro w hw
  obtain ⟨k, hk, rfl⟩ := List.mem_map.mp hw
  have hk := List.mem_range.mp hk
  rcases (show k = 0 ∨ k = 1 ∨ k = 2 ∨ k = 3 ∨ k = 4 ∨ k = 5 ∨ k = 6 ∨ k = 7 ∨ k = 8 ∨ k = 9 ∨ k = 10 ∨ k = 11 by omega) with rfl | rfl | rfl | rfl | rfl | rfl | rfl | rfl | rfl | rfl | rfl | rfl
  · exact good_in (List.mem_append_right _ (List.mem_append_right _ (List.mem_append_left _ (List.mem_of_getElem? (i := 232) (l := tables_1_2) rfl)))) rfl
  · exact good_in (List.mem_append_right _ (List.mem_append_right _ (List.mem_append_left _ (List.mem_of_getElem? (i := 234) (l := tables_1_2) rfl)))) rfl
  · exact good_in (List.mem_append_right _ (List.mem_append_right _ (List.mem_append_left _ (List.mem_of_getElem? (i := 236) (l := tables_1_2) rfl)))) rfl
  · exact good_in (List.mem_append_right _ (List.mem_append_right _ (List.mem_append_left _ (List.mem_of_getElem? (i := 238) (l := tables_1_2) rfl)))) rfl
  · exact good_in (List.mem_append_right _ (List.mem_append_right _ (List.mem_append_right _ (List.mem_append_left _ (List.mem_of_getElem? (i := 0) (l := tables_1_3) rfl))))) rfl
  · exact good_in (List.mem_append_right _ (List.mem_append_right _ (List.mem_append_right _ (List.mem_append_left _ (List.mem_of_getElem? (i := 2) (l := tables_1_3) rfl))))) rfl
  · exact good_in (List.mem_append_right _ (List.mem_append_right _ (List.mem_append_right _ (List.mem_append_left _ (List.mem_of_getElem? (i := 4) (l := tables_1_3) rfl))))) rfl
  · exact good_in (List.mem_append_right _ (List.mem_append_right _ (List.mem_append_right _ (List.mem_append_left _ (List.mem_of_getElem? (i := 6) (l := tables_1_3) rfl))))) rfl
  · exact good_in (List.mem_append_right _ (List.mem_append_right _ (List.mem_append_right _ (List.mem_append_left _ (List.mem_of_getElem? (i := 8) (l := tables_1_3) rfl))))) rfl
  · exact good_in (List.mem_append_right _ (List.mem_append_right _ (List.mem_append_right _ (List.mem_append_left _ (List.mem_of_getElem? (i := 10) (l := tables_1_3) rfl))))) rfl
  · exact good_in (List.mem_append_right _ (List.mem_append_right _ (List.mem_append_right _ (List.mem_append_left _ (List.mem_of_getElem? (i := 12) (l := tables_1_3) rfl))))) rfl
  · exact good_in (List.mem_append_right _ (List.mem_append_right _ (List.mem_append_right _ (List.mem_append_left _ (List.mem_of_getElem? (i := 14) (l := tables_1_3) rfl))))) rfl
def R_Ta : String := "KindRounds$Tape"
def T_Ta : u_T := fun k => match k with
  | 0 => ("KindRounds$Tape", "bytes", "[I", true)
  | 1 => ("KindRounds$Tape", "length", "I", false)
  | 2 => ("KindRounds$Tape", "sorts", "[I", true)
  | 3 => ("KindRounds$Tape", "names", "[J", true)
  | 4 => ("KindRounds$Tape", "starts", "[I", true)
  | 5 => ("KindRounds$Tape", "count", "I", false)
  | _ => ("KindRounds$Tape", "at", "I", false)
def t_Ta : Nat → FieldType := fun k => match k with
  | 0 => .array .int
  | 1 => .int
  | 2 => .array .int
  | 3 => .array .long
  | 4 => .array .int
  | 5 => .int
  | _ => .int
theorem t_Ta_ok : ∀ k, k < 7 → parseFieldDescriptor (T_Ta k).2.2.1 = some (t_Ta k) := by decide +kernel
theorem n_Ta : ∀ a, a < 7 → ∀ b, b < 7 → a ≠ b → (T_Ta a).2.1 ≠ (T_Ta b).2.1 := by decide +kernel
theorem i_Ta : ∀ w ∈ u_ws "KindRounds$Tape" T_Ta 7, w ∈ lw_good := by
  intro w hw
  obtain ⟨k, hk, rfl⟩ := List.mem_map.mp hw
  have hk := List.mem_range.mp hk
  rcases (show k = 0 ∨ k = 1 ∨ k = 2 ∨ k = 3 ∨ k = 4 ∨ k = 5 ∨ k = 6 by omega) with rfl | rfl | rfl | rfl | rfl | rfl | rfl
  · exact good_in (List.mem_append_right _ (List.mem_append_left _ (List.mem_of_getElem? (i := 44) (l := tables_1_1) rfl))) rfl
  · exact good_in (List.mem_append_right _ (List.mem_append_left _ (List.mem_of_getElem? (i := 46) (l := tables_1_1) rfl))) rfl
  · exact good_in (List.mem_append_right _ (List.mem_append_left _ (List.mem_of_getElem? (i := 48) (l := tables_1_1) rfl))) rfl
  · exact good_in (List.mem_append_right _ (List.mem_append_left _ (List.mem_of_getElem? (i := 50) (l := tables_1_1) rfl))) rfl
  · exact good_in (List.mem_append_right _ (List.mem_append_left _ (List.mem_of_getElem? (i := 52) (l := tables_1_1) rfl))) rfl
  · exact good_in (List.mem_append_right _ (List.mem_append_left _ (List.mem_of_getElem? (i := 54) (l := tables_1_1) rfl))) rfl
  · exact good_in (List.mem_append_right _ (List.mem_append_left _ (List.mem_of_getElem? (i := 56) (l := tables_1_1) rfl))) rfl
def R_Fa : String := "KindRounds$Fault"
def T_Fa : u_T := fun k => match k with
  | 0 => ("KindRounds$Fault", "number", "I", false)
  | 1 => ("KindRounds$Fault", "spot", "I", false)
  | 2 => ("KindRounds$Fault", "left", "LKindRounds$Line;", true)
  | _ => ("KindRounds$Fault", "right", "LKindRounds$Line;", true)
def t_Fa : Nat → FieldType := fun k => match k with
  | 0 => .int
  | 1 => .int
  | 2 => .object "KindRounds$Line"
  | _ => .object "KindRounds$Line"
theorem t_Fa_ok : ∀ k, k < 4 → parseFieldDescriptor (T_Fa k).2.2.1 = some (t_Fa k) := by decide +kernel
theorem n_Fa : ∀ a, a < 4 → ∀ b, b < 4 → a ≠ b → (T_Fa a).2.1 ≠ (T_Fa b).2.1 := by decide +kernel
theorem i_Fa : ∀ w ∈ u_ws "KindRounds$Fault" T_Fa 4, w ∈ lw_good := by
  intro w hw
  obtain ⟨k, hk, rfl⟩ := List.mem_map.mp hw
  have hk := List.mem_range.mp hk
  rcases (show k = 0 ∨ k = 1 ∨ k = 2 ∨ k = 3 by omega) with rfl | rfl | rfl | rfl
  · exact good_in (List.mem_append_right _ (List.mem_append_left _ (List.mem_of_getElem? (i := 94) (l := tables_1_1) rfl))) rfl
  · exact good_in (List.mem_append_right _ (List.mem_append_left _ (List.mem_of_getElem? (i := 96) (l := tables_1_1) rfl))) rfl
  · exact good_in (List.mem_append_right _ (List.mem_append_left _ (List.mem_of_getElem? (i := 98) (l := tables_1_1) rfl))) rfl
  · exact good_in (List.mem_append_right _ (List.mem_append_left _ (List.mem_of_getElem? (i := 100) (l := tables_1_1) rfl))) rfl
def R_Ki : String := "KindRounds$Kinds"
def T_Ki : u_T := fun k => match k with
  | 0 => ("KindRounds$Kinds", "left", "[I", true)
  | 1 => ("KindRounds$Kinds", "right", "[I", true)
  | 2 => ("KindRounds$Kinds", "link", "[I", true)
  | 3 => ("KindRounds$Kinds", "mark", "[I", true)
  | 4 => ("KindRounds$Kinds", "trail", "[I", true)
  | 5 => ("KindRounds$Kinds", "stack", "[I", true)
  | 6 => ("KindRounds$Kinds", "size", "I", false)
  | 7 => ("KindRounds$Kinds", "textSize", "I", false)
  | 8 => ("KindRounds$Kinds", "changes", "I", false)
  | 9 => ("KindRounds$Kinds", "top", "I", false)
  | _ => ("KindRounds$Kinds", "lettered", "I", false)
def t_Ki : Nat → FieldType := fun k => match k with
  | 0 => .array .int
  | 1 => .array .int
  | 2 => .array .int
  | 3 => .array .int
  | 4 => .array .int
  | 5 => .array .int
  | 6 => .int
  | 7 => .int
  | 8 => .int
  | 9 => .int
  | _ => .int
theorem t_Ki_ok : ∀ k, k < 11 → parseFieldDescriptor (T_Ki k).2.2.1 = some (t_Ki k) := by decide +kernel
theorem n_Ki : ∀ a, a < 11 → ∀ b, b < 11 → a ≠ b → (T_Ki a).2.1 ≠ (T_Ki b).2.1 := by decide +kernel
theorem i_Ki : ∀ w ∈ u_ws "KindRounds$Kinds" T_Ki 11, w ∈ lw_good := by
  intro w hw
  obtain ⟨k, hk, rfl⟩ := List.mem_map.mp hw
  have hk := List.mem_range.mp hk
  rcases (show k = 0 ∨ k = 1 ∨ k = 2 ∨ k = 3 ∨ k = 4 ∨ k = 5 ∨ k = 6 ∨ k = 7 ∨ k = 8 ∨ k = 9 ∨ k = 10 by omega) with rfl | rfl | rfl | rfl | rfl | rfl | rfl | rfl | rfl | rfl | rfl
  · exact good_in (List.mem_append_right _ (List.mem_append_left _ (List.mem_of_getElem? (i := 121) (l := tables_1_1) rfl))) rfl
  · exact good_in (List.mem_append_right _ (List.mem_append_left _ (List.mem_of_getElem? (i := 123) (l := tables_1_1) rfl))) rfl
  · exact good_in (List.mem_append_right _ (List.mem_append_left _ (List.mem_of_getElem? (i := 125) (l := tables_1_1) rfl))) rfl
  · exact good_in (List.mem_append_right _ (List.mem_append_left _ (List.mem_of_getElem? (i := 127) (l := tables_1_1) rfl))) rfl
  · exact good_in (List.mem_append_right _ (List.mem_append_left _ (List.mem_of_getElem? (i := 129) (l := tables_1_1) rfl))) rfl
  · exact good_in (List.mem_append_right _ (List.mem_append_left _ (List.mem_of_getElem? (i := 131) (l := tables_1_1) rfl))) rfl
  · exact good_in (List.mem_append_right _ (List.mem_append_left _ (List.mem_of_getElem? (i := 133) (l := tables_1_1) rfl))) rfl
  · exact good_in (List.mem_append_right _ (List.mem_append_left _ (List.mem_of_getElem? (i := 135) (l := tables_1_1) rfl))) rfl
  · exact good_in (List.mem_append_right _ (List.mem_append_left _ (List.mem_of_getElem? (i := 137) (l := tables_1_1) rfl))) rfl
  · exact good_in (List.mem_append_right _ (List.mem_append_left _ (List.mem_of_getElem? (i := 139) (l := tables_1_1) rfl))) rfl
  · exact good_in (List.mem_append_right _ (List.mem_append_left _ (List.mem_of_getElem? (i := 141) (l := tables_1_1) rfl))) rfl
def R_Te : String := "KindRounds$Text"
def T_Te : u_T := fun k => match k with
  | 0 => ("KindRounds$Text", "size", "I", false)
  | 1 => ("KindRounds$Text", "sorts", "[I", true)
  | 2 => ("KindRounds$Text", "names", "[J", true)
  | 3 => ("KindRounds$Text", "spots", "[I", true)
  | 4 => ("KindRounds$Text", "params", "[I", true)
  | 5 => ("KindRounds$Text", "paramNames", "[J", true)
  | 6 => ("KindRounds$Text", "items", "[I", true)
  | 7 => ("KindRounds$Text", "opens", "[I", true)
  | 8 => ("KindRounds$Text", "groupOf", "[I", true)
  | 9 => ("KindRounds$Text", "nameMasks", "[I", true)
  | 10 => ("KindRounds$Text", "needMasks", "[I", true)
  | 11 => ("KindRounds$Text", "groupMasks", "[I", true)
  | 12 => ("KindRounds$Text", "groupCount", "I", false)
  | 13 => ("KindRounds$Text", "kinds", "[I", true)
  | 14 => ("KindRounds$Text", "paramKinds", "[I", true)
  | 15 => ("KindRounds$Text", "resultKinds", "[I", true)
  | _ => ("KindRounds$Text", "row", "LKindRounds$Row;", true)
def t_Te : Nat → FieldType := fun k => match k with
  | 0 => .int
  | 1 => .array .int
  | 2 => .array .long
  | 3 => .array .int
  | 4 => .array .int
  | 5 => .array .long
  | 6 => .array .int
  | 7 => .array .int
  | 8 => .array .int
  | 9 => .array .int
  | 10 => .array .int
  | 11 => .array .int
  | 12 => .int
  | 13 => .array .int
  | 14 => .array .int
  | 15 => .array .int
  | _ => .object "KindRounds$Row"
theorem t_Te_ok : ∀ k, k < 17 → parseFieldDescriptor (T_Te k).2.2.1 = some (t_Te k) := by decide +kernel
theorem n_Te : ∀ a, a < 17 → ∀ b, b < 17 → a ≠ b → (T_Te a).2.1 ≠ (T_Te b).2.1 := by decide +kernel
theorem i_Te : ∀ w ∈ u_ws "KindRounds$Text" T_Te 17, w ∈ lw_good := by
  intro w hw
  obtain ⟨k, hk, rfl⟩ := List.mem_map.mp hw
  have hk := List.mem_range.mp hk
  rcases (show k = 0 ∨ k = 1 ∨ k = 2 ∨ k = 3 ∨ k = 4 ∨ k = 5 ∨ k = 6 ∨ k = 7 ∨ k = 8 ∨ k = 9 ∨ k = 10 ∨ k = 11 ∨ k = 12 ∨ k = 13 ∨ k = 14 ∨ k = 15 ∨ k = 16 by omega) with rfl | rfl | rfl | rfl | rfl | rfl | rfl | rfl | rfl | rfl | rfl | rfl | rfl | rfl | rfl | rfl | rfl
  · exact good_in (List.mem_append_right _ (List.mem_append_right _ (List.mem_append_left _ (List.mem_of_getElem? (i := 5) (l := tables_1_2) rfl)))) rfl
  · exact good_in (List.mem_append_right _ (List.mem_append_right _ (List.mem_append_left _ (List.mem_of_getElem? (i := 7) (l := tables_1_2) rfl)))) rfl
  · exact good_in (List.mem_append_right _ (List.mem_append_right _ (List.mem_append_left _ (List.mem_of_getElem? (i := 9) (l := tables_1_2) rfl)))) rfl
  · exact good_in (List.mem_append_right _ (List.mem_append_right _ (List.mem_append_left _ (List.mem_of_getElem? (i := 11) (l := tables_1_2) rfl)))) rfl
  · exact good_in (List.mem_append_right _ (List.mem_append_right _ (List.mem_append_left _ (List.mem_of_getElem? (i := 13) (l := tables_1_2) rfl)))) rfl
  · exact good_in (List.mem_append_right _ (List.mem_append_right _ (List.mem_append_left _ (List.mem_of_getElem? (i := 15) (l := tables_1_2) rfl)))) rfl
  · exact good_in (List.mem_append_right _ (List.mem_append_right _ (List.mem_append_left _ (List.mem_of_getElem? (i := 17) (l := tables_1_2) rfl)))) rfl
  · exact good_in (List.mem_append_right _ (List.mem_append_right _ (List.mem_append_left _ (List.mem_of_getElem? (i := 19) (l := tables_1_2) rfl)))) rfl
  · exact good_in (List.mem_append_right _ (List.mem_append_right _ (List.mem_append_left _ (List.mem_of_getElem? (i := 21) (l := tables_1_2) rfl)))) rfl
  · exact good_in (List.mem_append_right _ (List.mem_append_right _ (List.mem_append_left _ (List.mem_of_getElem? (i := 23) (l := tables_1_2) rfl)))) rfl
  · exact good_in (List.mem_append_right _ (List.mem_append_right _ (List.mem_append_left _ (List.mem_of_getElem? (i := 25) (l := tables_1_2) rfl)))) rfl
  · exact good_in (List.mem_append_right _ (List.mem_append_right _ (List.mem_append_left _ (List.mem_of_getElem? (i := 27) (l := tables_1_2) rfl)))) rfl
  · exact good_in (List.mem_append_right _ (List.mem_append_right _ (List.mem_append_left _ (List.mem_of_getElem? (i := 29) (l := tables_1_2) rfl)))) rfl
  · exact good_in (List.mem_append_right _ (List.mem_append_right _ (List.mem_append_left _ (List.mem_of_getElem? (i := 31) (l := tables_1_2) rfl)))) rfl
  · exact good_in (List.mem_append_right _ (List.mem_append_right _ (List.mem_append_left _ (List.mem_of_getElem? (i := 33) (l := tables_1_2) rfl)))) rfl
  · exact good_in (List.mem_append_right _ (List.mem_append_right _ (List.mem_append_left _ (List.mem_of_getElem? (i := 35) (l := tables_1_2) rfl)))) rfl
  · exact good_in (List.mem_append_right _ (List.mem_append_right _ (List.mem_append_left _ (List.mem_of_getElem? (i := 37) (l := tables_1_2) rfl)))) rfl
def R_Me : String := "KindRounds$Mentions"
def T_Me : u_T := fun k => match k with
  | 0 => ("KindRounds$Mentions", "roles", "[I", true)
  | 1 => ("KindRounds$Mentions", "names", "[J", true)
  | 2 => ("KindRounds$Mentions", "spots", "[I", true)
  | 3 => ("KindRounds$Mentions", "owners", "[I", true)
  | 4 => ("KindRounds$Mentions", "values", "[I", true)
  | _ => ("KindRounds$Mentions", "size", "I", false)
def t_Me : Nat → FieldType := fun k => match k with
  | 0 => .array .int
  | 1 => .array .long
  | 2 => .array .int
  | 3 => .array .int
  | 4 => .array .int
  | _ => .int
theorem t_Me_ok : ∀ k, k < 6 → parseFieldDescriptor (T_Me k).2.2.1 = some (t_Me k) := by decide +kernel
theorem n_Me : ∀ a, a < 6 → ∀ b, b < 6 → a ≠ b → (T_Me a).2.1 ≠ (T_Me b).2.1 := by decide +kernel
theorem i_Me : ∀ w ∈ u_ws "KindRounds$Mentions" T_Me 6, w ∈ lw_good := by
  intro w hw
  obtain ⟨k, hk, rfl⟩ := List.mem_map.mp hw
  have hk := List.mem_range.mp hk
  rcases (show k = 0 ∨ k = 1 ∨ k = 2 ∨ k = 3 ∨ k = 4 ∨ k = 5 by omega) with rfl | rfl | rfl | rfl | rfl | rfl
  · exact good_in (List.mem_append_right _ (List.mem_append_right _ (List.mem_append_left _ (List.mem_of_getElem? (i := 64) (l := tables_1_2) rfl)))) rfl
  · exact good_in (List.mem_append_right _ (List.mem_append_right _ (List.mem_append_left _ (List.mem_of_getElem? (i := 66) (l := tables_1_2) rfl)))) rfl
  · exact good_in (List.mem_append_right _ (List.mem_append_right _ (List.mem_append_left _ (List.mem_of_getElem? (i := 68) (l := tables_1_2) rfl)))) rfl
  · exact good_in (List.mem_append_right _ (List.mem_append_right _ (List.mem_append_left _ (List.mem_of_getElem? (i := 70) (l := tables_1_2) rfl)))) rfl
  · exact good_in (List.mem_append_right _ (List.mem_append_right _ (List.mem_append_left _ (List.mem_of_getElem? (i := 72) (l := tables_1_2) rfl)))) rfl
  · exact good_in (List.mem_append_right _ (List.mem_append_right _ (List.mem_append_left _ (List.mem_of_getElem? (i := 74) (l := tables_1_2) rfl)))) rfl
def R_Pa : String := "KindRounds$Parser"
def T_Pa : u_T := fun k => match k with
  | 0 => ("KindRounds$Parser", "tape", "LKindRounds$Tape;", true)
  | 1 => ("KindRounds$Parser", "text", "LKindRounds$Text;", true)
  | 2 => ("KindRounds$Parser", "mentions", "LKindRounds$Mentions;", true)
  | 3 => ("KindRounds$Parser", "kinds", "LKindRounds$Kinds;", true)
  | 4 => ("KindRounds$Parser", "fault", "LKindRounds$Fault;", true)
  | 5 => ("KindRounds$Parser", "row", "LKindRounds$Row;", false)
  | _ => ("KindRounds$Parser", "owner", "I", false)
def t_Pa : Nat → FieldType := fun k => match k with
  | 0 => .object "KindRounds$Tape"
  | 1 => .object "KindRounds$Text"
  | 2 => .object "KindRounds$Mentions"
  | 3 => .object "KindRounds$Kinds"
  | 4 => .object "KindRounds$Fault"
  | 5 => .object "KindRounds$Row"
  | _ => .int
theorem t_Pa_ok : ∀ k, k < 7 → parseFieldDescriptor (T_Pa k).2.2.1 = some (t_Pa k) := by decide +kernel
theorem n_Pa : ∀ a, a < 7 → ∀ b, b < 7 → a ≠ b → (T_Pa a).2.1 ≠ (T_Pa b).2.1 := by decide +kernel
theorem i_Pa : ∀ w ∈ u_ws "KindRounds$Parser" T_Pa 7, w ∈ lw_good := by
  intro w hw
  obtain ⟨k, hk, rfl⟩ := List.mem_map.mp hw
  have hk := List.mem_range.mp hk
  rcases (show k = 0 ∨ k = 1 ∨ k = 2 ∨ k = 3 ∨ k = 4 ∨ k = 5 ∨ k = 6 by omega) with rfl | rfl | rfl | rfl | rfl | rfl | rfl
  · exact good_in (List.mem_append_right _ (List.mem_append_right _ (List.mem_append_left _ (List.mem_of_getElem? (i := 92) (l := tables_1_2) rfl)))) rfl
  · exact good_in (List.mem_append_right _ (List.mem_append_right _ (List.mem_append_left _ (List.mem_of_getElem? (i := 94) (l := tables_1_2) rfl)))) rfl
  · exact good_in (List.mem_append_right _ (List.mem_append_right _ (List.mem_append_left _ (List.mem_of_getElem? (i := 96) (l := tables_1_2) rfl)))) rfl
  · exact good_in (List.mem_append_right _ (List.mem_append_right _ (List.mem_append_left _ (List.mem_of_getElem? (i := 98) (l := tables_1_2) rfl)))) rfl
  · exact good_in (List.mem_append_right _ (List.mem_append_right _ (List.mem_append_left _ (List.mem_of_getElem? (i := 100) (l := tables_1_2) rfl)))) rfl
  · exact good_in (List.mem_append_right _ (List.mem_append_right _ (List.mem_append_left _ (List.mem_of_getElem? (i := 102) (l := tables_1_2) rfl)))) rfl
  · exact good_in (List.mem_append_right _ (List.mem_append_right _ (List.mem_append_left _ (List.mem_of_getElem? (i := 104) (l := tables_1_2) rfl)))) rfl
def R_Ch : String := "KindRounds$Checker"
def T_Ch : u_T := fun k => match k with
  | 0 => ("KindRounds$Checker", "text", "LKindRounds$Text;", true)
  | 1 => ("KindRounds$Checker", "mentions", "LKindRounds$Mentions;", true)
  | 2 => ("KindRounds$Checker", "fault", "LKindRounds$Fault;", true)
  | _ => ("KindRounds$Checker", "ringMasks", "[I", true)
def t_Ch : Nat → FieldType := fun k => match k with
  | 0 => .object "KindRounds$Text"
  | 1 => .object "KindRounds$Mentions"
  | 2 => .object "KindRounds$Fault"
  | _ => .array .int
theorem t_Ch_ok : ∀ k, k < 4 → parseFieldDescriptor (T_Ch k).2.2.1 = some (t_Ch k) := by decide +kernel
theorem n_Ch : ∀ a, a < 4 → ∀ b, b < 4 → a ≠ b → (T_Ch a).2.1 ≠ (T_Ch b).2.1 := by decide +kernel
theorem i_Ch : ∀ w ∈ u_ws "KindRounds$Checker" T_Ch 4, w ∈ lw_good := by
  intro w hw
  obtain ⟨k, hk, rfl⟩ := List.mem_map.mp hw
  have hk := List.mem_range.mp hk
  rcases (show k = 0 ∨ k = 1 ∨ k = 2 ∨ k = 3 by omega) with rfl | rfl | rfl | rfl
  · exact good_in (List.mem_append_right _ (List.mem_append_right _ (List.mem_append_left _ (List.mem_of_getElem? (i := 117) (l := tables_1_2) rfl)))) rfl
  · exact good_in (List.mem_append_right _ (List.mem_append_right _ (List.mem_append_left _ (List.mem_of_getElem? (i := 119) (l := tables_1_2) rfl)))) rfl
  · exact good_in (List.mem_append_right _ (List.mem_append_right _ (List.mem_append_left _ (List.mem_of_getElem? (i := 121) (l := tables_1_2) rfl)))) rfl
  · exact good_in (List.mem_append_right _ (List.mem_append_right _ (List.mem_append_left _ (List.mem_of_getElem? (i := 123) (l := tables_1_2) rfl)))) rfl
def R_So : String := "KindRounds$Solver"
def T_So : u_T := fun k => match k with
  | 0 => ("KindRounds$Solver", "text", "LKindRounds$Text;", true)
  | 1 => ("KindRounds$Solver", "mentions", "LKindRounds$Mentions;", true)
  | 2 => ("KindRounds$Solver", "kinds", "LKindRounds$Kinds;", true)
  | 3 => ("KindRounds$Solver", "fault", "LKindRounds$Fault;", true)
  | 4 => ("KindRounds$Solver", "lefts", "[I", true)
  | 5 => ("KindRounds$Solver", "rights", "[I", true)
  | 6 => ("KindRounds$Solver", "spots", "[I", true)
  | 7 => ("KindRounds$Solver", "equations", "I", false)
  | 8 => ("KindRounds$Solver", "frameNodes", "[I", true)
  | 9 => ("KindRounds$Solver", "frameKinds", "[I", true)
  | 10 => ("KindRounds$Solver", "frameDone", "[I", true)
  | 11 => ("KindRounds$Solver", "depth", "I", false)
  | 12 => ("KindRounds$Solver", "freeNames", "[J", true)
  | 13 => ("KindRounds$Solver", "freeKinds", "[I", true)
  | 14 => ("KindRounds$Solver", "frees", "I", false)
  | _ => ("KindRounds$Solver", "rootKind", "I", false)
def t_So : Nat → FieldType := fun k => match k with
  | 0 => .object "KindRounds$Text"
  | 1 => .object "KindRounds$Mentions"
  | 2 => .object "KindRounds$Kinds"
  | 3 => .object "KindRounds$Fault"
  | 4 => .array .int
  | 5 => .array .int
  | 6 => .array .int
  | 7 => .int
  | 8 => .array .int
  | 9 => .array .int
  | 10 => .array .int
  | 11 => .int
  | 12 => .array .long
  | 13 => .array .int
  | 14 => .int
  | _ => .int
theorem t_So_ok : ∀ k, k < 16 → parseFieldDescriptor (T_So k).2.2.1 = some (t_So k) := by decide +kernel
theorem n_So : ∀ a, a < 16 → ∀ b, b < 16 → a ≠ b → (T_So a).2.1 ≠ (T_So b).2.1 := by decide +kernel
theorem i_So : ∀ w ∈ u_ws "KindRounds$Solver" T_So 16, w ∈ lw_good := by
  intro w hw
  obtain ⟨k, hk, rfl⟩ := List.mem_map.mp hw
  have hk := List.mem_range.mp hk
  rcases (show k = 0 ∨ k = 1 ∨ k = 2 ∨ k = 3 ∨ k = 4 ∨ k = 5 ∨ k = 6 ∨ k = 7 ∨ k = 8 ∨ k = 9 ∨ k = 10 ∨ k = 11 ∨ k = 12 ∨ k = 13 ∨ k = 14 ∨ k = 15 by omega) with rfl | rfl | rfl | rfl | rfl | rfl | rfl | rfl | rfl | rfl | rfl | rfl | rfl | rfl | rfl | rfl
  · exact good_in (List.mem_append_right _ (List.mem_append_right _ (List.mem_append_left _ (List.mem_of_getElem? (i := 149) (l := tables_1_2) rfl)))) rfl
  · exact good_in (List.mem_append_right _ (List.mem_append_right _ (List.mem_append_left _ (List.mem_of_getElem? (i := 151) (l := tables_1_2) rfl)))) rfl
  · exact good_in (List.mem_append_right _ (List.mem_append_right _ (List.mem_append_left _ (List.mem_of_getElem? (i := 153) (l := tables_1_2) rfl)))) rfl
  · exact good_in (List.mem_append_right _ (List.mem_append_right _ (List.mem_append_left _ (List.mem_of_getElem? (i := 155) (l := tables_1_2) rfl)))) rfl
  · exact good_in (List.mem_append_right _ (List.mem_append_right _ (List.mem_append_left _ (List.mem_of_getElem? (i := 157) (l := tables_1_2) rfl)))) rfl
  · exact good_in (List.mem_append_right _ (List.mem_append_right _ (List.mem_append_left _ (List.mem_of_getElem? (i := 159) (l := tables_1_2) rfl)))) rfl
  · exact good_in (List.mem_append_right _ (List.mem_append_right _ (List.mem_append_left _ (List.mem_of_getElem? (i := 161) (l := tables_1_2) rfl)))) rfl
  · exact good_in (List.mem_append_right _ (List.mem_append_right _ (List.mem_append_left _ (List.mem_of_getElem? (i := 163) (l := tables_1_2) rfl)))) rfl
  · exact good_in (List.mem_append_right _ (List.mem_append_right _ (List.mem_append_left _ (List.mem_of_getElem? (i := 165) (l := tables_1_2) rfl)))) rfl
  · exact good_in (List.mem_append_right _ (List.mem_append_right _ (List.mem_append_left _ (List.mem_of_getElem? (i := 167) (l := tables_1_2) rfl)))) rfl
  · exact good_in (List.mem_append_right _ (List.mem_append_right _ (List.mem_append_left _ (List.mem_of_getElem? (i := 169) (l := tables_1_2) rfl)))) rfl
  · exact good_in (List.mem_append_right _ (List.mem_append_right _ (List.mem_append_left _ (List.mem_of_getElem? (i := 171) (l := tables_1_2) rfl)))) rfl
  · exact good_in (List.mem_append_right _ (List.mem_append_right _ (List.mem_append_left _ (List.mem_of_getElem? (i := 173) (l := tables_1_2) rfl)))) rfl
  · exact good_in (List.mem_append_right _ (List.mem_append_right _ (List.mem_append_left _ (List.mem_of_getElem? (i := 175) (l := tables_1_2) rfl)))) rfl
  · exact good_in (List.mem_append_right _ (List.mem_append_right _ (List.mem_append_left _ (List.mem_of_getElem? (i := 177) (l := tables_1_2) rfl)))) rfl
  · exact good_in (List.mem_append_right _ (List.mem_append_right _ (List.mem_append_left _ (List.mem_of_getElem? (i := 179) (l := tables_1_2) rfl)))) rfl
def R_Pl : String := "KindRounds$Plainer"
def T_Pl : u_T := fun k => match k with
  | 0 => ("KindRounds$Plainer", "text", "LKindRounds$Text;", true)
  | 1 => ("KindRounds$Plainer", "now", "LKindRounds$Row;", false)
  | 2 => ("KindRounds$Plainer", "next", "LKindRounds$Row;", false)
  | 3 => ("KindRounds$Plainer", "kept", "LKindRounds$Row;", false)
  | 4 => ("KindRounds$Plainer", "argStarts", "[I", true)
  | 5 => ("KindRounds$Plainer", "frameNodes", "[I", true)
  | 6 => ("KindRounds$Plainer", "frameDone", "[I", true)
  | 7 => ("KindRounds$Plainer", "depth", "I", false)
  | _ => ("KindRounds$Plainer", "fits", "Z", false)
def t_Pl : Nat → FieldType := fun k => match k with
  | 0 => .object "KindRounds$Text"
  | 1 => .object "KindRounds$Row"
  | 2 => .object "KindRounds$Row"
  | 3 => .object "KindRounds$Row"
  | 4 => .array .int
  | 5 => .array .int
  | 6 => .array .int
  | 7 => .int
  | _ => .boolean
theorem t_Pl_ok : ∀ k, k < 9 → parseFieldDescriptor (T_Pl k).2.2.1 = some (t_Pl k) := by decide +kernel
theorem n_Pl : ∀ a, a < 9 → ∀ b, b < 9 → a ≠ b → (T_Pl a).2.1 ≠ (T_Pl b).2.1 := by decide +kernel
theorem i_Pl : ∀ w ∈ u_ws "KindRounds$Plainer" T_Pl 9, w ∈ lw_good := by
  intro w hw
  obtain ⟨k, hk, rfl⟩ := List.mem_map.mp hw
  have hk := List.mem_range.mp hk
  rcases (show k = 0 ∨ k = 1 ∨ k = 2 ∨ k = 3 ∨ k = 4 ∨ k = 5 ∨ k = 6 ∨ k = 7 ∨ k = 8 by omega) with rfl | rfl | rfl | rfl | rfl | rfl | rfl | rfl | rfl
  · exact good_in (List.mem_append_right _ (List.mem_append_right _ (List.mem_append_left _ (List.mem_of_getElem? (i := 199) (l := tables_1_2) rfl)))) rfl
  · exact good_in (List.mem_append_right _ (List.mem_append_right _ (List.mem_append_left _ (List.mem_of_getElem? (i := 201) (l := tables_1_2) rfl)))) rfl
  · exact good_in (List.mem_append_right _ (List.mem_append_right _ (List.mem_append_left _ (List.mem_of_getElem? (i := 203) (l := tables_1_2) rfl)))) rfl
  · exact good_in (List.mem_append_right _ (List.mem_append_right _ (List.mem_append_left _ (List.mem_of_getElem? (i := 205) (l := tables_1_2) rfl)))) rfl
  · exact good_in (List.mem_append_right _ (List.mem_append_right _ (List.mem_append_left _ (List.mem_of_getElem? (i := 207) (l := tables_1_2) rfl)))) rfl
  · exact good_in (List.mem_append_right _ (List.mem_append_right _ (List.mem_append_left _ (List.mem_of_getElem? (i := 209) (l := tables_1_2) rfl)))) rfl
  · exact good_in (List.mem_append_right _ (List.mem_append_right _ (List.mem_append_left _ (List.mem_of_getElem? (i := 211) (l := tables_1_2) rfl)))) rfl
  · exact good_in (List.mem_append_right _ (List.mem_append_right _ (List.mem_append_left _ (List.mem_of_getElem? (i := 213) (l := tables_1_2) rfl)))) rfl
  · exact good_in (List.mem_append_right _ (List.mem_append_right _ (List.mem_append_left _ (List.mem_of_getElem? (i := 215) (l := tables_1_2) rfl)))) rfl
def R_Ro : String := "KindRounds$Row"
def T_Ro : u_T := fun k => match k with
  | 0 => ("KindRounds$Row", "sorts", "[I", true)
  | 1 => ("KindRounds$Row", "names", "[J", true)
  | 2 => ("KindRounds$Row", "counts", "[I", true)
  | 3 => ("KindRounds$Row", "spots", "[I", true)
  | 4 => ("KindRounds$Row", "size", "I", false)
  | 5 => ("KindRounds$Row", "termStarts", "[I", true)
  | 6 => ("KindRounds$Row", "termOwners", "[I", true)
  | _ => ("KindRounds$Row", "terms", "I", false)
def t_Ro : Nat → FieldType := fun k => match k with
  | 0 => .array .int
  | 1 => .array .long
  | 2 => .array .int
  | 3 => .array .int
  | 4 => .int
  | 5 => .array .int
  | 6 => .array .int
  | _ => .int
theorem t_Ro_ok : ∀ k, k < 8 → parseFieldDescriptor (T_Ro k).2.2.1 = some (t_Ro k) := by decide +kernel
theorem n_Ro : ∀ a, a < 8 → ∀ b, b < 8 → a ≠ b → (T_Ro a).2.1 ≠ (T_Ro b).2.1 := by decide +kernel
theorem i_Ro : ∀ w ∈ u_ws "KindRounds$Row" T_Ro 8, w ∈ lw_good := by
  intro w hw
  obtain ⟨k, hk, rfl⟩ := List.mem_map.mp hw
  have hk := List.mem_range.mp hk
  rcases (show k = 0 ∨ k = 1 ∨ k = 2 ∨ k = 3 ∨ k = 4 ∨ k = 5 ∨ k = 6 ∨ k = 7 by omega) with rfl | rfl | rfl | rfl | rfl | rfl | rfl | rfl
  · exact good_in (List.mem_append_right _ (List.mem_append_left _ (List.mem_of_getElem? (i := 179) (l := tables_1_1) rfl))) rfl
  · exact good_in (List.mem_append_right _ (List.mem_append_left _ (List.mem_of_getElem? (i := 181) (l := tables_1_1) rfl))) rfl
  · exact good_in (List.mem_append_right _ (List.mem_append_left _ (List.mem_of_getElem? (i := 183) (l := tables_1_1) rfl))) rfl
  · exact good_in (List.mem_append_right _ (List.mem_append_left _ (List.mem_of_getElem? (i := 185) (l := tables_1_1) rfl))) rfl
  · exact good_in (List.mem_append_right _ (List.mem_append_left _ (List.mem_of_getElem? (i := 187) (l := tables_1_1) rfl))) rfl
  · exact good_in (List.mem_append_right _ (List.mem_append_left _ (List.mem_of_getElem? (i := 189) (l := tables_1_1) rfl))) rfl
  · exact good_in (List.mem_append_right _ (List.mem_append_left _ (List.mem_of_getElem? (i := 191) (l := tables_1_1) rfl))) rfl
  · exact good_in (List.mem_append_right _ (List.mem_append_left _ (List.mem_of_getElem? (i := 193) (l := tables_1_1) rfl))) rfl
def R_Li : String := "KindRounds$Line"
def T_Li : u_T := fun k => match k with
  | 0 => ("KindRounds$Line", "bytes", "[B", true)
  | _ => ("KindRounds$Line", "size", "I", false)
def t_Li : Nat → FieldType := fun k => match k with
  | 0 => .array .byte
  | _ => .int
theorem t_Li_ok : ∀ k, k < 2 → parseFieldDescriptor (T_Li k).2.2.1 = some (t_Li k) := by decide +kernel
theorem n_Li : ∀ a, a < 2 → ∀ b, b < 2 → a ≠ b → (T_Li a).2.1 ≠ (T_Li b).2.1 := by decide +kernel
theorem i_Li : ∀ w ∈ u_ws "KindRounds$Line" T_Li 2, w ∈ lw_good := by
  intro w hw
  obtain ⟨k, hk, rfl⟩ := List.mem_map.mp hw
  have hk := List.mem_range.mp hk
  rcases (show k = 0 ∨ k = 1 by omega) with rfl | rfl
  · exact good_in (List.mem_append_right _ (List.mem_append_left _ (List.mem_of_getElem? (i := 78) (l := tables_1_1) rfl))) rfl
  · exact good_in (List.mem_append_right _ (List.mem_append_left _ (List.mem_of_getElem? (i := 80) (l := tables_1_1) rfl))) rfl
def R_Md : String := "KindRoundsModel"
def T_Md : u_T := fun k => match k with
  | 0 => ("KindRoundsModel", "code", "I", false)
  | 1 => ("KindRoundsModel", "tape", "[I", true)
  | 2 => ("KindRoundsModel", "size", "I", false)
  | 3 => ("KindRoundsModel", "at", "I", false)
  | 4 => ("KindRoundsModel", "token", "I", false)
  | 5 => ("KindRoundsModel", "place", "I", false)
  | 6 => ("KindRoundsModel", "word", "J", false)
  | 7 => ("KindRoundsModel", "sign", "I", false)
  | 8 => ("KindRoundsModel", "fault", "I", false)
  | 9 => ("KindRoundsModel", "faultPlace", "I", false)
  | 10 => ("KindRoundsModel", "wasSix", "Z", false)
  | 11 => ("KindRoundsModel", "sort", "[I", true)
  | 12 => ("KindRoundsModel", "called", "[J", true)
  | 13 => ("KindRoundsModel", "left", "[I", true)
  | 14 => ("KindRoundsModel", "right", "[I", true)
  | 15 => ("KindRoundsModel", "kindAt", "[I", true)
  | 16 => ("KindRoundsModel", "nodes", "I", false)
  | 17 => ("KindRoundsModel", "counted", "I", false)
  | 18 => ("KindRoundsModel", "depth", "I", false)
  | 19 => ("KindRoundsModel", "firstPlace", "I", false)
  | 20 => ("KindRoundsModel", "actSort", "[I", true)
  | 21 => ("KindRoundsModel", "actNode", "[I", true)
  | 22 => ("KindRoundsModel", "actPlace", "[I", true)
  | 23 => ("KindRoundsModel", "acts", "I", false)
  | 24 => ("KindRoundsModel", "tellSort", "[I", true)
  | 25 => ("KindRoundsModel", "tellName", "[J", true)
  | 26 => ("KindRoundsModel", "tellPlace", "[I", true)
  | 27 => ("KindRoundsModel", "tellOf", "[I", true)
  | 28 => ("KindRoundsModel", "tellNode", "[I", true)
  | 29 => ("KindRoundsModel", "tellFirst", "[Z", true)
  | 30 => ("KindRoundsModel", "tellBehind", "[I", true)
  | 31 => ("KindRoundsModel", "tells", "I", false)
  | 32 => ("KindRoundsModel", "present", "I", false)
  | 33 => ("KindRoundsModel", "how", "[I", true)
  | 34 => ("KindRoundsModel", "opened", "[I", true)
  | 35 => ("KindRoundsModel", "some", "[I", true)
  | 36 => ("KindRoundsModel", "head", "[I", true)
  | 37 => ("KindRoundsModel", "behindHead", "[I", true)
  | 38 => ("KindRoundsModel", "somePlace", "[I", true)
  | 39 => ("KindRoundsModel", "whole", "[I", true)
  | 40 => ("KindRoundsModel", "lastArrow", "[I", true)
  | 41 => ("KindRoundsModel", "wholePlace", "[I", true)
  | 42 => ("KindRoundsModel", "level", "I", false)
  | 43 => ("KindRoundsModel", "kSort", "[I", true)
  | 44 => ("KindRoundsModel", "kLeft", "[I", true)
  | 45 => ("KindRoundsModel", "kRight", "[I", true)
  | 46 => ("KindRoundsModel", "up", "[I", true)
  | 47 => ("KindRoundsModel", "kept", "[I", true)
  | 48 => ("KindRoundsModel", "kinds", "I", false)
  | 49 => ("KindRoundsModel", "star", "I", false)
  | 50 => ("KindRoundsModel", "wholeKind", "[I", true)
  | 51 => ("KindRoundsModel", "lastTo", "[I", true)
  | 52 => ("KindRoundsModel", "decls", "I", false)
  | 53 => ("KindRoundsModel", "declSort", "[I", true)
  | 54 => ("KindRoundsModel", "declName", "[J", true)
  | 55 => ("KindRoundsModel", "declPlace", "[I", true)
  | 56 => ("KindRoundsModel", "params", "[I", true)
  | 57 => ("KindRoundsModel", "paramName", "[J", true)
  | 58 => ("KindRoundsModel", "parts", "[I", true)
  | 59 => ("KindRoundsModel", "actFrom", "[I", true)
  | 60 => ("KindRoundsModel", "actTo", "[I", true)
  | 61 => ("KindRoundsModel", "rightSide", "[I", true)
  | 62 => ("KindRoundsModel", "wishes", "I", false)
  | 63 => ("KindRoundsModel", "wishName", "[J", true)
  | 64 => ("KindRoundsModel", "wishPlace", "[I", true)
  | 65 => ("KindRoundsModel", "wishKind", "[I", true)
  | 66 => ("KindRoundsModel", "methods", "I", false)
  | 67 => ("KindRoundsModel", "method", "I", false)
  | 68 => ("KindRoundsModel", "namesIt", "[Z", true)
  | 69 => ("KindRoundsModel", "needsIt", "[Z", true)
  | 70 => ("KindRoundsModel", "ringOf", "[Z", true)
  | 71 => ("KindRoundsModel", "groupMany", "I", false)
  | 72 => ("KindRoundsModel", "groupOf", "[I", true)
  | 73 => ("KindRoundsModel", "declKind", "[I", true)
  | 74 => ("KindRoundsModel", "paramKind", "[I", true)
  | 75 => ("KindRoundsModel", "synKind", "[I", true)
  | 76 => ("KindRoundsModel", "openParams", "[I", true)
  | 77 => ("KindRoundsModel", "work", "[I", true)
  | 78 => ("KindRoundsModel", "met", "[I", true)
  | 79 => ("KindRoundsModel", "leftSide", "I", false)
  | 80 => ("KindRoundsModel", "rightSideOfFault", "I", false)
  | 81 => ("KindRoundsModel", "draft", "[I", true)
  | 82 => ("KindRoundsModel", "drafted", "I", false)
  | 83 => ("KindRoundsModel", "out", "[I", true)
  | 84 => ("KindRoundsModel", "outSize", "I", false)
  | 85 => ("KindRoundsModel", "lettered", "Z", false)
  | 86 => ("KindRoundsModel", "letter", "[I", true)
  | 87 => ("KindRoundsModel", "letters", "I", false)
  | 88 => ("KindRoundsModel", "baseKinds", "I", false)
  | 89 => ("KindRoundsModel", "baseNodes", "I", false)
  | 90 => ("KindRoundsModel", "baseUp", "[I", true)
  | 91 => ("KindRoundsModel", "second", "I", false)
  | 92 => ("KindRoundsModel", "row", "[I", true)
  | 93 => ("KindRoundsModel", "other", "[I", true)
  | 94 => ("KindRoundsModel", "pattern", "[I", true)
  | 95 => ("KindRoundsModel", "length", "I", false)
  | 96 => ("KindRoundsModel", "made", "I", false)
  | 97 => ("KindRoundsModel", "names", "I", false)
  | _ => ("KindRoundsModel", "first", "[I", true)
def t_Md : Nat → FieldType := fun k => match k with
  | 0 => .int
  | 1 => .array .int
  | 2 => .int
  | 3 => .int
  | 4 => .int
  | 5 => .int
  | 6 => .long
  | 7 => .int
  | 8 => .int
  | 9 => .int
  | 10 => .boolean
  | 11 => .array .int
  | 12 => .array .long
  | 13 => .array .int
  | 14 => .array .int
  | 15 => .array .int
  | 16 => .int
  | 17 => .int
  | 18 => .int
  | 19 => .int
  | 20 => .array .int
  | 21 => .array .int
  | 22 => .array .int
  | 23 => .int
  | 24 => .array .int
  | 25 => .array .long
  | 26 => .array .int
  | 27 => .array .int
  | 28 => .array .int
  | 29 => .array .boolean
  | 30 => .array .int
  | 31 => .int
  | 32 => .int
  | 33 => .array .int
  | 34 => .array .int
  | 35 => .array .int
  | 36 => .array .int
  | 37 => .array .int
  | 38 => .array .int
  | 39 => .array .int
  | 40 => .array .int
  | 41 => .array .int
  | 42 => .int
  | 43 => .array .int
  | 44 => .array .int
  | 45 => .array .int
  | 46 => .array .int
  | 47 => .array .int
  | 48 => .int
  | 49 => .int
  | 50 => .array .int
  | 51 => .array .int
  | 52 => .int
  | 53 => .array .int
  | 54 => .array .long
  | 55 => .array .int
  | 56 => .array .int
  | 57 => .array .long
  | 58 => .array .int
  | 59 => .array .int
  | 60 => .array .int
  | 61 => .array .int
  | 62 => .int
  | 63 => .array .long
  | 64 => .array .int
  | 65 => .array .int
  | 66 => .int
  | 67 => .int
  | 68 => .array .boolean
  | 69 => .array .boolean
  | 70 => .array .boolean
  | 71 => .int
  | 72 => .array .int
  | 73 => .array .int
  | 74 => .array .int
  | 75 => .array .int
  | 76 => .array .int
  | 77 => .array .int
  | 78 => .array .int
  | 79 => .int
  | 80 => .int
  | 81 => .array .int
  | 82 => .int
  | 83 => .array .int
  | 84 => .int
  | 85 => .boolean
  | 86 => .array .int
  | 87 => .int
  | 88 => .int
  | 89 => .int
  | 90 => .array .int
  | 91 => .int
  | 92 => .array .int
  | 93 => .array .int
  | 94 => .array .int
  | 95 => .int
  | 96 => .int
  | 97 => .int
  | _ => .array .int
theorem t_Md_ok : ∀ k, k < 99 → parseFieldDescriptor (T_Md k).2.2.1 = some (t_Md k) := by decide +kernel
theorem n_Md : ∀ a, a < 99 → ∀ b, b < 99 → a ≠ b → (T_Md a).2.1 ≠ (T_Md b).2.1 := by decide +kernel
theorem i_Md : ∀ w ∈ u_ws "KindRoundsModel" T_Md 99, w ∈ lw_good := by
  intro w hw
  obtain ⟨k, hk, rfl⟩ := List.mem_map.mp hw
  have hk := List.mem_range.mp hk
  rcases (show k = 0 ∨ k = 1 ∨ k = 2 ∨ k = 3 ∨ k = 4 ∨ k = 5 ∨ k = 6 ∨ k = 7 ∨ k = 8 ∨ k = 9 ∨ k = 10 ∨ k = 11 ∨ k = 12 ∨ k = 13 ∨ k = 14 ∨ k = 15 ∨ k = 16 ∨ k = 17 ∨ k = 18 ∨ k = 19 ∨ k = 20 ∨ k = 21 ∨ k = 22 ∨ k = 23 ∨ k = 24 ∨ k = 25 ∨ k = 26 ∨ k = 27 ∨ k = 28 ∨ k = 29 ∨ k = 30 ∨ k = 31 ∨ k = 32 ∨ k = 33 ∨ k = 34 ∨ k = 35 ∨ k = 36 ∨ k = 37 ∨ k = 38 ∨ k = 39 ∨ k = 40 ∨ k = 41 ∨ k = 42 ∨ k = 43 ∨ k = 44 ∨ k = 45 ∨ k = 46 ∨ k = 47 ∨ k = 48 ∨ k = 49 ∨ k = 50 ∨ k = 51 ∨ k = 52 ∨ k = 53 ∨ k = 54 ∨ k = 55 ∨ k = 56 ∨ k = 57 ∨ k = 58 ∨ k = 59 ∨ k = 60 ∨ k = 61 ∨ k = 62 ∨ k = 63 ∨ k = 64 ∨ k = 65 ∨ k = 66 ∨ k = 67 ∨ k = 68 ∨ k = 69 ∨ k = 70 ∨ k = 71 ∨ k = 72 ∨ k = 73 ∨ k = 74 ∨ k = 75 ∨ k = 76 ∨ k = 77 ∨ k = 78 ∨ k = 79 ∨ k = 80 ∨ k = 81 ∨ k = 82 ∨ k = 83 ∨ k = 84 ∨ k = 85 ∨ k = 86 ∨ k = 87 ∨ k = 88 ∨ k = 89 ∨ k = 90 ∨ k = 91 ∨ k = 92 ∨ k = 93 ∨ k = 94 ∨ k = 95 ∨ k = 96 ∨ k = 97 ∨ k = 98 by omega) with rfl | rfl | rfl | rfl | rfl | rfl | rfl | rfl | rfl | rfl | rfl | rfl | rfl | rfl | rfl | rfl | rfl | rfl | rfl | rfl | rfl | rfl | rfl | rfl | rfl | rfl | rfl | rfl | rfl | rfl | rfl | rfl | rfl | rfl | rfl | rfl | rfl | rfl | rfl | rfl | rfl | rfl | rfl | rfl | rfl | rfl | rfl | rfl | rfl | rfl | rfl | rfl | rfl | rfl | rfl | rfl | rfl | rfl | rfl | rfl | rfl | rfl | rfl | rfl | rfl | rfl | rfl | rfl | rfl | rfl | rfl | rfl | rfl | rfl | rfl | rfl | rfl | rfl | rfl | rfl | rfl | rfl | rfl | rfl | rfl | rfl | rfl | rfl | rfl | rfl | rfl | rfl | rfl | rfl | rfl | rfl | rfl | rfl | rfl
  · exact good_in (List.mem_append_right _ (List.mem_append_right _ (List.mem_append_right _ (List.mem_append_right _ (List.mem_append_right _ (List.mem_append_right _ (List.mem_append_left _ (List.mem_of_getElem? (i := 72) (l := tables_1_6) rfl)))))))) rfl
  · exact good_in (List.mem_append_right _ (List.mem_append_right _ (List.mem_append_right _ (List.mem_append_right _ (List.mem_append_right _ (List.mem_append_right _ (List.mem_append_left _ (List.mem_of_getElem? (i := 74) (l := tables_1_6) rfl)))))))) rfl
  · exact good_in (List.mem_append_right _ (List.mem_append_right _ (List.mem_append_right _ (List.mem_append_right _ (List.mem_append_right _ (List.mem_append_right _ (List.mem_append_left _ (List.mem_of_getElem? (i := 76) (l := tables_1_6) rfl)))))))) rfl
  · exact good_in (List.mem_append_right _ (List.mem_append_right _ (List.mem_append_right _ (List.mem_append_right _ (List.mem_append_right _ (List.mem_append_right _ (List.mem_append_left _ (List.mem_of_getElem? (i := 78) (l := tables_1_6) rfl)))))))) rfl
  · exact good_in (List.mem_append_right _ (List.mem_append_right _ (List.mem_append_right _ (List.mem_append_right _ (List.mem_append_right _ (List.mem_append_right _ (List.mem_append_left _ (List.mem_of_getElem? (i := 80) (l := tables_1_6) rfl)))))))) rfl
  · exact good_in (List.mem_append_right _ (List.mem_append_right _ (List.mem_append_right _ (List.mem_append_right _ (List.mem_append_right _ (List.mem_append_right _ (List.mem_append_left _ (List.mem_of_getElem? (i := 82) (l := tables_1_6) rfl)))))))) rfl
  · exact good_in (List.mem_append_right _ (List.mem_append_right _ (List.mem_append_right _ (List.mem_append_right _ (List.mem_append_right _ (List.mem_append_right _ (List.mem_append_left _ (List.mem_of_getElem? (i := 84) (l := tables_1_6) rfl)))))))) rfl
  · exact good_in (List.mem_append_right _ (List.mem_append_right _ (List.mem_append_right _ (List.mem_append_right _ (List.mem_append_right _ (List.mem_append_right _ (List.mem_append_left _ (List.mem_of_getElem? (i := 86) (l := tables_1_6) rfl)))))))) rfl
  · exact good_in (List.mem_append_right _ (List.mem_append_right _ (List.mem_append_right _ (List.mem_append_right _ (List.mem_append_right _ (List.mem_append_right _ (List.mem_append_left _ (List.mem_of_getElem? (i := 88) (l := tables_1_6) rfl)))))))) rfl
  · exact good_in (List.mem_append_right _ (List.mem_append_right _ (List.mem_append_right _ (List.mem_append_right _ (List.mem_append_right _ (List.mem_append_right _ (List.mem_append_left _ (List.mem_of_getElem? (i := 90) (l := tables_1_6) rfl)))))))) rfl
  · exact good_in (List.mem_append_right _ (List.mem_append_right _ (List.mem_append_right _ (List.mem_append_right _ (List.mem_append_right _ (List.mem_append_right _ (List.mem_append_left _ (List.mem_of_getElem? (i := 92) (l := tables_1_6) rfl)))))))) rfl
  · exact good_in (List.mem_append_right _ (List.mem_append_right _ (List.mem_append_right _ (List.mem_append_right _ (List.mem_append_right _ (List.mem_append_right _ (List.mem_append_left _ (List.mem_of_getElem? (i := 94) (l := tables_1_6) rfl)))))))) rfl
  · exact good_in (List.mem_append_right _ (List.mem_append_right _ (List.mem_append_right _ (List.mem_append_right _ (List.mem_append_right _ (List.mem_append_right _ (List.mem_append_left _ (List.mem_of_getElem? (i := 96) (l := tables_1_6) rfl)))))))) rfl
  · exact good_in (List.mem_append_right _ (List.mem_append_right _ (List.mem_append_right _ (List.mem_append_right _ (List.mem_append_right _ (List.mem_append_right _ (List.mem_append_left _ (List.mem_of_getElem? (i := 98) (l := tables_1_6) rfl)))))))) rfl
  · exact good_in (List.mem_append_right _ (List.mem_append_right _ (List.mem_append_right _ (List.mem_append_right _ (List.mem_append_right _ (List.mem_append_right _ (List.mem_append_left _ (List.mem_of_getElem? (i := 100) (l := tables_1_6) rfl)))))))) rfl
  · exact good_in (List.mem_append_right _ (List.mem_append_right _ (List.mem_append_right _ (List.mem_append_right _ (List.mem_append_right _ (List.mem_append_right _ (List.mem_append_left _ (List.mem_of_getElem? (i := 102) (l := tables_1_6) rfl)))))))) rfl
  · exact good_in (List.mem_append_right _ (List.mem_append_right _ (List.mem_append_right _ (List.mem_append_right _ (List.mem_append_right _ (List.mem_append_right _ (List.mem_append_left _ (List.mem_of_getElem? (i := 104) (l := tables_1_6) rfl)))))))) rfl
  · exact good_in (List.mem_append_right _ (List.mem_append_right _ (List.mem_append_right _ (List.mem_append_right _ (List.mem_append_right _ (List.mem_append_right _ (List.mem_append_left _ (List.mem_of_getElem? (i := 106) (l := tables_1_6) rfl)))))))) rfl
  · exact good_in (List.mem_append_right _ (List.mem_append_right _ (List.mem_append_right _ (List.mem_append_right _ (List.mem_append_right _ (List.mem_append_right _ (List.mem_append_left _ (List.mem_of_getElem? (i := 108) (l := tables_1_6) rfl)))))))) rfl
  · exact good_in (List.mem_append_right _ (List.mem_append_right _ (List.mem_append_right _ (List.mem_append_right _ (List.mem_append_right _ (List.mem_append_right _ (List.mem_append_left _ (List.mem_of_getElem? (i := 110) (l := tables_1_6) rfl)))))))) rfl
  · exact good_in (List.mem_append_right _ (List.mem_append_right _ (List.mem_append_right _ (List.mem_append_right _ (List.mem_append_right _ (List.mem_append_right _ (List.mem_append_left _ (List.mem_of_getElem? (i := 112) (l := tables_1_6) rfl)))))))) rfl
  · exact good_in (List.mem_append_right _ (List.mem_append_right _ (List.mem_append_right _ (List.mem_append_right _ (List.mem_append_right _ (List.mem_append_right _ (List.mem_append_left _ (List.mem_of_getElem? (i := 114) (l := tables_1_6) rfl)))))))) rfl
  · exact good_in (List.mem_append_right _ (List.mem_append_right _ (List.mem_append_right _ (List.mem_append_right _ (List.mem_append_right _ (List.mem_append_right _ (List.mem_append_left _ (List.mem_of_getElem? (i := 116) (l := tables_1_6) rfl)))))))) rfl
  · exact good_in (List.mem_append_right _ (List.mem_append_right _ (List.mem_append_right _ (List.mem_append_right _ (List.mem_append_right _ (List.mem_append_right _ (List.mem_append_left _ (List.mem_of_getElem? (i := 118) (l := tables_1_6) rfl)))))))) rfl
  · exact good_in (List.mem_append_right _ (List.mem_append_right _ (List.mem_append_right _ (List.mem_append_right _ (List.mem_append_right _ (List.mem_append_right _ (List.mem_append_left _ (List.mem_of_getElem? (i := 120) (l := tables_1_6) rfl)))))))) rfl
  · exact good_in (List.mem_append_right _ (List.mem_append_right _ (List.mem_append_right _ (List.mem_append_right _ (List.mem_append_right _ (List.mem_append_right _ (List.mem_append_left _ (List.mem_of_getElem? (i := 122) (l := tables_1_6) rfl)))))))) rfl
  · exact good_in (List.mem_append_right _ (List.mem_append_right _ (List.mem_append_right _ (List.mem_append_right _ (List.mem_append_right _ (List.mem_append_right _ (List.mem_append_left _ (List.mem_of_getElem? (i := 124) (l := tables_1_6) rfl)))))))) rfl
  · exact good_in (List.mem_append_right _ (List.mem_append_right _ (List.mem_append_right _ (List.mem_append_right _ (List.mem_append_right _ (List.mem_append_right _ (List.mem_append_left _ (List.mem_of_getElem? (i := 126) (l := tables_1_6) rfl)))))))) rfl
  · exact good_in (List.mem_append_right _ (List.mem_append_right _ (List.mem_append_right _ (List.mem_append_right _ (List.mem_append_right _ (List.mem_append_right _ (List.mem_append_left _ (List.mem_of_getElem? (i := 128) (l := tables_1_6) rfl)))))))) rfl
  · exact good_in (List.mem_append_right _ (List.mem_append_right _ (List.mem_append_right _ (List.mem_append_right _ (List.mem_append_right _ (List.mem_append_right _ (List.mem_append_left _ (List.mem_of_getElem? (i := 130) (l := tables_1_6) rfl)))))))) rfl
  · exact good_in (List.mem_append_right _ (List.mem_append_right _ (List.mem_append_right _ (List.mem_append_right _ (List.mem_append_right _ (List.mem_append_right _ (List.mem_append_left _ (List.mem_of_getElem? (i := 132) (l := tables_1_6) rfl)))))))) rfl
  · exact good_in (List.mem_append_right _ (List.mem_append_right _ (List.mem_append_right _ (List.mem_append_right _ (List.mem_append_right _ (List.mem_append_right _ (List.mem_append_left _ (List.mem_of_getElem? (i := 134) (l := tables_1_6) rfl)))))))) rfl
  · exact good_in (List.mem_append_right _ (List.mem_append_right _ (List.mem_append_right _ (List.mem_append_right _ (List.mem_append_right _ (List.mem_append_right _ (List.mem_append_left _ (List.mem_of_getElem? (i := 136) (l := tables_1_6) rfl)))))))) rfl
  · exact good_in (List.mem_append_right _ (List.mem_append_right _ (List.mem_append_right _ (List.mem_append_right _ (List.mem_append_right _ (List.mem_append_right _ (List.mem_append_left _ (List.mem_of_getElem? (i := 138) (l := tables_1_6) rfl)))))))) rfl
  · exact good_in (List.mem_append_right _ (List.mem_append_right _ (List.mem_append_right _ (List.mem_append_right _ (List.mem_append_right _ (List.mem_append_right _ (List.mem_append_left _ (List.mem_of_getElem? (i := 140) (l := tables_1_6) rfl)))))))) rfl
  · exact good_in (List.mem_append_right _ (List.mem_append_right _ (List.mem_append_right _ (List.mem_append_right _ (List.mem_append_right _ (List.mem_append_right _ (List.mem_append_left _ (List.mem_of_getElem? (i := 142) (l := tables_1_6) rfl)))))))) rfl
  · exact good_in (List.mem_append_right _ (List.mem_append_right _ (List.mem_append_right _ (List.mem_append_right _ (List.mem_append_right _ (List.mem_append_right _ (List.mem_append_left _ (List.mem_of_getElem? (i := 144) (l := tables_1_6) rfl)))))))) rfl
  · exact good_in (List.mem_append_right _ (List.mem_append_right _ (List.mem_append_right _ (List.mem_append_right _ (List.mem_append_right _ (List.mem_append_right _ (List.mem_append_left _ (List.mem_of_getElem? (i := 146) (l := tables_1_6) rfl)))))))) rfl
  · exact good_in (List.mem_append_right _ (List.mem_append_right _ (List.mem_append_right _ (List.mem_append_right _ (List.mem_append_right _ (List.mem_append_right _ (List.mem_append_left _ (List.mem_of_getElem? (i := 148) (l := tables_1_6) rfl)))))))) rfl
  · exact good_in (List.mem_append_right _ (List.mem_append_right _ (List.mem_append_right _ (List.mem_append_right _ (List.mem_append_right _ (List.mem_append_right _ (List.mem_append_left _ (List.mem_of_getElem? (i := 150) (l := tables_1_6) rfl)))))))) rfl
  · exact good_in (List.mem_append_right _ (List.mem_append_right _ (List.mem_append_right _ (List.mem_append_right _ (List.mem_append_right _ (List.mem_append_right _ (List.mem_append_left _ (List.mem_of_getElem? (i := 152) (l := tables_1_6) rfl)))))))) rfl
  · exact good_in (List.mem_append_right _ (List.mem_append_right _ (List.mem_append_right _ (List.mem_append_right _ (List.mem_append_right _ (List.mem_append_right _ (List.mem_append_left _ (List.mem_of_getElem? (i := 154) (l := tables_1_6) rfl)))))))) rfl
  · exact good_in (List.mem_append_right _ (List.mem_append_right _ (List.mem_append_right _ (List.mem_append_right _ (List.mem_append_right _ (List.mem_append_right _ (List.mem_append_left _ (List.mem_of_getElem? (i := 156) (l := tables_1_6) rfl)))))))) rfl
  · exact good_in (List.mem_append_right _ (List.mem_append_right _ (List.mem_append_right _ (List.mem_append_right _ (List.mem_append_right _ (List.mem_append_right _ (List.mem_append_left _ (List.mem_of_getElem? (i := 158) (l := tables_1_6) rfl)))))))) rfl
  · exact good_in (List.mem_append_right _ (List.mem_append_right _ (List.mem_append_right _ (List.mem_append_right _ (List.mem_append_right _ (List.mem_append_right _ (List.mem_append_left _ (List.mem_of_getElem? (i := 160) (l := tables_1_6) rfl)))))))) rfl
  · exact good_in (List.mem_append_right _ (List.mem_append_right _ (List.mem_append_right _ (List.mem_append_right _ (List.mem_append_right _ (List.mem_append_right _ (List.mem_append_left _ (List.mem_of_getElem? (i := 162) (l := tables_1_6) rfl)))))))) rfl
  · exact good_in (List.mem_append_right _ (List.mem_append_right _ (List.mem_append_right _ (List.mem_append_right _ (List.mem_append_right _ (List.mem_append_right _ (List.mem_append_left _ (List.mem_of_getElem? (i := 164) (l := tables_1_6) rfl)))))))) rfl
  · exact good_in (List.mem_append_right _ (List.mem_append_right _ (List.mem_append_right _ (List.mem_append_right _ (List.mem_append_right _ (List.mem_append_right _ (List.mem_append_left _ (List.mem_of_getElem? (i := 166) (l := tables_1_6) rfl)))))))) rfl
  · exact good_in (List.mem_append_right _ (List.mem_append_right _ (List.mem_append_right _ (List.mem_append_right _ (List.mem_append_right _ (List.mem_append_right _ (List.mem_append_left _ (List.mem_of_getElem? (i := 168) (l := tables_1_6) rfl)))))))) rfl
  · exact good_in (List.mem_append_right _ (List.mem_append_right _ (List.mem_append_right _ (List.mem_append_right _ (List.mem_append_right _ (List.mem_append_right _ (List.mem_append_left _ (List.mem_of_getElem? (i := 170) (l := tables_1_6) rfl)))))))) rfl
  · exact good_in (List.mem_append_right _ (List.mem_append_right _ (List.mem_append_right _ (List.mem_append_right _ (List.mem_append_right _ (List.mem_append_right _ (List.mem_append_left _ (List.mem_of_getElem? (i := 172) (l := tables_1_6) rfl)))))))) rfl
  · exact good_in (List.mem_append_right _ (List.mem_append_right _ (List.mem_append_right _ (List.mem_append_right _ (List.mem_append_right _ (List.mem_append_right _ (List.mem_append_left _ (List.mem_of_getElem? (i := 174) (l := tables_1_6) rfl)))))))) rfl
  · exact good_in (List.mem_append_right _ (List.mem_append_right _ (List.mem_append_right _ (List.mem_append_right _ (List.mem_append_right _ (List.mem_append_right _ (List.mem_append_left _ (List.mem_of_getElem? (i := 176) (l := tables_1_6) rfl)))))))) rfl
  · exact good_in (List.mem_append_right _ (List.mem_append_right _ (List.mem_append_right _ (List.mem_append_right _ (List.mem_append_right _ (List.mem_append_right _ (List.mem_append_left _ (List.mem_of_getElem? (i := 178) (l := tables_1_6) rfl)))))))) rfl
  · exact good_in (List.mem_append_right _ (List.mem_append_right _ (List.mem_append_right _ (List.mem_append_right _ (List.mem_append_right _ (List.mem_append_right _ (List.mem_append_left _ (List.mem_of_getElem? (i := 180) (l := tables_1_6) rfl)))))))) rfl
  · exact good_in (List.mem_append_right _ (List.mem_append_right _ (List.mem_append_right _ (List.mem_append_right _ (List.mem_append_right _ (List.mem_append_right _ (List.mem_append_left _ (List.mem_of_getElem? (i := 182) (l := tables_1_6) rfl)))))))) rfl
  · exact good_in (List.mem_append_right _ (List.mem_append_right _ (List.mem_append_right _ (List.mem_append_right _ (List.mem_append_right _ (List.mem_append_right _ (List.mem_append_left _ (List.mem_of_getElem? (i := 184) (l := tables_1_6) rfl)))))))) rfl
  · exact good_in (List.mem_append_right _ (List.mem_append_right _ (List.mem_append_right _ (List.mem_append_right _ (List.mem_append_right _ (List.mem_append_right _ (List.mem_append_left _ (List.mem_of_getElem? (i := 186) (l := tables_1_6) rfl)))))))) rfl
  · exact good_in (List.mem_append_right _ (List.mem_append_right _ (List.mem_append_right _ (List.mem_append_right _ (List.mem_append_right _ (List.mem_append_right _ (List.mem_append_left _ (List.mem_of_getElem? (i := 188) (l := tables_1_6) rfl)))))))) rfl
  · exact good_in (List.mem_append_right _ (List.mem_append_right _ (List.mem_append_right _ (List.mem_append_right _ (List.mem_append_right _ (List.mem_append_right _ (List.mem_append_left _ (List.mem_of_getElem? (i := 190) (l := tables_1_6) rfl)))))))) rfl
  · exact good_in (List.mem_append_right _ (List.mem_append_right _ (List.mem_append_right _ (List.mem_append_right _ (List.mem_append_right _ (List.mem_append_right _ (List.mem_append_left _ (List.mem_of_getElem? (i := 192) (l := tables_1_6) rfl)))))))) rfl
  · exact good_in (List.mem_append_right _ (List.mem_append_right _ (List.mem_append_right _ (List.mem_append_right _ (List.mem_append_right _ (List.mem_append_right _ (List.mem_append_left _ (List.mem_of_getElem? (i := 194) (l := tables_1_6) rfl)))))))) rfl
  · exact good_in (List.mem_append_right _ (List.mem_append_right _ (List.mem_append_right _ (List.mem_append_right _ (List.mem_append_right _ (List.mem_append_right _ (List.mem_append_left _ (List.mem_of_getElem? (i := 196) (l := tables_1_6) rfl)))))))) rfl
  · exact good_in (List.mem_append_right _ (List.mem_append_right _ (List.mem_append_right _ (List.mem_append_right _ (List.mem_append_right _ (List.mem_append_right _ (List.mem_append_left _ (List.mem_of_getElem? (i := 198) (l := tables_1_6) rfl)))))))) rfl
  · exact good_in (List.mem_append_right _ (List.mem_append_right _ (List.mem_append_right _ (List.mem_append_right _ (List.mem_append_right _ (List.mem_append_right _ (List.mem_append_left _ (List.mem_of_getElem? (i := 200) (l := tables_1_6) rfl)))))))) rfl
  · exact good_in (List.mem_append_right _ (List.mem_append_right _ (List.mem_append_right _ (List.mem_append_right _ (List.mem_append_right _ (List.mem_append_right _ (List.mem_append_left _ (List.mem_of_getElem? (i := 202) (l := tables_1_6) rfl)))))))) rfl
  · exact good_in (List.mem_append_right _ (List.mem_append_right _ (List.mem_append_right _ (List.mem_append_right _ (List.mem_append_right _ (List.mem_append_right _ (List.mem_append_left _ (List.mem_of_getElem? (i := 204) (l := tables_1_6) rfl)))))))) rfl
  · exact good_in (List.mem_append_right _ (List.mem_append_right _ (List.mem_append_right _ (List.mem_append_right _ (List.mem_append_right _ (List.mem_append_right _ (List.mem_append_left _ (List.mem_of_getElem? (i := 206) (l := tables_1_6) rfl)))))))) rfl
  · exact good_in (List.mem_append_right _ (List.mem_append_right _ (List.mem_append_right _ (List.mem_append_right _ (List.mem_append_right _ (List.mem_append_right _ (List.mem_append_left _ (List.mem_of_getElem? (i := 208) (l := tables_1_6) rfl)))))))) rfl
  · exact good_in (List.mem_append_right _ (List.mem_append_right _ (List.mem_append_right _ (List.mem_append_right _ (List.mem_append_right _ (List.mem_append_right _ (List.mem_append_left _ (List.mem_of_getElem? (i := 210) (l := tables_1_6) rfl)))))))) rfl
  · exact good_in (List.mem_append_right _ (List.mem_append_right _ (List.mem_append_right _ (List.mem_append_right _ (List.mem_append_right _ (List.mem_append_right _ (List.mem_append_left _ (List.mem_of_getElem? (i := 212) (l := tables_1_6) rfl)))))))) rfl
  · exact good_in (List.mem_append_right _ (List.mem_append_right _ (List.mem_append_right _ (List.mem_append_right _ (List.mem_append_right _ (List.mem_append_right _ (List.mem_append_left _ (List.mem_of_getElem? (i := 214) (l := tables_1_6) rfl)))))))) rfl
  · exact good_in (List.mem_append_right _ (List.mem_append_right _ (List.mem_append_right _ (List.mem_append_right _ (List.mem_append_right _ (List.mem_append_right _ (List.mem_append_left _ (List.mem_of_getElem? (i := 216) (l := tables_1_6) rfl)))))))) rfl
  · exact good_in (List.mem_append_right _ (List.mem_append_right _ (List.mem_append_right _ (List.mem_append_right _ (List.mem_append_right _ (List.mem_append_right _ (List.mem_append_left _ (List.mem_of_getElem? (i := 218) (l := tables_1_6) rfl)))))))) rfl
  · exact good_in (List.mem_append_right _ (List.mem_append_right _ (List.mem_append_right _ (List.mem_append_right _ (List.mem_append_right _ (List.mem_append_right _ (List.mem_append_left _ (List.mem_of_getElem? (i := 220) (l := tables_1_6) rfl)))))))) rfl
  · exact good_in (List.mem_append_right _ (List.mem_append_right _ (List.mem_append_right _ (List.mem_append_right _ (List.mem_append_right _ (List.mem_append_right _ (List.mem_append_left _ (List.mem_of_getElem? (i := 222) (l := tables_1_6) rfl)))))))) rfl
  · exact good_in (List.mem_append_right _ (List.mem_append_right _ (List.mem_append_right _ (List.mem_append_right _ (List.mem_append_right _ (List.mem_append_right _ (List.mem_append_left _ (List.mem_of_getElem? (i := 224) (l := tables_1_6) rfl)))))))) rfl
  · exact good_in (List.mem_append_right _ (List.mem_append_right _ (List.mem_append_right _ (List.mem_append_right _ (List.mem_append_right _ (List.mem_append_right _ (List.mem_append_left _ (List.mem_of_getElem? (i := 226) (l := tables_1_6) rfl)))))))) rfl
  · exact good_in (List.mem_append_right _ (List.mem_append_right _ (List.mem_append_right _ (List.mem_append_right _ (List.mem_append_right _ (List.mem_append_right _ (List.mem_append_left _ (List.mem_of_getElem? (i := 228) (l := tables_1_6) rfl)))))))) rfl
  · exact good_in (List.mem_append_right _ (List.mem_append_right _ (List.mem_append_right _ (List.mem_append_right _ (List.mem_append_right _ (List.mem_append_right _ (List.mem_append_left _ (List.mem_of_getElem? (i := 230) (l := tables_1_6) rfl)))))))) rfl
  · exact good_in (List.mem_append_right _ (List.mem_append_right _ (List.mem_append_right _ (List.mem_append_right _ (List.mem_append_right _ (List.mem_append_right _ (List.mem_append_left _ (List.mem_of_getElem? (i := 232) (l := tables_1_6) rfl)))))))) rfl
  · exact good_in (List.mem_append_right _ (List.mem_append_right _ (List.mem_append_right _ (List.mem_append_right _ (List.mem_append_right _ (List.mem_append_right _ (List.mem_append_left _ (List.mem_of_getElem? (i := 234) (l := tables_1_6) rfl)))))))) rfl
  · exact good_in (List.mem_append_right _ (List.mem_append_right _ (List.mem_append_right _ (List.mem_append_right _ (List.mem_append_right _ (List.mem_append_right _ (List.mem_append_left _ (List.mem_of_getElem? (i := 236) (l := tables_1_6) rfl)))))))) rfl
  · exact good_in (List.mem_append_right _ (List.mem_append_right _ (List.mem_append_right _ (List.mem_append_right _ (List.mem_append_right _ (List.mem_append_right _ (List.mem_append_left _ (List.mem_of_getElem? (i := 238) (l := tables_1_6) rfl)))))))) rfl
  · exact good_in (List.mem_append_right _ (List.mem_append_right _ (List.mem_append_right _ (List.mem_append_right _ (List.mem_append_right _ (List.mem_append_right _ (List.mem_append_right _ (List.mem_append_left _ (List.mem_of_getElem? (i := 0) (l := tables_1_7) rfl))))))))) rfl
  · exact good_in (List.mem_append_right _ (List.mem_append_right _ (List.mem_append_right _ (List.mem_append_right _ (List.mem_append_right _ (List.mem_append_right _ (List.mem_append_right _ (List.mem_append_left _ (List.mem_of_getElem? (i := 2) (l := tables_1_7) rfl))))))))) rfl
  · exact good_in (List.mem_append_right _ (List.mem_append_right _ (List.mem_append_right _ (List.mem_append_right _ (List.mem_append_right _ (List.mem_append_right _ (List.mem_append_right _ (List.mem_append_left _ (List.mem_of_getElem? (i := 4) (l := tables_1_7) rfl))))))))) rfl
  · exact good_in (List.mem_append_right _ (List.mem_append_right _ (List.mem_append_right _ (List.mem_append_right _ (List.mem_append_right _ (List.mem_append_right _ (List.mem_append_right _ (List.mem_append_left _ (List.mem_of_getElem? (i := 6) (l := tables_1_7) rfl))))))))) rfl
  · exact good_in (List.mem_append_right _ (List.mem_append_right _ (List.mem_append_right _ (List.mem_append_right _ (List.mem_append_right _ (List.mem_append_right _ (List.mem_append_right _ (List.mem_append_left _ (List.mem_of_getElem? (i := 8) (l := tables_1_7) rfl))))))))) rfl
  · exact good_in (List.mem_append_right _ (List.mem_append_right _ (List.mem_append_right _ (List.mem_append_right _ (List.mem_append_right _ (List.mem_append_right _ (List.mem_append_right _ (List.mem_append_left _ (List.mem_of_getElem? (i := 10) (l := tables_1_7) rfl))))))))) rfl
  · exact good_in (List.mem_append_right _ (List.mem_append_right _ (List.mem_append_right _ (List.mem_append_right _ (List.mem_append_right _ (List.mem_append_right _ (List.mem_append_right _ (List.mem_append_left _ (List.mem_of_getElem? (i := 12) (l := tables_1_7) rfl))))))))) rfl
  · exact good_in (List.mem_append_right _ (List.mem_append_right _ (List.mem_append_right _ (List.mem_append_right _ (List.mem_append_right _ (List.mem_append_right _ (List.mem_append_right _ (List.mem_append_left _ (List.mem_of_getElem? (i := 14) (l := tables_1_7) rfl))))))))) rfl
  · exact good_in (List.mem_append_right _ (List.mem_append_right _ (List.mem_append_right _ (List.mem_append_right _ (List.mem_append_right _ (List.mem_append_right _ (List.mem_append_right _ (List.mem_append_left _ (List.mem_of_getElem? (i := 16) (l := tables_1_7) rfl))))))))) rfl
  · exact good_in (List.mem_append_right _ (List.mem_append_right _ (List.mem_append_right _ (List.mem_append_right _ (List.mem_append_right _ (List.mem_append_right _ (List.mem_append_right _ (List.mem_append_left _ (List.mem_of_getElem? (i := 18) (l := tables_1_7) rfl))))))))) rfl
  · exact good_in (List.mem_append_right _ (List.mem_append_right _ (List.mem_append_right _ (List.mem_append_right _ (List.mem_append_right _ (List.mem_append_right _ (List.mem_append_right _ (List.mem_append_left _ (List.mem_of_getElem? (i := 20) (l := tables_1_7) rfl))))))))) rfl
  · exact good_in (List.mem_append_right _ (List.mem_append_right _ (List.mem_append_right _ (List.mem_append_right _ (List.mem_append_right _ (List.mem_append_right _ (List.mem_append_right _ (List.mem_append_left _ (List.mem_of_getElem? (i := 22) (l := tables_1_7) rfl))))))))) rfl
  · exact good_in (List.mem_append_right _ (List.mem_append_right _ (List.mem_append_right _ (List.mem_append_right _ (List.mem_append_right _ (List.mem_append_right _ (List.mem_append_right _ (List.mem_append_left _ (List.mem_of_getElem? (i := 24) (l := tables_1_7) rfl))))))))) rfl
  · exact good_in (List.mem_append_right _ (List.mem_append_right _ (List.mem_append_right _ (List.mem_append_right _ (List.mem_append_right _ (List.mem_append_right _ (List.mem_append_right _ (List.mem_append_left _ (List.mem_of_getElem? (i := 26) (l := tables_1_7) rfl))))))))) rfl
  · exact good_in (List.mem_append_right _ (List.mem_append_right _ (List.mem_append_right _ (List.mem_append_right _ (List.mem_append_right _ (List.mem_append_right _ (List.mem_append_right _ (List.mem_append_left _ (List.mem_of_getElem? (i := 28) (l := tables_1_7) rfl))))))))) rfl
abbrev bc_Ar_rangeCheck : ByteArray := prog_21_method_30_code
abbrev y_Ar_rangeCheck : MethodName := ⟨"java/util/Arrays", "rangeCheck", "(III)V"⟩
theorem d_Ar_rangeCheck_0 : decode bc_Ar_rangeCheck 0 = .ok (.iload_n 1, 1) := by decide +kernel
theorem d_Ar_rangeCheck_1 : decode bc_Ar_rangeCheck 1 = .ok (.iload_n 2, 1) := by decide +kernel
theorem d_Ar_rangeCheck_2 : decode bc_Ar_rangeCheck 2 = .ok (.if_icmp .le 44, 3) := by decide +kernel
theorem d_Ar_rangeCheck_5 : decode bc_Ar_rangeCheck 5 = .ok (.new 43, 3) := by decide +kernel
theorem d_Ar_rangeCheck_46 : decode bc_Ar_rangeCheck 46 = .ok (.iload_n 1, 1) := by decide +kernel
theorem d_Ar_rangeCheck_47 : decode bc_Ar_rangeCheck 47 = .ok (.ifCond .ge 12, 3) := by decide +kernel
theorem d_Ar_rangeCheck_50 : decode bc_Ar_rangeCheck 50 = .ok (.new 68, 3) := by decide +kernel
theorem d_Ar_rangeCheck_59 : decode bc_Ar_rangeCheck 59 = .ok (.iload_n 2, 1) := by decide +kernel
theorem d_Ar_rangeCheck_60 : decode bc_Ar_rangeCheck 60 = .ok (.iload_n 0, 1) := by decide +kernel
theorem d_Ar_rangeCheck_61 : decode bc_Ar_rangeCheck 61 = .ok (.if_icmp .le 12, 3) := by decide +kernel
theorem d_Ar_rangeCheck_64 : decode bc_Ar_rangeCheck 64 = .ok (.new 68, 3) := by decide +kernel
theorem d_Ar_rangeCheck_73 : decode bc_Ar_rangeCheck 73 = .ok (.return_, 1) := by decide +kernel
abbrev bc_Ar_fill : ByteArray := prog_21_method_104_code
abbrev y_Ar_fill : MethodName := ⟨"java/util/Arrays", "fill", "([IIII)V"⟩
theorem d_Ar_fill_0 : decode bc_Ar_fill 0 = .ok (.aload_n 0, 1) := by decide +kernel
theorem d_Ar_fill_1 : decode bc_Ar_fill 1 = .ok (.arraylength, 1) := by decide +kernel
theorem d_Ar_fill_2 : decode bc_Ar_fill 2 = .ok (.iload_n 1, 1) := by decide +kernel
theorem d_Ar_fill_3 : decode bc_Ar_fill 3 = .ok (.iload_n 2, 1) := by decide +kernel
theorem d_Ar_fill_4 : decode bc_Ar_fill 4 = .ok (.invokestatic 13, 3) := by decide +kernel
theorem d_Ar_fill_7 : decode bc_Ar_fill 7 = .ok (.iload_n 1, 1) := by decide +kernel
theorem d_Ar_fill_8 : decode bc_Ar_fill 8 = .ok (.istore 4, 2) := by decide +kernel
theorem d_Ar_fill_10 : decode bc_Ar_fill 10 = .ok (.iload 4, 2) := by decide +kernel
theorem d_Ar_fill_12 : decode bc_Ar_fill 12 = .ok (.iload_n 2, 1) := by decide +kernel
theorem d_Ar_fill_13 : decode bc_Ar_fill 13 = .ok (.if_icmp .ge 14, 3) := by decide +kernel
theorem d_Ar_fill_16 : decode bc_Ar_fill 16 = .ok (.aload_n 0, 1) := by decide +kernel
theorem d_Ar_fill_17 : decode bc_Ar_fill 17 = .ok (.iload 4, 2) := by decide +kernel
theorem d_Ar_fill_19 : decode bc_Ar_fill 19 = .ok (.iload_n 3, 1) := by decide +kernel
theorem d_Ar_fill_20 : decode bc_Ar_fill 20 = .ok (.iastore, 1) := by decide +kernel
theorem d_Ar_fill_21 : decode bc_Ar_fill 21 = .ok (.iinc 4 1, 3) := by decide +kernel
theorem d_Ar_fill_24 : decode bc_Ar_fill 24 = .ok (.goto (-14), 3) := by decide +kernel
theorem d_Ar_fill_27 : decode bc_Ar_fill 27 = .ok (.return_, 1) := by decide +kernel
abbrev bc_Ta_hasRoom : ByteArray := prog_11_method_2_code
abbrev y_Ta_hasRoom : MethodName := ⟨"KindRounds$Tape", "hasRoom", "()Z"⟩
theorem d_Ta_hasRoom_0 : decode bc_Ta_hasRoom 0 = .ok (.aload_n 0, 1) := by decide +kernel
theorem d_Ta_hasRoom_1 : decode bc_Ta_hasRoom 1 = .ok (.getfield 25, 3) := by decide +kernel
theorem d_Ta_hasRoom_4 : decode bc_Ta_hasRoom 4 = .ok (.bipush 20, 2) := by decide +kernel
theorem d_Ta_hasRoom_6 : decode bc_Ta_hasRoom 6 = .ok (.iadd, 1) := by decide +kernel
theorem d_Ta_hasRoom_7 : decode bc_Ta_hasRoom 7 = .ok (.sipush 1200, 3) := by decide +kernel
theorem d_Ta_hasRoom_10 : decode bc_Ta_hasRoom 10 = .ok (.if_icmp .gt 7, 3) := by decide +kernel
theorem d_Ta_hasRoom_13 : decode bc_Ta_hasRoom 13 = .ok (.iconst 1, 1) := by decide +kernel
theorem d_Ta_hasRoom_14 : decode bc_Ta_hasRoom 14 = .ok (.goto 4, 3) := by decide +kernel
theorem d_Ta_hasRoom_17 : decode bc_Ta_hasRoom 17 = .ok (.iconst 0, 1) := by decide +kernel
theorem d_Ta_hasRoom_18 : decode bc_Ta_hasRoom 18 = .ok (.ireturn, 1) := by decide +kernel
abbrev bc_Ta_append : ByteArray := prog_11_method_3_code
abbrev y_Ta_append : MethodName := ⟨"KindRounds$Tape", "append", "(I)V"⟩
theorem d_Ta_append_0 : decode bc_Ta_append 0 = .ok (.bipush 24, 2) := by decide +kernel
theorem d_Ta_append_2 : decode bc_Ta_append 2 = .ok (.istore_n 2, 1) := by decide +kernel
theorem d_Ta_append_3 : decode bc_Ta_append 3 = .ok (.iload_n 2, 1) := by decide +kernel
theorem d_Ta_append_4 : decode bc_Ta_append 4 = .ok (.ifCond .lt 45, 3) := by decide +kernel
theorem d_Ta_append_7 : decode bc_Ta_append 7 = .ok (.aload_n 0, 1) := by decide +kernel
theorem d_Ta_append_8 : decode bc_Ta_append 8 = .ok (.getfield 25, 3) := by decide +kernel
theorem d_Ta_append_11 : decode bc_Ta_append 11 = .ok (.sipush 1200, 3) := by decide +kernel
theorem d_Ta_append_14 : decode bc_Ta_append 14 = .ok (.if_icmp .ge 35, 3) := by decide +kernel
theorem d_Ta_append_17 : decode bc_Ta_append 17 = .ok (.aload_n 0, 1) := by decide +kernel
theorem d_Ta_append_18 : decode bc_Ta_append 18 = .ok (.getfield 11, 3) := by decide +kernel
theorem d_Ta_append_21 : decode bc_Ta_append 21 = .ok (.aload_n 0, 1) := by decide +kernel
theorem d_Ta_append_22 : decode bc_Ta_append 22 = .ok (.getfield 25, 3) := by decide +kernel
theorem d_Ta_append_25 : decode bc_Ta_append 25 = .ok (.iload_n 1, 1) := by decide +kernel
theorem d_Ta_append_26 : decode bc_Ta_append 26 = .ok (.iload_n 2, 1) := by decide +kernel
theorem d_Ta_append_27 : decode bc_Ta_append 27 = .ok (.iushr, 1) := by decide +kernel
theorem d_Ta_append_28 : decode bc_Ta_append 28 = .ok (.sipush 255, 3) := by decide +kernel
theorem d_Ta_append_31 : decode bc_Ta_append 31 = .ok (.iand, 1) := by decide +kernel
theorem d_Ta_append_32 : decode bc_Ta_append 32 = .ok (.iastore, 1) := by decide +kernel
theorem d_Ta_append_33 : decode bc_Ta_append 33 = .ok (.aload_n 0, 1) := by decide +kernel
theorem d_Ta_append_34 : decode bc_Ta_append 34 = .ok (.dup, 1) := by decide +kernel
theorem d_Ta_append_35 : decode bc_Ta_append 35 = .ok (.getfield 25, 3) := by decide +kernel
theorem d_Ta_append_38 : decode bc_Ta_append 38 = .ok (.iconst 1, 1) := by decide +kernel
theorem d_Ta_append_39 : decode bc_Ta_append 39 = .ok (.iadd, 1) := by decide +kernel
theorem d_Ta_append_40 : decode bc_Ta_append 40 = .ok (.putfield 25, 3) := by decide +kernel
theorem d_Ta_append_43 : decode bc_Ta_append 43 = .ok (.iinc 2 (-8), 3) := by decide +kernel
theorem d_Ta_append_46 : decode bc_Ta_append 46 = .ok (.goto (-43), 3) := by decide +kernel
theorem d_Ta_append_49 : decode bc_Ta_append 49 = .ok (.return_, 1) := by decide +kernel
abbrev bc_Ta_scan : ByteArray := prog_11_method_4_code
abbrev y_Ta_scan : MethodName := ⟨"KindRounds$Tape", "scan", "()V"⟩
theorem d_Ta_scan_0 : decode bc_Ta_scan 0 = .ok (.aload_n 0, 1) := by decide +kernel
theorem d_Ta_scan_1 : decode bc_Ta_scan 1 = .ok (.iconst 0, 1) := by decide +kernel
theorem d_Ta_scan_2 : decode bc_Ta_scan 2 = .ok (.putfield 29, 3) := by decide +kernel
theorem d_Ta_scan_5 : decode bc_Ta_scan 5 = .ok (.aload_n 0, 1) := by decide +kernel
theorem d_Ta_scan_6 : decode bc_Ta_scan 6 = .ok (.iconst 0, 1) := by decide +kernel
theorem d_Ta_scan_7 : decode bc_Ta_scan 7 = .ok (.putfield 32, 3) := by decide +kernel
theorem d_Ta_scan_10 : decode bc_Ta_scan 10 = .ok (.iconst 0, 1) := by decide +kernel
theorem d_Ta_scan_11 : decode bc_Ta_scan 11 = .ok (.istore_n 1, 1) := by decide +kernel
theorem d_Ta_scan_12 : decode bc_Ta_scan 12 = .ok (.iconst 0, 1) := by decide +kernel
theorem d_Ta_scan_13 : decode bc_Ta_scan 13 = .ok (.istore_n 2, 1) := by decide +kernel
theorem d_Ta_scan_14 : decode bc_Ta_scan 14 = .ok (.iload_n 2, 1) := by decide +kernel
theorem d_Ta_scan_15 : decode bc_Ta_scan 15 = .ok (.sipush 1200, 3) := by decide +kernel
theorem d_Ta_scan_18 : decode bc_Ta_scan 18 = .ok (.if_icmp .ge 71, 3) := by decide +kernel
theorem d_Ta_scan_21 : decode bc_Ta_scan 21 = .ok (.iload_n 1, 1) := by decide +kernel
theorem d_Ta_scan_22 : decode bc_Ta_scan 22 = .ok (.aload_n 0, 1) := by decide +kernel
theorem d_Ta_scan_23 : decode bc_Ta_scan 23 = .ok (.getfield 25, 3) := by decide +kernel
theorem d_Ta_scan_26 : decode bc_Ta_scan 26 = .ok (.if_icmp .ge 63, 3) := by decide +kernel
theorem d_Ta_scan_29 : decode bc_Ta_scan 29 = .ok (.aload_n 0, 1) := by decide +kernel
theorem d_Ta_scan_30 : decode bc_Ta_scan 30 = .ok (.getfield 11, 3) := by decide +kernel
theorem d_Ta_scan_33 : decode bc_Ta_scan 33 = .ok (.iload_n 1, 1) := by decide +kernel
theorem d_Ta_scan_34 : decode bc_Ta_scan 34 = .ok (.iaload, 1) := by decide +kernel
theorem d_Ta_scan_35 : decode bc_Ta_scan 35 = .ok (.istore_n 3, 1) := by decide +kernel
theorem d_Ta_scan_36 : decode bc_Ta_scan 36 = .ok (.iload_n 3, 1) := by decide +kernel
theorem d_Ta_scan_37 : decode bc_Ta_scan 37 = .ok (.bipush 32, 2) := by decide +kernel
theorem d_Ta_scan_39 : decode bc_Ta_scan 39 = .ok (.if_icmp .eq 9, 3) := by decide +kernel
theorem d_Ta_scan_42 : decode bc_Ta_scan 42 = .ok (.iload_n 3, 1) := by decide +kernel
theorem d_Ta_scan_43 : decode bc_Ta_scan 43 = .ok (.bipush 10, 2) := by decide +kernel
theorem d_Ta_scan_45 : decode bc_Ta_scan 45 = .ok (.if_icmp .ne 9, 3) := by decide +kernel
theorem d_Ta_scan_48 : decode bc_Ta_scan 48 = .ok (.iinc 1 1, 3) := by decide +kernel
theorem d_Ta_scan_51 : decode bc_Ta_scan 51 = .ok (.goto 32, 3) := by decide +kernel
theorem d_Ta_scan_54 : decode bc_Ta_scan 54 = .ok (.iload_n 3, 1) := by decide +kernel
theorem d_Ta_scan_55 : decode bc_Ta_scan 55 = .ok (.invokestatic 35, 3) := by decide +kernel
theorem d_Ta_scan_58 : decode bc_Ta_scan 58 = .ok (.ifCond .ne 10, 3) := by decide +kernel
theorem d_Ta_scan_61 : decode bc_Ta_scan 61 = .ok (.iload_n 3, 1) := by decide +kernel
theorem d_Ta_scan_62 : decode bc_Ta_scan 62 = .ok (.invokestatic 39, 3) := by decide +kernel
theorem d_Ta_scan_65 : decode bc_Ta_scan 65 = .ok (.ifCond .eq 12, 3) := by decide +kernel
theorem d_Ta_scan_68 : decode bc_Ta_scan 68 = .ok (.aload_n 0, 1) := by decide +kernel
theorem d_Ta_scan_69 : decode bc_Ta_scan 69 = .ok (.iload_n 1, 1) := by decide +kernel
theorem d_Ta_scan_70 : decode bc_Ta_scan 70 = .ok (.invokevirtual 42, 3) := by decide +kernel
theorem d_Ta_scan_73 : decode bc_Ta_scan 73 = .ok (.istore_n 1, 1) := by decide +kernel
theorem d_Ta_scan_74 : decode bc_Ta_scan 74 = .ok (.goto 9, 3) := by decide +kernel
theorem d_Ta_scan_77 : decode bc_Ta_scan 77 = .ok (.aload_n 0, 1) := by decide +kernel
theorem d_Ta_scan_78 : decode bc_Ta_scan 78 = .ok (.iload_n 1, 1) := by decide +kernel
theorem d_Ta_scan_79 : decode bc_Ta_scan 79 = .ok (.invokevirtual 46, 3) := by decide +kernel
theorem d_Ta_scan_82 : decode bc_Ta_scan 82 = .ok (.istore_n 1, 1) := by decide +kernel
theorem d_Ta_scan_83 : decode bc_Ta_scan 83 = .ok (.iinc 2 1, 3) := by decide +kernel
theorem d_Ta_scan_86 : decode bc_Ta_scan 86 = .ok (.goto (-72), 3) := by decide +kernel
theorem d_Ta_scan_89 : decode bc_Ta_scan 89 = .ok (.aload_n 0, 1) := by decide +kernel
theorem d_Ta_scan_90 : decode bc_Ta_scan 90 = .ok (.iconst 1, 1) := by decide +kernel
theorem d_Ta_scan_91 : decode bc_Ta_scan 91 = .ok (.lconst 0, 1) := by decide +kernel
theorem d_Ta_scan_92 : decode bc_Ta_scan 92 = .ok (.aload_n 0, 1) := by decide +kernel
theorem d_Ta_scan_93 : decode bc_Ta_scan 93 = .ok (.getfield 25, 3) := by decide +kernel
theorem d_Ta_scan_96 : decode bc_Ta_scan 96 = .ok (.invokevirtual 49, 3) := by decide +kernel
theorem d_Ta_scan_99 : decode bc_Ta_scan 99 = .ok (.return_, 1) := by decide +kernel
abbrev bc_Ta_scanName : ByteArray := prog_11_method_5_code
abbrev y_Ta_scanName : MethodName := ⟨"KindRounds$Tape", "scanName", "(I)I"⟩
theorem d_Ta_scanName_0 : decode bc_Ta_scanName 0 = .ok (.lconst 0, 1) := by decide +kernel
theorem d_Ta_scanName_1 : decode bc_Ta_scanName 1 = .ok (.lstore_n 2, 1) := by decide +kernel
theorem d_Ta_scanName_2 : decode bc_Ta_scanName 2 = .ok (.iload_n 1, 1) := by decide +kernel
theorem d_Ta_scanName_3 : decode bc_Ta_scanName 3 = .ok (.istore 4, 2) := by decide +kernel
theorem d_Ta_scanName_5 : decode bc_Ta_scanName 5 = .ok (.iload 4, 2) := by decide +kernel
theorem d_Ta_scanName_7 : decode bc_Ta_scanName 7 = .ok (.aload_n 0, 1) := by decide +kernel
theorem d_Ta_scanName_8 : decode bc_Ta_scanName 8 = .ok (.getfield 25, 3) := by decide +kernel
theorem d_Ta_scanName_11 : decode bc_Ta_scanName 11 = .ok (.if_icmp .ge 36, 3) := by decide +kernel
theorem d_Ta_scanName_14 : decode bc_Ta_scanName 14 = .ok (.aload_n 0, 1) := by decide +kernel
theorem d_Ta_scanName_15 : decode bc_Ta_scanName 15 = .ok (.getfield 11, 3) := by decide +kernel
theorem d_Ta_scanName_18 : decode bc_Ta_scanName 18 = .ok (.iload 4, 2) := by decide +kernel
theorem d_Ta_scanName_20 : decode bc_Ta_scanName 20 = .ok (.iaload, 1) := by decide +kernel
theorem d_Ta_scanName_21 : decode bc_Ta_scanName 21 = .ok (.invokestatic 53, 3) := by decide +kernel
theorem d_Ta_scanName_24 : decode bc_Ta_scanName 24 = .ok (.ifCond .eq 23, 3) := by decide +kernel
theorem d_Ta_scanName_27 : decode bc_Ta_scanName 27 = .ok (.lload_n 2, 1) := by decide +kernel
theorem d_Ta_scanName_28 : decode bc_Ta_scanName 28 = .ok (.bipush 8, 2) := by decide +kernel
theorem d_Ta_scanName_30 : decode bc_Ta_scanName 30 = .ok (.lshl, 1) := by decide +kernel
theorem d_Ta_scanName_31 : decode bc_Ta_scanName 31 = .ok (.aload_n 0, 1) := by decide +kernel
theorem d_Ta_scanName_32 : decode bc_Ta_scanName 32 = .ok (.getfield 11, 3) := by decide +kernel
theorem d_Ta_scanName_35 : decode bc_Ta_scanName 35 = .ok (.iload 4, 2) := by decide +kernel
theorem d_Ta_scanName_37 : decode bc_Ta_scanName 37 = .ok (.iaload, 1) := by decide +kernel
theorem d_Ta_scanName_38 : decode bc_Ta_scanName 38 = .ok (.i2l, 1) := by decide +kernel
theorem d_Ta_scanName_39 : decode bc_Ta_scanName 39 = .ok (.lor, 1) := by decide +kernel
theorem d_Ta_scanName_40 : decode bc_Ta_scanName 40 = .ok (.lstore_n 2, 1) := by decide +kernel
theorem d_Ta_scanName_41 : decode bc_Ta_scanName 41 = .ok (.iinc 4 1, 3) := by decide +kernel
theorem d_Ta_scanName_44 : decode bc_Ta_scanName 44 = .ok (.goto (-39), 3) := by decide +kernel
theorem d_Ta_scanName_47 : decode bc_Ta_scanName 47 = .ok (.iload 4, 2) := by decide +kernel
theorem d_Ta_scanName_49 : decode bc_Ta_scanName 49 = .ok (.iload_n 1, 1) := by decide +kernel
theorem d_Ta_scanName_50 : decode bc_Ta_scanName 50 = .ok (.isub, 1) := by decide +kernel
theorem d_Ta_scanName_51 : decode bc_Ta_scanName 51 = .ok (.bipush 8, 2) := by decide +kernel
theorem d_Ta_scanName_53 : decode bc_Ta_scanName 53 = .ok (.if_icmp .le 13, 3) := by decide +kernel
theorem d_Ta_scanName_56 : decode bc_Ta_scanName 56 = .ok (.aload_n 0, 1) := by decide +kernel
theorem d_Ta_scanName_57 : decode bc_Ta_scanName 57 = .ok (.iconst 0, 1) := by decide +kernel
theorem d_Ta_scanName_58 : decode bc_Ta_scanName 58 = .ok (.lconst 0, 1) := by decide +kernel
theorem d_Ta_scanName_59 : decode bc_Ta_scanName 59 = .ok (.iload_n 1, 1) := by decide +kernel
theorem d_Ta_scanName_60 : decode bc_Ta_scanName 60 = .ok (.invokevirtual 49, 3) := by decide +kernel
theorem d_Ta_scanName_63 : decode bc_Ta_scanName 63 = .ok (.goto 29, 3) := by decide +kernel
theorem d_Ta_scanName_66 : decode bc_Ta_scanName 66 = .ok (.aload_n 0, 1) := by decide +kernel
theorem d_Ta_scanName_67 : decode bc_Ta_scanName 67 = .ok (.aload_n 0, 1) := by decide +kernel
theorem d_Ta_scanName_68 : decode bc_Ta_scanName 68 = .ok (.getfield 11, 3) := by decide +kernel
theorem d_Ta_scanName_71 : decode bc_Ta_scanName 71 = .ok (.iload_n 1, 1) := by decide +kernel
theorem d_Ta_scanName_72 : decode bc_Ta_scanName 72 = .ok (.iaload, 1) := by decide +kernel
theorem d_Ta_scanName_73 : decode bc_Ta_scanName 73 = .ok (.invokestatic 35, 3) := by decide +kernel
theorem d_Ta_scanName_76 : decode bc_Ta_scanName 76 = .ok (.ifCond .eq 7, 3) := by decide +kernel
theorem d_Ta_scanName_79 : decode bc_Ta_scanName 79 = .ok (.iconst 2, 1) := by decide +kernel
theorem d_Ta_scanName_80 : decode bc_Ta_scanName 80 = .ok (.goto 7, 3) := by decide +kernel
theorem d_Ta_scanName_83 : decode bc_Ta_scanName 83 = .ok (.lload_n 2, 1) := by decide +kernel
theorem d_Ta_scanName_84 : decode bc_Ta_scanName 84 = .ok (.invokestatic 56, 3) := by decide +kernel
theorem d_Ta_scanName_87 : decode bc_Ta_scanName 87 = .ok (.lload_n 2, 1) := by decide +kernel
theorem d_Ta_scanName_88 : decode bc_Ta_scanName 88 = .ok (.iload_n 1, 1) := by decide +kernel
theorem d_Ta_scanName_89 : decode bc_Ta_scanName 89 = .ok (.invokevirtual 49, 3) := by decide +kernel
theorem d_Ta_scanName_92 : decode bc_Ta_scanName 92 = .ok (.iload 4, 2) := by decide +kernel
theorem d_Ta_scanName_94 : decode bc_Ta_scanName 94 = .ok (.ireturn, 1) := by decide +kernel
abbrev bc_Ta_scanSign : ByteArray := prog_11_method_6_code
abbrev y_Ta_scanSign : MethodName := ⟨"KindRounds$Tape", "scanSign", "(I)I"⟩
theorem d_Ta_scanSign_0 : decode bc_Ta_scanSign 0 = .ok (.aload_n 0, 1) := by decide +kernel
theorem d_Ta_scanSign_1 : decode bc_Ta_scanSign 1 = .ok (.getfield 11, 3) := by decide +kernel
theorem d_Ta_scanSign_4 : decode bc_Ta_scanSign 4 = .ok (.iload_n 1, 1) := by decide +kernel
theorem d_Ta_scanSign_5 : decode bc_Ta_scanSign 5 = .ok (.iaload, 1) := by decide +kernel
theorem d_Ta_scanSign_6 : decode bc_Ta_scanSign 6 = .ok (.istore_n 2, 1) := by decide +kernel
theorem d_Ta_scanSign_7 : decode bc_Ta_scanSign 7 = .ok (.iload_n 1, 1) := by decide +kernel
theorem d_Ta_scanSign_8 : decode bc_Ta_scanSign 8 = .ok (.iconst 1, 1) := by decide +kernel
theorem d_Ta_scanSign_9 : decode bc_Ta_scanSign 9 = .ok (.iadd, 1) := by decide +kernel
theorem d_Ta_scanSign_10 : decode bc_Ta_scanSign 10 = .ok (.aload_n 0, 1) := by decide +kernel
theorem d_Ta_scanSign_11 : decode bc_Ta_scanSign 11 = .ok (.getfield 25, 3) := by decide +kernel
theorem d_Ta_scanSign_14 : decode bc_Ta_scanSign 14 = .ok (.if_icmp .ge 14, 3) := by decide +kernel
theorem d_Ta_scanSign_17 : decode bc_Ta_scanSign 17 = .ok (.aload_n 0, 1) := by decide +kernel
theorem d_Ta_scanSign_18 : decode bc_Ta_scanSign 18 = .ok (.getfield 11, 3) := by decide +kernel
theorem d_Ta_scanSign_21 : decode bc_Ta_scanSign 21 = .ok (.iload_n 1, 1) := by decide +kernel
theorem d_Ta_scanSign_22 : decode bc_Ta_scanSign 22 = .ok (.iconst 1, 1) := by decide +kernel
theorem d_Ta_scanSign_23 : decode bc_Ta_scanSign 23 = .ok (.iadd, 1) := by decide +kernel
theorem d_Ta_scanSign_24 : decode bc_Ta_scanSign 24 = .ok (.iaload, 1) := by decide +kernel
theorem d_Ta_scanSign_25 : decode bc_Ta_scanSign 25 = .ok (.goto 4, 3) := by decide +kernel
theorem d_Ta_scanSign_28 : decode bc_Ta_scanSign 28 = .ok (.iconst 0, 1) := by decide +kernel
theorem d_Ta_scanSign_29 : decode bc_Ta_scanSign 29 = .ok (.istore_n 3, 1) := by decide +kernel
theorem d_Ta_scanSign_30 : decode bc_Ta_scanSign 30 = .ok (.iload_n 2, 1) := by decide +kernel
theorem d_Ta_scanSign_31 : decode bc_Ta_scanSign 31 = .ok (.bipush 58, 2) := by decide +kernel
theorem d_Ta_scanSign_33 : decode bc_Ta_scanSign 33 = .ok (.if_icmp .ne 9, 3) := by decide +kernel
theorem d_Ta_scanSign_36 : decode bc_Ta_scanSign 36 = .ok (.iload_n 3, 1) := by decide +kernel
theorem d_Ta_scanSign_37 : decode bc_Ta_scanSign 37 = .ok (.bipush 58, 2) := by decide +kernel
theorem d_Ta_scanSign_39 : decode bc_Ta_scanSign 39 = .ok (.if_icmp .eq 15, 3) := by decide +kernel
theorem d_Ta_scanSign_42 : decode bc_Ta_scanSign 42 = .ok (.iload_n 2, 1) := by decide +kernel
theorem d_Ta_scanSign_43 : decode bc_Ta_scanSign 43 = .ok (.bipush 45, 2) := by decide +kernel
theorem d_Ta_scanSign_45 : decode bc_Ta_scanSign 45 = .ok (.if_icmp .ne 20, 3) := by decide +kernel
theorem d_Ta_scanSign_48 : decode bc_Ta_scanSign 48 = .ok (.iload_n 3, 1) := by decide +kernel
theorem d_Ta_scanSign_49 : decode bc_Ta_scanSign 49 = .ok (.bipush 62, 2) := by decide +kernel
theorem d_Ta_scanSign_51 : decode bc_Ta_scanSign 51 = .ok (.if_icmp .ne 14, 3) := by decide +kernel
theorem d_Ta_scanSign_54 : decode bc_Ta_scanSign 54 = .ok (.aload_n 0, 1) := by decide +kernel
theorem d_Ta_scanSign_55 : decode bc_Ta_scanSign 55 = .ok (.iload_n 2, 1) := by decide +kernel
theorem d_Ta_scanSign_56 : decode bc_Ta_scanSign 56 = .ok (.lconst 0, 1) := by decide +kernel
theorem d_Ta_scanSign_57 : decode bc_Ta_scanSign 57 = .ok (.iload_n 1, 1) := by decide +kernel
theorem d_Ta_scanSign_58 : decode bc_Ta_scanSign 58 = .ok (.invokevirtual 49, 3) := by decide +kernel
theorem d_Ta_scanSign_61 : decode bc_Ta_scanSign 61 = .ok (.iload_n 1, 1) := by decide +kernel
theorem d_Ta_scanSign_62 : decode bc_Ta_scanSign 62 = .ok (.iconst 2, 1) := by decide +kernel
theorem d_Ta_scanSign_63 : decode bc_Ta_scanSign 63 = .ok (.iadd, 1) := by decide +kernel
theorem d_Ta_scanSign_64 : decode bc_Ta_scanSign 64 = .ok (.ireturn, 1) := by decide +kernel
theorem d_Ta_scanSign_65 : decode bc_Ta_scanSign 65 = .ok (.aload_n 0, 1) := by decide +kernel
theorem d_Ta_scanSign_66 : decode bc_Ta_scanSign 66 = .ok (.ldc 60, 2) := by decide +kernel
theorem d_Ta_scanSign_68 : decode bc_Ta_scanSign 68 = .ok (.iload_n 2, 1) := by decide +kernel
theorem d_Ta_scanSign_69 : decode bc_Ta_scanSign 69 = .ok (.i2c, 1) := by decide +kernel
theorem d_Ta_scanSign_70 : decode bc_Ta_scanSign 70 = .ok (.invokevirtual 62, 3) := by decide +kernel
theorem d_Ta_scanSign_73 : decode bc_Ta_scanSign 73 = .ok (.ifCond .lt 7, 3) := by decide +kernel
theorem d_Ta_scanSign_76 : decode bc_Ta_scanSign 76 = .ok (.iload_n 2, 1) := by decide +kernel
theorem d_Ta_scanSign_77 : decode bc_Ta_scanSign 77 = .ok (.goto 4, 3) := by decide +kernel
theorem d_Ta_scanSign_80 : decode bc_Ta_scanSign 80 = .ok (.iconst 0, 1) := by decide +kernel
theorem d_Ta_scanSign_81 : decode bc_Ta_scanSign 81 = .ok (.lconst 0, 1) := by decide +kernel
theorem d_Ta_scanSign_82 : decode bc_Ta_scanSign 82 = .ok (.iload_n 1, 1) := by decide +kernel
theorem d_Ta_scanSign_83 : decode bc_Ta_scanSign 83 = .ok (.invokevirtual 49, 3) := by decide +kernel
theorem d_Ta_scanSign_86 : decode bc_Ta_scanSign 86 = .ok (.iload_n 1, 1) := by decide +kernel
theorem d_Ta_scanSign_87 : decode bc_Ta_scanSign 87 = .ok (.iconst 1, 1) := by decide +kernel
theorem d_Ta_scanSign_88 : decode bc_Ta_scanSign 88 = .ok (.iadd, 1) := by decide +kernel
theorem d_Ta_scanSign_89 : decode bc_Ta_scanSign 89 = .ok (.ireturn, 1) := by decide +kernel
abbrev bc_Ta_addToken : ByteArray := prog_11_method_7_code
abbrev y_Ta_addToken : MethodName := ⟨"KindRounds$Tape", "addToken", "(IJI)V"⟩
theorem d_Ta_addToken_0 : decode bc_Ta_addToken 0 = .ok (.aload_n 0, 1) := by decide +kernel
theorem d_Ta_addToken_1 : decode bc_Ta_addToken 1 = .ok (.getfield 29, 3) := by decide +kernel
theorem d_Ta_addToken_4 : decode bc_Ta_addToken 4 = .ok (.sipush 1200, 3) := by decide +kernel
theorem d_Ta_addToken_7 : decode bc_Ta_addToken 7 = .ok (.if_icmp .le 4, 3) := by decide +kernel
theorem d_Ta_addToken_10 : decode bc_Ta_addToken 10 = .ok (.return_, 1) := by decide +kernel
theorem d_Ta_addToken_11 : decode bc_Ta_addToken 11 = .ok (.aload_n 0, 1) := by decide +kernel
theorem d_Ta_addToken_12 : decode bc_Ta_addToken 12 = .ok (.getfield 15, 3) := by decide +kernel
theorem d_Ta_addToken_15 : decode bc_Ta_addToken 15 = .ok (.aload_n 0, 1) := by decide +kernel
theorem d_Ta_addToken_16 : decode bc_Ta_addToken 16 = .ok (.getfield 29, 3) := by decide +kernel
theorem d_Ta_addToken_19 : decode bc_Ta_addToken 19 = .ok (.iload_n 1, 1) := by decide +kernel
theorem d_Ta_addToken_20 : decode bc_Ta_addToken 20 = .ok (.iastore, 1) := by decide +kernel
theorem d_Ta_addToken_21 : decode bc_Ta_addToken 21 = .ok (.aload_n 0, 1) := by decide +kernel
theorem d_Ta_addToken_22 : decode bc_Ta_addToken 22 = .ok (.getfield 18, 3) := by decide +kernel
theorem d_Ta_addToken_25 : decode bc_Ta_addToken 25 = .ok (.aload_n 0, 1) := by decide +kernel
theorem d_Ta_addToken_26 : decode bc_Ta_addToken 26 = .ok (.getfield 29, 3) := by decide +kernel
theorem d_Ta_addToken_29 : decode bc_Ta_addToken 29 = .ok (.lload_n 2, 1) := by decide +kernel
theorem d_Ta_addToken_30 : decode bc_Ta_addToken 30 = .ok (.lastore, 1) := by decide +kernel
theorem d_Ta_addToken_31 : decode bc_Ta_addToken 31 = .ok (.aload_n 0, 1) := by decide +kernel
theorem d_Ta_addToken_32 : decode bc_Ta_addToken 32 = .ok (.getfield 22, 3) := by decide +kernel
theorem d_Ta_addToken_35 : decode bc_Ta_addToken 35 = .ok (.aload_n 0, 1) := by decide +kernel
theorem d_Ta_addToken_36 : decode bc_Ta_addToken 36 = .ok (.getfield 29, 3) := by decide +kernel
theorem d_Ta_addToken_39 : decode bc_Ta_addToken 39 = .ok (.iload 4, 2) := by decide +kernel
theorem d_Ta_addToken_41 : decode bc_Ta_addToken 41 = .ok (.iastore, 1) := by decide +kernel
theorem d_Ta_addToken_42 : decode bc_Ta_addToken 42 = .ok (.aload_n 0, 1) := by decide +kernel
theorem d_Ta_addToken_43 : decode bc_Ta_addToken 43 = .ok (.dup, 1) := by decide +kernel
theorem d_Ta_addToken_44 : decode bc_Ta_addToken 44 = .ok (.getfield 29, 3) := by decide +kernel
theorem d_Ta_addToken_47 : decode bc_Ta_addToken 47 = .ok (.iconst 1, 1) := by decide +kernel
theorem d_Ta_addToken_48 : decode bc_Ta_addToken 48 = .ok (.iadd, 1) := by decide +kernel
theorem d_Ta_addToken_49 : decode bc_Ta_addToken 49 = .ok (.putfield 29, 3) := by decide +kernel
theorem d_Ta_addToken_52 : decode bc_Ta_addToken 52 = .ok (.return_, 1) := by decide +kernel
abbrev bc_Ta_sort : ByteArray := prog_11_method_8_code
abbrev y_Ta_sort : MethodName := ⟨"KindRounds$Tape", "sort", "()I"⟩
theorem d_Ta_sort_0 : decode bc_Ta_sort 0 = .ok (.aload_n 0, 1) := by decide +kernel
theorem d_Ta_sort_1 : decode bc_Ta_sort 1 = .ok (.getfield 15, 3) := by decide +kernel
theorem d_Ta_sort_4 : decode bc_Ta_sort 4 = .ok (.aload_n 0, 1) := by decide +kernel
theorem d_Ta_sort_5 : decode bc_Ta_sort 5 = .ok (.getfield 32, 3) := by decide +kernel
theorem d_Ta_sort_8 : decode bc_Ta_sort 8 = .ok (.iaload, 1) := by decide +kernel
theorem d_Ta_sort_9 : decode bc_Ta_sort 9 = .ok (.ireturn, 1) := by decide +kernel
abbrev bc_Ta_name : ByteArray := prog_11_method_9_code
abbrev y_Ta_name : MethodName := ⟨"KindRounds$Tape", "name", "()J"⟩
theorem d_Ta_name_0 : decode bc_Ta_name 0 = .ok (.aload_n 0, 1) := by decide +kernel
theorem d_Ta_name_1 : decode bc_Ta_name 1 = .ok (.getfield 18, 3) := by decide +kernel
theorem d_Ta_name_4 : decode bc_Ta_name 4 = .ok (.aload_n 0, 1) := by decide +kernel
theorem d_Ta_name_5 : decode bc_Ta_name 5 = .ok (.getfield 32, 3) := by decide +kernel
theorem d_Ta_name_8 : decode bc_Ta_name 8 = .ok (.laload, 1) := by decide +kernel
theorem d_Ta_name_9 : decode bc_Ta_name 9 = .ok (.lreturn, 1) := by decide +kernel
abbrev bc_Ta_start : ByteArray := prog_11_method_10_code
abbrev y_Ta_start : MethodName := ⟨"KindRounds$Tape", "start", "()I"⟩
theorem d_Ta_start_0 : decode bc_Ta_start 0 = .ok (.aload_n 0, 1) := by decide +kernel
theorem d_Ta_start_1 : decode bc_Ta_start 1 = .ok (.getfield 22, 3) := by decide +kernel
theorem d_Ta_start_4 : decode bc_Ta_start 4 = .ok (.aload_n 0, 1) := by decide +kernel
theorem d_Ta_start_5 : decode bc_Ta_start 5 = .ok (.getfield 32, 3) := by decide +kernel
theorem d_Ta_start_8 : decode bc_Ta_start 8 = .ok (.iaload, 1) := by decide +kernel
theorem d_Ta_start_9 : decode bc_Ta_start 9 = .ok (.ireturn, 1) := by decide +kernel
abbrev bc_Ta_step : ByteArray := prog_11_method_11_code
abbrev y_Ta_step : MethodName := ⟨"KindRounds$Tape", "step", "()V"⟩
theorem d_Ta_step_0 : decode bc_Ta_step 0 = .ok (.aload_n 0, 1) := by decide +kernel
theorem d_Ta_step_1 : decode bc_Ta_step 1 = .ok (.getfield 32, 3) := by decide +kernel
theorem d_Ta_step_4 : decode bc_Ta_step 4 = .ok (.iconst 1, 1) := by decide +kernel
theorem d_Ta_step_5 : decode bc_Ta_step 5 = .ok (.iadd, 1) := by decide +kernel
theorem d_Ta_step_6 : decode bc_Ta_step 6 = .ok (.aload_n 0, 1) := by decide +kernel
theorem d_Ta_step_7 : decode bc_Ta_step 7 = .ok (.getfield 29, 3) := by decide +kernel
theorem d_Ta_step_10 : decode bc_Ta_step 10 = .ok (.if_icmp .ge 13, 3) := by decide +kernel
theorem d_Ta_step_13 : decode bc_Ta_step 13 = .ok (.aload_n 0, 1) := by decide +kernel
theorem d_Ta_step_14 : decode bc_Ta_step 14 = .ok (.dup, 1) := by decide +kernel
theorem d_Ta_step_15 : decode bc_Ta_step 15 = .ok (.getfield 32, 3) := by decide +kernel
theorem d_Ta_step_18 : decode bc_Ta_step 18 = .ok (.iconst 1, 1) := by decide +kernel
theorem d_Ta_step_19 : decode bc_Ta_step 19 = .ok (.iadd, 1) := by decide +kernel
theorem d_Ta_step_20 : decode bc_Ta_step 20 = .ok (.putfield 32, 3) := by decide +kernel
theorem d_Ta_step_23 : decode bc_Ta_step 23 = .ok (.return_, 1) := by decide +kernel
abbrev bc_Ta_sortOfSmall : ByteArray := prog_11_method_12_code
abbrev y_Ta_sortOfSmall : MethodName := ⟨"KindRounds$Tape", "sortOfSmall", "(J)I"⟩
theorem d_Ta_sortOfSmall_0 : decode bc_Ta_sortOfSmall 0 = .ok (.lload_n 0, 1) := by decide +kernel
theorem d_Ta_sortOfSmall_1 : decode bc_Ta_sortOfSmall 1 = .ok (.ldc2_w 67, 3) := by decide +kernel
theorem d_Ta_sortOfSmall_4 : decode bc_Ta_sortOfSmall 4 = .ok (.lcmp, 1) := by decide +kernel
theorem d_Ta_sortOfSmall_5 : decode bc_Ta_sortOfSmall 5 = .ok (.ifCond .ne 5, 3) := by decide +kernel
theorem d_Ta_sortOfSmall_8 : decode bc_Ta_sortOfSmall 8 = .ok (.iconst 4, 1) := by decide +kernel
theorem d_Ta_sortOfSmall_9 : decode bc_Ta_sortOfSmall 9 = .ok (.ireturn, 1) := by decide +kernel
theorem d_Ta_sortOfSmall_10 : decode bc_Ta_sortOfSmall 10 = .ok (.lload_n 0, 1) := by decide +kernel
theorem d_Ta_sortOfSmall_11 : decode bc_Ta_sortOfSmall 11 = .ok (.ldc2_w 69, 3) := by decide +kernel
theorem d_Ta_sortOfSmall_14 : decode bc_Ta_sortOfSmall 14 = .ok (.lcmp, 1) := by decide +kernel
theorem d_Ta_sortOfSmall_15 : decode bc_Ta_sortOfSmall 15 = .ok (.ifCond .ne 5, 3) := by decide +kernel
theorem d_Ta_sortOfSmall_18 : decode bc_Ta_sortOfSmall 18 = .ok (.iconst 5, 1) := by decide +kernel
theorem d_Ta_sortOfSmall_19 : decode bc_Ta_sortOfSmall 19 = .ok (.ireturn, 1) := by decide +kernel
theorem d_Ta_sortOfSmall_20 : decode bc_Ta_sortOfSmall 20 = .ok (.lload_n 0, 1) := by decide +kernel
theorem d_Ta_sortOfSmall_21 : decode bc_Ta_sortOfSmall 21 = .ok (.ldc2_w 71, 3) := by decide +kernel
theorem d_Ta_sortOfSmall_24 : decode bc_Ta_sortOfSmall 24 = .ok (.lcmp, 1) := by decide +kernel
theorem d_Ta_sortOfSmall_25 : decode bc_Ta_sortOfSmall 25 = .ok (.ifCond .ne 6, 3) := by decide +kernel
theorem d_Ta_sortOfSmall_28 : decode bc_Ta_sortOfSmall 28 = .ok (.bipush 6, 2) := by decide +kernel
theorem d_Ta_sortOfSmall_30 : decode bc_Ta_sortOfSmall 30 = .ok (.ireturn, 1) := by decide +kernel
theorem d_Ta_sortOfSmall_31 : decode bc_Ta_sortOfSmall 31 = .ok (.lload_n 0, 1) := by decide +kernel
theorem d_Ta_sortOfSmall_32 : decode bc_Ta_sortOfSmall 32 = .ok (.ldc2_w 73, 3) := by decide +kernel
theorem d_Ta_sortOfSmall_35 : decode bc_Ta_sortOfSmall 35 = .ok (.lcmp, 1) := by decide +kernel
theorem d_Ta_sortOfSmall_36 : decode bc_Ta_sortOfSmall 36 = .ok (.ifCond .ne 8, 3) := by decide +kernel
theorem d_Ta_sortOfSmall_39 : decode bc_Ta_sortOfSmall 39 = .ok (.bipush 7, 2) := by decide +kernel
theorem d_Ta_sortOfSmall_41 : decode bc_Ta_sortOfSmall 41 = .ok (.goto 4, 3) := by decide +kernel
theorem d_Ta_sortOfSmall_44 : decode bc_Ta_sortOfSmall 44 = .ok (.iconst 3, 1) := by decide +kernel
theorem d_Ta_sortOfSmall_45 : decode bc_Ta_sortOfSmall 45 = .ok (.ireturn, 1) := by decide +kernel
abbrev bc_Ta_isBigLetter : ByteArray := prog_11_method_13_code
abbrev y_Ta_isBigLetter : MethodName := ⟨"KindRounds$Tape", "isBigLetter", "(I)Z"⟩
theorem d_Ta_isBigLetter_0 : decode bc_Ta_isBigLetter 0 = .ok (.iload_n 0, 1) := by decide +kernel
theorem d_Ta_isBigLetter_1 : decode bc_Ta_isBigLetter 1 = .ok (.bipush 65, 2) := by decide +kernel
theorem d_Ta_isBigLetter_3 : decode bc_Ta_isBigLetter 3 = .ok (.if_icmp .lt 13, 3) := by decide +kernel
theorem d_Ta_isBigLetter_6 : decode bc_Ta_isBigLetter 6 = .ok (.iload_n 0, 1) := by decide +kernel
theorem d_Ta_isBigLetter_7 : decode bc_Ta_isBigLetter 7 = .ok (.bipush 90, 2) := by decide +kernel
theorem d_Ta_isBigLetter_9 : decode bc_Ta_isBigLetter 9 = .ok (.if_icmp .gt 7, 3) := by decide +kernel
theorem d_Ta_isBigLetter_12 : decode bc_Ta_isBigLetter 12 = .ok (.iconst 1, 1) := by decide +kernel
theorem d_Ta_isBigLetter_13 : decode bc_Ta_isBigLetter 13 = .ok (.goto 4, 3) := by decide +kernel
theorem d_Ta_isBigLetter_16 : decode bc_Ta_isBigLetter 16 = .ok (.iconst 0, 1) := by decide +kernel
theorem d_Ta_isBigLetter_17 : decode bc_Ta_isBigLetter 17 = .ok (.ireturn, 1) := by decide +kernel
abbrev bc_Ta_isSmallLetter : ByteArray := prog_11_method_14_code
abbrev y_Ta_isSmallLetter : MethodName := ⟨"KindRounds$Tape", "isSmallLetter", "(I)Z"⟩
theorem d_Ta_isSmallLetter_0 : decode bc_Ta_isSmallLetter 0 = .ok (.iload_n 0, 1) := by decide +kernel
theorem d_Ta_isSmallLetter_1 : decode bc_Ta_isSmallLetter 1 = .ok (.bipush 97, 2) := by decide +kernel
theorem d_Ta_isSmallLetter_3 : decode bc_Ta_isSmallLetter 3 = .ok (.if_icmp .lt 13, 3) := by decide +kernel
theorem d_Ta_isSmallLetter_6 : decode bc_Ta_isSmallLetter 6 = .ok (.iload_n 0, 1) := by decide +kernel
theorem d_Ta_isSmallLetter_7 : decode bc_Ta_isSmallLetter 7 = .ok (.bipush 122, 2) := by decide +kernel
theorem d_Ta_isSmallLetter_9 : decode bc_Ta_isSmallLetter 9 = .ok (.if_icmp .gt 7, 3) := by decide +kernel
theorem d_Ta_isSmallLetter_12 : decode bc_Ta_isSmallLetter 12 = .ok (.iconst 1, 1) := by decide +kernel
theorem d_Ta_isSmallLetter_13 : decode bc_Ta_isSmallLetter 13 = .ok (.goto 4, 3) := by decide +kernel
theorem d_Ta_isSmallLetter_16 : decode bc_Ta_isSmallLetter 16 = .ok (.iconst 0, 1) := by decide +kernel
theorem d_Ta_isSmallLetter_17 : decode bc_Ta_isSmallLetter 17 = .ok (.ireturn, 1) := by decide +kernel
abbrev bc_Ta_isNameByte : ByteArray := prog_11_method_15_code
abbrev y_Ta_isNameByte : MethodName := ⟨"KindRounds$Tape", "isNameByte", "(I)Z"⟩
theorem d_Ta_isNameByte_0 : decode bc_Ta_isNameByte 0 = .ok (.iload_n 0, 1) := by decide +kernel
theorem d_Ta_isNameByte_1 : decode bc_Ta_isNameByte 1 = .ok (.invokestatic 35, 3) := by decide +kernel
theorem d_Ta_isNameByte_4 : decode bc_Ta_isNameByte 4 = .ok (.ifCond .ne 22, 3) := by decide +kernel
theorem d_Ta_isNameByte_7 : decode bc_Ta_isNameByte 7 = .ok (.iload_n 0, 1) := by decide +kernel
theorem d_Ta_isNameByte_8 : decode bc_Ta_isNameByte 8 = .ok (.invokestatic 39, 3) := by decide +kernel
theorem d_Ta_isNameByte_11 : decode bc_Ta_isNameByte 11 = .ok (.ifCond .ne 15, 3) := by decide +kernel
theorem d_Ta_isNameByte_14 : decode bc_Ta_isNameByte 14 = .ok (.iload_n 0, 1) := by decide +kernel
theorem d_Ta_isNameByte_15 : decode bc_Ta_isNameByte 15 = .ok (.bipush 48, 2) := by decide +kernel
theorem d_Ta_isNameByte_17 : decode bc_Ta_isNameByte 17 = .ok (.if_icmp .lt 13, 3) := by decide +kernel
theorem d_Ta_isNameByte_20 : decode bc_Ta_isNameByte 20 = .ok (.iload_n 0, 1) := by decide +kernel
theorem d_Ta_isNameByte_21 : decode bc_Ta_isNameByte 21 = .ok (.bipush 57, 2) := by decide +kernel
theorem d_Ta_isNameByte_23 : decode bc_Ta_isNameByte 23 = .ok (.if_icmp .gt 7, 3) := by decide +kernel
theorem d_Ta_isNameByte_26 : decode bc_Ta_isNameByte 26 = .ok (.iconst 1, 1) := by decide +kernel
theorem d_Ta_isNameByte_27 : decode bc_Ta_isNameByte 27 = .ok (.goto 4, 3) := by decide +kernel
theorem d_Ta_isNameByte_30 : decode bc_Ta_isNameByte 30 = .ok (.iconst 0, 1) := by decide +kernel
theorem d_Ta_isNameByte_31 : decode bc_Ta_isNameByte 31 = .ok (.ireturn, 1) := by decide +kernel
abbrev bc_Li_clear : ByteArray := prog_5_method_2_code
abbrev y_Li_clear : MethodName := ⟨"KindRounds$Line", "clear", "()V"⟩
theorem d_Li_clear_0 : decode bc_Li_clear 0 = .ok (.aload_n 0, 1) := by decide +kernel
theorem d_Li_clear_1 : decode bc_Li_clear 1 = .ok (.iconst 0, 1) := by decide +kernel
theorem d_Li_clear_2 : decode bc_Li_clear 2 = .ok (.putfield 13, 3) := by decide +kernel
theorem d_Li_clear_5 : decode bc_Li_clear 5 = .ok (.return_, 1) := by decide +kernel
abbrev bc_Li_put : ByteArray := prog_5_method_3_code
abbrev y_Li_put : MethodName := ⟨"KindRounds$Line", "put", "(I)V"⟩
theorem d_Li_put_0 : decode bc_Li_put 0 = .ok (.aload_n 0, 1) := by decide +kernel
theorem d_Li_put_1 : decode bc_Li_put 1 = .ok (.getfield 13, 3) := by decide +kernel
theorem d_Li_put_4 : decode bc_Li_put 4 = .ok (.sipush 2400, 3) := by decide +kernel
theorem d_Li_put_7 : decode bc_Li_put 7 = .ok (.if_icmp .ge 24, 3) := by decide +kernel
theorem d_Li_put_10 : decode bc_Li_put 10 = .ok (.aload_n 0, 1) := by decide +kernel
theorem d_Li_put_11 : decode bc_Li_put 11 = .ok (.getfield 9, 3) := by decide +kernel
theorem d_Li_put_14 : decode bc_Li_put 14 = .ok (.aload_n 0, 1) := by decide +kernel
theorem d_Li_put_15 : decode bc_Li_put 15 = .ok (.getfield 13, 3) := by decide +kernel
theorem d_Li_put_18 : decode bc_Li_put 18 = .ok (.iload_n 1, 1) := by decide +kernel
theorem d_Li_put_19 : decode bc_Li_put 19 = .ok (.i2b, 1) := by decide +kernel
theorem d_Li_put_20 : decode bc_Li_put 20 = .ok (.bastore, 1) := by decide +kernel
theorem d_Li_put_21 : decode bc_Li_put 21 = .ok (.aload_n 0, 1) := by decide +kernel
theorem d_Li_put_22 : decode bc_Li_put 22 = .ok (.dup, 1) := by decide +kernel
theorem d_Li_put_23 : decode bc_Li_put 23 = .ok (.getfield 13, 3) := by decide +kernel
theorem d_Li_put_26 : decode bc_Li_put 26 = .ok (.iconst 1, 1) := by decide +kernel
theorem d_Li_put_27 : decode bc_Li_put 27 = .ok (.iadd, 1) := by decide +kernel
theorem d_Li_put_28 : decode bc_Li_put 28 = .ok (.putfield 13, 3) := by decide +kernel
theorem d_Li_put_31 : decode bc_Li_put 31 = .ok (.return_, 1) := by decide +kernel
abbrev bc_Li_putArrow : ByteArray := prog_5_method_4_code
abbrev y_Li_putArrow : MethodName := ⟨"KindRounds$Line", "putArrow", "()V"⟩
theorem d_Li_putArrow_0 : decode bc_Li_putArrow 0 = .ok (.aload_n 0, 1) := by decide +kernel
theorem d_Li_putArrow_1 : decode bc_Li_putArrow 1 = .ok (.bipush 45, 2) := by decide +kernel
theorem d_Li_putArrow_3 : decode bc_Li_putArrow 3 = .ok (.invokevirtual 17, 3) := by decide +kernel
theorem d_Li_putArrow_6 : decode bc_Li_putArrow 6 = .ok (.aload_n 0, 1) := by decide +kernel
theorem d_Li_putArrow_7 : decode bc_Li_putArrow 7 = .ok (.bipush 62, 2) := by decide +kernel
theorem d_Li_putArrow_9 : decode bc_Li_putArrow 9 = .ok (.invokevirtual 17, 3) := by decide +kernel
theorem d_Li_putArrow_12 : decode bc_Li_putArrow 12 = .ok (.return_, 1) := by decide +kernel
abbrev bc_Li_putName : ByteArray := prog_5_method_5_code
abbrev y_Li_putName : MethodName := ⟨"KindRounds$Line", "putName", "(J)V"⟩
theorem d_Li_putName_0 : decode bc_Li_putName 0 = .ok (.bipush 56, 2) := by decide +kernel
theorem d_Li_putName_2 : decode bc_Li_putName 2 = .ok (.istore_n 3, 1) := by decide +kernel
theorem d_Li_putName_3 : decode bc_Li_putName 3 = .ok (.iload_n 3, 1) := by decide +kernel
theorem d_Li_putName_4 : decode bc_Li_putName 4 = .ok (.ifCond .lt 30, 3) := by decide +kernel
theorem d_Li_putName_7 : decode bc_Li_putName 7 = .ok (.lload_n 1, 1) := by decide +kernel
theorem d_Li_putName_8 : decode bc_Li_putName 8 = .ok (.iload_n 3, 1) := by decide +kernel
theorem d_Li_putName_9 : decode bc_Li_putName 9 = .ok (.lushr, 1) := by decide +kernel
theorem d_Li_putName_10 : decode bc_Li_putName 10 = .ok (.l2i, 1) := by decide +kernel
theorem d_Li_putName_11 : decode bc_Li_putName 11 = .ok (.sipush 255, 3) := by decide +kernel
theorem d_Li_putName_14 : decode bc_Li_putName 14 = .ok (.iand, 1) := by decide +kernel
theorem d_Li_putName_15 : decode bc_Li_putName 15 = .ok (.istore 4, 2) := by decide +kernel
theorem d_Li_putName_17 : decode bc_Li_putName 17 = .ok (.iload 4, 2) := by decide +kernel
theorem d_Li_putName_19 : decode bc_Li_putName 19 = .ok (.ifCond .eq 9, 3) := by decide +kernel
theorem d_Li_putName_22 : decode bc_Li_putName 22 = .ok (.aload_n 0, 1) := by decide +kernel
theorem d_Li_putName_23 : decode bc_Li_putName 23 = .ok (.iload 4, 2) := by decide +kernel
theorem d_Li_putName_25 : decode bc_Li_putName 25 = .ok (.invokevirtual 17, 3) := by decide +kernel
theorem d_Li_putName_28 : decode bc_Li_putName 28 = .ok (.iinc 3 (-8), 3) := by decide +kernel
theorem d_Li_putName_31 : decode bc_Li_putName 31 = .ok (.goto (-28), 3) := by decide +kernel
theorem d_Li_putName_34 : decode bc_Li_putName 34 = .ok (.return_, 1) := by decide +kernel
abbrev bc_Li_copy : ByteArray := prog_5_method_6_code
abbrev y_Li_copy : MethodName := ⟨"KindRounds$Line", "copy", "(LKindRounds$Line;)V"⟩
theorem d_Li_copy_0 : decode bc_Li_copy 0 = .ok (.aload_n 1, 1) := by decide +kernel
theorem d_Li_copy_1 : decode bc_Li_copy 1 = .ok (.getfield 9, 3) := by decide +kernel
theorem d_Li_copy_4 : decode bc_Li_copy 4 = .ok (.iconst 0, 1) := by decide +kernel
theorem d_Li_copy_5 : decode bc_Li_copy 5 = .ok (.aload_n 0, 1) := by decide +kernel
theorem d_Li_copy_6 : decode bc_Li_copy 6 = .ok (.getfield 9, 3) := by decide +kernel
theorem d_Li_copy_9 : decode bc_Li_copy 9 = .ok (.iconst 0, 1) := by decide +kernel
theorem d_Li_copy_10 : decode bc_Li_copy 10 = .ok (.aload_n 1, 1) := by decide +kernel
theorem d_Li_copy_11 : decode bc_Li_copy 11 = .ok (.getfield 13, 3) := by decide +kernel
theorem d_Li_copy_14 : decode bc_Li_copy 14 = .ok (.invokestatic 21, 3) := by decide +kernel
theorem d_Li_copy_17 : decode bc_Li_copy 17 = .ok (.aload_n 0, 1) := by decide +kernel
theorem d_Li_copy_18 : decode bc_Li_copy 18 = .ok (.aload_n 1, 1) := by decide +kernel
theorem d_Li_copy_19 : decode bc_Li_copy 19 = .ok (.getfield 13, 3) := by decide +kernel
theorem d_Li_copy_22 : decode bc_Li_copy 22 = .ok (.putfield 13, 3) := by decide +kernel
theorem d_Li_copy_25 : decode bc_Li_copy 25 = .ok (.return_, 1) := by decide +kernel
abbrev bc_Fa_clear : ByteArray := prog_3_method_2_code
abbrev y_Fa_clear : MethodName := ⟨"KindRounds$Fault", "clear", "()V"⟩
theorem d_Fa_clear_0 : decode bc_Fa_clear 0 = .ok (.aload_n 0, 1) := by decide +kernel
theorem d_Fa_clear_1 : decode bc_Fa_clear 1 = .ok (.iconst 0, 1) := by decide +kernel
theorem d_Fa_clear_2 : decode bc_Fa_clear 2 = .ok (.putfield 19, 3) := by decide +kernel
theorem d_Fa_clear_5 : decode bc_Fa_clear 5 = .ok (.return_, 1) := by decide +kernel
abbrev bc_Fa_isThere : ByteArray := prog_3_method_3_code
abbrev y_Fa_isThere : MethodName := ⟨"KindRounds$Fault", "isThere", "()Z"⟩
theorem d_Fa_isThere_0 : decode bc_Fa_isThere 0 = .ok (.aload_n 0, 1) := by decide +kernel
theorem d_Fa_isThere_1 : decode bc_Fa_isThere 1 = .ok (.getfield 19, 3) := by decide +kernel
theorem d_Fa_isThere_4 : decode bc_Fa_isThere 4 = .ok (.ifCond .eq 7, 3) := by decide +kernel
theorem d_Fa_isThere_7 : decode bc_Fa_isThere 7 = .ok (.iconst 1, 1) := by decide +kernel
theorem d_Fa_isThere_8 : decode bc_Fa_isThere 8 = .ok (.goto 4, 3) := by decide +kernel
theorem d_Fa_isThere_11 : decode bc_Fa_isThere 11 = .ok (.iconst 0, 1) := by decide +kernel
theorem d_Fa_isThere_12 : decode bc_Fa_isThere 12 = .ok (.ireturn, 1) := by decide +kernel
abbrev bc_Fa_raise : ByteArray := prog_3_method_4_code
abbrev y_Fa_raise : MethodName := ⟨"KindRounds$Fault", "raise", "(II)V"⟩
theorem d_Fa_raise_0 : decode bc_Fa_raise 0 = .ok (.aload_n 0, 1) := by decide +kernel
theorem d_Fa_raise_1 : decode bc_Fa_raise 1 = .ok (.iload_n 1, 1) := by decide +kernel
theorem d_Fa_raise_2 : decode bc_Fa_raise 2 = .ok (.putfield 19, 3) := by decide +kernel
theorem d_Fa_raise_5 : decode bc_Fa_raise 5 = .ok (.aload_n 0, 1) := by decide +kernel
theorem d_Fa_raise_6 : decode bc_Fa_raise 6 = .ok (.iload_n 2, 1) := by decide +kernel
theorem d_Fa_raise_7 : decode bc_Fa_raise 7 = .ok (.putfield 23, 3) := by decide +kernel
theorem d_Fa_raise_10 : decode bc_Fa_raise 10 = .ok (.return_, 1) := by decide +kernel
abbrev bc_Ki_clear : ByteArray := prog_4_method_2_code
abbrev y_Ki_clear : MethodName := ⟨"KindRounds$Kinds", "clear", "()V"⟩
theorem d_Ki_clear_0 : decode bc_Ki_clear 0 = .ok (.aload_n 0, 1) := by decide +kernel
theorem d_Ki_clear_1 : decode bc_Ki_clear 1 = .ok (.iconst 1, 1) := by decide +kernel
theorem d_Ki_clear_2 : decode bc_Ki_clear 2 = .ok (.putfield 30, 3) := by decide +kernel
theorem d_Ki_clear_5 : decode bc_Ki_clear 5 = .ok (.aload_n 0, 1) := by decide +kernel
theorem d_Ki_clear_6 : decode bc_Ki_clear 6 = .ok (.aload_n 0, 1) := by decide +kernel
theorem d_Ki_clear_7 : decode bc_Ki_clear 7 = .ok (.getfield 30, 3) := by decide +kernel
theorem d_Ki_clear_10 : decode bc_Ki_clear 10 = .ok (.putfield 34, 3) := by decide +kernel
theorem d_Ki_clear_13 : decode bc_Ki_clear 13 = .ok (.return_, 1) := by decide +kernel
abbrev bc_Ki_makeOpen : ByteArray := prog_4_method_3_code
abbrev y_Ki_makeOpen : MethodName := ⟨"KindRounds$Kinds", "makeOpen", "()I"⟩
theorem d_Ki_makeOpen_0 : decode bc_Ki_makeOpen 0 = .ok (.aload_n 0, 1) := by decide +kernel
theorem d_Ki_makeOpen_1 : decode bc_Ki_makeOpen 1 = .ok (.getfield 30, 3) := by decide +kernel
theorem d_Ki_makeOpen_4 : decode bc_Ki_makeOpen 4 = .ok (.sipush 1713, 3) := by decide +kernel
theorem d_Ki_makeOpen_7 : decode bc_Ki_makeOpen 7 = .ok (.if_icmp .lt 5, 3) := by decide +kernel
theorem d_Ki_makeOpen_10 : decode bc_Ki_makeOpen 10 = .ok (.iconst 0, 1) := by decide +kernel
theorem d_Ki_makeOpen_11 : decode bc_Ki_makeOpen 11 = .ok (.ireturn, 1) := by decide +kernel
theorem d_Ki_makeOpen_12 : decode bc_Ki_makeOpen 12 = .ok (.aload_n 0, 1) := by decide +kernel
theorem d_Ki_makeOpen_13 : decode bc_Ki_makeOpen 13 = .ok (.getfield 11, 3) := by decide +kernel
theorem d_Ki_makeOpen_16 : decode bc_Ki_makeOpen 16 = .ok (.aload_n 0, 1) := by decide +kernel
theorem d_Ki_makeOpen_17 : decode bc_Ki_makeOpen 17 = .ok (.getfield 30, 3) := by decide +kernel
theorem d_Ki_makeOpen_20 : decode bc_Ki_makeOpen 20 = .ok (.iconst (-1), 1) := by decide +kernel
theorem d_Ki_makeOpen_21 : decode bc_Ki_makeOpen 21 = .ok (.iastore, 1) := by decide +kernel
theorem d_Ki_makeOpen_22 : decode bc_Ki_makeOpen 22 = .ok (.aload_n 0, 1) := by decide +kernel
theorem d_Ki_makeOpen_23 : decode bc_Ki_makeOpen 23 = .ok (.getfield 18, 3) := by decide +kernel
theorem d_Ki_makeOpen_26 : decode bc_Ki_makeOpen 26 = .ok (.aload_n 0, 1) := by decide +kernel
theorem d_Ki_makeOpen_27 : decode bc_Ki_makeOpen 27 = .ok (.getfield 30, 3) := by decide +kernel
theorem d_Ki_makeOpen_30 : decode bc_Ki_makeOpen 30 = .ok (.iconst (-1), 1) := by decide +kernel
theorem d_Ki_makeOpen_31 : decode bc_Ki_makeOpen 31 = .ok (.iastore, 1) := by decide +kernel
theorem d_Ki_makeOpen_32 : decode bc_Ki_makeOpen 32 = .ok (.aload_n 0, 1) := by decide +kernel
theorem d_Ki_makeOpen_33 : decode bc_Ki_makeOpen 33 = .ok (.dup, 1) := by decide +kernel
theorem d_Ki_makeOpen_34 : decode bc_Ki_makeOpen 34 = .ok (.getfield 30, 3) := by decide +kernel
theorem d_Ki_makeOpen_37 : decode bc_Ki_makeOpen 37 = .ok (.iconst 1, 1) := by decide +kernel
theorem d_Ki_makeOpen_38 : decode bc_Ki_makeOpen 38 = .ok (.iadd, 1) := by decide +kernel
theorem d_Ki_makeOpen_39 : decode bc_Ki_makeOpen 39 = .ok (.putfield 30, 3) := by decide +kernel
theorem d_Ki_makeOpen_42 : decode bc_Ki_makeOpen 42 = .ok (.aload_n 0, 1) := by decide +kernel
theorem d_Ki_makeOpen_43 : decode bc_Ki_makeOpen 43 = .ok (.getfield 30, 3) := by decide +kernel
theorem d_Ki_makeOpen_46 : decode bc_Ki_makeOpen 46 = .ok (.iconst 1, 1) := by decide +kernel
theorem d_Ki_makeOpen_47 : decode bc_Ki_makeOpen 47 = .ok (.isub, 1) := by decide +kernel
theorem d_Ki_makeOpen_48 : decode bc_Ki_makeOpen 48 = .ok (.ireturn, 1) := by decide +kernel
abbrev bc_Ki_makeArrow : ByteArray := prog_4_method_4_code
abbrev y_Ki_makeArrow : MethodName := ⟨"KindRounds$Kinds", "makeArrow", "(II)I"⟩
theorem d_Ki_makeArrow_0 : decode bc_Ki_makeArrow 0 = .ok (.aload_n 0, 1) := by decide +kernel
theorem d_Ki_makeArrow_1 : decode bc_Ki_makeArrow 1 = .ok (.getfield 30, 3) := by decide +kernel
theorem d_Ki_makeArrow_4 : decode bc_Ki_makeArrow 4 = .ok (.sipush 1713, 3) := by decide +kernel
theorem d_Ki_makeArrow_7 : decode bc_Ki_makeArrow 7 = .ok (.if_icmp .lt 5, 3) := by decide +kernel
theorem d_Ki_makeArrow_10 : decode bc_Ki_makeArrow 10 = .ok (.iconst 0, 1) := by decide +kernel
theorem d_Ki_makeArrow_11 : decode bc_Ki_makeArrow 11 = .ok (.ireturn, 1) := by decide +kernel
theorem d_Ki_makeArrow_12 : decode bc_Ki_makeArrow 12 = .ok (.aload_n 0, 1) := by decide +kernel
theorem d_Ki_makeArrow_13 : decode bc_Ki_makeArrow 13 = .ok (.getfield 11, 3) := by decide +kernel
theorem d_Ki_makeArrow_16 : decode bc_Ki_makeArrow 16 = .ok (.aload_n 0, 1) := by decide +kernel
theorem d_Ki_makeArrow_17 : decode bc_Ki_makeArrow 17 = .ok (.getfield 30, 3) := by decide +kernel
theorem d_Ki_makeArrow_20 : decode bc_Ki_makeArrow 20 = .ok (.iload_n 1, 1) := by decide +kernel
theorem d_Ki_makeArrow_21 : decode bc_Ki_makeArrow 21 = .ok (.iastore, 1) := by decide +kernel
theorem d_Ki_makeArrow_22 : decode bc_Ki_makeArrow 22 = .ok (.aload_n 0, 1) := by decide +kernel
theorem d_Ki_makeArrow_23 : decode bc_Ki_makeArrow 23 = .ok (.getfield 15, 3) := by decide +kernel
theorem d_Ki_makeArrow_26 : decode bc_Ki_makeArrow 26 = .ok (.aload_n 0, 1) := by decide +kernel
theorem d_Ki_makeArrow_27 : decode bc_Ki_makeArrow 27 = .ok (.getfield 30, 3) := by decide +kernel
theorem d_Ki_makeArrow_30 : decode bc_Ki_makeArrow 30 = .ok (.iload_n 2, 1) := by decide +kernel
theorem d_Ki_makeArrow_31 : decode bc_Ki_makeArrow 31 = .ok (.iastore, 1) := by decide +kernel
theorem d_Ki_makeArrow_32 : decode bc_Ki_makeArrow 32 = .ok (.aload_n 0, 1) := by decide +kernel
theorem d_Ki_makeArrow_33 : decode bc_Ki_makeArrow 33 = .ok (.getfield 18, 3) := by decide +kernel
theorem d_Ki_makeArrow_36 : decode bc_Ki_makeArrow 36 = .ok (.aload_n 0, 1) := by decide +kernel
theorem d_Ki_makeArrow_37 : decode bc_Ki_makeArrow 37 = .ok (.getfield 30, 3) := by decide +kernel
theorem d_Ki_makeArrow_40 : decode bc_Ki_makeArrow 40 = .ok (.iconst (-1), 1) := by decide +kernel
theorem d_Ki_makeArrow_41 : decode bc_Ki_makeArrow 41 = .ok (.iastore, 1) := by decide +kernel
theorem d_Ki_makeArrow_42 : decode bc_Ki_makeArrow 42 = .ok (.aload_n 0, 1) := by decide +kernel
theorem d_Ki_makeArrow_43 : decode bc_Ki_makeArrow 43 = .ok (.dup, 1) := by decide +kernel
theorem d_Ki_makeArrow_44 : decode bc_Ki_makeArrow 44 = .ok (.getfield 30, 3) := by decide +kernel
theorem d_Ki_makeArrow_47 : decode bc_Ki_makeArrow 47 = .ok (.iconst 1, 1) := by decide +kernel
theorem d_Ki_makeArrow_48 : decode bc_Ki_makeArrow 48 = .ok (.iadd, 1) := by decide +kernel
theorem d_Ki_makeArrow_49 : decode bc_Ki_makeArrow 49 = .ok (.putfield 30, 3) := by decide +kernel
theorem d_Ki_makeArrow_52 : decode bc_Ki_makeArrow 52 = .ok (.aload_n 0, 1) := by decide +kernel
theorem d_Ki_makeArrow_53 : decode bc_Ki_makeArrow 53 = .ok (.getfield 30, 3) := by decide +kernel
theorem d_Ki_makeArrow_56 : decode bc_Ki_makeArrow 56 = .ok (.iconst 1, 1) := by decide +kernel
theorem d_Ki_makeArrow_57 : decode bc_Ki_makeArrow 57 = .ok (.isub, 1) := by decide +kernel
theorem d_Ki_makeArrow_58 : decode bc_Ki_makeArrow 58 = .ok (.ireturn, 1) := by decide +kernel
abbrev bc_Ki_find : ByteArray := prog_4_method_5_code
abbrev y_Ki_find : MethodName := ⟨"KindRounds$Kinds", "find", "(I)I"⟩
theorem d_Ki_find_0 : decode bc_Ki_find 0 = .ok (.iload_n 1, 1) := by decide +kernel
theorem d_Ki_find_1 : decode bc_Ki_find 1 = .ok (.istore_n 2, 1) := by decide +kernel
theorem d_Ki_find_2 : decode bc_Ki_find 2 = .ok (.iconst 0, 1) := by decide +kernel
theorem d_Ki_find_3 : decode bc_Ki_find 3 = .ok (.istore_n 3, 1) := by decide +kernel
theorem d_Ki_find_4 : decode bc_Ki_find 4 = .ok (.iload_n 3, 1) := by decide +kernel
theorem d_Ki_find_5 : decode bc_Ki_find 5 = .ok (.sipush 1713, 3) := by decide +kernel
theorem d_Ki_find_8 : decode bc_Ki_find 8 = .ok (.if_icmp .ge 26, 3) := by decide +kernel
theorem d_Ki_find_11 : decode bc_Ki_find 11 = .ok (.aload_n 0, 1) := by decide +kernel
theorem d_Ki_find_12 : decode bc_Ki_find 12 = .ok (.getfield 18, 3) := by decide +kernel
theorem d_Ki_find_15 : decode bc_Ki_find 15 = .ok (.iload_n 2, 1) := by decide +kernel
theorem d_Ki_find_16 : decode bc_Ki_find 16 = .ok (.iaload, 1) := by decide +kernel
theorem d_Ki_find_17 : decode bc_Ki_find 17 = .ok (.iconst (-1), 1) := by decide +kernel
theorem d_Ki_find_18 : decode bc_Ki_find 18 = .ok (.if_icmp .eq 16, 3) := by decide +kernel
theorem d_Ki_find_21 : decode bc_Ki_find 21 = .ok (.aload_n 0, 1) := by decide +kernel
theorem d_Ki_find_22 : decode bc_Ki_find 22 = .ok (.getfield 18, 3) := by decide +kernel
theorem d_Ki_find_25 : decode bc_Ki_find 25 = .ok (.iload_n 2, 1) := by decide +kernel
theorem d_Ki_find_26 : decode bc_Ki_find 26 = .ok (.iaload, 1) := by decide +kernel
theorem d_Ki_find_27 : decode bc_Ki_find 27 = .ok (.istore_n 2, 1) := by decide +kernel
theorem d_Ki_find_28 : decode bc_Ki_find 28 = .ok (.iinc 3 1, 3) := by decide +kernel
theorem d_Ki_find_31 : decode bc_Ki_find 31 = .ok (.goto (-27), 3) := by decide +kernel
theorem d_Ki_find_34 : decode bc_Ki_find 34 = .ok (.iload_n 2, 1) := by decide +kernel
theorem d_Ki_find_35 : decode bc_Ki_find 35 = .ok (.ireturn, 1) := by decide +kernel
abbrev bc_Ki_isOpen : ByteArray := prog_4_method_6_code
abbrev y_Ki_isOpen : MethodName := ⟨"KindRounds$Kinds", "isOpen", "(I)Z"⟩
theorem d_Ki_isOpen_0 : decode bc_Ki_isOpen 0 = .ok (.iload_n 1, 1) := by decide +kernel
theorem d_Ki_isOpen_1 : decode bc_Ki_isOpen 1 = .ok (.ifCond .eq 17, 3) := by decide +kernel
theorem d_Ki_isOpen_4 : decode bc_Ki_isOpen 4 = .ok (.aload_n 0, 1) := by decide +kernel
theorem d_Ki_isOpen_5 : decode bc_Ki_isOpen 5 = .ok (.getfield 11, 3) := by decide +kernel
theorem d_Ki_isOpen_8 : decode bc_Ki_isOpen 8 = .ok (.iload_n 1, 1) := by decide +kernel
theorem d_Ki_isOpen_9 : decode bc_Ki_isOpen 9 = .ok (.iaload, 1) := by decide +kernel
theorem d_Ki_isOpen_10 : decode bc_Ki_isOpen 10 = .ok (.iconst (-1), 1) := by decide +kernel
theorem d_Ki_isOpen_11 : decode bc_Ki_isOpen 11 = .ok (.if_icmp .ne 7, 3) := by decide +kernel
theorem d_Ki_isOpen_14 : decode bc_Ki_isOpen 14 = .ok (.iconst 1, 1) := by decide +kernel
theorem d_Ki_isOpen_15 : decode bc_Ki_isOpen 15 = .ok (.goto 4, 3) := by decide +kernel
theorem d_Ki_isOpen_18 : decode bc_Ki_isOpen 18 = .ok (.iconst 0, 1) := by decide +kernel
theorem d_Ki_isOpen_19 : decode bc_Ki_isOpen 19 = .ok (.ireturn, 1) := by decide +kernel
abbrev bc_Ki_isArrow : ByteArray := prog_4_method_7_code
abbrev y_Ki_isArrow : MethodName := ⟨"KindRounds$Kinds", "isArrow", "(I)Z"⟩
theorem d_Ki_isArrow_0 : decode bc_Ki_isArrow 0 = .ok (.iload_n 1, 1) := by decide +kernel
theorem d_Ki_isArrow_1 : decode bc_Ki_isArrow 1 = .ok (.ifCond .eq 17, 3) := by decide +kernel
theorem d_Ki_isArrow_4 : decode bc_Ki_isArrow 4 = .ok (.aload_n 0, 1) := by decide +kernel
theorem d_Ki_isArrow_5 : decode bc_Ki_isArrow 5 = .ok (.getfield 11, 3) := by decide +kernel
theorem d_Ki_isArrow_8 : decode bc_Ki_isArrow 8 = .ok (.iload_n 1, 1) := by decide +kernel
theorem d_Ki_isArrow_9 : decode bc_Ki_isArrow 9 = .ok (.iaload, 1) := by decide +kernel
theorem d_Ki_isArrow_10 : decode bc_Ki_isArrow 10 = .ok (.iconst (-1), 1) := by decide +kernel
theorem d_Ki_isArrow_11 : decode bc_Ki_isArrow 11 = .ok (.if_icmp .eq 7, 3) := by decide +kernel
theorem d_Ki_isArrow_14 : decode bc_Ki_isArrow 14 = .ok (.iconst 1, 1) := by decide +kernel
theorem d_Ki_isArrow_15 : decode bc_Ki_isArrow 15 = .ok (.goto 4, 3) := by decide +kernel
theorem d_Ki_isArrow_18 : decode bc_Ki_isArrow 18 = .ok (.iconst 0, 1) := by decide +kernel
theorem d_Ki_isArrow_19 : decode bc_Ki_isArrow 19 = .ok (.ireturn, 1) := by decide +kernel
abbrev bc_Ki_push : ByteArray := prog_4_method_8_code
abbrev y_Ki_push : MethodName := ⟨"KindRounds$Kinds", "push", "(I)V"⟩
theorem d_Ki_push_0 : decode bc_Ki_push 0 = .ok (.aload_n 0, 1) := by decide +kernel
theorem d_Ki_push_1 : decode bc_Ki_push 1 = .ok (.getfield 37, 3) := by decide +kernel
theorem d_Ki_push_4 : decode bc_Ki_push 4 = .ok (.aload_n 0, 1) := by decide +kernel
theorem d_Ki_push_5 : decode bc_Ki_push 5 = .ok (.getfield 27, 3) := by decide +kernel
theorem d_Ki_push_8 : decode bc_Ki_push 8 = .ok (.arraylength, 1) := by decide +kernel
theorem d_Ki_push_9 : decode bc_Ki_push 9 = .ok (.if_icmp .ge 23, 3) := by decide +kernel
theorem d_Ki_push_12 : decode bc_Ki_push 12 = .ok (.aload_n 0, 1) := by decide +kernel
theorem d_Ki_push_13 : decode bc_Ki_push 13 = .ok (.getfield 27, 3) := by decide +kernel
theorem d_Ki_push_16 : decode bc_Ki_push 16 = .ok (.aload_n 0, 1) := by decide +kernel
theorem d_Ki_push_17 : decode bc_Ki_push 17 = .ok (.getfield 37, 3) := by decide +kernel
theorem d_Ki_push_20 : decode bc_Ki_push 20 = .ok (.iload_n 1, 1) := by decide +kernel
theorem d_Ki_push_21 : decode bc_Ki_push 21 = .ok (.iastore, 1) := by decide +kernel
theorem d_Ki_push_22 : decode bc_Ki_push 22 = .ok (.aload_n 0, 1) := by decide +kernel
theorem d_Ki_push_23 : decode bc_Ki_push 23 = .ok (.dup, 1) := by decide +kernel
theorem d_Ki_push_24 : decode bc_Ki_push 24 = .ok (.getfield 37, 3) := by decide +kernel
theorem d_Ki_push_27 : decode bc_Ki_push 27 = .ok (.iconst 1, 1) := by decide +kernel
theorem d_Ki_push_28 : decode bc_Ki_push 28 = .ok (.iadd, 1) := by decide +kernel
theorem d_Ki_push_29 : decode bc_Ki_push 29 = .ok (.putfield 37, 3) := by decide +kernel
theorem d_Ki_push_32 : decode bc_Ki_push 32 = .ok (.return_, 1) := by decide +kernel
abbrev bc_Ki_pop : ByteArray := prog_4_method_9_code
abbrev y_Ki_pop : MethodName := ⟨"KindRounds$Kinds", "pop", "()I"⟩
theorem d_Ki_pop_0 : decode bc_Ki_pop 0 = .ok (.aload_n 0, 1) := by decide +kernel
theorem d_Ki_pop_1 : decode bc_Ki_pop 1 = .ok (.getfield 37, 3) := by decide +kernel
theorem d_Ki_pop_4 : decode bc_Ki_pop 4 = .ok (.ifCond .ne 5, 3) := by decide +kernel
theorem d_Ki_pop_7 : decode bc_Ki_pop 7 = .ok (.iconst 0, 1) := by decide +kernel
theorem d_Ki_pop_8 : decode bc_Ki_pop 8 = .ok (.ireturn, 1) := by decide +kernel
theorem d_Ki_pop_9 : decode bc_Ki_pop 9 = .ok (.aload_n 0, 1) := by decide +kernel
theorem d_Ki_pop_10 : decode bc_Ki_pop 10 = .ok (.dup, 1) := by decide +kernel
theorem d_Ki_pop_11 : decode bc_Ki_pop 11 = .ok (.getfield 37, 3) := by decide +kernel
theorem d_Ki_pop_14 : decode bc_Ki_pop 14 = .ok (.iconst 1, 1) := by decide +kernel
theorem d_Ki_pop_15 : decode bc_Ki_pop 15 = .ok (.isub, 1) := by decide +kernel
theorem d_Ki_pop_16 : decode bc_Ki_pop 16 = .ok (.putfield 37, 3) := by decide +kernel
theorem d_Ki_pop_19 : decode bc_Ki_pop 19 = .ok (.aload_n 0, 1) := by decide +kernel
theorem d_Ki_pop_20 : decode bc_Ki_pop 20 = .ok (.getfield 27, 3) := by decide +kernel
theorem d_Ki_pop_23 : decode bc_Ki_pop 23 = .ok (.aload_n 0, 1) := by decide +kernel
theorem d_Ki_pop_24 : decode bc_Ki_pop 24 = .ok (.getfield 37, 3) := by decide +kernel
theorem d_Ki_pop_27 : decode bc_Ki_pop 27 = .ok (.iaload, 1) := by decide +kernel
theorem d_Ki_pop_28 : decode bc_Ki_pop 28 = .ok (.ireturn, 1) := by decide +kernel
abbrev bc_Ki_unify : ByteArray := prog_4_method_10_code
abbrev y_Ki_unify : MethodName := ⟨"KindRounds$Kinds", "unify", "(II)Z"⟩
theorem d_Ki_unify_0 : decode bc_Ki_unify 0 = .ok (.aload_n 0, 1) := by decide +kernel
theorem d_Ki_unify_1 : decode bc_Ki_unify 1 = .ok (.iconst 0, 1) := by decide +kernel
theorem d_Ki_unify_2 : decode bc_Ki_unify 2 = .ok (.putfield 40, 3) := by decide +kernel
theorem d_Ki_unify_5 : decode bc_Ki_unify 5 = .ok (.aload_n 0, 1) := by decide +kernel
theorem d_Ki_unify_6 : decode bc_Ki_unify 6 = .ok (.iconst 0, 1) := by decide +kernel
theorem d_Ki_unify_7 : decode bc_Ki_unify 7 = .ok (.putfield 37, 3) := by decide +kernel
theorem d_Ki_unify_10 : decode bc_Ki_unify 10 = .ok (.aload_n 0, 1) := by decide +kernel
theorem d_Ki_unify_11 : decode bc_Ki_unify 11 = .ok (.iload_n 1, 1) := by decide +kernel
theorem d_Ki_unify_12 : decode bc_Ki_unify 12 = .ok (.invokevirtual 43, 3) := by decide +kernel
theorem d_Ki_unify_15 : decode bc_Ki_unify 15 = .ok (.aload_n 0, 1) := by decide +kernel
theorem d_Ki_unify_16 : decode bc_Ki_unify 16 = .ok (.iload_n 2, 1) := by decide +kernel
theorem d_Ki_unify_17 : decode bc_Ki_unify 17 = .ok (.invokevirtual 43, 3) := by decide +kernel
theorem d_Ki_unify_20 : decode bc_Ki_unify 20 = .ok (.iconst 1, 1) := by decide +kernel
theorem d_Ki_unify_21 : decode bc_Ki_unify 21 = .ok (.istore_n 3, 1) := by decide +kernel
theorem d_Ki_unify_22 : decode bc_Ki_unify 22 = .ok (.iconst 0, 1) := by decide +kernel
theorem d_Ki_unify_23 : decode bc_Ki_unify 23 = .ok (.istore 4, 2) := by decide +kernel
theorem d_Ki_unify_25 : decode bc_Ki_unify 25 = .ok (.iload 4, 2) := by decide +kernel
theorem d_Ki_unify_27 : decode bc_Ki_unify 27 = .ok (.ldc 47, 2) := by decide +kernel
theorem d_Ki_unify_29 : decode bc_Ki_unify 29 = .ok (.if_icmp .ge 59, 3) := by decide +kernel
theorem d_Ki_unify_32 : decode bc_Ki_unify 32 = .ok (.aload_n 0, 1) := by decide +kernel
theorem d_Ki_unify_33 : decode bc_Ki_unify 33 = .ok (.getfield 37, 3) := by decide +kernel
theorem d_Ki_unify_36 : decode bc_Ki_unify 36 = .ok (.ifCond .le 52, 3) := by decide +kernel
theorem d_Ki_unify_39 : decode bc_Ki_unify 39 = .ok (.iload_n 3, 1) := by decide +kernel
theorem d_Ki_unify_40 : decode bc_Ki_unify 40 = .ok (.ifCond .eq 48, 3) := by decide +kernel
theorem d_Ki_unify_43 : decode bc_Ki_unify 43 = .ok (.aload_n 0, 1) := by decide +kernel
theorem d_Ki_unify_44 : decode bc_Ki_unify 44 = .ok (.aload_n 0, 1) := by decide +kernel
theorem d_Ki_unify_45 : decode bc_Ki_unify 45 = .ok (.invokevirtual 48, 3) := by decide +kernel
theorem d_Ki_unify_48 : decode bc_Ki_unify 48 = .ok (.invokevirtual 52, 3) := by decide +kernel
theorem d_Ki_unify_51 : decode bc_Ki_unify 51 = .ok (.istore 5, 2) := by decide +kernel
theorem d_Ki_unify_53 : decode bc_Ki_unify 53 = .ok (.aload_n 0, 1) := by decide +kernel
theorem d_Ki_unify_54 : decode bc_Ki_unify 54 = .ok (.aload_n 0, 1) := by decide +kernel
theorem d_Ki_unify_55 : decode bc_Ki_unify 55 = .ok (.invokevirtual 48, 3) := by decide +kernel
theorem d_Ki_unify_58 : decode bc_Ki_unify 58 = .ok (.invokevirtual 52, 3) := by decide +kernel
theorem d_Ki_unify_61 : decode bc_Ki_unify 61 = .ok (.istore 6, 2) := by decide +kernel
theorem d_Ki_unify_63 : decode bc_Ki_unify 63 = .ok (.aload_n 0, 1) := by decide +kernel
theorem d_Ki_unify_64 : decode bc_Ki_unify 64 = .ok (.iload 5, 2) := by decide +kernel
theorem d_Ki_unify_66 : decode bc_Ki_unify 66 = .ok (.iload 6, 2) := by decide +kernel
theorem d_Ki_unify_68 : decode bc_Ki_unify 68 = .ok (.invokestatic 56, 3) := by decide +kernel
theorem d_Ki_unify_71 : decode bc_Ki_unify 71 = .ok (.iload 5, 2) := by decide +kernel
theorem d_Ki_unify_73 : decode bc_Ki_unify 73 = .ok (.iload 6, 2) := by decide +kernel
theorem d_Ki_unify_75 : decode bc_Ki_unify 75 = .ok (.invokestatic 62, 3) := by decide +kernel
theorem d_Ki_unify_78 : decode bc_Ki_unify 78 = .ok (.invokevirtual 65, 3) := by decide +kernel
theorem d_Ki_unify_81 : decode bc_Ki_unify 81 = .ok (.istore_n 3, 1) := by decide +kernel
theorem d_Ki_unify_82 : decode bc_Ki_unify 82 = .ok (.iinc 4 1, 3) := by decide +kernel
theorem d_Ki_unify_85 : decode bc_Ki_unify 85 = .ok (.goto (-60), 3) := by decide +kernel
theorem d_Ki_unify_88 : decode bc_Ki_unify 88 = .ok (.iload_n 3, 1) := by decide +kernel
theorem d_Ki_unify_89 : decode bc_Ki_unify 89 = .ok (.ifCond .eq 13, 3) := by decide +kernel
theorem d_Ki_unify_92 : decode bc_Ki_unify 92 = .ok (.aload_n 0, 1) := by decide +kernel
theorem d_Ki_unify_93 : decode bc_Ki_unify 93 = .ok (.iload_n 1, 1) := by decide +kernel
theorem d_Ki_unify_94 : decode bc_Ki_unify 94 = .ok (.invokevirtual 69, 3) := by decide +kernel
theorem d_Ki_unify_97 : decode bc_Ki_unify 97 = .ok (.ifCond .ne 5, 3) := by decide +kernel
theorem d_Ki_unify_100 : decode bc_Ki_unify 100 = .ok (.iconst 1, 1) := by decide +kernel
theorem d_Ki_unify_101 : decode bc_Ki_unify 101 = .ok (.ireturn, 1) := by decide +kernel
theorem d_Ki_unify_102 : decode bc_Ki_unify 102 = .ok (.iconst 0, 1) := by decide +kernel
theorem d_Ki_unify_103 : decode bc_Ki_unify 103 = .ok (.istore 4, 2) := by decide +kernel
theorem d_Ki_unify_105 : decode bc_Ki_unify 105 = .ok (.iload 4, 2) := by decide +kernel
theorem d_Ki_unify_107 : decode bc_Ki_unify 107 = .ok (.aload_n 0, 1) := by decide +kernel
theorem d_Ki_unify_108 : decode bc_Ki_unify 108 = .ok (.getfield 40, 3) := by decide +kernel
theorem d_Ki_unify_111 : decode bc_Ki_unify 111 = .ok (.if_icmp .ge 22, 3) := by decide +kernel
theorem d_Ki_unify_114 : decode bc_Ki_unify 114 = .ok (.aload_n 0, 1) := by decide +kernel
theorem d_Ki_unify_115 : decode bc_Ki_unify 115 = .ok (.getfield 18, 3) := by decide +kernel
theorem d_Ki_unify_118 : decode bc_Ki_unify 118 = .ok (.aload_n 0, 1) := by decide +kernel
theorem d_Ki_unify_119 : decode bc_Ki_unify 119 = .ok (.getfield 24, 3) := by decide +kernel
theorem d_Ki_unify_122 : decode bc_Ki_unify 122 = .ok (.iload 4, 2) := by decide +kernel
theorem d_Ki_unify_124 : decode bc_Ki_unify 124 = .ok (.iaload, 1) := by decide +kernel
theorem d_Ki_unify_125 : decode bc_Ki_unify 125 = .ok (.iconst (-1), 1) := by decide +kernel
theorem d_Ki_unify_126 : decode bc_Ki_unify 126 = .ok (.iastore, 1) := by decide +kernel
theorem d_Ki_unify_127 : decode bc_Ki_unify 127 = .ok (.iinc 4 1, 3) := by decide +kernel
theorem d_Ki_unify_130 : decode bc_Ki_unify 130 = .ok (.goto (-25), 3) := by decide +kernel
theorem d_Ki_unify_133 : decode bc_Ki_unify 133 = .ok (.iconst 0, 1) := by decide +kernel
theorem d_Ki_unify_134 : decode bc_Ki_unify 134 = .ok (.ireturn, 1) := by decide +kernel
abbrev bc_Ki_merge : ByteArray := prog_4_method_11_code
abbrev y_Ki_merge : MethodName := ⟨"KindRounds$Kinds", "merge", "(II)Z"⟩
theorem d_Ki_merge_0 : decode bc_Ki_merge 0 = .ok (.iload_n 1, 1) := by decide +kernel
theorem d_Ki_merge_1 : decode bc_Ki_merge 1 = .ok (.iload_n 2, 1) := by decide +kernel
theorem d_Ki_merge_2 : decode bc_Ki_merge 2 = .ok (.if_icmp .ne 5, 3) := by decide +kernel
theorem d_Ki_merge_5 : decode bc_Ki_merge 5 = .ok (.iconst 1, 1) := by decide +kernel
theorem d_Ki_merge_6 : decode bc_Ki_merge 6 = .ok (.ireturn, 1) := by decide +kernel
theorem d_Ki_merge_7 : decode bc_Ki_merge 7 = .ok (.aload_n 0, 1) := by decide +kernel
theorem d_Ki_merge_8 : decode bc_Ki_merge 8 = .ok (.iload_n 2, 1) := by decide +kernel
theorem d_Ki_merge_9 : decode bc_Ki_merge 9 = .ok (.invokevirtual 73, 3) := by decide +kernel
theorem d_Ki_merge_12 : decode bc_Ki_merge 12 = .ok (.ifCond .eq 11, 3) := by decide +kernel
theorem d_Ki_merge_15 : decode bc_Ki_merge 15 = .ok (.aload_n 0, 1) := by decide +kernel
theorem d_Ki_merge_16 : decode bc_Ki_merge 16 = .ok (.iload_n 2, 1) := by decide +kernel
theorem d_Ki_merge_17 : decode bc_Ki_merge 17 = .ok (.iload_n 1, 1) := by decide +kernel
theorem d_Ki_merge_18 : decode bc_Ki_merge 18 = .ok (.invokevirtual 76, 3) := by decide +kernel
theorem d_Ki_merge_21 : decode bc_Ki_merge 21 = .ok (.iconst 1, 1) := by decide +kernel
theorem d_Ki_merge_22 : decode bc_Ki_merge 22 = .ok (.ireturn, 1) := by decide +kernel
theorem d_Ki_merge_23 : decode bc_Ki_merge 23 = .ok (.aload_n 0, 1) := by decide +kernel
theorem d_Ki_merge_24 : decode bc_Ki_merge 24 = .ok (.iload_n 1, 1) := by decide +kernel
theorem d_Ki_merge_25 : decode bc_Ki_merge 25 = .ok (.invokevirtual 73, 3) := by decide +kernel
theorem d_Ki_merge_28 : decode bc_Ki_merge 28 = .ok (.ifCond .eq 11, 3) := by decide +kernel
theorem d_Ki_merge_31 : decode bc_Ki_merge 31 = .ok (.aload_n 0, 1) := by decide +kernel
theorem d_Ki_merge_32 : decode bc_Ki_merge 32 = .ok (.iload_n 1, 1) := by decide +kernel
theorem d_Ki_merge_33 : decode bc_Ki_merge 33 = .ok (.iload_n 2, 1) := by decide +kernel
theorem d_Ki_merge_34 : decode bc_Ki_merge 34 = .ok (.invokevirtual 76, 3) := by decide +kernel
theorem d_Ki_merge_37 : decode bc_Ki_merge 37 = .ok (.iconst 1, 1) := by decide +kernel
theorem d_Ki_merge_38 : decode bc_Ki_merge 38 = .ok (.ireturn, 1) := by decide +kernel
theorem d_Ki_merge_39 : decode bc_Ki_merge 39 = .ok (.aload_n 0, 1) := by decide +kernel
theorem d_Ki_merge_40 : decode bc_Ki_merge 40 = .ok (.iload_n 1, 1) := by decide +kernel
theorem d_Ki_merge_41 : decode bc_Ki_merge 41 = .ok (.invokevirtual 80, 3) := by decide +kernel
theorem d_Ki_merge_44 : decode bc_Ki_merge 44 = .ok (.ifCond .eq 11, 3) := by decide +kernel
theorem d_Ki_merge_47 : decode bc_Ki_merge 47 = .ok (.aload_n 0, 1) := by decide +kernel
theorem d_Ki_merge_48 : decode bc_Ki_merge 48 = .ok (.iload_n 2, 1) := by decide +kernel
theorem d_Ki_merge_49 : decode bc_Ki_merge 49 = .ok (.invokevirtual 80, 3) := by decide +kernel
theorem d_Ki_merge_52 : decode bc_Ki_merge 52 = .ok (.ifCond .ne 5, 3) := by decide +kernel
theorem d_Ki_merge_55 : decode bc_Ki_merge 55 = .ok (.iconst 0, 1) := by decide +kernel
theorem d_Ki_merge_56 : decode bc_Ki_merge 56 = .ok (.ireturn, 1) := by decide +kernel
theorem d_Ki_merge_57 : decode bc_Ki_merge 57 = .ok (.aload_n 0, 1) := by decide +kernel
theorem d_Ki_merge_58 : decode bc_Ki_merge 58 = .ok (.iload_n 2, 1) := by decide +kernel
theorem d_Ki_merge_59 : decode bc_Ki_merge 59 = .ok (.iload_n 1, 1) := by decide +kernel
theorem d_Ki_merge_60 : decode bc_Ki_merge 60 = .ok (.invokevirtual 76, 3) := by decide +kernel
theorem d_Ki_merge_63 : decode bc_Ki_merge 63 = .ok (.aload_n 0, 1) := by decide +kernel
theorem d_Ki_merge_64 : decode bc_Ki_merge 64 = .ok (.aload_n 0, 1) := by decide +kernel
theorem d_Ki_merge_65 : decode bc_Ki_merge 65 = .ok (.getfield 11, 3) := by decide +kernel
theorem d_Ki_merge_68 : decode bc_Ki_merge 68 = .ok (.iload_n 1, 1) := by decide +kernel
theorem d_Ki_merge_69 : decode bc_Ki_merge 69 = .ok (.iaload, 1) := by decide +kernel
theorem d_Ki_merge_70 : decode bc_Ki_merge 70 = .ok (.invokevirtual 43, 3) := by decide +kernel
theorem d_Ki_merge_73 : decode bc_Ki_merge 73 = .ok (.aload_n 0, 1) := by decide +kernel
theorem d_Ki_merge_74 : decode bc_Ki_merge 74 = .ok (.aload_n 0, 1) := by decide +kernel
theorem d_Ki_merge_75 : decode bc_Ki_merge 75 = .ok (.getfield 11, 3) := by decide +kernel
theorem d_Ki_merge_78 : decode bc_Ki_merge 78 = .ok (.iload_n 2, 1) := by decide +kernel
theorem d_Ki_merge_79 : decode bc_Ki_merge 79 = .ok (.iaload, 1) := by decide +kernel
theorem d_Ki_merge_80 : decode bc_Ki_merge 80 = .ok (.invokevirtual 43, 3) := by decide +kernel
theorem d_Ki_merge_83 : decode bc_Ki_merge 83 = .ok (.aload_n 0, 1) := by decide +kernel
theorem d_Ki_merge_84 : decode bc_Ki_merge 84 = .ok (.aload_n 0, 1) := by decide +kernel
theorem d_Ki_merge_85 : decode bc_Ki_merge 85 = .ok (.getfield 15, 3) := by decide +kernel
theorem d_Ki_merge_88 : decode bc_Ki_merge 88 = .ok (.iload_n 1, 1) := by decide +kernel
theorem d_Ki_merge_89 : decode bc_Ki_merge 89 = .ok (.iaload, 1) := by decide +kernel
theorem d_Ki_merge_90 : decode bc_Ki_merge 90 = .ok (.invokevirtual 43, 3) := by decide +kernel
theorem d_Ki_merge_93 : decode bc_Ki_merge 93 = .ok (.aload_n 0, 1) := by decide +kernel
theorem d_Ki_merge_94 : decode bc_Ki_merge 94 = .ok (.aload_n 0, 1) := by decide +kernel
theorem d_Ki_merge_95 : decode bc_Ki_merge 95 = .ok (.getfield 15, 3) := by decide +kernel
theorem d_Ki_merge_98 : decode bc_Ki_merge 98 = .ok (.iload_n 2, 1) := by decide +kernel
theorem d_Ki_merge_99 : decode bc_Ki_merge 99 = .ok (.iaload, 1) := by decide +kernel
theorem d_Ki_merge_100 : decode bc_Ki_merge 100 = .ok (.invokevirtual 43, 3) := by decide +kernel
theorem d_Ki_merge_103 : decode bc_Ki_merge 103 = .ok (.iconst 1, 1) := by decide +kernel
theorem d_Ki_merge_104 : decode bc_Ki_merge 104 = .ok (.ireturn, 1) := by decide +kernel
abbrev bc_Ki_join : ByteArray := prog_4_method_12_code
abbrev y_Ki_join : MethodName := ⟨"KindRounds$Kinds", "join", "(II)V"⟩
theorem d_Ki_join_0 : decode bc_Ki_join 0 = .ok (.aload_n 0, 1) := by decide +kernel
theorem d_Ki_join_1 : decode bc_Ki_join 1 = .ok (.getfield 18, 3) := by decide +kernel
theorem d_Ki_join_4 : decode bc_Ki_join 4 = .ok (.iload_n 1, 1) := by decide +kernel
theorem d_Ki_join_5 : decode bc_Ki_join 5 = .ok (.iload_n 2, 1) := by decide +kernel
theorem d_Ki_join_6 : decode bc_Ki_join 6 = .ok (.iastore, 1) := by decide +kernel
theorem d_Ki_join_7 : decode bc_Ki_join 7 = .ok (.aload_n 0, 1) := by decide +kernel
theorem d_Ki_join_8 : decode bc_Ki_join 8 = .ok (.getfield 40, 3) := by decide +kernel
theorem d_Ki_join_11 : decode bc_Ki_join 11 = .ok (.sipush 1713, 3) := by decide +kernel
theorem d_Ki_join_14 : decode bc_Ki_join 14 = .ok (.if_icmp .ge 23, 3) := by decide +kernel
theorem d_Ki_join_17 : decode bc_Ki_join 17 = .ok (.aload_n 0, 1) := by decide +kernel
theorem d_Ki_join_18 : decode bc_Ki_join 18 = .ok (.getfield 24, 3) := by decide +kernel
theorem d_Ki_join_21 : decode bc_Ki_join 21 = .ok (.aload_n 0, 1) := by decide +kernel
theorem d_Ki_join_22 : decode bc_Ki_join 22 = .ok (.getfield 40, 3) := by decide +kernel
theorem d_Ki_join_25 : decode bc_Ki_join 25 = .ok (.iload_n 1, 1) := by decide +kernel
theorem d_Ki_join_26 : decode bc_Ki_join 26 = .ok (.iastore, 1) := by decide +kernel
theorem d_Ki_join_27 : decode bc_Ki_join 27 = .ok (.aload_n 0, 1) := by decide +kernel
theorem d_Ki_join_28 : decode bc_Ki_join 28 = .ok (.dup, 1) := by decide +kernel
theorem d_Ki_join_29 : decode bc_Ki_join 29 = .ok (.getfield 40, 3) := by decide +kernel
theorem d_Ki_join_32 : decode bc_Ki_join 32 = .ok (.iconst 1, 1) := by decide +kernel
theorem d_Ki_join_33 : decode bc_Ki_join 33 = .ok (.iadd, 1) := by decide +kernel
theorem d_Ki_join_34 : decode bc_Ki_join 34 = .ok (.putfield 40, 3) := by decide +kernel
theorem d_Ki_join_37 : decode bc_Ki_join 37 = .ok (.return_, 1) := by decide +kernel
abbrev bc_Ki_clearMarks : ByteArray := prog_4_method_13_code
abbrev y_Ki_clearMarks : MethodName := ⟨"KindRounds$Kinds", "clearMarks", "()V"⟩
theorem d_Ki_clearMarks_0 : decode bc_Ki_clearMarks 0 = .ok (.aload_n 0, 1) := by decide +kernel
theorem d_Ki_clearMarks_1 : decode bc_Ki_clearMarks 1 = .ok (.getfield 21, 3) := by decide +kernel
theorem d_Ki_clearMarks_4 : decode bc_Ki_clearMarks 4 = .ok (.iconst 0, 1) := by decide +kernel
theorem d_Ki_clearMarks_5 : decode bc_Ki_clearMarks 5 = .ok (.aload_n 0, 1) := by decide +kernel
theorem d_Ki_clearMarks_6 : decode bc_Ki_clearMarks 6 = .ok (.getfield 30, 3) := by decide +kernel
theorem d_Ki_clearMarks_9 : decode bc_Ki_clearMarks 9 = .ok (.iconst 0, 1) := by decide +kernel
theorem d_Ki_clearMarks_10 : decode bc_Ki_clearMarks 10 = .ok (.invokestatic 83, 3) := by decide +kernel
theorem d_Ki_clearMarks_13 : decode bc_Ki_clearMarks 13 = .ok (.return_, 1) := by decide +kernel
abbrev bc_Ki_hasRing : ByteArray := prog_4_method_14_code
abbrev y_Ki_hasRing : MethodName := ⟨"KindRounds$Kinds", "hasRing", "(I)Z"⟩
theorem d_Ki_hasRing_0 : decode bc_Ki_hasRing 0 = .ok (.aload_n 0, 1) := by decide +kernel
theorem d_Ki_hasRing_1 : decode bc_Ki_hasRing 1 = .ok (.invokevirtual 89, 3) := by decide +kernel
theorem d_Ki_hasRing_4 : decode bc_Ki_hasRing 4 = .ok (.aload_n 0, 1) := by decide +kernel
theorem d_Ki_hasRing_5 : decode bc_Ki_hasRing 5 = .ok (.iconst 0, 1) := by decide +kernel
theorem d_Ki_hasRing_6 : decode bc_Ki_hasRing 6 = .ok (.putfield 37, 3) := by decide +kernel
theorem d_Ki_hasRing_9 : decode bc_Ki_hasRing 9 = .ok (.aload_n 0, 1) := by decide +kernel
theorem d_Ki_hasRing_10 : decode bc_Ki_hasRing 10 = .ok (.aload_n 0, 1) := by decide +kernel
theorem d_Ki_hasRing_11 : decode bc_Ki_hasRing 11 = .ok (.iload_n 1, 1) := by decide +kernel
theorem d_Ki_hasRing_12 : decode bc_Ki_hasRing 12 = .ok (.invokevirtual 52, 3) := by decide +kernel
theorem d_Ki_hasRing_15 : decode bc_Ki_hasRing 15 = .ok (.invokevirtual 43, 3) := by decide +kernel
theorem d_Ki_hasRing_18 : decode bc_Ki_hasRing 18 = .ok (.iconst 0, 1) := by decide +kernel
theorem d_Ki_hasRing_19 : decode bc_Ki_hasRing 19 = .ok (.istore_n 2, 1) := by decide +kernel
theorem d_Ki_hasRing_20 : decode bc_Ki_hasRing 20 = .ok (.iload_n 2, 1) := by decide +kernel
theorem d_Ki_hasRing_21 : decode bc_Ki_hasRing 21 = .ok (.ldc 47, 2) := by decide +kernel
theorem d_Ki_hasRing_23 : decode bc_Ki_hasRing 23 = .ok (.if_icmp .ge 130, 3) := by decide +kernel
theorem d_Ki_hasRing_26 : decode bc_Ki_hasRing 26 = .ok (.aload_n 0, 1) := by decide +kernel
theorem d_Ki_hasRing_27 : decode bc_Ki_hasRing 27 = .ok (.getfield 37, 3) := by decide +kernel
theorem d_Ki_hasRing_30 : decode bc_Ki_hasRing 30 = .ok (.ifCond .le 123, 3) := by decide +kernel
theorem d_Ki_hasRing_33 : decode bc_Ki_hasRing 33 = .ok (.aload_n 0, 1) := by decide +kernel
theorem d_Ki_hasRing_34 : decode bc_Ki_hasRing 34 = .ok (.invokevirtual 48, 3) := by decide +kernel
theorem d_Ki_hasRing_37 : decode bc_Ki_hasRing 37 = .ok (.istore_n 3, 1) := by decide +kernel
theorem d_Ki_hasRing_38 : decode bc_Ki_hasRing 38 = .ok (.aload_n 0, 1) := by decide +kernel
theorem d_Ki_hasRing_39 : decode bc_Ki_hasRing 39 = .ok (.getfield 21, 3) := by decide +kernel
theorem d_Ki_hasRing_42 : decode bc_Ki_hasRing 42 = .ok (.iload_n 3, 1) := by decide +kernel
theorem d_Ki_hasRing_43 : decode bc_Ki_hasRing 43 = .ok (.iaload, 1) := by decide +kernel
theorem d_Ki_hasRing_44 : decode bc_Ki_hasRing 44 = .ok (.iconst 1, 1) := by decide +kernel
theorem d_Ki_hasRing_45 : decode bc_Ki_hasRing 45 = .ok (.if_icmp .ne 13, 3) := by decide +kernel
theorem d_Ki_hasRing_48 : decode bc_Ki_hasRing 48 = .ok (.aload_n 0, 1) := by decide +kernel
theorem d_Ki_hasRing_49 : decode bc_Ki_hasRing 49 = .ok (.getfield 21, 3) := by decide +kernel
theorem d_Ki_hasRing_52 : decode bc_Ki_hasRing 52 = .ok (.iload_n 3, 1) := by decide +kernel
theorem d_Ki_hasRing_53 : decode bc_Ki_hasRing 53 = .ok (.iconst 2, 1) := by decide +kernel
theorem d_Ki_hasRing_54 : decode bc_Ki_hasRing 54 = .ok (.iastore, 1) := by decide +kernel
theorem d_Ki_hasRing_55 : decode bc_Ki_hasRing 55 = .ok (.goto 92, 3) := by decide +kernel
theorem d_Ki_hasRing_58 : decode bc_Ki_hasRing 58 = .ok (.aload_n 0, 1) := by decide +kernel
theorem d_Ki_hasRing_59 : decode bc_Ki_hasRing 59 = .ok (.getfield 21, 3) := by decide +kernel
theorem d_Ki_hasRing_62 : decode bc_Ki_hasRing 62 = .ok (.iload_n 3, 1) := by decide +kernel
theorem d_Ki_hasRing_63 : decode bc_Ki_hasRing 63 = .ok (.iaload, 1) := by decide +kernel
theorem d_Ki_hasRing_64 : decode bc_Ki_hasRing 64 = .ok (.ifCond .ne 83, 3) := by decide +kernel
theorem d_Ki_hasRing_67 : decode bc_Ki_hasRing 67 = .ok (.aload_n 0, 1) := by decide +kernel
theorem d_Ki_hasRing_68 : decode bc_Ki_hasRing 68 = .ok (.iload_n 3, 1) := by decide +kernel
theorem d_Ki_hasRing_69 : decode bc_Ki_hasRing 69 = .ok (.invokevirtual 80, 3) := by decide +kernel
theorem d_Ki_hasRing_72 : decode bc_Ki_hasRing 72 = .ok (.ifCond .eq 75, 3) := by decide +kernel
theorem d_Ki_hasRing_75 : decode bc_Ki_hasRing 75 = .ok (.aload_n 0, 1) := by decide +kernel
theorem d_Ki_hasRing_76 : decode bc_Ki_hasRing 76 = .ok (.getfield 21, 3) := by decide +kernel
theorem d_Ki_hasRing_79 : decode bc_Ki_hasRing 79 = .ok (.iload_n 3, 1) := by decide +kernel
theorem d_Ki_hasRing_80 : decode bc_Ki_hasRing 80 = .ok (.iconst 1, 1) := by decide +kernel
theorem d_Ki_hasRing_81 : decode bc_Ki_hasRing 81 = .ok (.iastore, 1) := by decide +kernel
theorem d_Ki_hasRing_82 : decode bc_Ki_hasRing 82 = .ok (.aload_n 0, 1) := by decide +kernel
theorem d_Ki_hasRing_83 : decode bc_Ki_hasRing 83 = .ok (.aload_n 0, 1) := by decide +kernel
theorem d_Ki_hasRing_84 : decode bc_Ki_hasRing 84 = .ok (.getfield 11, 3) := by decide +kernel
theorem d_Ki_hasRing_87 : decode bc_Ki_hasRing 87 = .ok (.iload_n 3, 1) := by decide +kernel
theorem d_Ki_hasRing_88 : decode bc_Ki_hasRing 88 = .ok (.iaload, 1) := by decide +kernel
theorem d_Ki_hasRing_89 : decode bc_Ki_hasRing 89 = .ok (.invokevirtual 52, 3) := by decide +kernel
theorem d_Ki_hasRing_92 : decode bc_Ki_hasRing 92 = .ok (.istore 4, 2) := by decide +kernel
theorem d_Ki_hasRing_94 : decode bc_Ki_hasRing 94 = .ok (.aload_n 0, 1) := by decide +kernel
theorem d_Ki_hasRing_95 : decode bc_Ki_hasRing 95 = .ok (.aload_n 0, 1) := by decide +kernel
theorem d_Ki_hasRing_96 : decode bc_Ki_hasRing 96 = .ok (.getfield 15, 3) := by decide +kernel
theorem d_Ki_hasRing_99 : decode bc_Ki_hasRing 99 = .ok (.iload_n 3, 1) := by decide +kernel
theorem d_Ki_hasRing_100 : decode bc_Ki_hasRing 100 = .ok (.iaload, 1) := by decide +kernel
theorem d_Ki_hasRing_101 : decode bc_Ki_hasRing 101 = .ok (.invokevirtual 52, 3) := by decide +kernel
theorem d_Ki_hasRing_104 : decode bc_Ki_hasRing 104 = .ok (.istore 5, 2) := by decide +kernel
theorem d_Ki_hasRing_106 : decode bc_Ki_hasRing 106 = .ok (.aload_n 0, 1) := by decide +kernel
theorem d_Ki_hasRing_107 : decode bc_Ki_hasRing 107 = .ok (.getfield 21, 3) := by decide +kernel
theorem d_Ki_hasRing_110 : decode bc_Ki_hasRing 110 = .ok (.iload 4, 2) := by decide +kernel
theorem d_Ki_hasRing_112 : decode bc_Ki_hasRing 112 = .ok (.iaload, 1) := by decide +kernel
theorem d_Ki_hasRing_113 : decode bc_Ki_hasRing 113 = .ok (.iconst 1, 1) := by decide +kernel
theorem d_Ki_hasRing_114 : decode bc_Ki_hasRing 114 = .ok (.if_icmp .eq 14, 3) := by decide +kernel
theorem d_Ki_hasRing_117 : decode bc_Ki_hasRing 117 = .ok (.aload_n 0, 1) := by decide +kernel
theorem d_Ki_hasRing_118 : decode bc_Ki_hasRing 118 = .ok (.getfield 21, 3) := by decide +kernel
theorem d_Ki_hasRing_121 : decode bc_Ki_hasRing 121 = .ok (.iload 5, 2) := by decide +kernel
theorem d_Ki_hasRing_123 : decode bc_Ki_hasRing 123 = .ok (.iaload, 1) := by decide +kernel
theorem d_Ki_hasRing_124 : decode bc_Ki_hasRing 124 = .ok (.iconst 1, 1) := by decide +kernel
theorem d_Ki_hasRing_125 : decode bc_Ki_hasRing 125 = .ok (.if_icmp .ne 5, 3) := by decide +kernel
theorem d_Ki_hasRing_128 : decode bc_Ki_hasRing 128 = .ok (.iconst 1, 1) := by decide +kernel
theorem d_Ki_hasRing_129 : decode bc_Ki_hasRing 129 = .ok (.ireturn, 1) := by decide +kernel
theorem d_Ki_hasRing_130 : decode bc_Ki_hasRing 130 = .ok (.aload_n 0, 1) := by decide +kernel
theorem d_Ki_hasRing_131 : decode bc_Ki_hasRing 131 = .ok (.iload_n 3, 1) := by decide +kernel
theorem d_Ki_hasRing_132 : decode bc_Ki_hasRing 132 = .ok (.invokevirtual 43, 3) := by decide +kernel
theorem d_Ki_hasRing_135 : decode bc_Ki_hasRing 135 = .ok (.aload_n 0, 1) := by decide +kernel
theorem d_Ki_hasRing_136 : decode bc_Ki_hasRing 136 = .ok (.iload 5, 2) := by decide +kernel
theorem d_Ki_hasRing_138 : decode bc_Ki_hasRing 138 = .ok (.invokevirtual 43, 3) := by decide +kernel
theorem d_Ki_hasRing_141 : decode bc_Ki_hasRing 141 = .ok (.aload_n 0, 1) := by decide +kernel
theorem d_Ki_hasRing_142 : decode bc_Ki_hasRing 142 = .ok (.iload 4, 2) := by decide +kernel
theorem d_Ki_hasRing_144 : decode bc_Ki_hasRing 144 = .ok (.invokevirtual 43, 3) := by decide +kernel
theorem d_Ki_hasRing_147 : decode bc_Ki_hasRing 147 = .ok (.iinc 2 1, 3) := by decide +kernel
theorem d_Ki_hasRing_150 : decode bc_Ki_hasRing 150 = .ok (.goto (-130), 3) := by decide +kernel
theorem d_Ki_hasRing_153 : decode bc_Ki_hasRing 153 = .ok (.iconst 0, 1) := by decide +kernel
theorem d_Ki_hasRing_154 : decode bc_Ki_hasRing 154 = .ok (.ireturn, 1) := by decide +kernel
abbrev bc_Ki_letter : ByteArray := prog_4_method_15_code
abbrev y_Ki_letter : MethodName := ⟨"KindRounds$Kinds", "letter", "(I)I"⟩
theorem d_Ki_letter_0 : decode bc_Ki_letter 0 = .ok (.aload_n 0, 1) := by decide +kernel
theorem d_Ki_letter_1 : decode bc_Ki_letter 1 = .ok (.getfield 92, 3) := by decide +kernel
theorem d_Ki_letter_4 : decode bc_Ki_letter 4 = .ok (.istore_n 2, 1) := by decide +kernel
theorem d_Ki_letter_5 : decode bc_Ki_letter 5 = .ok (.aload_n 0, 1) := by decide +kernel
theorem d_Ki_letter_6 : decode bc_Ki_letter 6 = .ok (.iconst 0, 1) := by decide +kernel
theorem d_Ki_letter_7 : decode bc_Ki_letter 7 = .ok (.putfield 37, 3) := by decide +kernel
theorem d_Ki_letter_10 : decode bc_Ki_letter 10 = .ok (.aload_n 0, 1) := by decide +kernel
theorem d_Ki_letter_11 : decode bc_Ki_letter 11 = .ok (.iload_n 1, 1) := by decide +kernel
theorem d_Ki_letter_12 : decode bc_Ki_letter 12 = .ok (.invokevirtual 43, 3) := by decide +kernel
theorem d_Ki_letter_15 : decode bc_Ki_letter 15 = .ok (.iconst 0, 1) := by decide +kernel
theorem d_Ki_letter_16 : decode bc_Ki_letter 16 = .ok (.istore_n 3, 1) := by decide +kernel
theorem d_Ki_letter_17 : decode bc_Ki_letter 17 = .ok (.iload_n 3, 1) := by decide +kernel
theorem d_Ki_letter_18 : decode bc_Ki_letter 18 = .ok (.ldc 47, 2) := by decide +kernel
theorem d_Ki_letter_20 : decode bc_Ki_letter 20 = .ok (.if_icmp .ge 111, 3) := by decide +kernel
theorem d_Ki_letter_23 : decode bc_Ki_letter 23 = .ok (.aload_n 0, 1) := by decide +kernel
theorem d_Ki_letter_24 : decode bc_Ki_letter 24 = .ok (.getfield 37, 3) := by decide +kernel
theorem d_Ki_letter_27 : decode bc_Ki_letter 27 = .ok (.ifCond .le 104, 3) := by decide +kernel
theorem d_Ki_letter_30 : decode bc_Ki_letter 30 = .ok (.aload_n 0, 1) := by decide +kernel
theorem d_Ki_letter_31 : decode bc_Ki_letter 31 = .ok (.aload_n 0, 1) := by decide +kernel
theorem d_Ki_letter_32 : decode bc_Ki_letter 32 = .ok (.invokevirtual 48, 3) := by decide +kernel
theorem d_Ki_letter_35 : decode bc_Ki_letter 35 = .ok (.invokevirtual 52, 3) := by decide +kernel
theorem d_Ki_letter_38 : decode bc_Ki_letter 38 = .ok (.istore 4, 2) := by decide +kernel
theorem d_Ki_letter_40 : decode bc_Ki_letter 40 = .ok (.aload_n 0, 1) := by decide +kernel
theorem d_Ki_letter_41 : decode bc_Ki_letter 41 = .ok (.getfield 21, 3) := by decide +kernel
theorem d_Ki_letter_44 : decode bc_Ki_letter 44 = .ok (.iload 4, 2) := by decide +kernel
theorem d_Ki_letter_46 : decode bc_Ki_letter 46 = .ok (.iaload, 1) := by decide +kernel
theorem d_Ki_letter_47 : decode bc_Ki_letter 47 = .ok (.ifCond .eq 6, 3) := by decide +kernel
theorem d_Ki_letter_50 : decode bc_Ki_letter 50 = .ok (.goto 75, 3) := by decide +kernel
theorem d_Ki_letter_53 : decode bc_Ki_letter 53 = .ok (.aload_n 0, 1) := by decide +kernel
theorem d_Ki_letter_54 : decode bc_Ki_letter 54 = .ok (.getfield 21, 3) := by decide +kernel
theorem d_Ki_letter_57 : decode bc_Ki_letter 57 = .ok (.iload 4, 2) := by decide +kernel
theorem d_Ki_letter_59 : decode bc_Ki_letter 59 = .ok (.iconst 1, 1) := by decide +kernel
theorem d_Ki_letter_60 : decode bc_Ki_letter 60 = .ok (.iastore, 1) := by decide +kernel
theorem d_Ki_letter_61 : decode bc_Ki_letter 61 = .ok (.aload_n 0, 1) := by decide +kernel
theorem d_Ki_letter_62 : decode bc_Ki_letter 62 = .ok (.iload 4, 2) := by decide +kernel
theorem d_Ki_letter_64 : decode bc_Ki_letter 64 = .ok (.invokevirtual 73, 3) := by decide +kernel
theorem d_Ki_letter_67 : decode bc_Ki_letter 67 = .ok (.ifCond .eq 27, 3) := by decide +kernel
theorem d_Ki_letter_70 : decode bc_Ki_letter 70 = .ok (.aload_n 0, 1) := by decide +kernel
theorem d_Ki_letter_71 : decode bc_Ki_letter 71 = .ok (.dup, 1) := by decide +kernel
theorem d_Ki_letter_72 : decode bc_Ki_letter 72 = .ok (.getfield 92, 3) := by decide +kernel
theorem d_Ki_letter_75 : decode bc_Ki_letter 75 = .ok (.iconst 1, 1) := by decide +kernel
theorem d_Ki_letter_76 : decode bc_Ki_letter 76 = .ok (.iadd, 1) := by decide +kernel
theorem d_Ki_letter_77 : decode bc_Ki_letter 77 = .ok (.putfield 92, 3) := by decide +kernel
theorem d_Ki_letter_80 : decode bc_Ki_letter 80 = .ok (.aload_n 0, 1) := by decide +kernel
theorem d_Ki_letter_81 : decode bc_Ki_letter 81 = .ok (.getfield 21, 3) := by decide +kernel
theorem d_Ki_letter_84 : decode bc_Ki_letter 84 = .ok (.iload 4, 2) := by decide +kernel
theorem d_Ki_letter_86 : decode bc_Ki_letter 86 = .ok (.aload_n 0, 1) := by decide +kernel
theorem d_Ki_letter_87 : decode bc_Ki_letter 87 = .ok (.getfield 92, 3) := by decide +kernel
theorem d_Ki_letter_90 : decode bc_Ki_letter 90 = .ok (.iastore, 1) := by decide +kernel
theorem d_Ki_letter_91 : decode bc_Ki_letter 91 = .ok (.goto 34, 3) := by decide +kernel
theorem d_Ki_letter_94 : decode bc_Ki_letter 94 = .ok (.aload_n 0, 1) := by decide +kernel
theorem d_Ki_letter_95 : decode bc_Ki_letter 95 = .ok (.iload 4, 2) := by decide +kernel
theorem d_Ki_letter_97 : decode bc_Ki_letter 97 = .ok (.invokevirtual 80, 3) := by decide +kernel
theorem d_Ki_letter_100 : decode bc_Ki_letter 100 = .ok (.ifCond .eq 25, 3) := by decide +kernel
theorem d_Ki_letter_103 : decode bc_Ki_letter 103 = .ok (.aload_n 0, 1) := by decide +kernel
theorem d_Ki_letter_104 : decode bc_Ki_letter 104 = .ok (.aload_n 0, 1) := by decide +kernel
theorem d_Ki_letter_105 : decode bc_Ki_letter 105 = .ok (.getfield 15, 3) := by decide +kernel
theorem d_Ki_letter_108 : decode bc_Ki_letter 108 = .ok (.iload 4, 2) := by decide +kernel
theorem d_Ki_letter_110 : decode bc_Ki_letter 110 = .ok (.iaload, 1) := by decide +kernel
theorem d_Ki_letter_111 : decode bc_Ki_letter 111 = .ok (.invokevirtual 43, 3) := by decide +kernel
theorem d_Ki_letter_114 : decode bc_Ki_letter 114 = .ok (.aload_n 0, 1) := by decide +kernel
theorem d_Ki_letter_115 : decode bc_Ki_letter 115 = .ok (.aload_n 0, 1) := by decide +kernel
theorem d_Ki_letter_116 : decode bc_Ki_letter 116 = .ok (.getfield 11, 3) := by decide +kernel
theorem d_Ki_letter_119 : decode bc_Ki_letter 119 = .ok (.iload 4, 2) := by decide +kernel
theorem d_Ki_letter_121 : decode bc_Ki_letter 121 = .ok (.iaload, 1) := by decide +kernel
theorem d_Ki_letter_122 : decode bc_Ki_letter 122 = .ok (.invokevirtual 43, 3) := by decide +kernel
theorem d_Ki_letter_125 : decode bc_Ki_letter 125 = .ok (.iinc 3 1, 3) := by decide +kernel
theorem d_Ki_letter_128 : decode bc_Ki_letter 128 = .ok (.goto (-111), 3) := by decide +kernel
theorem d_Ki_letter_131 : decode bc_Ki_letter 131 = .ok (.aload_n 0, 1) := by decide +kernel
theorem d_Ki_letter_132 : decode bc_Ki_letter 132 = .ok (.getfield 92, 3) := by decide +kernel
theorem d_Ki_letter_135 : decode bc_Ki_letter 135 = .ok (.iload_n 2, 1) := by decide +kernel
theorem d_Ki_letter_136 : decode bc_Ki_letter 136 = .ok (.isub, 1) := by decide +kernel
theorem d_Ki_letter_137 : decode bc_Ki_letter 137 = .ok (.ireturn, 1) := by decide +kernel
abbrev bc_Ki_hasOpen : ByteArray := prog_4_method_16_code
abbrev y_Ki_hasOpen : MethodName := ⟨"KindRounds$Kinds", "hasOpen", "(I)Z"⟩
theorem d_Ki_hasOpen_0 : decode bc_Ki_hasOpen 0 = .ok (.aload_n 0, 1) := by decide +kernel
theorem d_Ki_hasOpen_1 : decode bc_Ki_hasOpen 1 = .ok (.invokevirtual 89, 3) := by decide +kernel
theorem d_Ki_hasOpen_4 : decode bc_Ki_hasOpen 4 = .ok (.aload_n 0, 1) := by decide +kernel
theorem d_Ki_hasOpen_5 : decode bc_Ki_hasOpen 5 = .ok (.iconst 0, 1) := by decide +kernel
theorem d_Ki_hasOpen_6 : decode bc_Ki_hasOpen 6 = .ok (.putfield 92, 3) := by decide +kernel
theorem d_Ki_hasOpen_9 : decode bc_Ki_hasOpen 9 = .ok (.aload_n 0, 1) := by decide +kernel
theorem d_Ki_hasOpen_10 : decode bc_Ki_hasOpen 10 = .ok (.iload_n 1, 1) := by decide +kernel
theorem d_Ki_hasOpen_11 : decode bc_Ki_hasOpen 11 = .ok (.invokevirtual 95, 3) := by decide +kernel
theorem d_Ki_hasOpen_14 : decode bc_Ki_hasOpen 14 = .ok (.ifCond .le 7, 3) := by decide +kernel
theorem d_Ki_hasOpen_17 : decode bc_Ki_hasOpen 17 = .ok (.iconst 1, 1) := by decide +kernel
theorem d_Ki_hasOpen_18 : decode bc_Ki_hasOpen 18 = .ok (.goto 4, 3) := by decide +kernel
theorem d_Ki_hasOpen_21 : decode bc_Ki_hasOpen 21 = .ok (.iconst 0, 1) := by decide +kernel
theorem d_Ki_hasOpen_22 : decode bc_Ki_hasOpen 22 = .ok (.ireturn, 1) := by decide +kernel
abbrev bc_Ki_showSides : ByteArray := prog_4_method_17_code
abbrev y_Ki_showSides : MethodName := ⟨"KindRounds$Kinds", "showSides", "(IILKindRounds$Fault;)V"⟩
theorem d_Ki_showSides_0 : decode bc_Ki_showSides 0 = .ok (.aload_n 0, 1) := by decide +kernel
theorem d_Ki_showSides_1 : decode bc_Ki_showSides 1 = .ok (.invokevirtual 89, 3) := by decide +kernel
theorem d_Ki_showSides_4 : decode bc_Ki_showSides 4 = .ok (.aload_n 0, 1) := by decide +kernel
theorem d_Ki_showSides_5 : decode bc_Ki_showSides 5 = .ok (.iconst 0, 1) := by decide +kernel
theorem d_Ki_showSides_6 : decode bc_Ki_showSides 6 = .ok (.putfield 92, 3) := by decide +kernel
theorem d_Ki_showSides_9 : decode bc_Ki_showSides 9 = .ok (.aload_n 0, 1) := by decide +kernel
theorem d_Ki_showSides_10 : decode bc_Ki_showSides 10 = .ok (.iload_n 1, 1) := by decide +kernel
theorem d_Ki_showSides_11 : decode bc_Ki_showSides 11 = .ok (.invokevirtual 95, 3) := by decide +kernel
theorem d_Ki_showSides_14 : decode bc_Ki_showSides 14 = .ok (.pop, 1) := by decide +kernel
theorem d_Ki_showSides_15 : decode bc_Ki_showSides 15 = .ok (.aload_n 0, 1) := by decide +kernel
theorem d_Ki_showSides_16 : decode bc_Ki_showSides 16 = .ok (.iload_n 2, 1) := by decide +kernel
theorem d_Ki_showSides_17 : decode bc_Ki_showSides 17 = .ok (.invokevirtual 95, 3) := by decide +kernel
theorem d_Ki_showSides_20 : decode bc_Ki_showSides 20 = .ok (.pop, 1) := by decide +kernel
theorem d_Ki_showSides_21 : decode bc_Ki_showSides 21 = .ok (.aload_n 3, 1) := by decide +kernel
theorem d_Ki_showSides_22 : decode bc_Ki_showSides 22 = .ok (.getfield 98, 3) := by decide +kernel
theorem d_Ki_showSides_25 : decode bc_Ki_showSides 25 = .ok (.invokevirtual 103, 3) := by decide +kernel
theorem d_Ki_showSides_28 : decode bc_Ki_showSides 28 = .ok (.aload_n 3, 1) := by decide +kernel
theorem d_Ki_showSides_29 : decode bc_Ki_showSides 29 = .ok (.getfield 108, 3) := by decide +kernel
theorem d_Ki_showSides_32 : decode bc_Ki_showSides 32 = .ok (.invokevirtual 103, 3) := by decide +kernel
theorem d_Ki_showSides_35 : decode bc_Ki_showSides 35 = .ok (.aload_n 0, 1) := by decide +kernel
theorem d_Ki_showSides_36 : decode bc_Ki_showSides 36 = .ok (.iload_n 1, 1) := by decide +kernel
theorem d_Ki_showSides_37 : decode bc_Ki_showSides 37 = .ok (.aload_n 3, 1) := by decide +kernel
theorem d_Ki_showSides_38 : decode bc_Ki_showSides 38 = .ok (.getfield 98, 3) := by decide +kernel
theorem d_Ki_showSides_41 : decode bc_Ki_showSides 41 = .ok (.iconst 1, 1) := by decide +kernel
theorem d_Ki_showSides_42 : decode bc_Ki_showSides 42 = .ok (.invokevirtual 110, 3) := by decide +kernel
theorem d_Ki_showSides_45 : decode bc_Ki_showSides 45 = .ok (.aload_n 0, 1) := by decide +kernel
theorem d_Ki_showSides_46 : decode bc_Ki_showSides 46 = .ok (.iload_n 2, 1) := by decide +kernel
theorem d_Ki_showSides_47 : decode bc_Ki_showSides 47 = .ok (.aload_n 3, 1) := by decide +kernel
theorem d_Ki_showSides_48 : decode bc_Ki_showSides 48 = .ok (.getfield 108, 3) := by decide +kernel
theorem d_Ki_showSides_51 : decode bc_Ki_showSides 51 = .ok (.iconst 1, 1) := by decide +kernel
theorem d_Ki_showSides_52 : decode bc_Ki_showSides 52 = .ok (.invokevirtual 110, 3) := by decide +kernel
theorem d_Ki_showSides_55 : decode bc_Ki_showSides 55 = .ok (.return_, 1) := by decide +kernel
abbrev bc_Ki_show : ByteArray := prog_4_method_18_code
abbrev y_Ki_show : MethodName := ⟨"KindRounds$Kinds", "show", "(ILKindRounds$Line;Z)V"⟩
theorem d_Ki_show_0 : decode bc_Ki_show 0 = .ok (.aload_n 0, 1) := by decide +kernel
theorem d_Ki_show_1 : decode bc_Ki_show 1 = .ok (.iconst 0, 1) := by decide +kernel
theorem d_Ki_show_2 : decode bc_Ki_show 2 = .ok (.putfield 37, 3) := by decide +kernel
theorem d_Ki_show_5 : decode bc_Ki_show 5 = .ok (.aload_n 0, 1) := by decide +kernel
theorem d_Ki_show_6 : decode bc_Ki_show 6 = .ok (.aload_n 0, 1) := by decide +kernel
theorem d_Ki_show_7 : decode bc_Ki_show 7 = .ok (.iload_n 1, 1) := by decide +kernel
theorem d_Ki_show_8 : decode bc_Ki_show 8 = .ok (.invokevirtual 52, 3) := by decide +kernel
theorem d_Ki_show_11 : decode bc_Ki_show 11 = .ok (.iconst 1, 1) := by decide +kernel
theorem d_Ki_show_12 : decode bc_Ki_show 12 = .ok (.ishl, 1) := by decide +kernel
theorem d_Ki_show_13 : decode bc_Ki_show 13 = .ok (.invokevirtual 43, 3) := by decide +kernel
theorem d_Ki_show_16 : decode bc_Ki_show 16 = .ok (.iconst 0, 1) := by decide +kernel
theorem d_Ki_show_17 : decode bc_Ki_show 17 = .ok (.istore 4, 2) := by decide +kernel
theorem d_Ki_show_19 : decode bc_Ki_show 19 = .ok (.iload 4, 2) := by decide +kernel
theorem d_Ki_show_21 : decode bc_Ki_show 21 = .ok (.ldc 47, 2) := by decide +kernel
theorem d_Ki_show_23 : decode bc_Ki_show 23 = .ok (.if_icmp .ge 179, 3) := by decide +kernel
theorem d_Ki_show_26 : decode bc_Ki_show 26 = .ok (.aload_n 0, 1) := by decide +kernel
theorem d_Ki_show_27 : decode bc_Ki_show 27 = .ok (.getfield 37, 3) := by decide +kernel
theorem d_Ki_show_30 : decode bc_Ki_show 30 = .ok (.ifCond .le 172, 3) := by decide +kernel
theorem d_Ki_show_33 : decode bc_Ki_show 33 = .ok (.aload_n 2, 1) := by decide +kernel
theorem d_Ki_show_34 : decode bc_Ki_show 34 = .ok (.getfield 114, 3) := by decide +kernel
theorem d_Ki_show_37 : decode bc_Ki_show 37 = .ok (.sipush 2000, 3) := by decide +kernel
theorem d_Ki_show_40 : decode bc_Ki_show 40 = .ok (.if_icmp .gt 162, 3) := by decide +kernel
theorem d_Ki_show_43 : decode bc_Ki_show 43 = .ok (.aload_n 0, 1) := by decide +kernel
theorem d_Ki_show_44 : decode bc_Ki_show 44 = .ok (.invokevirtual 48, 3) := by decide +kernel
theorem d_Ki_show_47 : decode bc_Ki_show 47 = .ok (.istore 5, 2) := by decide +kernel
theorem d_Ki_show_49 : decode bc_Ki_show 49 = .ok (.iload 5, 2) := by decide +kernel
theorem d_Ki_show_51 : decode bc_Ki_show 51 = .ok (.iconst 1, 1) := by decide +kernel
theorem d_Ki_show_52 : decode bc_Ki_show 52 = .ok (.ishr, 1) := by decide +kernel
theorem d_Ki_show_53 : decode bc_Ki_show 53 = .ok (.istore 6, 2) := by decide +kernel
theorem d_Ki_show_55 : decode bc_Ki_show 55 = .ok (.aload_n 0, 1) := by decide +kernel
theorem d_Ki_show_56 : decode bc_Ki_show 56 = .ok (.iload 6, 2) := by decide +kernel
theorem d_Ki_show_58 : decode bc_Ki_show 58 = .ok (.invokevirtual 80, 3) := by decide +kernel
theorem d_Ki_show_61 : decode bc_Ki_show 61 = .ok (.ifCond .ne 45, 3) := by decide +kernel
theorem d_Ki_show_64 : decode bc_Ki_show 64 = .ok (.aload_n 2, 1) := by decide +kernel
theorem d_Ki_show_65 : decode bc_Ki_show 65 = .ok (.iload_n 3, 1) := by decide +kernel
theorem d_Ki_show_66 : decode bc_Ki_show 66 = .ok (.ifCond .eq 32, 3) := by decide +kernel
theorem d_Ki_show_69 : decode bc_Ki_show 69 = .ok (.aload_n 0, 1) := by decide +kernel
theorem d_Ki_show_70 : decode bc_Ki_show 70 = .ok (.iload 6, 2) := by decide +kernel
theorem d_Ki_show_72 : decode bc_Ki_show 72 = .ok (.invokevirtual 73, 3) := by decide +kernel
theorem d_Ki_show_75 : decode bc_Ki_show 75 = .ok (.ifCond .eq 23, 3) := by decide +kernel
theorem d_Ki_show_78 : decode bc_Ki_show 78 = .ok (.bipush 97, 2) := by decide +kernel
theorem d_Ki_show_80 : decode bc_Ki_show 80 = .ok (.aload_n 0, 1) := by decide +kernel
theorem d_Ki_show_81 : decode bc_Ki_show 81 = .ok (.getfield 21, 3) := by decide +kernel
theorem d_Ki_show_84 : decode bc_Ki_show 84 = .ok (.iload 6, 2) := by decide +kernel
theorem d_Ki_show_86 : decode bc_Ki_show 86 = .ok (.iaload, 1) := by decide +kernel
theorem d_Ki_show_87 : decode bc_Ki_show 87 = .ok (.bipush 26, 2) := by decide +kernel
theorem d_Ki_show_89 : decode bc_Ki_show 89 = .ok (.invokestatic 56, 3) := by decide +kernel
theorem d_Ki_show_92 : decode bc_Ki_show 92 = .ok (.iadd, 1) := by decide +kernel
theorem d_Ki_show_93 : decode bc_Ki_show 93 = .ok (.iconst 1, 1) := by decide +kernel
theorem d_Ki_show_94 : decode bc_Ki_show 94 = .ok (.isub, 1) := by decide +kernel
theorem d_Ki_show_95 : decode bc_Ki_show 95 = .ok (.goto 5, 3) := by decide +kernel
theorem d_Ki_show_98 : decode bc_Ki_show 98 = .ok (.bipush 42, 2) := by decide +kernel
theorem d_Ki_show_100 : decode bc_Ki_show 100 = .ok (.invokevirtual 115, 3) := by decide +kernel
theorem d_Ki_show_103 : decode bc_Ki_show 103 = .ok (.goto 93, 3) := by decide +kernel
theorem d_Ki_show_106 : decode bc_Ki_show 106 = .ok (.aload_n 0, 1) := by decide +kernel
theorem d_Ki_show_107 : decode bc_Ki_show 107 = .ok (.aload_n 0, 1) := by decide +kernel
theorem d_Ki_show_108 : decode bc_Ki_show 108 = .ok (.getfield 11, 3) := by decide +kernel
theorem d_Ki_show_111 : decode bc_Ki_show 111 = .ok (.iload 6, 2) := by decide +kernel
theorem d_Ki_show_113 : decode bc_Ki_show 113 = .ok (.iaload, 1) := by decide +kernel
theorem d_Ki_show_114 : decode bc_Ki_show 114 = .ok (.invokevirtual 52, 3) := by decide +kernel
theorem d_Ki_show_117 : decode bc_Ki_show 117 = .ok (.istore 7, 2) := by decide +kernel
theorem d_Ki_show_119 : decode bc_Ki_show 119 = .ok (.iload 5, 2) := by decide +kernel
theorem d_Ki_show_121 : decode bc_Ki_show 121 = .ok (.iconst 1, 1) := by decide +kernel
theorem d_Ki_show_122 : decode bc_Ki_show 122 = .ok (.iand, 1) := by decide +kernel
theorem d_Ki_show_123 : decode bc_Ki_show 123 = .ok (.ifCond .ne 37, 3) := by decide +kernel
theorem d_Ki_show_126 : decode bc_Ki_show 126 = .ok (.aload_n 0, 1) := by decide +kernel
theorem d_Ki_show_127 : decode bc_Ki_show 127 = .ok (.iload 7, 2) := by decide +kernel
theorem d_Ki_show_129 : decode bc_Ki_show 129 = .ok (.invokevirtual 80, 3) := by decide +kernel
theorem d_Ki_show_132 : decode bc_Ki_show 132 = .ok (.ifCond .eq 9, 3) := by decide +kernel
theorem d_Ki_show_135 : decode bc_Ki_show 135 = .ok (.aload_n 2, 1) := by decide +kernel
theorem d_Ki_show_136 : decode bc_Ki_show 136 = .ok (.bipush 40, 2) := by decide +kernel
theorem d_Ki_show_138 : decode bc_Ki_show 138 = .ok (.invokevirtual 115, 3) := by decide +kernel
theorem d_Ki_show_141 : decode bc_Ki_show 141 = .ok (.aload_n 0, 1) := by decide +kernel
theorem d_Ki_show_142 : decode bc_Ki_show 142 = .ok (.iload 5, 2) := by decide +kernel
theorem d_Ki_show_144 : decode bc_Ki_show 144 = .ok (.iconst 1, 1) := by decide +kernel
theorem d_Ki_show_145 : decode bc_Ki_show 145 = .ok (.ior, 1) := by decide +kernel
theorem d_Ki_show_146 : decode bc_Ki_show 146 = .ok (.invokevirtual 43, 3) := by decide +kernel
theorem d_Ki_show_149 : decode bc_Ki_show 149 = .ok (.aload_n 0, 1) := by decide +kernel
theorem d_Ki_show_150 : decode bc_Ki_show 150 = .ok (.iload 7, 2) := by decide +kernel
theorem d_Ki_show_152 : decode bc_Ki_show 152 = .ok (.iconst 1, 1) := by decide +kernel
theorem d_Ki_show_153 : decode bc_Ki_show 153 = .ok (.ishl, 1) := by decide +kernel
theorem d_Ki_show_154 : decode bc_Ki_show 154 = .ok (.invokevirtual 43, 3) := by decide +kernel
theorem d_Ki_show_157 : decode bc_Ki_show 157 = .ok (.goto 39, 3) := by decide +kernel
theorem d_Ki_show_160 : decode bc_Ki_show 160 = .ok (.aload_n 0, 1) := by decide +kernel
theorem d_Ki_show_161 : decode bc_Ki_show 161 = .ok (.iload 7, 2) := by decide +kernel
theorem d_Ki_show_163 : decode bc_Ki_show 163 = .ok (.invokevirtual 80, 3) := by decide +kernel
theorem d_Ki_show_166 : decode bc_Ki_show 166 = .ok (.ifCond .eq 9, 3) := by decide +kernel
theorem d_Ki_show_169 : decode bc_Ki_show 169 = .ok (.aload_n 2, 1) := by decide +kernel
theorem d_Ki_show_170 : decode bc_Ki_show 170 = .ok (.bipush 41, 2) := by decide +kernel
theorem d_Ki_show_172 : decode bc_Ki_show 172 = .ok (.invokevirtual 115, 3) := by decide +kernel
theorem d_Ki_show_175 : decode bc_Ki_show 175 = .ok (.aload_n 2, 1) := by decide +kernel
theorem d_Ki_show_176 : decode bc_Ki_show 176 = .ok (.invokevirtual 118, 3) := by decide +kernel
theorem d_Ki_show_179 : decode bc_Ki_show 179 = .ok (.aload_n 0, 1) := by decide +kernel
theorem d_Ki_show_180 : decode bc_Ki_show 180 = .ok (.aload_n 0, 1) := by decide +kernel
theorem d_Ki_show_181 : decode bc_Ki_show 181 = .ok (.aload_n 0, 1) := by decide +kernel
theorem d_Ki_show_182 : decode bc_Ki_show 182 = .ok (.getfield 15, 3) := by decide +kernel
theorem d_Ki_show_185 : decode bc_Ki_show 185 = .ok (.iload 6, 2) := by decide +kernel
theorem d_Ki_show_187 : decode bc_Ki_show 187 = .ok (.iaload, 1) := by decide +kernel
theorem d_Ki_show_188 : decode bc_Ki_show 188 = .ok (.invokevirtual 52, 3) := by decide +kernel
theorem d_Ki_show_191 : decode bc_Ki_show 191 = .ok (.iconst 1, 1) := by decide +kernel
theorem d_Ki_show_192 : decode bc_Ki_show 192 = .ok (.ishl, 1) := by decide +kernel
theorem d_Ki_show_193 : decode bc_Ki_show 193 = .ok (.invokevirtual 43, 3) := by decide +kernel
theorem d_Ki_show_196 : decode bc_Ki_show 196 = .ok (.iinc 4 1, 3) := by decide +kernel
theorem d_Ki_show_199 : decode bc_Ki_show 199 = .ok (.goto (-180), 3) := by decide +kernel
theorem d_Ki_show_202 : decode bc_Ki_show 202 = .ok (.return_, 1) := by decide +kernel
abbrev bc_Ki_closeGroup : ByteArray := prog_4_method_19_code
abbrev y_Ki_closeGroup : MethodName := ⟨"KindRounds$Kinds", "closeGroup", "()V"⟩
theorem d_Ki_closeGroup_0 : decode bc_Ki_closeGroup 0 = .ok (.aload_n 0, 1) := by decide +kernel
theorem d_Ki_closeGroup_1 : decode bc_Ki_closeGroup 1 = .ok (.getfield 34, 3) := by decide +kernel
theorem d_Ki_closeGroup_4 : decode bc_Ki_closeGroup 4 = .ok (.istore_n 1, 1) := by decide +kernel
theorem d_Ki_closeGroup_5 : decode bc_Ki_closeGroup 5 = .ok (.iload_n 1, 1) := by decide +kernel
theorem d_Ki_closeGroup_6 : decode bc_Ki_closeGroup 6 = .ok (.aload_n 0, 1) := by decide +kernel
theorem d_Ki_closeGroup_7 : decode bc_Ki_closeGroup 7 = .ok (.getfield 30, 3) := by decide +kernel
theorem d_Ki_closeGroup_10 : decode bc_Ki_closeGroup 10 = .ok (.if_icmp .ge 34, 3) := by decide +kernel
theorem d_Ki_closeGroup_13 : decode bc_Ki_closeGroup 13 = .ok (.aload_n 0, 1) := by decide +kernel
theorem d_Ki_closeGroup_14 : decode bc_Ki_closeGroup 14 = .ok (.iload_n 1, 1) := by decide +kernel
theorem d_Ki_closeGroup_15 : decode bc_Ki_closeGroup 15 = .ok (.invokevirtual 73, 3) := by decide +kernel
theorem d_Ki_closeGroup_18 : decode bc_Ki_closeGroup 18 = .ok (.ifCond .eq 20, 3) := by decide +kernel
theorem d_Ki_closeGroup_21 : decode bc_Ki_closeGroup 21 = .ok (.aload_n 0, 1) := by decide +kernel
theorem d_Ki_closeGroup_22 : decode bc_Ki_closeGroup 22 = .ok (.getfield 18, 3) := by decide +kernel
theorem d_Ki_closeGroup_25 : decode bc_Ki_closeGroup 25 = .ok (.iload_n 1, 1) := by decide +kernel
theorem d_Ki_closeGroup_26 : decode bc_Ki_closeGroup 26 = .ok (.iaload, 1) := by decide +kernel
theorem d_Ki_closeGroup_27 : decode bc_Ki_closeGroup 27 = .ok (.iconst (-1), 1) := by decide +kernel
theorem d_Ki_closeGroup_28 : decode bc_Ki_closeGroup 28 = .ok (.if_icmp .ne 10, 3) := by decide +kernel
theorem d_Ki_closeGroup_31 : decode bc_Ki_closeGroup 31 = .ok (.aload_n 0, 1) := by decide +kernel
theorem d_Ki_closeGroup_32 : decode bc_Ki_closeGroup 32 = .ok (.getfield 18, 3) := by decide +kernel
theorem d_Ki_closeGroup_35 : decode bc_Ki_closeGroup 35 = .ok (.iload_n 1, 1) := by decide +kernel
theorem d_Ki_closeGroup_36 : decode bc_Ki_closeGroup 36 = .ok (.iconst 0, 1) := by decide +kernel
theorem d_Ki_closeGroup_37 : decode bc_Ki_closeGroup 37 = .ok (.iastore, 1) := by decide +kernel
theorem d_Ki_closeGroup_38 : decode bc_Ki_closeGroup 38 = .ok (.iinc 1 1, 3) := by decide +kernel
theorem d_Ki_closeGroup_41 : decode bc_Ki_closeGroup 41 = .ok (.goto (-36), 3) := by decide +kernel
theorem d_Ki_closeGroup_44 : decode bc_Ki_closeGroup 44 = .ok (.aload_n 0, 1) := by decide +kernel
theorem d_Ki_closeGroup_45 : decode bc_Ki_closeGroup 45 = .ok (.aload_n 0, 1) := by decide +kernel
theorem d_Ki_closeGroup_46 : decode bc_Ki_closeGroup 46 = .ok (.getfield 30, 3) := by decide +kernel
theorem d_Ki_closeGroup_49 : decode bc_Ki_closeGroup 49 = .ok (.putfield 34, 3) := by decide +kernel
theorem d_Ki_closeGroup_52 : decode bc_Ki_closeGroup 52 = .ok (.return_, 1) := by decide +kernel
abbrev bc_Ki_dropAsked : ByteArray := prog_4_method_20_code
abbrev y_Ki_dropAsked : MethodName := ⟨"KindRounds$Kinds", "dropAsked", "()V"⟩
theorem d_Ki_dropAsked_0 : decode bc_Ki_dropAsked 0 = .ok (.aload_n 0, 1) := by decide +kernel
theorem d_Ki_dropAsked_1 : decode bc_Ki_dropAsked 1 = .ok (.aload_n 0, 1) := by decide +kernel
theorem d_Ki_dropAsked_2 : decode bc_Ki_dropAsked 2 = .ok (.getfield 34, 3) := by decide +kernel
theorem d_Ki_dropAsked_5 : decode bc_Ki_dropAsked 5 = .ok (.putfield 30, 3) := by decide +kernel
theorem d_Ki_dropAsked_8 : decode bc_Ki_dropAsked 8 = .ok (.return_, 1) := by decide +kernel
abbrev bc_Ro_clear : ByteArray := prog_9_method_2_code
abbrev y_Ro_clear : MethodName := ⟨"KindRounds$Row", "clear", "()V"⟩
theorem d_Ro_clear_0 : decode bc_Ro_clear 0 = .ok (.aload_n 0, 1) := by decide +kernel
theorem d_Ro_clear_1 : decode bc_Ro_clear 1 = .ok (.iconst 0, 1) := by decide +kernel
theorem d_Ro_clear_2 : decode bc_Ro_clear 2 = .ok (.putfield 31, 3) := by decide +kernel
theorem d_Ro_clear_5 : decode bc_Ro_clear 5 = .ok (.aload_n 0, 1) := by decide +kernel
theorem d_Ro_clear_6 : decode bc_Ro_clear 6 = .ok (.iconst 0, 1) := by decide +kernel
theorem d_Ro_clear_7 : decode bc_Ro_clear 7 = .ok (.putfield 35, 3) := by decide +kernel
theorem d_Ro_clear_10 : decode bc_Ro_clear 10 = .ok (.return_, 1) := by decide +kernel
abbrev bc_Ro_isFull : ByteArray := prog_9_method_3_code
abbrev y_Ro_isFull : MethodName := ⟨"KindRounds$Row", "isFull", "()Z"⟩
theorem d_Ro_isFull_0 : decode bc_Ro_isFull 0 = .ok (.aload_n 0, 1) := by decide +kernel
theorem d_Ro_isFull_1 : decode bc_Ro_isFull 1 = .ok (.getfield 31, 3) := by decide +kernel
theorem d_Ro_isFull_4 : decode bc_Ro_isFull 4 = .ok (.sipush 200, 3) := by decide +kernel
theorem d_Ro_isFull_7 : decode bc_Ro_isFull 7 = .ok (.if_icmp .lt 7, 3) := by decide +kernel
theorem d_Ro_isFull_10 : decode bc_Ro_isFull 10 = .ok (.iconst 1, 1) := by decide +kernel
theorem d_Ro_isFull_11 : decode bc_Ro_isFull 11 = .ok (.goto 4, 3) := by decide +kernel
theorem d_Ro_isFull_14 : decode bc_Ro_isFull 14 = .ok (.iconst 0, 1) := by decide +kernel
theorem d_Ro_isFull_15 : decode bc_Ro_isFull 15 = .ok (.ireturn, 1) := by decide +kernel
abbrev bc_Ro_beginTerm : ByteArray := prog_9_method_4_code
abbrev y_Ro_beginTerm : MethodName := ⟨"KindRounds$Row", "beginTerm", "(I)Z"⟩
theorem d_Ro_beginTerm_0 : decode bc_Ro_beginTerm 0 = .ok (.aload_n 0, 1) := by decide +kernel
theorem d_Ro_beginTerm_1 : decode bc_Ro_beginTerm 1 = .ok (.getfield 35, 3) := by decide +kernel
theorem d_Ro_beginTerm_4 : decode bc_Ro_beginTerm 4 = .ok (.sipush 200, 3) := by decide +kernel
theorem d_Ro_beginTerm_7 : decode bc_Ro_beginTerm 7 = .ok (.if_icmp .le 5, 3) := by decide +kernel
theorem d_Ro_beginTerm_10 : decode bc_Ro_beginTerm 10 = .ok (.iconst 0, 1) := by decide +kernel
theorem d_Ro_beginTerm_11 : decode bc_Ro_beginTerm 11 = .ok (.ireturn, 1) := by decide +kernel
theorem d_Ro_beginTerm_12 : decode bc_Ro_beginTerm 12 = .ok (.aload_n 0, 1) := by decide +kernel
theorem d_Ro_beginTerm_13 : decode bc_Ro_beginTerm 13 = .ok (.getfield 25, 3) := by decide +kernel
theorem d_Ro_beginTerm_16 : decode bc_Ro_beginTerm 16 = .ok (.aload_n 0, 1) := by decide +kernel
theorem d_Ro_beginTerm_17 : decode bc_Ro_beginTerm 17 = .ok (.getfield 35, 3) := by decide +kernel
theorem d_Ro_beginTerm_20 : decode bc_Ro_beginTerm 20 = .ok (.aload_n 0, 1) := by decide +kernel
theorem d_Ro_beginTerm_21 : decode bc_Ro_beginTerm 21 = .ok (.getfield 31, 3) := by decide +kernel
theorem d_Ro_beginTerm_24 : decode bc_Ro_beginTerm 24 = .ok (.iastore, 1) := by decide +kernel
theorem d_Ro_beginTerm_25 : decode bc_Ro_beginTerm 25 = .ok (.aload_n 0, 1) := by decide +kernel
theorem d_Ro_beginTerm_26 : decode bc_Ro_beginTerm 26 = .ok (.getfield 28, 3) := by decide +kernel
theorem d_Ro_beginTerm_29 : decode bc_Ro_beginTerm 29 = .ok (.aload_n 0, 1) := by decide +kernel
theorem d_Ro_beginTerm_30 : decode bc_Ro_beginTerm 30 = .ok (.getfield 35, 3) := by decide +kernel
theorem d_Ro_beginTerm_33 : decode bc_Ro_beginTerm 33 = .ok (.iload_n 1, 1) := by decide +kernel
theorem d_Ro_beginTerm_34 : decode bc_Ro_beginTerm 34 = .ok (.iastore, 1) := by decide +kernel
theorem d_Ro_beginTerm_35 : decode bc_Ro_beginTerm 35 = .ok (.aload_n 0, 1) := by decide +kernel
theorem d_Ro_beginTerm_36 : decode bc_Ro_beginTerm 36 = .ok (.dup, 1) := by decide +kernel
theorem d_Ro_beginTerm_37 : decode bc_Ro_beginTerm 37 = .ok (.getfield 35, 3) := by decide +kernel
theorem d_Ro_beginTerm_40 : decode bc_Ro_beginTerm 40 = .ok (.iconst 1, 1) := by decide +kernel
theorem d_Ro_beginTerm_41 : decode bc_Ro_beginTerm 41 = .ok (.iadd, 1) := by decide +kernel
theorem d_Ro_beginTerm_42 : decode bc_Ro_beginTerm 42 = .ok (.putfield 35, 3) := by decide +kernel
theorem d_Ro_beginTerm_45 : decode bc_Ro_beginTerm 45 = .ok (.iconst 1, 1) := by decide +kernel
theorem d_Ro_beginTerm_46 : decode bc_Ro_beginTerm 46 = .ok (.ireturn, 1) := by decide +kernel
abbrev bc_Ro_termEnd : ByteArray := prog_9_method_5_code
abbrev y_Ro_termEnd : MethodName := ⟨"KindRounds$Row", "termEnd", "(I)I"⟩
theorem d_Ro_termEnd_0 : decode bc_Ro_termEnd 0 = .ok (.iload_n 1, 1) := by decide +kernel
theorem d_Ro_termEnd_1 : decode bc_Ro_termEnd 1 = .ok (.iconst 1, 1) := by decide +kernel
theorem d_Ro_termEnd_2 : decode bc_Ro_termEnd 2 = .ok (.iadd, 1) := by decide +kernel
theorem d_Ro_termEnd_3 : decode bc_Ro_termEnd 3 = .ok (.aload_n 0, 1) := by decide +kernel
theorem d_Ro_termEnd_4 : decode bc_Ro_termEnd 4 = .ok (.getfield 35, 3) := by decide +kernel
theorem d_Ro_termEnd_7 : decode bc_Ro_termEnd 7 = .ok (.if_icmp .ge 14, 3) := by decide +kernel
theorem d_Ro_termEnd_10 : decode bc_Ro_termEnd 10 = .ok (.aload_n 0, 1) := by decide +kernel
theorem d_Ro_termEnd_11 : decode bc_Ro_termEnd 11 = .ok (.getfield 25, 3) := by decide +kernel
theorem d_Ro_termEnd_14 : decode bc_Ro_termEnd 14 = .ok (.iload_n 1, 1) := by decide +kernel
theorem d_Ro_termEnd_15 : decode bc_Ro_termEnd 15 = .ok (.iconst 1, 1) := by decide +kernel
theorem d_Ro_termEnd_16 : decode bc_Ro_termEnd 16 = .ok (.iadd, 1) := by decide +kernel
theorem d_Ro_termEnd_17 : decode bc_Ro_termEnd 17 = .ok (.iaload, 1) := by decide +kernel
theorem d_Ro_termEnd_18 : decode bc_Ro_termEnd 18 = .ok (.goto 7, 3) := by decide +kernel
theorem d_Ro_termEnd_21 : decode bc_Ro_termEnd 21 = .ok (.aload_n 0, 1) := by decide +kernel
theorem d_Ro_termEnd_22 : decode bc_Ro_termEnd 22 = .ok (.getfield 31, 3) := by decide +kernel
theorem d_Ro_termEnd_25 : decode bc_Ro_termEnd 25 = .ok (.ireturn, 1) := by decide +kernel
abbrev bc_Ro_termOf : ByteArray := prog_9_method_6_code
abbrev y_Ro_termOf : MethodName := ⟨"KindRounds$Row", "termOf", "(I)I"⟩
theorem d_Ro_termOf_0 : decode bc_Ro_termOf 0 = .ok (.iconst 0, 1) := by decide +kernel
theorem d_Ro_termOf_1 : decode bc_Ro_termOf 1 = .ok (.istore_n 2, 1) := by decide +kernel
theorem d_Ro_termOf_2 : decode bc_Ro_termOf 2 = .ok (.iload_n 2, 1) := by decide +kernel
theorem d_Ro_termOf_3 : decode bc_Ro_termOf 3 = .ok (.aload_n 0, 1) := by decide +kernel
theorem d_Ro_termOf_4 : decode bc_Ro_termOf 4 = .ok (.getfield 35, 3) := by decide +kernel
theorem d_Ro_termOf_7 : decode bc_Ro_termOf 7 = .ok (.if_icmp .ge 21, 3) := by decide +kernel
theorem d_Ro_termOf_10 : decode bc_Ro_termOf 10 = .ok (.aload_n 0, 1) := by decide +kernel
theorem d_Ro_termOf_11 : decode bc_Ro_termOf 11 = .ok (.getfield 28, 3) := by decide +kernel
theorem d_Ro_termOf_14 : decode bc_Ro_termOf 14 = .ok (.iload_n 2, 1) := by decide +kernel
theorem d_Ro_termOf_15 : decode bc_Ro_termOf 15 = .ok (.iaload, 1) := by decide +kernel
theorem d_Ro_termOf_16 : decode bc_Ro_termOf 16 = .ok (.iload_n 1, 1) := by decide +kernel
theorem d_Ro_termOf_17 : decode bc_Ro_termOf 17 = .ok (.if_icmp .ne 5, 3) := by decide +kernel
theorem d_Ro_termOf_20 : decode bc_Ro_termOf 20 = .ok (.iload_n 2, 1) := by decide +kernel
theorem d_Ro_termOf_21 : decode bc_Ro_termOf 21 = .ok (.ireturn, 1) := by decide +kernel
theorem d_Ro_termOf_22 : decode bc_Ro_termOf 22 = .ok (.iinc 2 1, 3) := by decide +kernel
theorem d_Ro_termOf_25 : decode bc_Ro_termOf 25 = .ok (.goto (-23), 3) := by decide +kernel
theorem d_Ro_termOf_28 : decode bc_Ro_termOf 28 = .ok (.iconst 0, 1) := by decide +kernel
theorem d_Ro_termOf_29 : decode bc_Ro_termOf 29 = .ok (.ireturn, 1) := by decide +kernel
abbrev bc_Ro_add : ByteArray := prog_9_method_7_code
abbrev y_Ro_add : MethodName := ⟨"KindRounds$Row", "add", "(IJII)Z"⟩
theorem d_Ro_add_0 : decode bc_Ro_add 0 = .ok (.aload_n 0, 1) := by decide +kernel
theorem d_Ro_add_1 : decode bc_Ro_add 1 = .ok (.getfield 31, 3) := by decide +kernel
theorem d_Ro_add_4 : decode bc_Ro_add 4 = .ok (.sipush 200, 3) := by decide +kernel
theorem d_Ro_add_7 : decode bc_Ro_add 7 = .ok (.if_icmp .lt 5, 3) := by decide +kernel
theorem d_Ro_add_10 : decode bc_Ro_add 10 = .ok (.iconst 0, 1) := by decide +kernel
theorem d_Ro_add_11 : decode bc_Ro_add 11 = .ok (.ireturn, 1) := by decide +kernel
theorem d_Ro_add_12 : decode bc_Ro_add 12 = .ok (.aload_n 0, 1) := by decide +kernel
theorem d_Ro_add_13 : decode bc_Ro_add 13 = .ok (.getfield 9, 3) := by decide +kernel
theorem d_Ro_add_16 : decode bc_Ro_add 16 = .ok (.aload_n 0, 1) := by decide +kernel
theorem d_Ro_add_17 : decode bc_Ro_add 17 = .ok (.getfield 31, 3) := by decide +kernel
theorem d_Ro_add_20 : decode bc_Ro_add 20 = .ok (.iload_n 1, 1) := by decide +kernel
theorem d_Ro_add_21 : decode bc_Ro_add 21 = .ok (.iastore, 1) := by decide +kernel
theorem d_Ro_add_22 : decode bc_Ro_add 22 = .ok (.aload_n 0, 1) := by decide +kernel
theorem d_Ro_add_23 : decode bc_Ro_add 23 = .ok (.getfield 15, 3) := by decide +kernel
theorem d_Ro_add_26 : decode bc_Ro_add 26 = .ok (.aload_n 0, 1) := by decide +kernel
theorem d_Ro_add_27 : decode bc_Ro_add 27 = .ok (.getfield 31, 3) := by decide +kernel
theorem d_Ro_add_30 : decode bc_Ro_add 30 = .ok (.lload_n 2, 1) := by decide +kernel
theorem d_Ro_add_31 : decode bc_Ro_add 31 = .ok (.lastore, 1) := by decide +kernel
theorem d_Ro_add_32 : decode bc_Ro_add 32 = .ok (.aload_n 0, 1) := by decide +kernel
theorem d_Ro_add_33 : decode bc_Ro_add 33 = .ok (.getfield 19, 3) := by decide +kernel
theorem d_Ro_add_36 : decode bc_Ro_add 36 = .ok (.aload_n 0, 1) := by decide +kernel
theorem d_Ro_add_37 : decode bc_Ro_add 37 = .ok (.getfield 31, 3) := by decide +kernel
theorem d_Ro_add_40 : decode bc_Ro_add 40 = .ok (.iload 4, 2) := by decide +kernel
theorem d_Ro_add_42 : decode bc_Ro_add 42 = .ok (.iastore, 1) := by decide +kernel
theorem d_Ro_add_43 : decode bc_Ro_add 43 = .ok (.aload_n 0, 1) := by decide +kernel
theorem d_Ro_add_44 : decode bc_Ro_add 44 = .ok (.getfield 22, 3) := by decide +kernel
theorem d_Ro_add_47 : decode bc_Ro_add 47 = .ok (.aload_n 0, 1) := by decide +kernel
theorem d_Ro_add_48 : decode bc_Ro_add 48 = .ok (.getfield 31, 3) := by decide +kernel
theorem d_Ro_add_51 : decode bc_Ro_add 51 = .ok (.iload 5, 2) := by decide +kernel
theorem d_Ro_add_53 : decode bc_Ro_add 53 = .ok (.iastore, 1) := by decide +kernel
theorem d_Ro_add_54 : decode bc_Ro_add 54 = .ok (.aload_n 0, 1) := by decide +kernel
theorem d_Ro_add_55 : decode bc_Ro_add 55 = .ok (.dup, 1) := by decide +kernel
theorem d_Ro_add_56 : decode bc_Ro_add 56 = .ok (.getfield 31, 3) := by decide +kernel
theorem d_Ro_add_59 : decode bc_Ro_add 59 = .ok (.iconst 1, 1) := by decide +kernel
theorem d_Ro_add_60 : decode bc_Ro_add 60 = .ok (.iadd, 1) := by decide +kernel
theorem d_Ro_add_61 : decode bc_Ro_add 61 = .ok (.putfield 31, 3) := by decide +kernel
theorem d_Ro_add_64 : decode bc_Ro_add 64 = .ok (.iconst 1, 1) := by decide +kernel
theorem d_Ro_add_65 : decode bc_Ro_add 65 = .ok (.ireturn, 1) := by decide +kernel
abbrev bc_Ro_insertArrow : ByteArray := prog_9_method_8_code
abbrev y_Ro_insertArrow : MethodName := ⟨"KindRounds$Row", "insertArrow", "(I)V"⟩
theorem d_Ro_insertArrow_0 : decode bc_Ro_insertArrow 0 = .ok (.aload_n 0, 1) := by decide +kernel
theorem d_Ro_insertArrow_1 : decode bc_Ro_insertArrow 1 = .ok (.getfield 31, 3) := by decide +kernel
theorem d_Ro_insertArrow_4 : decode bc_Ro_insertArrow 4 = .ok (.iload_n 1, 1) := by decide +kernel
theorem d_Ro_insertArrow_5 : decode bc_Ro_insertArrow 5 = .ok (.isub, 1) := by decide +kernel
theorem d_Ro_insertArrow_6 : decode bc_Ro_insertArrow 6 = .ok (.istore_n 2, 1) := by decide +kernel
theorem d_Ro_insertArrow_7 : decode bc_Ro_insertArrow 7 = .ok (.aload_n 0, 1) := by decide +kernel
theorem d_Ro_insertArrow_8 : decode bc_Ro_insertArrow 8 = .ok (.invokevirtual 38, 3) := by decide +kernel
theorem d_Ro_insertArrow_11 : decode bc_Ro_insertArrow 11 = .ok (.ifCond .ne 7, 3) := by decide +kernel
theorem d_Ro_insertArrow_14 : decode bc_Ro_insertArrow 14 = .ok (.iload_n 2, 1) := by decide +kernel
theorem d_Ro_insertArrow_15 : decode bc_Ro_insertArrow 15 = .ok (.ifCond .gt 4, 3) := by decide +kernel
theorem d_Ro_insertArrow_18 : decode bc_Ro_insertArrow 18 = .ok (.return_, 1) := by decide +kernel
theorem d_Ro_insertArrow_19 : decode bc_Ro_insertArrow 19 = .ok (.aload_n 0, 1) := by decide +kernel
theorem d_Ro_insertArrow_20 : decode bc_Ro_insertArrow 20 = .ok (.getfield 9, 3) := by decide +kernel
theorem d_Ro_insertArrow_23 : decode bc_Ro_insertArrow 23 = .ok (.iload_n 1, 1) := by decide +kernel
theorem d_Ro_insertArrow_24 : decode bc_Ro_insertArrow 24 = .ok (.aload_n 0, 1) := by decide +kernel
theorem d_Ro_insertArrow_25 : decode bc_Ro_insertArrow 25 = .ok (.getfield 9, 3) := by decide +kernel
theorem d_Ro_insertArrow_28 : decode bc_Ro_insertArrow 28 = .ok (.iload_n 1, 1) := by decide +kernel
theorem d_Ro_insertArrow_29 : decode bc_Ro_insertArrow 29 = .ok (.iconst 1, 1) := by decide +kernel
theorem d_Ro_insertArrow_30 : decode bc_Ro_insertArrow 30 = .ok (.iadd, 1) := by decide +kernel
theorem d_Ro_insertArrow_31 : decode bc_Ro_insertArrow 31 = .ok (.iload_n 2, 1) := by decide +kernel
theorem d_Ro_insertArrow_32 : decode bc_Ro_insertArrow 32 = .ok (.invokestatic 42, 3) := by decide +kernel
theorem d_Ro_insertArrow_35 : decode bc_Ro_insertArrow 35 = .ok (.aload_n 0, 1) := by decide +kernel
theorem d_Ro_insertArrow_36 : decode bc_Ro_insertArrow 36 = .ok (.getfield 15, 3) := by decide +kernel
theorem d_Ro_insertArrow_39 : decode bc_Ro_insertArrow 39 = .ok (.iload_n 1, 1) := by decide +kernel
theorem d_Ro_insertArrow_40 : decode bc_Ro_insertArrow 40 = .ok (.aload_n 0, 1) := by decide +kernel
theorem d_Ro_insertArrow_41 : decode bc_Ro_insertArrow 41 = .ok (.getfield 15, 3) := by decide +kernel
theorem d_Ro_insertArrow_44 : decode bc_Ro_insertArrow 44 = .ok (.iload_n 1, 1) := by decide +kernel
theorem d_Ro_insertArrow_45 : decode bc_Ro_insertArrow 45 = .ok (.iconst 1, 1) := by decide +kernel
theorem d_Ro_insertArrow_46 : decode bc_Ro_insertArrow 46 = .ok (.iadd, 1) := by decide +kernel
theorem d_Ro_insertArrow_47 : decode bc_Ro_insertArrow 47 = .ok (.iload_n 2, 1) := by decide +kernel
theorem d_Ro_insertArrow_48 : decode bc_Ro_insertArrow 48 = .ok (.invokestatic 42, 3) := by decide +kernel
theorem d_Ro_insertArrow_51 : decode bc_Ro_insertArrow 51 = .ok (.aload_n 0, 1) := by decide +kernel
theorem d_Ro_insertArrow_52 : decode bc_Ro_insertArrow 52 = .ok (.getfield 19, 3) := by decide +kernel
theorem d_Ro_insertArrow_55 : decode bc_Ro_insertArrow 55 = .ok (.iload_n 1, 1) := by decide +kernel
theorem d_Ro_insertArrow_56 : decode bc_Ro_insertArrow 56 = .ok (.aload_n 0, 1) := by decide +kernel
theorem d_Ro_insertArrow_57 : decode bc_Ro_insertArrow 57 = .ok (.getfield 19, 3) := by decide +kernel
theorem d_Ro_insertArrow_60 : decode bc_Ro_insertArrow 60 = .ok (.iload_n 1, 1) := by decide +kernel
theorem d_Ro_insertArrow_61 : decode bc_Ro_insertArrow 61 = .ok (.iconst 1, 1) := by decide +kernel
theorem d_Ro_insertArrow_62 : decode bc_Ro_insertArrow 62 = .ok (.iadd, 1) := by decide +kernel
theorem d_Ro_insertArrow_63 : decode bc_Ro_insertArrow 63 = .ok (.iload_n 2, 1) := by decide +kernel
theorem d_Ro_insertArrow_64 : decode bc_Ro_insertArrow 64 = .ok (.invokestatic 42, 3) := by decide +kernel
theorem d_Ro_insertArrow_67 : decode bc_Ro_insertArrow 67 = .ok (.aload_n 0, 1) := by decide +kernel
theorem d_Ro_insertArrow_68 : decode bc_Ro_insertArrow 68 = .ok (.getfield 22, 3) := by decide +kernel
theorem d_Ro_insertArrow_71 : decode bc_Ro_insertArrow 71 = .ok (.iload_n 1, 1) := by decide +kernel
theorem d_Ro_insertArrow_72 : decode bc_Ro_insertArrow 72 = .ok (.aload_n 0, 1) := by decide +kernel
theorem d_Ro_insertArrow_73 : decode bc_Ro_insertArrow 73 = .ok (.getfield 22, 3) := by decide +kernel
theorem d_Ro_insertArrow_76 : decode bc_Ro_insertArrow 76 = .ok (.iload_n 1, 1) := by decide +kernel
theorem d_Ro_insertArrow_77 : decode bc_Ro_insertArrow 77 = .ok (.iconst 1, 1) := by decide +kernel
theorem d_Ro_insertArrow_78 : decode bc_Ro_insertArrow 78 = .ok (.iadd, 1) := by decide +kernel
theorem d_Ro_insertArrow_79 : decode bc_Ro_insertArrow 79 = .ok (.iload_n 2, 1) := by decide +kernel
theorem d_Ro_insertArrow_80 : decode bc_Ro_insertArrow 80 = .ok (.invokestatic 42, 3) := by decide +kernel
theorem d_Ro_insertArrow_83 : decode bc_Ro_insertArrow 83 = .ok (.aload_n 0, 1) := by decide +kernel
theorem d_Ro_insertArrow_84 : decode bc_Ro_insertArrow 84 = .ok (.getfield 9, 3) := by decide +kernel
theorem d_Ro_insertArrow_87 : decode bc_Ro_insertArrow 87 = .ok (.iload_n 1, 1) := by decide +kernel
theorem d_Ro_insertArrow_88 : decode bc_Ro_insertArrow 88 = .ok (.bipush 45, 2) := by decide +kernel
theorem d_Ro_insertArrow_90 : decode bc_Ro_insertArrow 90 = .ok (.iastore, 1) := by decide +kernel
theorem d_Ro_insertArrow_91 : decode bc_Ro_insertArrow 91 = .ok (.aload_n 0, 1) := by decide +kernel
theorem d_Ro_insertArrow_92 : decode bc_Ro_insertArrow 92 = .ok (.getfield 15, 3) := by decide +kernel
theorem d_Ro_insertArrow_95 : decode bc_Ro_insertArrow 95 = .ok (.iload_n 1, 1) := by decide +kernel
theorem d_Ro_insertArrow_96 : decode bc_Ro_insertArrow 96 = .ok (.lconst 0, 1) := by decide +kernel
theorem d_Ro_insertArrow_97 : decode bc_Ro_insertArrow 97 = .ok (.lastore, 1) := by decide +kernel
theorem d_Ro_insertArrow_98 : decode bc_Ro_insertArrow 98 = .ok (.aload_n 0, 1) := by decide +kernel
theorem d_Ro_insertArrow_99 : decode bc_Ro_insertArrow 99 = .ok (.getfield 19, 3) := by decide +kernel
theorem d_Ro_insertArrow_102 : decode bc_Ro_insertArrow 102 = .ok (.iload_n 1, 1) := by decide +kernel
theorem d_Ro_insertArrow_103 : decode bc_Ro_insertArrow 103 = .ok (.iconst 2, 1) := by decide +kernel
theorem d_Ro_insertArrow_104 : decode bc_Ro_insertArrow 104 = .ok (.iastore, 1) := by decide +kernel
theorem d_Ro_insertArrow_105 : decode bc_Ro_insertArrow 105 = .ok (.aload_n 0, 1) := by decide +kernel
theorem d_Ro_insertArrow_106 : decode bc_Ro_insertArrow 106 = .ok (.dup, 1) := by decide +kernel
theorem d_Ro_insertArrow_107 : decode bc_Ro_insertArrow 107 = .ok (.getfield 31, 3) := by decide +kernel
theorem d_Ro_insertArrow_110 : decode bc_Ro_insertArrow 110 = .ok (.iconst 1, 1) := by decide +kernel
theorem d_Ro_insertArrow_111 : decode bc_Ro_insertArrow 111 = .ok (.iadd, 1) := by decide +kernel
theorem d_Ro_insertArrow_112 : decode bc_Ro_insertArrow 112 = .ok (.putfield 31, 3) := by decide +kernel
theorem d_Ro_insertArrow_115 : decode bc_Ro_insertArrow 115 = .ok (.return_, 1) := by decide +kernel
abbrev bc_Ro_fixedOf : ByteArray := prog_9_method_9_code
abbrev y_Ro_fixedOf : MethodName := ⟨"KindRounds$Row", "fixedOf", "(I)I"⟩
theorem d_Ro_fixedOf_0 : decode bc_Ro_fixedOf 0 = .ok (.aload_n 0, 1) := by decide +kernel
theorem d_Ro_fixedOf_1 : decode bc_Ro_fixedOf 1 = .ok (.getfield 9, 3) := by decide +kernel
theorem d_Ro_fixedOf_4 : decode bc_Ro_fixedOf 4 = .ok (.iload_n 1, 1) := by decide +kernel
theorem d_Ro_fixedOf_5 : decode bc_Ro_fixedOf 5 = .ok (.iaload, 1) := by decide +kernel
theorem d_Ro_fixedOf_6 : decode bc_Ro_fixedOf 6 = .ok (.bipush 45, 2) := by decide +kernel
theorem d_Ro_fixedOf_8 : decode bc_Ro_fixedOf 8 = .ok (.if_icmp .ne 5, 3) := by decide +kernel
theorem d_Ro_fixedOf_11 : decode bc_Ro_fixedOf 11 = .ok (.iconst 2, 1) := by decide +kernel
theorem d_Ro_fixedOf_12 : decode bc_Ro_fixedOf 12 = .ok (.ireturn, 1) := by decide +kernel
theorem d_Ro_fixedOf_13 : decode bc_Ro_fixedOf 13 = .ok (.aload_n 0, 1) := by decide +kernel
theorem d_Ro_fixedOf_14 : decode bc_Ro_fixedOf 14 = .ok (.getfield 9, 3) := by decide +kernel
theorem d_Ro_fixedOf_17 : decode bc_Ro_fixedOf 17 = .ok (.iload_n 1, 1) := by decide +kernel
theorem d_Ro_fixedOf_18 : decode bc_Ro_fixedOf 18 = .ok (.iaload, 1) := by decide +kernel
theorem d_Ro_fixedOf_19 : decode bc_Ro_fixedOf 19 = .ok (.bipush 91, 2) := by decide +kernel
theorem d_Ro_fixedOf_21 : decode bc_Ro_fixedOf 21 = .ok (.if_icmp .ne 7, 3) := by decide +kernel
theorem d_Ro_fixedOf_24 : decode bc_Ro_fixedOf 24 = .ok (.iconst 1, 1) := by decide +kernel
theorem d_Ro_fixedOf_25 : decode bc_Ro_fixedOf 25 = .ok (.goto 4, 3) := by decide +kernel
theorem d_Ro_fixedOf_28 : decode bc_Ro_fixedOf 28 = .ok (.iconst 0, 1) := by decide +kernel
theorem d_Ro_fixedOf_29 : decode bc_Ro_fixedOf 29 = .ok (.ireturn, 1) := by decide +kernel
abbrev bc_Ro_endOf : ByteArray := prog_9_method_10_code
abbrev y_Ro_endOf : MethodName := ⟨"KindRounds$Row", "endOf", "(I)I"⟩
theorem d_Ro_endOf_0 : decode bc_Ro_endOf 0 = .ok (.iconst 1, 1) := by decide +kernel
theorem d_Ro_endOf_1 : decode bc_Ro_endOf 1 = .ok (.istore_n 2, 1) := by decide +kernel
theorem d_Ro_endOf_2 : decode bc_Ro_endOf 2 = .ok (.iload_n 1, 1) := by decide +kernel
theorem d_Ro_endOf_3 : decode bc_Ro_endOf 3 = .ok (.istore_n 3, 1) := by decide +kernel
theorem d_Ro_endOf_4 : decode bc_Ro_endOf 4 = .ok (.iload_n 3, 1) := by decide +kernel
theorem d_Ro_endOf_5 : decode bc_Ro_endOf 5 = .ok (.aload_n 0, 1) := by decide +kernel
theorem d_Ro_endOf_6 : decode bc_Ro_endOf 6 = .ok (.getfield 31, 3) := by decide +kernel
theorem d_Ro_endOf_9 : decode bc_Ro_endOf 9 = .ok (.if_icmp .ge 24, 3) := by decide +kernel
theorem d_Ro_endOf_12 : decode bc_Ro_endOf 12 = .ok (.iload_n 2, 1) := by decide +kernel
theorem d_Ro_endOf_13 : decode bc_Ro_endOf 13 = .ok (.ifCond .le 20, 3) := by decide +kernel
theorem d_Ro_endOf_16 : decode bc_Ro_endOf 16 = .ok (.iload_n 2, 1) := by decide +kernel
theorem d_Ro_endOf_17 : decode bc_Ro_endOf 17 = .ok (.aload_n 0, 1) := by decide +kernel
theorem d_Ro_endOf_18 : decode bc_Ro_endOf 18 = .ok (.getfield 19, 3) := by decide +kernel
theorem d_Ro_endOf_21 : decode bc_Ro_endOf 21 = .ok (.iload_n 3, 1) := by decide +kernel
theorem d_Ro_endOf_22 : decode bc_Ro_endOf 22 = .ok (.iaload, 1) := by decide +kernel
theorem d_Ro_endOf_23 : decode bc_Ro_endOf 23 = .ok (.iconst 1, 1) := by decide +kernel
theorem d_Ro_endOf_24 : decode bc_Ro_endOf 24 = .ok (.isub, 1) := by decide +kernel
theorem d_Ro_endOf_25 : decode bc_Ro_endOf 25 = .ok (.iadd, 1) := by decide +kernel
theorem d_Ro_endOf_26 : decode bc_Ro_endOf 26 = .ok (.istore_n 2, 1) := by decide +kernel
theorem d_Ro_endOf_27 : decode bc_Ro_endOf 27 = .ok (.iinc 3 1, 3) := by decide +kernel
theorem d_Ro_endOf_30 : decode bc_Ro_endOf 30 = .ok (.goto (-26), 3) := by decide +kernel
theorem d_Ro_endOf_33 : decode bc_Ro_endOf 33 = .ok (.iload_n 3, 1) := by decide +kernel
theorem d_Ro_endOf_34 : decode bc_Ro_endOf 34 = .ok (.ireturn, 1) := by decide +kernel
abbrev bc_Ro_isLike : ByteArray := prog_9_method_11_code
abbrev y_Ro_isLike : MethodName := ⟨"KindRounds$Row", "isLike", "(LKindRounds$Row;)Z"⟩
theorem d_Ro_isLike_0 : decode bc_Ro_isLike 0 = .ok (.aload_n 0, 1) := by decide +kernel
theorem d_Ro_isLike_1 : decode bc_Ro_isLike 1 = .ok (.getfield 31, 3) := by decide +kernel
theorem d_Ro_isLike_4 : decode bc_Ro_isLike 4 = .ok (.aload_n 1, 1) := by decide +kernel
theorem d_Ro_isLike_5 : decode bc_Ro_isLike 5 = .ok (.getfield 31, 3) := by decide +kernel
theorem d_Ro_isLike_8 : decode bc_Ro_isLike 8 = .ok (.if_icmp .eq 5, 3) := by decide +kernel
theorem d_Ro_isLike_11 : decode bc_Ro_isLike 11 = .ok (.iconst 0, 1) := by decide +kernel
theorem d_Ro_isLike_12 : decode bc_Ro_isLike 12 = .ok (.ireturn, 1) := by decide +kernel
theorem d_Ro_isLike_13 : decode bc_Ro_isLike 13 = .ok (.iconst 0, 1) := by decide +kernel
theorem d_Ro_isLike_14 : decode bc_Ro_isLike 14 = .ok (.istore_n 2, 1) := by decide +kernel
theorem d_Ro_isLike_15 : decode bc_Ro_isLike 15 = .ok (.iload_n 2, 1) := by decide +kernel
theorem d_Ro_isLike_16 : decode bc_Ro_isLike 16 = .ok (.aload_n 0, 1) := by decide +kernel
theorem d_Ro_isLike_17 : decode bc_Ro_isLike 17 = .ok (.getfield 31, 3) := by decide +kernel
theorem d_Ro_isLike_20 : decode bc_Ro_isLike 20 = .ok (.if_icmp .ge 57, 3) := by decide +kernel
theorem d_Ro_isLike_23 : decode bc_Ro_isLike 23 = .ok (.aload_n 0, 1) := by decide +kernel
theorem d_Ro_isLike_24 : decode bc_Ro_isLike 24 = .ok (.getfield 9, 3) := by decide +kernel
theorem d_Ro_isLike_27 : decode bc_Ro_isLike 27 = .ok (.iload_n 2, 1) := by decide +kernel
theorem d_Ro_isLike_28 : decode bc_Ro_isLike 28 = .ok (.iaload, 1) := by decide +kernel
theorem d_Ro_isLike_29 : decode bc_Ro_isLike 29 = .ok (.aload_n 1, 1) := by decide +kernel
theorem d_Ro_isLike_30 : decode bc_Ro_isLike 30 = .ok (.getfield 9, 3) := by decide +kernel
theorem d_Ro_isLike_33 : decode bc_Ro_isLike 33 = .ok (.iload_n 2, 1) := by decide +kernel
theorem d_Ro_isLike_34 : decode bc_Ro_isLike 34 = .ok (.iaload, 1) := by decide +kernel
theorem d_Ro_isLike_35 : decode bc_Ro_isLike 35 = .ok (.if_icmp .ne 34, 3) := by decide +kernel
theorem d_Ro_isLike_38 : decode bc_Ro_isLike 38 = .ok (.aload_n 0, 1) := by decide +kernel
theorem d_Ro_isLike_39 : decode bc_Ro_isLike 39 = .ok (.getfield 15, 3) := by decide +kernel
theorem d_Ro_isLike_42 : decode bc_Ro_isLike 42 = .ok (.iload_n 2, 1) := by decide +kernel
theorem d_Ro_isLike_43 : decode bc_Ro_isLike 43 = .ok (.laload, 1) := by decide +kernel
theorem d_Ro_isLike_44 : decode bc_Ro_isLike 44 = .ok (.aload_n 1, 1) := by decide +kernel
theorem d_Ro_isLike_45 : decode bc_Ro_isLike 45 = .ok (.getfield 15, 3) := by decide +kernel
theorem d_Ro_isLike_48 : decode bc_Ro_isLike 48 = .ok (.iload_n 2, 1) := by decide +kernel
theorem d_Ro_isLike_49 : decode bc_Ro_isLike 49 = .ok (.laload, 1) := by decide +kernel
theorem d_Ro_isLike_50 : decode bc_Ro_isLike 50 = .ok (.lcmp, 1) := by decide +kernel
theorem d_Ro_isLike_51 : decode bc_Ro_isLike 51 = .ok (.ifCond .ne 18, 3) := by decide +kernel
theorem d_Ro_isLike_54 : decode bc_Ro_isLike 54 = .ok (.aload_n 0, 1) := by decide +kernel
theorem d_Ro_isLike_55 : decode bc_Ro_isLike 55 = .ok (.getfield 19, 3) := by decide +kernel
theorem d_Ro_isLike_58 : decode bc_Ro_isLike 58 = .ok (.iload_n 2, 1) := by decide +kernel
theorem d_Ro_isLike_59 : decode bc_Ro_isLike 59 = .ok (.iaload, 1) := by decide +kernel
theorem d_Ro_isLike_60 : decode bc_Ro_isLike 60 = .ok (.aload_n 1, 1) := by decide +kernel
theorem d_Ro_isLike_61 : decode bc_Ro_isLike 61 = .ok (.getfield 19, 3) := by decide +kernel
theorem d_Ro_isLike_64 : decode bc_Ro_isLike 64 = .ok (.iload_n 2, 1) := by decide +kernel
theorem d_Ro_isLike_65 : decode bc_Ro_isLike 65 = .ok (.iaload, 1) := by decide +kernel
theorem d_Ro_isLike_66 : decode bc_Ro_isLike 66 = .ok (.if_icmp .eq 5, 3) := by decide +kernel
theorem d_Ro_isLike_69 : decode bc_Ro_isLike 69 = .ok (.iconst 0, 1) := by decide +kernel
theorem d_Ro_isLike_70 : decode bc_Ro_isLike 70 = .ok (.ireturn, 1) := by decide +kernel
theorem d_Ro_isLike_71 : decode bc_Ro_isLike 71 = .ok (.iinc 2 1, 3) := by decide +kernel
theorem d_Ro_isLike_74 : decode bc_Ro_isLike 74 = .ok (.goto (-59), 3) := by decide +kernel
theorem d_Ro_isLike_77 : decode bc_Ro_isLike 77 = .ok (.iconst 1, 1) := by decide +kernel
theorem d_Ro_isLike_78 : decode bc_Ro_isLike 78 = .ok (.ireturn, 1) := by decide +kernel
abbrev bc_Me_clear : ByteArray := prog_6_method_2_code
abbrev y_Me_clear : MethodName := ⟨"KindRounds$Mentions", "clear", "()V"⟩
theorem d_Me_clear_0 : decode bc_Me_clear 0 = .ok (.aload_n 0, 1) := by decide +kernel
theorem d_Me_clear_1 : decode bc_Me_clear 1 = .ok (.iconst 0, 1) := by decide +kernel
theorem d_Me_clear_2 : decode bc_Me_clear 2 = .ok (.putfield 26, 3) := by decide +kernel
theorem d_Me_clear_5 : decode bc_Me_clear 5 = .ok (.return_, 1) := by decide +kernel
abbrev bc_Me_add : ByteArray := prog_6_method_3_code
abbrev y_Me_add : MethodName := ⟨"KindRounds$Mentions", "add", "(IILKindRounds$Tape;)V"⟩
theorem d_Me_add_0 : decode bc_Me_add 0 = .ok (.aload_n 0, 1) := by decide +kernel
theorem d_Me_add_1 : decode bc_Me_add 1 = .ok (.getfield 26, 3) := by decide +kernel
theorem d_Me_add_4 : decode bc_Me_add 4 = .ok (.sipush 600, 3) := by decide +kernel
theorem d_Me_add_7 : decode bc_Me_add 7 = .ok (.if_icmp .ge 69, 3) := by decide +kernel
theorem d_Me_add_10 : decode bc_Me_add 10 = .ok (.aload_n 0, 1) := by decide +kernel
theorem d_Me_add_11 : decode bc_Me_add 11 = .ok (.getfield 9, 3) := by decide +kernel
theorem d_Me_add_14 : decode bc_Me_add 14 = .ok (.aload_n 0, 1) := by decide +kernel
theorem d_Me_add_15 : decode bc_Me_add 15 = .ok (.getfield 26, 3) := by decide +kernel
theorem d_Me_add_18 : decode bc_Me_add 18 = .ok (.iload_n 1, 1) := by decide +kernel
theorem d_Me_add_19 : decode bc_Me_add 19 = .ok (.iastore, 1) := by decide +kernel
theorem d_Me_add_20 : decode bc_Me_add 20 = .ok (.aload_n 0, 1) := by decide +kernel
theorem d_Me_add_21 : decode bc_Me_add 21 = .ok (.getfield 13, 3) := by decide +kernel
theorem d_Me_add_24 : decode bc_Me_add 24 = .ok (.aload_n 0, 1) := by decide +kernel
theorem d_Me_add_25 : decode bc_Me_add 25 = .ok (.getfield 26, 3) := by decide +kernel
theorem d_Me_add_28 : decode bc_Me_add 28 = .ok (.aload_n 3, 1) := by decide +kernel
theorem d_Me_add_29 : decode bc_Me_add 29 = .ok (.invokevirtual 30, 3) := by decide +kernel
theorem d_Me_add_32 : decode bc_Me_add 32 = .ok (.lastore, 1) := by decide +kernel
theorem d_Me_add_33 : decode bc_Me_add 33 = .ok (.aload_n 0, 1) := by decide +kernel
theorem d_Me_add_34 : decode bc_Me_add 34 = .ok (.getfield 17, 3) := by decide +kernel
theorem d_Me_add_37 : decode bc_Me_add 37 = .ok (.aload_n 0, 1) := by decide +kernel
theorem d_Me_add_38 : decode bc_Me_add 38 = .ok (.getfield 26, 3) := by decide +kernel
theorem d_Me_add_41 : decode bc_Me_add 41 = .ok (.aload_n 3, 1) := by decide +kernel
theorem d_Me_add_42 : decode bc_Me_add 42 = .ok (.invokevirtual 36, 3) := by decide +kernel
theorem d_Me_add_45 : decode bc_Me_add 45 = .ok (.iastore, 1) := by decide +kernel
theorem d_Me_add_46 : decode bc_Me_add 46 = .ok (.aload_n 0, 1) := by decide +kernel
theorem d_Me_add_47 : decode bc_Me_add 47 = .ok (.getfield 20, 3) := by decide +kernel
theorem d_Me_add_50 : decode bc_Me_add 50 = .ok (.aload_n 0, 1) := by decide +kernel
theorem d_Me_add_51 : decode bc_Me_add 51 = .ok (.getfield 26, 3) := by decide +kernel
theorem d_Me_add_54 : decode bc_Me_add 54 = .ok (.iload_n 2, 1) := by decide +kernel
theorem d_Me_add_55 : decode bc_Me_add 55 = .ok (.iastore, 1) := by decide +kernel
theorem d_Me_add_56 : decode bc_Me_add 56 = .ok (.aload_n 0, 1) := by decide +kernel
theorem d_Me_add_57 : decode bc_Me_add 57 = .ok (.getfield 23, 3) := by decide +kernel
theorem d_Me_add_60 : decode bc_Me_add 60 = .ok (.aload_n 0, 1) := by decide +kernel
theorem d_Me_add_61 : decode bc_Me_add 61 = .ok (.getfield 26, 3) := by decide +kernel
theorem d_Me_add_64 : decode bc_Me_add 64 = .ok (.iconst 0, 1) := by decide +kernel
theorem d_Me_add_65 : decode bc_Me_add 65 = .ok (.iastore, 1) := by decide +kernel
theorem d_Me_add_66 : decode bc_Me_add 66 = .ok (.aload_n 0, 1) := by decide +kernel
theorem d_Me_add_67 : decode bc_Me_add 67 = .ok (.dup, 1) := by decide +kernel
theorem d_Me_add_68 : decode bc_Me_add 68 = .ok (.getfield 26, 3) := by decide +kernel
theorem d_Me_add_71 : decode bc_Me_add 71 = .ok (.iconst 1, 1) := by decide +kernel
theorem d_Me_add_72 : decode bc_Me_add 72 = .ok (.iadd, 1) := by decide +kernel
theorem d_Me_add_73 : decode bc_Me_add 73 = .ok (.putfield 26, 3) := by decide +kernel
theorem d_Me_add_76 : decode bc_Me_add 76 = .ok (.return_, 1) := by decide +kernel
abbrev bc_Me_setValue : ByteArray := prog_6_method_4_code
abbrev y_Me_setValue : MethodName := ⟨"KindRounds$Mentions", "setValue", "(II)V"⟩
theorem d_Me_setValue_0 : decode bc_Me_setValue 0 = .ok (.iload_n 1, 1) := by decide +kernel
theorem d_Me_setValue_1 : decode bc_Me_setValue 1 = .ok (.aload_n 0, 1) := by decide +kernel
theorem d_Me_setValue_2 : decode bc_Me_setValue 2 = .ok (.getfield 26, 3) := by decide +kernel
theorem d_Me_setValue_5 : decode bc_Me_setValue 5 = .ok (.if_icmp .ge 10, 3) := by decide +kernel
theorem d_Me_setValue_8 : decode bc_Me_setValue 8 = .ok (.aload_n 0, 1) := by decide +kernel
theorem d_Me_setValue_9 : decode bc_Me_setValue 9 = .ok (.getfield 23, 3) := by decide +kernel
theorem d_Me_setValue_12 : decode bc_Me_setValue 12 = .ok (.iload_n 1, 1) := by decide +kernel
theorem d_Me_setValue_13 : decode bc_Me_setValue 13 = .ok (.iload_n 2, 1) := by decide +kernel
theorem d_Me_setValue_14 : decode bc_Me_setValue 14 = .ok (.iastore, 1) := by decide +kernel
theorem d_Me_setValue_15 : decode bc_Me_setValue 15 = .ok (.return_, 1) := by decide +kernel
abbrev bc_Me_wasTold : ByteArray := prog_6_method_5_code
abbrev y_Me_wasTold : MethodName := ⟨"KindRounds$Mentions", "wasTold", "(I)Z"⟩
theorem d_Me_wasTold_0 : decode bc_Me_wasTold 0 = .ok (.iconst 0, 1) := by decide +kernel
theorem d_Me_wasTold_1 : decode bc_Me_wasTold 1 = .ok (.istore_n 2, 1) := by decide +kernel
theorem d_Me_wasTold_2 : decode bc_Me_wasTold 2 = .ok (.iload_n 2, 1) := by decide +kernel
theorem d_Me_wasTold_3 : decode bc_Me_wasTold 3 = .ok (.iload_n 1, 1) := by decide +kernel
theorem d_Me_wasTold_4 : decode bc_Me_wasTold 4 = .ok (.if_icmp .ge 77, 3) := by decide +kernel
theorem d_Me_wasTold_7 : decode bc_Me_wasTold 7 = .ok (.aload_n 0, 1) := by decide +kernel
theorem d_Me_wasTold_8 : decode bc_Me_wasTold 8 = .ok (.getfield 9, 3) := by decide +kernel
theorem d_Me_wasTold_11 : decode bc_Me_wasTold 11 = .ok (.iload_n 2, 1) := by decide +kernel
theorem d_Me_wasTold_12 : decode bc_Me_wasTold 12 = .ok (.iaload, 1) := by decide +kernel
theorem d_Me_wasTold_13 : decode bc_Me_wasTold 13 = .ok (.aload_n 0, 1) := by decide +kernel
theorem d_Me_wasTold_14 : decode bc_Me_wasTold 14 = .ok (.getfield 9, 3) := by decide +kernel
theorem d_Me_wasTold_17 : decode bc_Me_wasTold 17 = .ok (.iload_n 1, 1) := by decide +kernel
theorem d_Me_wasTold_18 : decode bc_Me_wasTold 18 = .ok (.iaload, 1) := by decide +kernel
theorem d_Me_wasTold_19 : decode bc_Me_wasTold 19 = .ok (.if_icmp .ne 23, 3) := by decide +kernel
theorem d_Me_wasTold_22 : decode bc_Me_wasTold 22 = .ok (.aload_n 0, 1) := by decide +kernel
theorem d_Me_wasTold_23 : decode bc_Me_wasTold 23 = .ok (.getfield 13, 3) := by decide +kernel
theorem d_Me_wasTold_26 : decode bc_Me_wasTold 26 = .ok (.iload_n 2, 1) := by decide +kernel
theorem d_Me_wasTold_27 : decode bc_Me_wasTold 27 = .ok (.laload, 1) := by decide +kernel
theorem d_Me_wasTold_28 : decode bc_Me_wasTold 28 = .ok (.aload_n 0, 1) := by decide +kernel
theorem d_Me_wasTold_29 : decode bc_Me_wasTold 29 = .ok (.getfield 13, 3) := by decide +kernel
theorem d_Me_wasTold_32 : decode bc_Me_wasTold 32 = .ok (.iload_n 1, 1) := by decide +kernel
theorem d_Me_wasTold_33 : decode bc_Me_wasTold 33 = .ok (.laload, 1) := by decide +kernel
theorem d_Me_wasTold_34 : decode bc_Me_wasTold 34 = .ok (.lcmp, 1) := by decide +kernel
theorem d_Me_wasTold_35 : decode bc_Me_wasTold 35 = .ok (.ifCond .ne 7, 3) := by decide +kernel
theorem d_Me_wasTold_38 : decode bc_Me_wasTold 38 = .ok (.iconst 1, 1) := by decide +kernel
theorem d_Me_wasTold_39 : decode bc_Me_wasTold 39 = .ok (.goto 4, 3) := by decide +kernel
theorem d_Me_wasTold_42 : decode bc_Me_wasTold 42 = .ok (.iconst 0, 1) := by decide +kernel
theorem d_Me_wasTold_43 : decode bc_Me_wasTold 43 = .ok (.istore_n 3, 1) := by decide +kernel
theorem d_Me_wasTold_44 : decode bc_Me_wasTold 44 = .ok (.iload_n 3, 1) := by decide +kernel
theorem d_Me_wasTold_45 : decode bc_Me_wasTold 45 = .ok (.ifCond .eq 30, 3) := by decide +kernel
theorem d_Me_wasTold_48 : decode bc_Me_wasTold 48 = .ok (.aload_n 0, 1) := by decide +kernel
theorem d_Me_wasTold_49 : decode bc_Me_wasTold 49 = .ok (.getfield 9, 3) := by decide +kernel
theorem d_Me_wasTold_52 : decode bc_Me_wasTold 52 = .ok (.iload_n 2, 1) := by decide +kernel
theorem d_Me_wasTold_53 : decode bc_Me_wasTold 53 = .ok (.iaload, 1) := by decide +kernel
theorem d_Me_wasTold_54 : decode bc_Me_wasTold 54 = .ok (.iconst 3, 1) := by decide +kernel
theorem d_Me_wasTold_55 : decode bc_Me_wasTold 55 = .ok (.if_icmp .ne 18, 3) := by decide +kernel
theorem d_Me_wasTold_58 : decode bc_Me_wasTold 58 = .ok (.aload_n 0, 1) := by decide +kernel
theorem d_Me_wasTold_59 : decode bc_Me_wasTold 59 = .ok (.getfield 20, 3) := by decide +kernel
theorem d_Me_wasTold_62 : decode bc_Me_wasTold 62 = .ok (.iload_n 2, 1) := by decide +kernel
theorem d_Me_wasTold_63 : decode bc_Me_wasTold 63 = .ok (.iaload, 1) := by decide +kernel
theorem d_Me_wasTold_64 : decode bc_Me_wasTold 64 = .ok (.aload_n 0, 1) := by decide +kernel
theorem d_Me_wasTold_65 : decode bc_Me_wasTold 65 = .ok (.getfield 20, 3) := by decide +kernel
theorem d_Me_wasTold_68 : decode bc_Me_wasTold 68 = .ok (.iload_n 1, 1) := by decide +kernel
theorem d_Me_wasTold_69 : decode bc_Me_wasTold 69 = .ok (.iaload, 1) := by decide +kernel
theorem d_Me_wasTold_70 : decode bc_Me_wasTold 70 = .ok (.if_icmp .ne 5, 3) := by decide +kernel
theorem d_Me_wasTold_73 : decode bc_Me_wasTold 73 = .ok (.iconst 1, 1) := by decide +kernel
theorem d_Me_wasTold_74 : decode bc_Me_wasTold 74 = .ok (.ireturn, 1) := by decide +kernel
theorem d_Me_wasTold_75 : decode bc_Me_wasTold 75 = .ok (.iinc 2 1, 3) := by decide +kernel
theorem d_Me_wasTold_78 : decode bc_Me_wasTold 78 = .ok (.goto (-76), 3) := by decide +kernel
theorem d_Me_wasTold_81 : decode bc_Me_wasTold 81 = .ok (.iconst 0, 1) := by decide +kernel
theorem d_Me_wasTold_82 : decode bc_Me_wasTold 82 = .ok (.ireturn, 1) := by decide +kernel
abbrev bc_Te_clear : ByteArray := prog_12_method_2_code
abbrev y_Te_clear : MethodName := ⟨"KindRounds$Text", "clear", "()V"⟩
theorem d_Te_clear_0 : decode bc_Te_clear 0 = .ok (.aload_n 0, 1) := by decide +kernel
theorem d_Te_clear_1 : decode bc_Te_clear 1 = .ok (.iconst 0, 1) := by decide +kernel
theorem d_Te_clear_2 : decode bc_Te_clear 2 = .ok (.putfield 62, 3) := by decide +kernel
theorem d_Te_clear_5 : decode bc_Te_clear 5 = .ok (.aload_n 0, 1) := by decide +kernel
theorem d_Te_clear_6 : decode bc_Te_clear 6 = .ok (.iconst 0, 1) := by decide +kernel
theorem d_Te_clear_7 : decode bc_Te_clear 7 = .ok (.putfield 66, 3) := by decide +kernel
theorem d_Te_clear_10 : decode bc_Te_clear 10 = .ok (.aload_n 0, 1) := by decide +kernel
theorem d_Te_clear_11 : decode bc_Te_clear 11 = .ok (.getfield 58, 3) := by decide +kernel
theorem d_Te_clear_14 : decode bc_Te_clear 14 = .ok (.invokevirtual 69, 3) := by decide +kernel
theorem d_Te_clear_17 : decode bc_Te_clear 17 = .ok (.return_, 1) := by decide +kernel
abbrev bc_Te_has : ByteArray := prog_12_method_3_code
abbrev y_Te_has : MethodName := ⟨"KindRounds$Text", "has", "(I)Z"⟩
theorem d_Te_has_0 : decode bc_Te_has 0 = .ok (.iload_n 1, 1) := by decide +kernel
theorem d_Te_has_1 : decode bc_Te_has 1 = .ok (.ifCond .lt 15, 3) := by decide +kernel
theorem d_Te_has_4 : decode bc_Te_has 4 = .ok (.iload_n 1, 1) := by decide +kernel
theorem d_Te_has_5 : decode bc_Te_has 5 = .ok (.aload_n 0, 1) := by decide +kernel
theorem d_Te_has_6 : decode bc_Te_has 6 = .ok (.getfield 62, 3) := by decide +kernel
theorem d_Te_has_9 : decode bc_Te_has 9 = .ok (.if_icmp .ge 7, 3) := by decide +kernel
theorem d_Te_has_12 : decode bc_Te_has 12 = .ok (.iconst 1, 1) := by decide +kernel
theorem d_Te_has_13 : decode bc_Te_has 13 = .ok (.goto 4, 3) := by decide +kernel
theorem d_Te_has_16 : decode bc_Te_has 16 = .ok (.iconst 0, 1) := by decide +kernel
theorem d_Te_has_17 : decode bc_Te_has 17 = .ok (.ireturn, 1) := by decide +kernel
abbrev bc_Te_declare : ByteArray := prog_12_method_4_code
abbrev y_Te_declare : MethodName := ⟨"KindRounds$Text", "declare", "(IJI)V"⟩
theorem d_Te_declare_0 : decode bc_Te_declare 0 = .ok (.aload_n 0, 1) := by decide +kernel
theorem d_Te_declare_1 : decode bc_Te_declare 1 = .ok (.getfield 62, 3) := by decide +kernel
theorem d_Te_declare_4 : decode bc_Te_declare 4 = .ok (.bipush 16, 2) := by decide +kernel
theorem d_Te_declare_6 : decode bc_Te_declare 6 = .ok (.if_icmp .ge 84, 3) := by decide +kernel
theorem d_Te_declare_9 : decode bc_Te_declare 9 = .ok (.aload_n 0, 1) := by decide +kernel
theorem d_Te_declare_10 : decode bc_Te_declare 10 = .ok (.getfield 9, 3) := by decide +kernel
theorem d_Te_declare_13 : decode bc_Te_declare 13 = .ok (.aload_n 0, 1) := by decide +kernel
theorem d_Te_declare_14 : decode bc_Te_declare 14 = .ok (.getfield 62, 3) := by decide +kernel
theorem d_Te_declare_17 : decode bc_Te_declare 17 = .ok (.iload_n 1, 1) := by decide +kernel
theorem d_Te_declare_18 : decode bc_Te_declare 18 = .ok (.iastore, 1) := by decide +kernel
theorem d_Te_declare_19 : decode bc_Te_declare 19 = .ok (.aload_n 0, 1) := by decide +kernel
theorem d_Te_declare_20 : decode bc_Te_declare 20 = .ok (.getfield 15, 3) := by decide +kernel
theorem d_Te_declare_23 : decode bc_Te_declare 23 = .ok (.aload_n 0, 1) := by decide +kernel
theorem d_Te_declare_24 : decode bc_Te_declare 24 = .ok (.getfield 62, 3) := by decide +kernel
theorem d_Te_declare_27 : decode bc_Te_declare 27 = .ok (.lload_n 2, 1) := by decide +kernel
theorem d_Te_declare_28 : decode bc_Te_declare 28 = .ok (.lastore, 1) := by decide +kernel
theorem d_Te_declare_29 : decode bc_Te_declare 29 = .ok (.aload_n 0, 1) := by decide +kernel
theorem d_Te_declare_30 : decode bc_Te_declare 30 = .ok (.getfield 19, 3) := by decide +kernel
theorem d_Te_declare_33 : decode bc_Te_declare 33 = .ok (.aload_n 0, 1) := by decide +kernel
theorem d_Te_declare_34 : decode bc_Te_declare 34 = .ok (.getfield 62, 3) := by decide +kernel
theorem d_Te_declare_37 : decode bc_Te_declare 37 = .ok (.iload 4, 2) := by decide +kernel
theorem d_Te_declare_39 : decode bc_Te_declare 39 = .ok (.iastore, 1) := by decide +kernel
theorem d_Te_declare_40 : decode bc_Te_declare 40 = .ok (.aload_n 0, 1) := by decide +kernel
theorem d_Te_declare_41 : decode bc_Te_declare 41 = .ok (.getfield 22, 3) := by decide +kernel
theorem d_Te_declare_44 : decode bc_Te_declare 44 = .ok (.aload_n 0, 1) := by decide +kernel
theorem d_Te_declare_45 : decode bc_Te_declare 45 = .ok (.getfield 62, 3) := by decide +kernel
theorem d_Te_declare_48 : decode bc_Te_declare 48 = .ok (.iconst 0, 1) := by decide +kernel
theorem d_Te_declare_49 : decode bc_Te_declare 49 = .ok (.iastore, 1) := by decide +kernel
theorem d_Te_declare_50 : decode bc_Te_declare 50 = .ok (.aload_n 0, 1) := by decide +kernel
theorem d_Te_declare_51 : decode bc_Te_declare 51 = .ok (.getfield 28, 3) := by decide +kernel
theorem d_Te_declare_54 : decode bc_Te_declare 54 = .ok (.aload_n 0, 1) := by decide +kernel
theorem d_Te_declare_55 : decode bc_Te_declare 55 = .ok (.getfield 62, 3) := by decide +kernel
theorem d_Te_declare_58 : decode bc_Te_declare 58 = .ok (.iconst 0, 1) := by decide +kernel
theorem d_Te_declare_59 : decode bc_Te_declare 59 = .ok (.iastore, 1) := by decide +kernel
theorem d_Te_declare_60 : decode bc_Te_declare 60 = .ok (.aload_n 0, 1) := by decide +kernel
theorem d_Te_declare_61 : decode bc_Te_declare 61 = .ok (.getfield 31, 3) := by decide +kernel
theorem d_Te_declare_64 : decode bc_Te_declare 64 = .ok (.aload_n 0, 1) := by decide +kernel
theorem d_Te_declare_65 : decode bc_Te_declare 65 = .ok (.getfield 62, 3) := by decide +kernel
theorem d_Te_declare_68 : decode bc_Te_declare 68 = .ok (.iconst 0, 1) := by decide +kernel
theorem d_Te_declare_69 : decode bc_Te_declare 69 = .ok (.iastore, 1) := by decide +kernel
theorem d_Te_declare_70 : decode bc_Te_declare 70 = .ok (.aload_n 0, 1) := by decide +kernel
theorem d_Te_declare_71 : decode bc_Te_declare 71 = .ok (.getfield 37, 3) := by decide +kernel
theorem d_Te_declare_74 : decode bc_Te_declare 74 = .ok (.aload_n 0, 1) := by decide +kernel
theorem d_Te_declare_75 : decode bc_Te_declare 75 = .ok (.getfield 62, 3) := by decide +kernel
theorem d_Te_declare_78 : decode bc_Te_declare 78 = .ok (.iconst 0, 1) := by decide +kernel
theorem d_Te_declare_79 : decode bc_Te_declare 79 = .ok (.iastore, 1) := by decide +kernel
theorem d_Te_declare_80 : decode bc_Te_declare 80 = .ok (.aload_n 0, 1) := by decide +kernel
theorem d_Te_declare_81 : decode bc_Te_declare 81 = .ok (.dup, 1) := by decide +kernel
theorem d_Te_declare_82 : decode bc_Te_declare 82 = .ok (.getfield 62, 3) := by decide +kernel
theorem d_Te_declare_85 : decode bc_Te_declare 85 = .ok (.iconst 1, 1) := by decide +kernel
theorem d_Te_declare_86 : decode bc_Te_declare 86 = .ok (.iadd, 1) := by decide +kernel
theorem d_Te_declare_87 : decode bc_Te_declare 87 = .ok (.putfield 62, 3) := by decide +kernel
theorem d_Te_declare_90 : decode bc_Te_declare 90 = .ok (.return_, 1) := by decide +kernel
abbrev bc_Te_addParam : ByteArray := prog_12_method_5_code
abbrev y_Te_addParam : MethodName := ⟨"KindRounds$Text", "addParam", "(IJ)V"⟩
theorem d_Te_addParam_0 : decode bc_Te_addParam 0 = .ok (.aload_n 0, 1) := by decide +kernel
theorem d_Te_addParam_1 : decode bc_Te_addParam 1 = .ok (.getfield 22, 3) := by decide +kernel
theorem d_Te_addParam_4 : decode bc_Te_addParam 4 = .ok (.iload_n 1, 1) := by decide +kernel
theorem d_Te_addParam_5 : decode bc_Te_addParam 5 = .ok (.iaload, 1) := by decide +kernel
theorem d_Te_addParam_6 : decode bc_Te_addParam 6 = .ok (.iconst 3, 1) := by decide +kernel
theorem d_Te_addParam_7 : decode bc_Te_addParam 7 = .ok (.if_icmp .ge 29, 3) := by decide +kernel
theorem d_Te_addParam_10 : decode bc_Te_addParam 10 = .ok (.aload_n 0, 1) := by decide +kernel
theorem d_Te_addParam_11 : decode bc_Te_addParam 11 = .ok (.getfield 25, 3) := by decide +kernel
theorem d_Te_addParam_14 : decode bc_Te_addParam 14 = .ok (.iload_n 1, 1) := by decide +kernel
theorem d_Te_addParam_15 : decode bc_Te_addParam 15 = .ok (.iconst 3, 1) := by decide +kernel
theorem d_Te_addParam_16 : decode bc_Te_addParam 16 = .ok (.imul, 1) := by decide +kernel
theorem d_Te_addParam_17 : decode bc_Te_addParam 17 = .ok (.aload_n 0, 1) := by decide +kernel
theorem d_Te_addParam_18 : decode bc_Te_addParam 18 = .ok (.getfield 22, 3) := by decide +kernel
theorem d_Te_addParam_21 : decode bc_Te_addParam 21 = .ok (.iload_n 1, 1) := by decide +kernel
theorem d_Te_addParam_22 : decode bc_Te_addParam 22 = .ok (.iaload, 1) := by decide +kernel
theorem d_Te_addParam_23 : decode bc_Te_addParam 23 = .ok (.iadd, 1) := by decide +kernel
theorem d_Te_addParam_24 : decode bc_Te_addParam 24 = .ok (.lload_n 2, 1) := by decide +kernel
theorem d_Te_addParam_25 : decode bc_Te_addParam 25 = .ok (.lastore, 1) := by decide +kernel
theorem d_Te_addParam_26 : decode bc_Te_addParam 26 = .ok (.aload_n 0, 1) := by decide +kernel
theorem d_Te_addParam_27 : decode bc_Te_addParam 27 = .ok (.getfield 22, 3) := by decide +kernel
theorem d_Te_addParam_30 : decode bc_Te_addParam 30 = .ok (.iload_n 1, 1) := by decide +kernel
theorem d_Te_addParam_31 : decode bc_Te_addParam 31 = .ok (.dup2, 1) := by decide +kernel
theorem d_Te_addParam_32 : decode bc_Te_addParam 32 = .ok (.iaload, 1) := by decide +kernel
theorem d_Te_addParam_33 : decode bc_Te_addParam 33 = .ok (.iconst 1, 1) := by decide +kernel
theorem d_Te_addParam_34 : decode bc_Te_addParam 34 = .ok (.iadd, 1) := by decide +kernel
theorem d_Te_addParam_35 : decode bc_Te_addParam 35 = .ok (.iastore, 1) := by decide +kernel
theorem d_Te_addParam_36 : decode bc_Te_addParam 36 = .ok (.return_, 1) := by decide +kernel
abbrev bc_Te_findType : ByteArray := prog_12_method_6_code
abbrev y_Te_findType : MethodName := ⟨"KindRounds$Text", "findType", "(J)I"⟩
theorem d_Te_findType_0 : decode bc_Te_findType 0 = .ok (.iconst 0, 1) := by decide +kernel
theorem d_Te_findType_1 : decode bc_Te_findType 1 = .ok (.istore_n 3, 1) := by decide +kernel
theorem d_Te_findType_2 : decode bc_Te_findType 2 = .ok (.iload_n 3, 1) := by decide +kernel
theorem d_Te_findType_3 : decode bc_Te_findType 3 = .ok (.aload_n 0, 1) := by decide +kernel
theorem d_Te_findType_4 : decode bc_Te_findType 4 = .ok (.getfield 62, 3) := by decide +kernel
theorem d_Te_findType_7 : decode bc_Te_findType 7 = .ok (.if_icmp .ge 32, 3) := by decide +kernel
theorem d_Te_findType_10 : decode bc_Te_findType 10 = .ok (.aload_n 0, 1) := by decide +kernel
theorem d_Te_findType_11 : decode bc_Te_findType 11 = .ok (.getfield 15, 3) := by decide +kernel
theorem d_Te_findType_14 : decode bc_Te_findType 14 = .ok (.iload_n 3, 1) := by decide +kernel
theorem d_Te_findType_15 : decode bc_Te_findType 15 = .ok (.laload, 1) := by decide +kernel
theorem d_Te_findType_16 : decode bc_Te_findType 16 = .ok (.lload_n 1, 1) := by decide +kernel
theorem d_Te_findType_17 : decode bc_Te_findType 17 = .ok (.lcmp, 1) := by decide +kernel
theorem d_Te_findType_18 : decode bc_Te_findType 18 = .ok (.ifCond .ne 15, 3) := by decide +kernel
theorem d_Te_findType_21 : decode bc_Te_findType 21 = .ok (.aload_n 0, 1) := by decide +kernel
theorem d_Te_findType_22 : decode bc_Te_findType 22 = .ok (.getfield 9, 3) := by decide +kernel
theorem d_Te_findType_25 : decode bc_Te_findType 25 = .ok (.iload_n 3, 1) := by decide +kernel
theorem d_Te_findType_26 : decode bc_Te_findType 26 = .ok (.iaload, 1) := by decide +kernel
theorem d_Te_findType_27 : decode bc_Te_findType 27 = .ok (.iconst 2, 1) := by decide +kernel
theorem d_Te_findType_28 : decode bc_Te_findType 28 = .ok (.if_icmp .eq 5, 3) := by decide +kernel
theorem d_Te_findType_31 : decode bc_Te_findType 31 = .ok (.iload_n 3, 1) := by decide +kernel
theorem d_Te_findType_32 : decode bc_Te_findType 32 = .ok (.ireturn, 1) := by decide +kernel
theorem d_Te_findType_33 : decode bc_Te_findType 33 = .ok (.iinc 3 1, 3) := by decide +kernel
theorem d_Te_findType_36 : decode bc_Te_findType 36 = .ok (.goto (-34), 3) := by decide +kernel
theorem d_Te_findType_39 : decode bc_Te_findType 39 = .ok (.iconst (-1), 1) := by decide +kernel
theorem d_Te_findType_40 : decode bc_Te_findType 40 = .ok (.ireturn, 1) := by decide +kernel
abbrev bc_Te_findDeclared : ByteArray := prog_12_method_7_code
abbrev y_Te_findDeclared : MethodName := ⟨"KindRounds$Text", "findDeclared", "(J)I"⟩
theorem d_Te_findDeclared_0 : decode bc_Te_findDeclared 0 = .ok (.iconst 0, 1) := by decide +kernel
theorem d_Te_findDeclared_1 : decode bc_Te_findDeclared 1 = .ok (.istore_n 3, 1) := by decide +kernel
theorem d_Te_findDeclared_2 : decode bc_Te_findDeclared 2 = .ok (.iload_n 3, 1) := by decide +kernel
theorem d_Te_findDeclared_3 : decode bc_Te_findDeclared 3 = .ok (.aload_n 0, 1) := by decide +kernel
theorem d_Te_findDeclared_4 : decode bc_Te_findDeclared 4 = .ok (.getfield 62, 3) := by decide +kernel
theorem d_Te_findDeclared_7 : decode bc_Te_findDeclared 7 = .ok (.if_icmp .ge 22, 3) := by decide +kernel
theorem d_Te_findDeclared_10 : decode bc_Te_findDeclared 10 = .ok (.aload_n 0, 1) := by decide +kernel
theorem d_Te_findDeclared_11 : decode bc_Te_findDeclared 11 = .ok (.getfield 15, 3) := by decide +kernel
theorem d_Te_findDeclared_14 : decode bc_Te_findDeclared 14 = .ok (.iload_n 3, 1) := by decide +kernel
theorem d_Te_findDeclared_15 : decode bc_Te_findDeclared 15 = .ok (.laload, 1) := by decide +kernel
theorem d_Te_findDeclared_16 : decode bc_Te_findDeclared 16 = .ok (.lload_n 1, 1) := by decide +kernel
theorem d_Te_findDeclared_17 : decode bc_Te_findDeclared 17 = .ok (.lcmp, 1) := by decide +kernel
theorem d_Te_findDeclared_18 : decode bc_Te_findDeclared 18 = .ok (.ifCond .ne 5, 3) := by decide +kernel
theorem d_Te_findDeclared_21 : decode bc_Te_findDeclared 21 = .ok (.iload_n 3, 1) := by decide +kernel
theorem d_Te_findDeclared_22 : decode bc_Te_findDeclared 22 = .ok (.ireturn, 1) := by decide +kernel
theorem d_Te_findDeclared_23 : decode bc_Te_findDeclared 23 = .ok (.iinc 3 1, 3) := by decide +kernel
theorem d_Te_findDeclared_26 : decode bc_Te_findDeclared 26 = .ok (.goto (-24), 3) := by decide +kernel
theorem d_Te_findDeclared_29 : decode bc_Te_findDeclared 29 = .ok (.iconst (-1), 1) := by decide +kernel
theorem d_Te_findDeclared_30 : decode bc_Te_findDeclared 30 = .ok (.ireturn, 1) := by decide +kernel
abbrev bc_Te_findParam : ByteArray := prog_12_method_8_code
abbrev y_Te_findParam : MethodName := ⟨"KindRounds$Text", "findParam", "(IJ)I"⟩
theorem d_Te_findParam_0 : decode bc_Te_findParam 0 = .ok (.iconst 0, 1) := by decide +kernel
theorem d_Te_findParam_1 : decode bc_Te_findParam 1 = .ok (.istore 4, 2) := by decide +kernel
theorem d_Te_findParam_3 : decode bc_Te_findParam 3 = .ok (.iload 4, 2) := by decide +kernel
theorem d_Te_findParam_5 : decode bc_Te_findParam 5 = .ok (.aload_n 0, 1) := by decide +kernel
theorem d_Te_findParam_6 : decode bc_Te_findParam 6 = .ok (.getfield 22, 3) := by decide +kernel
theorem d_Te_findParam_9 : decode bc_Te_findParam 9 = .ok (.iload_n 1, 1) := by decide +kernel
theorem d_Te_findParam_10 : decode bc_Te_findParam 10 = .ok (.iaload, 1) := by decide +kernel
theorem d_Te_findParam_11 : decode bc_Te_findParam 11 = .ok (.if_icmp .ge 28, 3) := by decide +kernel
theorem d_Te_findParam_14 : decode bc_Te_findParam 14 = .ok (.aload_n 0, 1) := by decide +kernel
theorem d_Te_findParam_15 : decode bc_Te_findParam 15 = .ok (.getfield 25, 3) := by decide +kernel
theorem d_Te_findParam_18 : decode bc_Te_findParam 18 = .ok (.iload_n 1, 1) := by decide +kernel
theorem d_Te_findParam_19 : decode bc_Te_findParam 19 = .ok (.iconst 3, 1) := by decide +kernel
theorem d_Te_findParam_20 : decode bc_Te_findParam 20 = .ok (.imul, 1) := by decide +kernel
theorem d_Te_findParam_21 : decode bc_Te_findParam 21 = .ok (.iload 4, 2) := by decide +kernel
theorem d_Te_findParam_23 : decode bc_Te_findParam 23 = .ok (.iadd, 1) := by decide +kernel
theorem d_Te_findParam_24 : decode bc_Te_findParam 24 = .ok (.laload, 1) := by decide +kernel
theorem d_Te_findParam_25 : decode bc_Te_findParam 25 = .ok (.lload_n 2, 1) := by decide +kernel
theorem d_Te_findParam_26 : decode bc_Te_findParam 26 = .ok (.lcmp, 1) := by decide +kernel
theorem d_Te_findParam_27 : decode bc_Te_findParam 27 = .ok (.ifCond .ne 6, 3) := by decide +kernel
theorem d_Te_findParam_30 : decode bc_Te_findParam 30 = .ok (.iload 4, 2) := by decide +kernel
theorem d_Te_findParam_32 : decode bc_Te_findParam 32 = .ok (.ireturn, 1) := by decide +kernel
theorem d_Te_findParam_33 : decode bc_Te_findParam 33 = .ok (.iinc 4 1, 3) := by decide +kernel
theorem d_Te_findParam_36 : decode bc_Te_findParam 36 = .ok (.goto (-33), 3) := by decide +kernel
theorem d_Te_findParam_39 : decode bc_Te_findParam 39 = .ok (.iconst (-1), 1) := by decide +kernel
theorem d_Te_findParam_40 : decode bc_Te_findParam 40 = .ok (.ireturn, 1) := by decide +kernel
abbrev bc_Te_findSynonym : ByteArray := prog_12_method_9_code
abbrev y_Te_findSynonym : MethodName := ⟨"KindRounds$Text", "findSynonym", "(IJ)I"⟩
theorem d_Te_findSynonym_0 : decode bc_Te_findSynonym 0 = .ok (.iload_n 1, 1) := by decide +kernel
theorem d_Te_findSynonym_1 : decode bc_Te_findSynonym 1 = .ok (.iconst 2, 1) := by decide +kernel
theorem d_Te_findSynonym_2 : decode bc_Te_findSynonym 2 = .ok (.if_icmp .ne 11, 3) := by decide +kernel
theorem d_Te_findSynonym_5 : decode bc_Te_findSynonym 5 = .ok (.aload_n 0, 1) := by decide +kernel
theorem d_Te_findSynonym_6 : decode bc_Te_findSynonym 6 = .ok (.lload_n 2, 1) := by decide +kernel
theorem d_Te_findSynonym_7 : decode bc_Te_findSynonym 7 = .ok (.invokevirtual 72, 3) := by decide +kernel
theorem d_Te_findSynonym_10 : decode bc_Te_findSynonym 10 = .ok (.goto 4, 3) := by decide +kernel
theorem d_Te_findSynonym_13 : decode bc_Te_findSynonym 13 = .ok (.iconst (-1), 1) := by decide +kernel
theorem d_Te_findSynonym_14 : decode bc_Te_findSynonym 14 = .ok (.istore 4, 2) := by decide +kernel
theorem d_Te_findSynonym_16 : decode bc_Te_findSynonym 16 = .ok (.iload 4, 2) := by decide +kernel
theorem d_Te_findSynonym_18 : decode bc_Te_findSynonym 18 = .ok (.ifCond .lt 19, 3) := by decide +kernel
theorem d_Te_findSynonym_21 : decode bc_Te_findSynonym 21 = .ok (.aload_n 0, 1) := by decide +kernel
theorem d_Te_findSynonym_22 : decode bc_Te_findSynonym 22 = .ok (.getfield 9, 3) := by decide +kernel
theorem d_Te_findSynonym_25 : decode bc_Te_findSynonym 25 = .ok (.iload 4, 2) := by decide +kernel
theorem d_Te_findSynonym_27 : decode bc_Te_findSynonym 27 = .ok (.iaload, 1) := by decide +kernel
theorem d_Te_findSynonym_28 : decode bc_Te_findSynonym 28 = .ok (.iconst 1, 1) := by decide +kernel
theorem d_Te_findSynonym_29 : decode bc_Te_findSynonym 29 = .ok (.if_icmp .ne 8, 3) := by decide +kernel
theorem d_Te_findSynonym_32 : decode bc_Te_findSynonym 32 = .ok (.iload 4, 2) := by decide +kernel
theorem d_Te_findSynonym_34 : decode bc_Te_findSynonym 34 = .ok (.goto 4, 3) := by decide +kernel
theorem d_Te_findSynonym_37 : decode bc_Te_findSynonym 37 = .ok (.iconst (-1), 1) := by decide +kernel
theorem d_Te_findSynonym_38 : decode bc_Te_findSynonym 38 = .ok (.ireturn, 1) := by decide +kernel
abbrev bc_Te_closeMasks : ByteArray := prog_12_method_10_code
abbrev y_Te_closeMasks : MethodName := ⟨"KindRounds$Text", "closeMasks", "([I)V"⟩
theorem d_Te_closeMasks_0 : decode bc_Te_closeMasks 0 = .ok (.iconst 0, 1) := by decide +kernel
theorem d_Te_closeMasks_1 : decode bc_Te_closeMasks 1 = .ok (.istore_n 2, 1) := by decide +kernel
theorem d_Te_closeMasks_2 : decode bc_Te_closeMasks 2 = .ok (.iload_n 2, 1) := by decide +kernel
theorem d_Te_closeMasks_3 : decode bc_Te_closeMasks 3 = .ok (.aload_n 0, 1) := by decide +kernel
theorem d_Te_closeMasks_4 : decode bc_Te_closeMasks 4 = .ok (.getfield 62, 3) := by decide +kernel
theorem d_Te_closeMasks_7 : decode bc_Te_closeMasks 7 = .ok (.if_icmp .ge 44, 3) := by decide +kernel
theorem d_Te_closeMasks_10 : decode bc_Te_closeMasks 10 = .ok (.iconst 0, 1) := by decide +kernel
theorem d_Te_closeMasks_11 : decode bc_Te_closeMasks 11 = .ok (.istore_n 3, 1) := by decide +kernel
theorem d_Te_closeMasks_12 : decode bc_Te_closeMasks 12 = .ok (.iload_n 3, 1) := by decide +kernel
theorem d_Te_closeMasks_13 : decode bc_Te_closeMasks 13 = .ok (.aload_n 0, 1) := by decide +kernel
theorem d_Te_closeMasks_14 : decode bc_Te_closeMasks 14 = .ok (.getfield 62, 3) := by decide +kernel
theorem d_Te_closeMasks_17 : decode bc_Te_closeMasks 17 = .ok (.if_icmp .ge 28, 3) := by decide +kernel
theorem d_Te_closeMasks_20 : decode bc_Te_closeMasks 20 = .ok (.aload_n 1, 1) := by decide +kernel
theorem d_Te_closeMasks_21 : decode bc_Te_closeMasks 21 = .ok (.iload_n 3, 1) := by decide +kernel
theorem d_Te_closeMasks_22 : decode bc_Te_closeMasks 22 = .ok (.iaload, 1) := by decide +kernel
theorem d_Te_closeMasks_23 : decode bc_Te_closeMasks 23 = .ok (.iload_n 2, 1) := by decide +kernel
theorem d_Te_closeMasks_24 : decode bc_Te_closeMasks 24 = .ok (.ishr, 1) := by decide +kernel
theorem d_Te_closeMasks_25 : decode bc_Te_closeMasks 25 = .ok (.iconst 1, 1) := by decide +kernel
theorem d_Te_closeMasks_26 : decode bc_Te_closeMasks 26 = .ok (.iand, 1) := by decide +kernel
theorem d_Te_closeMasks_27 : decode bc_Te_closeMasks 27 = .ok (.ifCond .eq 12, 3) := by decide +kernel
theorem d_Te_closeMasks_30 : decode bc_Te_closeMasks 30 = .ok (.aload_n 1, 1) := by decide +kernel
theorem d_Te_closeMasks_31 : decode bc_Te_closeMasks 31 = .ok (.iload_n 3, 1) := by decide +kernel
theorem d_Te_closeMasks_32 : decode bc_Te_closeMasks 32 = .ok (.dup2, 1) := by decide +kernel
theorem d_Te_closeMasks_33 : decode bc_Te_closeMasks 33 = .ok (.iaload, 1) := by decide +kernel
theorem d_Te_closeMasks_34 : decode bc_Te_closeMasks 34 = .ok (.aload_n 1, 1) := by decide +kernel
theorem d_Te_closeMasks_35 : decode bc_Te_closeMasks 35 = .ok (.iload_n 2, 1) := by decide +kernel
theorem d_Te_closeMasks_36 : decode bc_Te_closeMasks 36 = .ok (.iaload, 1) := by decide +kernel
theorem d_Te_closeMasks_37 : decode bc_Te_closeMasks 37 = .ok (.ior, 1) := by decide +kernel
theorem d_Te_closeMasks_38 : decode bc_Te_closeMasks 38 = .ok (.iastore, 1) := by decide +kernel
theorem d_Te_closeMasks_39 : decode bc_Te_closeMasks 39 = .ok (.iinc 3 1, 3) := by decide +kernel
theorem d_Te_closeMasks_42 : decode bc_Te_closeMasks 42 = .ok (.goto (-30), 3) := by decide +kernel
theorem d_Te_closeMasks_45 : decode bc_Te_closeMasks 45 = .ok (.iinc 2 1, 3) := by decide +kernel
theorem d_Te_closeMasks_48 : decode bc_Te_closeMasks 48 = .ok (.goto (-46), 3) := by decide +kernel
theorem d_Te_closeMasks_51 : decode bc_Te_closeMasks 51 = .ok (.return_, 1) := by decide +kernel
abbrev bc_Te_formGroups : ByteArray := prog_12_method_11_code
abbrev y_Te_formGroups : MethodName := ⟨"KindRounds$Text", "formGroups", "()V"⟩
theorem d_Te_formGroups_0 : decode bc_Te_formGroups 0 = .ok (.aload_n 0, 1) := by decide +kernel
theorem d_Te_formGroups_1 : decode bc_Te_formGroups 1 = .ok (.getfield 37, 3) := by decide +kernel
theorem d_Te_formGroups_4 : decode bc_Te_formGroups 4 = .ok (.iconst 0, 1) := by decide +kernel
theorem d_Te_formGroups_5 : decode bc_Te_formGroups 5 = .ok (.aload_n 0, 1) := by decide +kernel
theorem d_Te_formGroups_6 : decode bc_Te_formGroups 6 = .ok (.getfield 40, 3) := by decide +kernel
theorem d_Te_formGroups_9 : decode bc_Te_formGroups 9 = .ok (.iconst 0, 1) := by decide +kernel
theorem d_Te_formGroups_10 : decode bc_Te_formGroups 10 = .ok (.aload_n 0, 1) := by decide +kernel
theorem d_Te_formGroups_11 : decode bc_Te_formGroups 11 = .ok (.getfield 62, 3) := by decide +kernel
theorem d_Te_formGroups_14 : decode bc_Te_formGroups 14 = .ok (.invokestatic 76, 3) := by decide +kernel
theorem d_Te_formGroups_17 : decode bc_Te_formGroups 17 = .ok (.aload_n 0, 1) := by decide +kernel
theorem d_Te_formGroups_18 : decode bc_Te_formGroups 18 = .ok (.aload_n 0, 1) := by decide +kernel
theorem d_Te_formGroups_19 : decode bc_Te_formGroups 19 = .ok (.getfield 40, 3) := by decide +kernel
theorem d_Te_formGroups_22 : decode bc_Te_formGroups 22 = .ok (.invokevirtual 82, 3) := by decide +kernel
theorem d_Te_formGroups_25 : decode bc_Te_formGroups 25 = .ok (.iconst 0, 1) := by decide +kernel
theorem d_Te_formGroups_26 : decode bc_Te_formGroups 26 = .ok (.istore_n 1, 1) := by decide +kernel
theorem d_Te_formGroups_27 : decode bc_Te_formGroups 27 = .ok (.iconst 0, 1) := by decide +kernel
theorem d_Te_formGroups_28 : decode bc_Te_formGroups 28 = .ok (.istore_n 2, 1) := by decide +kernel
theorem d_Te_formGroups_29 : decode bc_Te_formGroups 29 = .ok (.iload_n 2, 1) := by decide +kernel
theorem d_Te_formGroups_30 : decode bc_Te_formGroups 30 = .ok (.aload_n 0, 1) := by decide +kernel
theorem d_Te_formGroups_31 : decode bc_Te_formGroups 31 = .ok (.getfield 62, 3) := by decide +kernel
theorem d_Te_formGroups_34 : decode bc_Te_formGroups 34 = .ok (.if_icmp .ge 92, 3) := by decide +kernel
theorem d_Te_formGroups_37 : decode bc_Te_formGroups 37 = .ok (.aload_n 0, 1) := by decide +kernel
theorem d_Te_formGroups_38 : decode bc_Te_formGroups 38 = .ok (.iload_n 1, 1) := by decide +kernel
theorem d_Te_formGroups_39 : decode bc_Te_formGroups 39 = .ok (.invokevirtual 86, 3) := by decide +kernel
theorem d_Te_formGroups_42 : decode bc_Te_formGroups 42 = .ok (.istore_n 3, 1) := by decide +kernel
theorem d_Te_formGroups_43 : decode bc_Te_formGroups 43 = .ok (.iload_n 3, 1) := by decide +kernel
theorem d_Te_formGroups_44 : decode bc_Te_formGroups 44 = .ok (.ifCond .ge 4, 3) := by decide +kernel
theorem d_Te_formGroups_47 : decode bc_Te_formGroups 47 = .ok (.return_, 1) := by decide +kernel
theorem d_Te_formGroups_48 : decode bc_Te_formGroups 48 = .ok (.aload_n 0, 1) := by decide +kernel
theorem d_Te_formGroups_49 : decode bc_Te_formGroups 49 = .ok (.iload_n 3, 1) := by decide +kernel
theorem d_Te_formGroups_50 : decode bc_Te_formGroups 50 = .ok (.invokevirtual 90, 3) := by decide +kernel
theorem d_Te_formGroups_53 : decode bc_Te_formGroups 53 = .ok (.istore 4, 2) := by decide +kernel
theorem d_Te_formGroups_55 : decode bc_Te_formGroups 55 = .ok (.iconst 0, 1) := by decide +kernel
theorem d_Te_formGroups_56 : decode bc_Te_formGroups 56 = .ok (.istore 5, 2) := by decide +kernel
theorem d_Te_formGroups_58 : decode bc_Te_formGroups 58 = .ok (.iload 5, 2) := by decide +kernel
theorem d_Te_formGroups_60 : decode bc_Te_formGroups 60 = .ok (.aload_n 0, 1) := by decide +kernel
theorem d_Te_formGroups_61 : decode bc_Te_formGroups 61 = .ok (.getfield 62, 3) := by decide +kernel
theorem d_Te_formGroups_64 : decode bc_Te_formGroups 64 = .ok (.if_icmp .ge 30, 3) := by decide +kernel
theorem d_Te_formGroups_67 : decode bc_Te_formGroups 67 = .ok (.iload 4, 2) := by decide +kernel
theorem d_Te_formGroups_69 : decode bc_Te_formGroups 69 = .ok (.iload 5, 2) := by decide +kernel
theorem d_Te_formGroups_71 : decode bc_Te_formGroups 71 = .ok (.ishr, 1) := by decide +kernel
theorem d_Te_formGroups_72 : decode bc_Te_formGroups 72 = .ok (.iconst 1, 1) := by decide +kernel
theorem d_Te_formGroups_73 : decode bc_Te_formGroups 73 = .ok (.iand, 1) := by decide +kernel
theorem d_Te_formGroups_74 : decode bc_Te_formGroups 74 = .ok (.ifCond .eq 14, 3) := by decide +kernel
theorem d_Te_formGroups_77 : decode bc_Te_formGroups 77 = .ok (.aload_n 0, 1) := by decide +kernel
theorem d_Te_formGroups_78 : decode bc_Te_formGroups 78 = .ok (.getfield 34, 3) := by decide +kernel
theorem d_Te_formGroups_81 : decode bc_Te_formGroups 81 = .ok (.iload 5, 2) := by decide +kernel
theorem d_Te_formGroups_83 : decode bc_Te_formGroups 83 = .ok (.aload_n 0, 1) := by decide +kernel
theorem d_Te_formGroups_84 : decode bc_Te_formGroups 84 = .ok (.getfield 66, 3) := by decide +kernel
theorem d_Te_formGroups_87 : decode bc_Te_formGroups 87 = .ok (.iastore, 1) := by decide +kernel
theorem d_Te_formGroups_88 : decode bc_Te_formGroups 88 = .ok (.iinc 5 1, 3) := by decide +kernel
theorem d_Te_formGroups_91 : decode bc_Te_formGroups 91 = .ok (.goto (-33), 3) := by decide +kernel
theorem d_Te_formGroups_94 : decode bc_Te_formGroups 94 = .ok (.aload_n 0, 1) := by decide +kernel
theorem d_Te_formGroups_95 : decode bc_Te_formGroups 95 = .ok (.getfield 43, 3) := by decide +kernel
theorem d_Te_formGroups_98 : decode bc_Te_formGroups 98 = .ok (.aload_n 0, 1) := by decide +kernel
theorem d_Te_formGroups_99 : decode bc_Te_formGroups 99 = .ok (.getfield 66, 3) := by decide +kernel
theorem d_Te_formGroups_102 : decode bc_Te_formGroups 102 = .ok (.iload 4, 2) := by decide +kernel
theorem d_Te_formGroups_104 : decode bc_Te_formGroups 104 = .ok (.iastore, 1) := by decide +kernel
theorem d_Te_formGroups_105 : decode bc_Te_formGroups 105 = .ok (.aload_n 0, 1) := by decide +kernel
theorem d_Te_formGroups_106 : decode bc_Te_formGroups 106 = .ok (.dup, 1) := by decide +kernel
theorem d_Te_formGroups_107 : decode bc_Te_formGroups 107 = .ok (.getfield 66, 3) := by decide +kernel
theorem d_Te_formGroups_110 : decode bc_Te_formGroups 110 = .ok (.iconst 1, 1) := by decide +kernel
theorem d_Te_formGroups_111 : decode bc_Te_formGroups 111 = .ok (.iadd, 1) := by decide +kernel
theorem d_Te_formGroups_112 : decode bc_Te_formGroups 112 = .ok (.putfield 66, 3) := by decide +kernel
theorem d_Te_formGroups_115 : decode bc_Te_formGroups 115 = .ok (.iload_n 1, 1) := by decide +kernel
theorem d_Te_formGroups_116 : decode bc_Te_formGroups 116 = .ok (.iload 4, 2) := by decide +kernel
theorem d_Te_formGroups_118 : decode bc_Te_formGroups 118 = .ok (.ior, 1) := by decide +kernel
theorem d_Te_formGroups_119 : decode bc_Te_formGroups 119 = .ok (.istore_n 1, 1) := by decide +kernel
theorem d_Te_formGroups_120 : decode bc_Te_formGroups 120 = .ok (.iinc 2 1, 3) := by decide +kernel
theorem d_Te_formGroups_123 : decode bc_Te_formGroups 123 = .ok (.goto (-94), 3) := by decide +kernel
theorem d_Te_formGroups_126 : decode bc_Te_formGroups 126 = .ok (.return_, 1) := by decide +kernel
abbrev bc_Te_nextOf : ByteArray := prog_12_method_12_code
abbrev y_Te_nextOf : MethodName := ⟨"KindRounds$Text", "nextOf", "(I)I"⟩
theorem d_Te_nextOf_0 : decode bc_Te_nextOf 0 = .ok (.iconst 0, 1) := by decide +kernel
theorem d_Te_nextOf_1 : decode bc_Te_nextOf 1 = .ok (.istore_n 2, 1) := by decide +kernel
theorem d_Te_nextOf_2 : decode bc_Te_nextOf 2 = .ok (.iload_n 2, 1) := by decide +kernel
theorem d_Te_nextOf_3 : decode bc_Te_nextOf 3 = .ok (.aload_n 0, 1) := by decide +kernel
theorem d_Te_nextOf_4 : decode bc_Te_nextOf 4 = .ok (.getfield 62, 3) := by decide +kernel
theorem d_Te_nextOf_7 : decode bc_Te_nextOf 7 = .ok (.if_icmp .ge 50, 3) := by decide +kernel
theorem d_Te_nextOf_10 : decode bc_Te_nextOf 10 = .ok (.iload_n 1, 1) := by decide +kernel
theorem d_Te_nextOf_11 : decode bc_Te_nextOf 11 = .ok (.iload_n 2, 1) := by decide +kernel
theorem d_Te_nextOf_12 : decode bc_Te_nextOf 12 = .ok (.ishr, 1) := by decide +kernel
theorem d_Te_nextOf_13 : decode bc_Te_nextOf 13 = .ok (.iconst 1, 1) := by decide +kernel
theorem d_Te_nextOf_14 : decode bc_Te_nextOf 14 = .ok (.iand, 1) := by decide +kernel
theorem d_Te_nextOf_15 : decode bc_Te_nextOf 15 = .ok (.ifCond .ne 7, 3) := by decide +kernel
theorem d_Te_nextOf_18 : decode bc_Te_nextOf 18 = .ok (.iconst 1, 1) := by decide +kernel
theorem d_Te_nextOf_19 : decode bc_Te_nextOf 19 = .ok (.goto 4, 3) := by decide +kernel
theorem d_Te_nextOf_22 : decode bc_Te_nextOf 22 = .ok (.iconst 0, 1) := by decide +kernel
theorem d_Te_nextOf_23 : decode bc_Te_nextOf 23 = .ok (.istore_n 3, 1) := by decide +kernel
theorem d_Te_nextOf_24 : decode bc_Te_nextOf 24 = .ok (.iload_n 3, 1) := by decide +kernel
theorem d_Te_nextOf_25 : decode bc_Te_nextOf 25 = .ok (.ifCond .eq 26, 3) := by decide +kernel
theorem d_Te_nextOf_28 : decode bc_Te_nextOf 28 = .ok (.aload_n 0, 1) := by decide +kernel
theorem d_Te_nextOf_29 : decode bc_Te_nextOf 29 = .ok (.getfield 40, 3) := by decide +kernel
theorem d_Te_nextOf_32 : decode bc_Te_nextOf 32 = .ok (.iload_n 2, 1) := by decide +kernel
theorem d_Te_nextOf_33 : decode bc_Te_nextOf 33 = .ok (.iaload, 1) := by decide +kernel
theorem d_Te_nextOf_34 : decode bc_Te_nextOf 34 = .ok (.aload_n 0, 1) := by decide +kernel
theorem d_Te_nextOf_35 : decode bc_Te_nextOf 35 = .ok (.iload_n 2, 1) := by decide +kernel
theorem d_Te_nextOf_36 : decode bc_Te_nextOf 36 = .ok (.invokevirtual 90, 3) := by decide +kernel
theorem d_Te_nextOf_39 : decode bc_Te_nextOf 39 = .ok (.iconst (-1), 1) := by decide +kernel
theorem d_Te_nextOf_40 : decode bc_Te_nextOf 40 = .ok (.ixor, 1) := by decide +kernel
theorem d_Te_nextOf_41 : decode bc_Te_nextOf 41 = .ok (.iand, 1) := by decide +kernel
theorem d_Te_nextOf_42 : decode bc_Te_nextOf 42 = .ok (.iload_n 1, 1) := by decide +kernel
theorem d_Te_nextOf_43 : decode bc_Te_nextOf 43 = .ok (.iconst (-1), 1) := by decide +kernel
theorem d_Te_nextOf_44 : decode bc_Te_nextOf 44 = .ok (.ixor, 1) := by decide +kernel
theorem d_Te_nextOf_45 : decode bc_Te_nextOf 45 = .ok (.iand, 1) := by decide +kernel
theorem d_Te_nextOf_46 : decode bc_Te_nextOf 46 = .ok (.ifCond .ne 5, 3) := by decide +kernel
theorem d_Te_nextOf_49 : decode bc_Te_nextOf 49 = .ok (.iload_n 2, 1) := by decide +kernel
theorem d_Te_nextOf_50 : decode bc_Te_nextOf 50 = .ok (.ireturn, 1) := by decide +kernel
theorem d_Te_nextOf_51 : decode bc_Te_nextOf 51 = .ok (.iinc 2 1, 3) := by decide +kernel
theorem d_Te_nextOf_54 : decode bc_Te_nextOf 54 = .ok (.goto (-52), 3) := by decide +kernel
theorem d_Te_nextOf_57 : decode bc_Te_nextOf 57 = .ok (.iconst (-1), 1) := by decide +kernel
theorem d_Te_nextOf_58 : decode bc_Te_nextOf 58 = .ok (.ireturn, 1) := by decide +kernel
abbrev bc_Te_ringOf : ByteArray := prog_12_method_13_code
abbrev y_Te_ringOf : MethodName := ⟨"KindRounds$Text", "ringOf", "(I)I"⟩
theorem d_Te_ringOf_0 : decode bc_Te_ringOf 0 = .ok (.iconst 1, 1) := by decide +kernel
theorem d_Te_ringOf_1 : decode bc_Te_ringOf 1 = .ok (.iload_n 1, 1) := by decide +kernel
theorem d_Te_ringOf_2 : decode bc_Te_ringOf 2 = .ok (.ishl, 1) := by decide +kernel
theorem d_Te_ringOf_3 : decode bc_Te_ringOf 3 = .ok (.istore_n 2, 1) := by decide +kernel
theorem d_Te_ringOf_4 : decode bc_Te_ringOf 4 = .ok (.iconst 0, 1) := by decide +kernel
theorem d_Te_ringOf_5 : decode bc_Te_ringOf 5 = .ok (.istore_n 3, 1) := by decide +kernel
theorem d_Te_ringOf_6 : decode bc_Te_ringOf 6 = .ok (.iload_n 3, 1) := by decide +kernel
theorem d_Te_ringOf_7 : decode bc_Te_ringOf 7 = .ok (.aload_n 0, 1) := by decide +kernel
theorem d_Te_ringOf_8 : decode bc_Te_ringOf 8 = .ok (.getfield 62, 3) := by decide +kernel
theorem d_Te_ringOf_11 : decode bc_Te_ringOf 11 = .ok (.if_icmp .ge 41, 3) := by decide +kernel
theorem d_Te_ringOf_14 : decode bc_Te_ringOf 14 = .ok (.aload_n 0, 1) := by decide +kernel
theorem d_Te_ringOf_15 : decode bc_Te_ringOf 15 = .ok (.getfield 40, 3) := by decide +kernel
theorem d_Te_ringOf_18 : decode bc_Te_ringOf 18 = .ok (.iload_n 1, 1) := by decide +kernel
theorem d_Te_ringOf_19 : decode bc_Te_ringOf 19 = .ok (.iaload, 1) := by decide +kernel
theorem d_Te_ringOf_20 : decode bc_Te_ringOf 20 = .ok (.iload_n 3, 1) := by decide +kernel
theorem d_Te_ringOf_21 : decode bc_Te_ringOf 21 = .ok (.ishr, 1) := by decide +kernel
theorem d_Te_ringOf_22 : decode bc_Te_ringOf 22 = .ok (.iconst 1, 1) := by decide +kernel
theorem d_Te_ringOf_23 : decode bc_Te_ringOf 23 = .ok (.iand, 1) := by decide +kernel
theorem d_Te_ringOf_24 : decode bc_Te_ringOf 24 = .ok (.ifCond .eq 22, 3) := by decide +kernel
theorem d_Te_ringOf_27 : decode bc_Te_ringOf 27 = .ok (.aload_n 0, 1) := by decide +kernel
theorem d_Te_ringOf_28 : decode bc_Te_ringOf 28 = .ok (.getfield 40, 3) := by decide +kernel
theorem d_Te_ringOf_31 : decode bc_Te_ringOf 31 = .ok (.iload_n 3, 1) := by decide +kernel
theorem d_Te_ringOf_32 : decode bc_Te_ringOf 32 = .ok (.iaload, 1) := by decide +kernel
theorem d_Te_ringOf_33 : decode bc_Te_ringOf 33 = .ok (.iload_n 1, 1) := by decide +kernel
theorem d_Te_ringOf_34 : decode bc_Te_ringOf 34 = .ok (.ishr, 1) := by decide +kernel
theorem d_Te_ringOf_35 : decode bc_Te_ringOf 35 = .ok (.iconst 1, 1) := by decide +kernel
theorem d_Te_ringOf_36 : decode bc_Te_ringOf 36 = .ok (.iand, 1) := by decide +kernel
theorem d_Te_ringOf_37 : decode bc_Te_ringOf 37 = .ok (.ifCond .eq 9, 3) := by decide +kernel
theorem d_Te_ringOf_40 : decode bc_Te_ringOf 40 = .ok (.iload_n 2, 1) := by decide +kernel
theorem d_Te_ringOf_41 : decode bc_Te_ringOf 41 = .ok (.iconst 1, 1) := by decide +kernel
theorem d_Te_ringOf_42 : decode bc_Te_ringOf 42 = .ok (.iload_n 3, 1) := by decide +kernel
theorem d_Te_ringOf_43 : decode bc_Te_ringOf 43 = .ok (.ishl, 1) := by decide +kernel
theorem d_Te_ringOf_44 : decode bc_Te_ringOf 44 = .ok (.ior, 1) := by decide +kernel
theorem d_Te_ringOf_45 : decode bc_Te_ringOf 45 = .ok (.istore_n 2, 1) := by decide +kernel
theorem d_Te_ringOf_46 : decode bc_Te_ringOf 46 = .ok (.iinc 3 1, 3) := by decide +kernel
theorem d_Te_ringOf_49 : decode bc_Te_ringOf 49 = .ok (.goto (-43), 3) := by decide +kernel
theorem d_Te_ringOf_52 : decode bc_Te_ringOf 52 = .ok (.iload_n 2, 1) := by decide +kernel
theorem d_Te_ringOf_53 : decode bc_Te_ringOf 53 = .ok (.ireturn, 1) := by decide +kernel
abbrev bc_Te_findMember : ByteArray := prog_12_method_14_code
abbrev y_Te_findMember : MethodName := ⟨"KindRounds$Text", "findMember", "(II)I"⟩
theorem d_Te_findMember_0 : decode bc_Te_findMember 0 = .ok (.iconst 0, 1) := by decide +kernel
theorem d_Te_findMember_1 : decode bc_Te_findMember 1 = .ok (.istore_n 3, 1) := by decide +kernel
theorem d_Te_findMember_2 : decode bc_Te_findMember 2 = .ok (.iconst 0, 1) := by decide +kernel
theorem d_Te_findMember_3 : decode bc_Te_findMember 3 = .ok (.istore 4, 2) := by decide +kernel
theorem d_Te_findMember_5 : decode bc_Te_findMember 5 = .ok (.iload 4, 2) := by decide +kernel
theorem d_Te_findMember_7 : decode bc_Te_findMember 7 = .ok (.aload_n 0, 1) := by decide +kernel
theorem d_Te_findMember_8 : decode bc_Te_findMember 8 = .ok (.getfield 62, 3) := by decide +kernel
theorem d_Te_findMember_11 : decode bc_Te_findMember 11 = .ok (.if_icmp .ge 31, 3) := by decide +kernel
theorem d_Te_findMember_14 : decode bc_Te_findMember 14 = .ok (.aload_n 0, 1) := by decide +kernel
theorem d_Te_findMember_15 : decode bc_Te_findMember 15 = .ok (.getfield 34, 3) := by decide +kernel
theorem d_Te_findMember_18 : decode bc_Te_findMember 18 = .ok (.iload 4, 2) := by decide +kernel
theorem d_Te_findMember_20 : decode bc_Te_findMember 20 = .ok (.iaload, 1) := by decide +kernel
theorem d_Te_findMember_21 : decode bc_Te_findMember 21 = .ok (.iload_n 1, 1) := by decide +kernel
theorem d_Te_findMember_22 : decode bc_Te_findMember 22 = .ok (.if_icmp .ne 14, 3) := by decide +kernel
theorem d_Te_findMember_25 : decode bc_Te_findMember 25 = .ok (.iload_n 3, 1) := by decide +kernel
theorem d_Te_findMember_26 : decode bc_Te_findMember 26 = .ok (.iload_n 2, 1) := by decide +kernel
theorem d_Te_findMember_27 : decode bc_Te_findMember 27 = .ok (.if_icmp .ne 6, 3) := by decide +kernel
theorem d_Te_findMember_30 : decode bc_Te_findMember 30 = .ok (.iload 4, 2) := by decide +kernel
theorem d_Te_findMember_32 : decode bc_Te_findMember 32 = .ok (.ireturn, 1) := by decide +kernel
theorem d_Te_findMember_33 : decode bc_Te_findMember 33 = .ok (.iinc 3 1, 3) := by decide +kernel
theorem d_Te_findMember_36 : decode bc_Te_findMember 36 = .ok (.iinc 4 1, 3) := by decide +kernel
theorem d_Te_findMember_39 : decode bc_Te_findMember 39 = .ok (.goto (-34), 3) := by decide +kernel
theorem d_Te_findMember_42 : decode bc_Te_findMember 42 = .ok (.iconst (-1), 1) := by decide +kernel
theorem d_Te_findMember_43 : decode bc_Te_findMember 43 = .ok (.ireturn, 1) := by decide +kernel
abbrev bc_Pa_parseText : ByteArray := prog_7_method_2_code
abbrev y_Pa_parseText : MethodName := ⟨"KindRounds$Parser", "parseText", "()V"⟩
theorem d_Pa_parseText_0 : decode bc_Pa_parseText 0 = .ok (.aload_n 0, 1) := by decide +kernel
theorem d_Pa_parseText_1 : decode bc_Pa_parseText 1 = .ok (.aload_n 0, 1) := by decide +kernel
theorem d_Pa_parseText_2 : decode bc_Pa_parseText 2 = .ok (.getfield 15, 3) := by decide +kernel
theorem d_Pa_parseText_5 : decode bc_Pa_parseText 5 = .ok (.getfield 31, 3) := by decide +kernel
theorem d_Pa_parseText_8 : decode bc_Pa_parseText 8 = .ok (.putfield 37, 3) := by decide +kernel
theorem d_Pa_parseText_11 : decode bc_Pa_parseText 11 = .ok (.iconst 1, 1) := by decide +kernel
theorem d_Pa_parseText_12 : decode bc_Pa_parseText 12 = .ok (.istore_n 1, 1) := by decide +kernel
theorem d_Pa_parseText_13 : decode bc_Pa_parseText 13 = .ok (.iconst 0, 1) := by decide +kernel
theorem d_Pa_parseText_14 : decode bc_Pa_parseText 14 = .ok (.istore_n 2, 1) := by decide +kernel
theorem d_Pa_parseText_15 : decode bc_Pa_parseText 15 = .ok (.iload_n 2, 1) := by decide +kernel
theorem d_Pa_parseText_16 : decode bc_Pa_parseText 16 = .ok (.sipush 1200, 3) := by decide +kernel
theorem d_Pa_parseText_19 : decode bc_Pa_parseText 19 = .ok (.if_icmp .ge 239, 3) := by decide +kernel
theorem d_Pa_parseText_22 : decode bc_Pa_parseText 22 = .ok (.iload_n 1, 1) := by decide +kernel
theorem d_Pa_parseText_23 : decode bc_Pa_parseText 23 = .ok (.ifCond .eq 235, 3) := by decide +kernel
theorem d_Pa_parseText_26 : decode bc_Pa_parseText 26 = .ok (.aload_n 0, 1) := by decide +kernel
theorem d_Pa_parseText_27 : decode bc_Pa_parseText 27 = .ok (.getfield 9, 3) := by decide +kernel
theorem d_Pa_parseText_30 : decode bc_Pa_parseText 30 = .ok (.invokevirtual 40, 3) := by decide +kernel
theorem d_Pa_parseText_33 : decode bc_Pa_parseText 33 = .ok (.iconst 1, 1) := by decide +kernel
theorem d_Pa_parseText_34 : decode bc_Pa_parseText 34 = .ok (.if_icmp .eq 224, 3) := by decide +kernel
theorem d_Pa_parseText_37 : decode bc_Pa_parseText 37 = .ok (.aload_n 0, 1) := by decide +kernel
theorem d_Pa_parseText_38 : decode bc_Pa_parseText 38 = .ok (.getfield 9, 3) := by decide +kernel
theorem d_Pa_parseText_41 : decode bc_Pa_parseText 41 = .ok (.invokevirtual 40, 3) := by decide +kernel
theorem d_Pa_parseText_44 : decode bc_Pa_parseText 44 = .ok (.istore_n 3, 1) := by decide +kernel
theorem d_Pa_parseText_45 : decode bc_Pa_parseText 45 = .ok (.iload_n 3, 1) := by decide +kernel
theorem d_Pa_parseText_46 : decode bc_Pa_parseText 46 = .ok (.tableswitch 182 4 7 #[30, 70, 125, 174], 30) := by decide +kernel
theorem d_Pa_parseText_76 : decode bc_Pa_parseText 76 = .ok (.aload_n 0, 1) := by decide +kernel
theorem d_Pa_parseText_77 : decode bc_Pa_parseText 77 = .ok (.iconst 0, 1) := by decide +kernel
theorem d_Pa_parseText_78 : decode bc_Pa_parseText 78 = .ok (.invokevirtual 44, 3) := by decide +kernel
theorem d_Pa_parseText_81 : decode bc_Pa_parseText 81 = .ok (.ifCond .eq 30, 3) := by decide +kernel
theorem d_Pa_parseText_84 : decode bc_Pa_parseText 84 = .ok (.aload_n 0, 1) := by decide +kernel
theorem d_Pa_parseText_85 : decode bc_Pa_parseText 85 = .ok (.invokevirtual 48, 3) := by decide +kernel
theorem d_Pa_parseText_88 : decode bc_Pa_parseText 88 = .ok (.ifCond .eq 23, 3) := by decide +kernel
theorem d_Pa_parseText_91 : decode bc_Pa_parseText 91 = .ok (.aload_n 0, 1) := by decide +kernel
theorem d_Pa_parseText_92 : decode bc_Pa_parseText 92 = .ok (.bipush 61, 2) := by decide +kernel
theorem d_Pa_parseText_94 : decode bc_Pa_parseText 94 = .ok (.invokevirtual 52, 3) := by decide +kernel
theorem d_Pa_parseText_97 : decode bc_Pa_parseText 97 = .ok (.ifCond .eq 14, 3) := by decide +kernel
theorem d_Pa_parseText_100 : decode bc_Pa_parseText 100 = .ok (.aload_n 0, 1) := by decide +kernel
theorem d_Pa_parseText_101 : decode bc_Pa_parseText 101 = .ok (.invokevirtual 55, 3) := by decide +kernel
theorem d_Pa_parseText_104 : decode bc_Pa_parseText 104 = .ok (.ifCond .eq 7, 3) := by decide +kernel
theorem d_Pa_parseText_107 : decode bc_Pa_parseText 107 = .ok (.iconst 1, 1) := by decide +kernel
theorem d_Pa_parseText_108 : decode bc_Pa_parseText 108 = .ok (.goto 4, 3) := by decide +kernel
theorem d_Pa_parseText_111 : decode bc_Pa_parseText 111 = .ok (.iconst 0, 1) := by decide +kernel
theorem d_Pa_parseText_112 : decode bc_Pa_parseText 112 = .ok (.istore_n 1, 1) := by decide +kernel
theorem d_Pa_parseText_113 : decode bc_Pa_parseText 113 = .ok (.goto 120, 3) := by decide +kernel
theorem d_Pa_parseText_116 : decode bc_Pa_parseText 116 = .ok (.aload_n 0, 1) := by decide +kernel
theorem d_Pa_parseText_117 : decode bc_Pa_parseText 117 = .ok (.iconst 1, 1) := by decide +kernel
theorem d_Pa_parseText_118 : decode bc_Pa_parseText 118 = .ok (.invokevirtual 44, 3) := by decide +kernel
theorem d_Pa_parseText_121 : decode bc_Pa_parseText 121 = .ok (.ifCond .eq 45, 3) := by decide +kernel
theorem d_Pa_parseText_124 : decode bc_Pa_parseText 124 = .ok (.aload_n 0, 1) := by decide +kernel
theorem d_Pa_parseText_125 : decode bc_Pa_parseText 125 = .ok (.invokevirtual 48, 3) := by decide +kernel
theorem d_Pa_parseText_128 : decode bc_Pa_parseText 128 = .ok (.ifCond .eq 38, 3) := by decide +kernel
theorem d_Pa_parseText_131 : decode bc_Pa_parseText 131 = .ok (.aload_n 0, 1) := by decide +kernel
theorem d_Pa_parseText_132 : decode bc_Pa_parseText 132 = .ok (.bipush 61, 2) := by decide +kernel
theorem d_Pa_parseText_134 : decode bc_Pa_parseText 134 = .ok (.invokevirtual 52, 3) := by decide +kernel
theorem d_Pa_parseText_137 : decode bc_Pa_parseText 137 = .ok (.ifCond .eq 29, 3) := by decide +kernel
theorem d_Pa_parseText_140 : decode bc_Pa_parseText 140 = .ok (.aload_n 0, 1) := by decide +kernel
theorem d_Pa_parseText_141 : decode bc_Pa_parseText 141 = .ok (.getfield 37, 3) := by decide +kernel
theorem d_Pa_parseText_144 : decode bc_Pa_parseText 144 = .ok (.aload_n 0, 1) := by decide +kernel
theorem d_Pa_parseText_145 : decode bc_Pa_parseText 145 = .ok (.getfield 58, 3) := by decide +kernel
theorem d_Pa_parseText_148 : decode bc_Pa_parseText 148 = .ok (.invokevirtual 62, 3) := by decide +kernel
theorem d_Pa_parseText_151 : decode bc_Pa_parseText 151 = .ok (.ifCond .eq 15, 3) := by decide +kernel
theorem d_Pa_parseText_154 : decode bc_Pa_parseText 154 = .ok (.aload_n 0, 1) := by decide +kernel
theorem d_Pa_parseText_155 : decode bc_Pa_parseText 155 = .ok (.iconst 0, 1) := by decide +kernel
theorem d_Pa_parseText_156 : decode bc_Pa_parseText 156 = .ok (.invokevirtual 67, 3) := by decide +kernel
theorem d_Pa_parseText_159 : decode bc_Pa_parseText 159 = .ok (.ifCond .eq 7, 3) := by decide +kernel
theorem d_Pa_parseText_162 : decode bc_Pa_parseText 162 = .ok (.iconst 1, 1) := by decide +kernel
theorem d_Pa_parseText_163 : decode bc_Pa_parseText 163 = .ok (.goto 4, 3) := by decide +kernel
theorem d_Pa_parseText_166 : decode bc_Pa_parseText 166 = .ok (.iconst 0, 1) := by decide +kernel
theorem d_Pa_parseText_167 : decode bc_Pa_parseText 167 = .ok (.istore_n 1, 1) := by decide +kernel
theorem d_Pa_parseText_168 : decode bc_Pa_parseText 168 = .ok (.goto 65, 3) := by decide +kernel
theorem d_Pa_parseText_171 : decode bc_Pa_parseText 171 = .ok (.aload_n 0, 1) := by decide +kernel
theorem d_Pa_parseText_172 : decode bc_Pa_parseText 172 = .ok (.iconst 2, 1) := by decide +kernel
theorem d_Pa_parseText_173 : decode bc_Pa_parseText 173 = .ok (.invokevirtual 44, 3) := by decide +kernel
theorem d_Pa_parseText_176 : decode bc_Pa_parseText 176 = .ok (.ifCond .eq 39, 3) := by decide +kernel
theorem d_Pa_parseText_179 : decode bc_Pa_parseText 179 = .ok (.aload_n 0, 1) := by decide +kernel
theorem d_Pa_parseText_180 : decode bc_Pa_parseText 180 = .ok (.invokevirtual 70, 3) := by decide +kernel
theorem d_Pa_parseText_183 : decode bc_Pa_parseText 183 = .ok (.ifCond .eq 32, 3) := by decide +kernel
theorem d_Pa_parseText_186 : decode bc_Pa_parseText 186 = .ok (.aload_n 0, 1) := by decide +kernel
theorem d_Pa_parseText_187 : decode bc_Pa_parseText 187 = .ok (.bipush 123, 2) := by decide +kernel
theorem d_Pa_parseText_189 : decode bc_Pa_parseText 189 = .ok (.invokevirtual 52, 3) := by decide +kernel
theorem d_Pa_parseText_192 : decode bc_Pa_parseText 192 = .ok (.ifCond .eq 23, 3) := by decide +kernel
theorem d_Pa_parseText_195 : decode bc_Pa_parseText 195 = .ok (.aload_n 0, 1) := by decide +kernel
theorem d_Pa_parseText_196 : decode bc_Pa_parseText 196 = .ok (.invokevirtual 73, 3) := by decide +kernel
theorem d_Pa_parseText_199 : decode bc_Pa_parseText 199 = .ok (.ifCond .eq 16, 3) := by decide +kernel
theorem d_Pa_parseText_202 : decode bc_Pa_parseText 202 = .ok (.aload_n 0, 1) := by decide +kernel
theorem d_Pa_parseText_203 : decode bc_Pa_parseText 203 = .ok (.bipush 125, 2) := by decide +kernel
theorem d_Pa_parseText_205 : decode bc_Pa_parseText 205 = .ok (.invokevirtual 52, 3) := by decide +kernel
theorem d_Pa_parseText_208 : decode bc_Pa_parseText 208 = .ok (.ifCond .eq 7, 3) := by decide +kernel
theorem d_Pa_parseText_211 : decode bc_Pa_parseText 211 = .ok (.iconst 1, 1) := by decide +kernel
theorem d_Pa_parseText_212 : decode bc_Pa_parseText 212 = .ok (.goto 4, 3) := by decide +kernel
theorem d_Pa_parseText_215 : decode bc_Pa_parseText 215 = .ok (.iconst 0, 1) := by decide +kernel
theorem d_Pa_parseText_216 : decode bc_Pa_parseText 216 = .ok (.istore_n 1, 1) := by decide +kernel
theorem d_Pa_parseText_217 : decode bc_Pa_parseText 217 = .ok (.goto 16, 3) := by decide +kernel
theorem d_Pa_parseText_220 : decode bc_Pa_parseText 220 = .ok (.aload_n 0, 1) := by decide +kernel
theorem d_Pa_parseText_221 : decode bc_Pa_parseText 221 = .ok (.invokevirtual 76, 3) := by decide +kernel
theorem d_Pa_parseText_224 : decode bc_Pa_parseText 224 = .ok (.istore_n 1, 1) := by decide +kernel
theorem d_Pa_parseText_225 : decode bc_Pa_parseText 225 = .ok (.goto 8, 3) := by decide +kernel
theorem d_Pa_parseText_228 : decode bc_Pa_parseText 228 = .ok (.aload_n 0, 1) := by decide +kernel
theorem d_Pa_parseText_229 : decode bc_Pa_parseText 229 = .ok (.invokevirtual 79, 3) := by decide +kernel
theorem d_Pa_parseText_232 : decode bc_Pa_parseText 232 = .ok (.istore_n 1, 1) := by decide +kernel
theorem d_Pa_parseText_233 : decode bc_Pa_parseText 233 = .ok (.iload_n 1, 1) := by decide +kernel
theorem d_Pa_parseText_234 : decode bc_Pa_parseText 234 = .ok (.ifCond .eq 16, 3) := by decide +kernel
theorem d_Pa_parseText_237 : decode bc_Pa_parseText 237 = .ok (.aload_n 0, 1) := by decide +kernel
theorem d_Pa_parseText_238 : decode bc_Pa_parseText 238 = .ok (.bipush 59, 2) := by decide +kernel
theorem d_Pa_parseText_240 : decode bc_Pa_parseText 240 = .ok (.invokevirtual 52, 3) := by decide +kernel
theorem d_Pa_parseText_243 : decode bc_Pa_parseText 243 = .ok (.ifCond .eq 7, 3) := by decide +kernel
theorem d_Pa_parseText_246 : decode bc_Pa_parseText 246 = .ok (.iconst 1, 1) := by decide +kernel
theorem d_Pa_parseText_247 : decode bc_Pa_parseText 247 = .ok (.goto 4, 3) := by decide +kernel
theorem d_Pa_parseText_250 : decode bc_Pa_parseText 250 = .ok (.iconst 0, 1) := by decide +kernel
theorem d_Pa_parseText_251 : decode bc_Pa_parseText 251 = .ok (.istore_n 1, 1) := by decide +kernel
theorem d_Pa_parseText_252 : decode bc_Pa_parseText 252 = .ok (.iinc 2 1, 3) := by decide +kernel
theorem d_Pa_parseText_255 : decode bc_Pa_parseText 255 = .ok (.goto (-240), 3) := by decide +kernel
theorem d_Pa_parseText_258 : decode bc_Pa_parseText 258 = .ok (.return_, 1) := by decide +kernel
abbrev bc_Pa_parseTypes : ByteArray := prog_7_method_3_code
abbrev y_Pa_parseTypes : MethodName := ⟨"KindRounds$Parser", "parseTypes", "(LKindRounds$Row;I)V"⟩
theorem d_Pa_parseTypes_0 : decode bc_Pa_parseTypes 0 = .ok (.aload_n 0, 1) := by decide +kernel
theorem d_Pa_parseTypes_1 : decode bc_Pa_parseTypes 1 = .ok (.aload_n 1, 1) := by decide +kernel
theorem d_Pa_parseTypes_2 : decode bc_Pa_parseTypes 2 = .ok (.putfield 37, 3) := by decide +kernel
theorem d_Pa_parseTypes_5 : decode bc_Pa_parseTypes 5 = .ok (.aload_n 0, 1) := by decide +kernel
theorem d_Pa_parseTypes_6 : decode bc_Pa_parseTypes 6 = .ok (.iconst (-1), 1) := by decide +kernel
theorem d_Pa_parseTypes_7 : decode bc_Pa_parseTypes 7 = .ok (.putfield 58, 3) := by decide +kernel
theorem d_Pa_parseTypes_10 : decode bc_Pa_parseTypes 10 = .ok (.aload_n 0, 1) := by decide +kernel
theorem d_Pa_parseTypes_11 : decode bc_Pa_parseTypes 11 = .ok (.getfield 37, 3) := by decide +kernel
theorem d_Pa_parseTypes_14 : decode bc_Pa_parseTypes 14 = .ok (.aload_n 0, 1) := by decide +kernel
theorem d_Pa_parseTypes_15 : decode bc_Pa_parseTypes 15 = .ok (.getfield 58, 3) := by decide +kernel
theorem d_Pa_parseTypes_18 : decode bc_Pa_parseTypes 18 = .ok (.invokevirtual 62, 3) := by decide +kernel
theorem d_Pa_parseTypes_21 : decode bc_Pa_parseTypes 21 = .ok (.ifCond .eq 15, 3) := by decide +kernel
theorem d_Pa_parseTypes_24 : decode bc_Pa_parseTypes 24 = .ok (.aload_n 0, 1) := by decide +kernel
theorem d_Pa_parseTypes_25 : decode bc_Pa_parseTypes 25 = .ok (.iconst 0, 1) := by decide +kernel
theorem d_Pa_parseTypes_26 : decode bc_Pa_parseTypes 26 = .ok (.invokevirtual 67, 3) := by decide +kernel
theorem d_Pa_parseTypes_29 : decode bc_Pa_parseTypes 29 = .ok (.ifCond .eq 7, 3) := by decide +kernel
theorem d_Pa_parseTypes_32 : decode bc_Pa_parseTypes 32 = .ok (.iconst 1, 1) := by decide +kernel
theorem d_Pa_parseTypes_33 : decode bc_Pa_parseTypes 33 = .ok (.goto 4, 3) := by decide +kernel
theorem d_Pa_parseTypes_36 : decode bc_Pa_parseTypes 36 = .ok (.iconst 0, 1) := by decide +kernel
theorem d_Pa_parseTypes_37 : decode bc_Pa_parseTypes 37 = .ok (.istore_n 3, 1) := by decide +kernel
theorem d_Pa_parseTypes_38 : decode bc_Pa_parseTypes 38 = .ok (.iconst 1, 1) := by decide +kernel
theorem d_Pa_parseTypes_39 : decode bc_Pa_parseTypes 39 = .ok (.istore 4, 2) := by decide +kernel
theorem d_Pa_parseTypes_41 : decode bc_Pa_parseTypes 41 = .ok (.iload 4, 2) := by decide +kernel
theorem d_Pa_parseTypes_43 : decode bc_Pa_parseTypes 43 = .ok (.iload_n 2, 1) := by decide +kernel
theorem d_Pa_parseTypes_44 : decode bc_Pa_parseTypes 44 = .ok (.if_icmp .ge 50, 3) := by decide +kernel
theorem d_Pa_parseTypes_47 : decode bc_Pa_parseTypes 47 = .ok (.iload_n 3, 1) := by decide +kernel
theorem d_Pa_parseTypes_48 : decode bc_Pa_parseTypes 48 = .ok (.ifCond .eq 46, 3) := by decide +kernel
theorem d_Pa_parseTypes_51 : decode bc_Pa_parseTypes 51 = .ok (.aload_n 0, 1) := by decide +kernel
theorem d_Pa_parseTypes_52 : decode bc_Pa_parseTypes 52 = .ok (.bipush 44, 2) := by decide +kernel
theorem d_Pa_parseTypes_54 : decode bc_Pa_parseTypes 54 = .ok (.invokevirtual 52, 3) := by decide +kernel
theorem d_Pa_parseTypes_57 : decode bc_Pa_parseTypes 57 = .ok (.ifCond .eq 29, 3) := by decide +kernel
theorem d_Pa_parseTypes_60 : decode bc_Pa_parseTypes 60 = .ok (.aload_n 0, 1) := by decide +kernel
theorem d_Pa_parseTypes_61 : decode bc_Pa_parseTypes 61 = .ok (.getfield 37, 3) := by decide +kernel
theorem d_Pa_parseTypes_64 : decode bc_Pa_parseTypes 64 = .ok (.aload_n 0, 1) := by decide +kernel
theorem d_Pa_parseTypes_65 : decode bc_Pa_parseTypes 65 = .ok (.getfield 58, 3) := by decide +kernel
theorem d_Pa_parseTypes_68 : decode bc_Pa_parseTypes 68 = .ok (.invokevirtual 62, 3) := by decide +kernel
theorem d_Pa_parseTypes_71 : decode bc_Pa_parseTypes 71 = .ok (.ifCond .eq 15, 3) := by decide +kernel
theorem d_Pa_parseTypes_74 : decode bc_Pa_parseTypes 74 = .ok (.aload_n 0, 1) := by decide +kernel
theorem d_Pa_parseTypes_75 : decode bc_Pa_parseTypes 75 = .ok (.iconst 0, 1) := by decide +kernel
theorem d_Pa_parseTypes_76 : decode bc_Pa_parseTypes 76 = .ok (.invokevirtual 67, 3) := by decide +kernel
theorem d_Pa_parseTypes_79 : decode bc_Pa_parseTypes 79 = .ok (.ifCond .eq 7, 3) := by decide +kernel
theorem d_Pa_parseTypes_82 : decode bc_Pa_parseTypes 82 = .ok (.iconst 1, 1) := by decide +kernel
theorem d_Pa_parseTypes_83 : decode bc_Pa_parseTypes 83 = .ok (.goto 4, 3) := by decide +kernel
theorem d_Pa_parseTypes_86 : decode bc_Pa_parseTypes 86 = .ok (.iconst 0, 1) := by decide +kernel
theorem d_Pa_parseTypes_87 : decode bc_Pa_parseTypes 87 = .ok (.istore_n 3, 1) := by decide +kernel
theorem d_Pa_parseTypes_88 : decode bc_Pa_parseTypes 88 = .ok (.iinc 4 1, 3) := by decide +kernel
theorem d_Pa_parseTypes_91 : decode bc_Pa_parseTypes 91 = .ok (.goto (-50), 3) := by decide +kernel
theorem d_Pa_parseTypes_94 : decode bc_Pa_parseTypes 94 = .ok (.iload_n 3, 1) := by decide +kernel
theorem d_Pa_parseTypes_95 : decode bc_Pa_parseTypes 95 = .ok (.ifCond .eq 19, 3) := by decide +kernel
theorem d_Pa_parseTypes_98 : decode bc_Pa_parseTypes 98 = .ok (.aload_n 0, 1) := by decide +kernel
theorem d_Pa_parseTypes_99 : decode bc_Pa_parseTypes 99 = .ok (.getfield 9, 3) := by decide +kernel
theorem d_Pa_parseTypes_102 : decode bc_Pa_parseTypes 102 = .ok (.invokevirtual 40, 3) := by decide +kernel
theorem d_Pa_parseTypes_105 : decode bc_Pa_parseTypes 105 = .ok (.iconst 1, 1) := by decide +kernel
theorem d_Pa_parseTypes_106 : decode bc_Pa_parseTypes 106 = .ok (.if_icmp .eq 8, 3) := by decide +kernel
theorem d_Pa_parseTypes_109 : decode bc_Pa_parseTypes 109 = .ok (.aload_n 0, 1) := by decide +kernel
theorem d_Pa_parseTypes_110 : decode bc_Pa_parseTypes 110 = .ok (.invokevirtual 79, 3) := by decide +kernel
theorem d_Pa_parseTypes_113 : decode bc_Pa_parseTypes 113 = .ok (.pop, 1) := by decide +kernel
theorem d_Pa_parseTypes_114 : decode bc_Pa_parseTypes 114 = .ok (.return_, 1) := by decide +kernel
abbrev bc_Pa_misfit : ByteArray := prog_7_method_4_code
abbrev y_Pa_misfit : MethodName := ⟨"KindRounds$Parser", "misfit", "()Z"⟩
theorem d_Pa_misfit_0 : decode bc_Pa_misfit 0 = .ok (.aload_n 0, 1) := by decide +kernel
theorem d_Pa_misfit_1 : decode bc_Pa_misfit 1 = .ok (.getfield 27, 3) := by decide +kernel
theorem d_Pa_misfit_4 : decode bc_Pa_misfit 4 = .ok (.iconst 1, 1) := by decide +kernel
theorem d_Pa_misfit_5 : decode bc_Pa_misfit 5 = .ok (.aload_n 0, 1) := by decide +kernel
theorem d_Pa_misfit_6 : decode bc_Pa_misfit 6 = .ok (.getfield 9, 3) := by decide +kernel
theorem d_Pa_misfit_9 : decode bc_Pa_misfit 9 = .ok (.invokevirtual 82, 3) := by decide +kernel
theorem d_Pa_misfit_12 : decode bc_Pa_misfit 12 = .ok (.invokevirtual 85, 3) := by decide +kernel
theorem d_Pa_misfit_15 : decode bc_Pa_misfit 15 = .ok (.iconst 0, 1) := by decide +kernel
theorem d_Pa_misfit_16 : decode bc_Pa_misfit 16 = .ok (.ireturn, 1) := by decide +kernel
abbrev bc_Pa_tooMuch : ByteArray := prog_7_method_5_code
abbrev y_Pa_tooMuch : MethodName := ⟨"KindRounds$Parser", "tooMuch", "()Z"⟩
theorem d_Pa_tooMuch_0 : decode bc_Pa_tooMuch 0 = .ok (.aload_n 0, 1) := by decide +kernel
theorem d_Pa_tooMuch_1 : decode bc_Pa_tooMuch 1 = .ok (.getfield 27, 3) := by decide +kernel
theorem d_Pa_tooMuch_4 : decode bc_Pa_tooMuch 4 = .ok (.iconst 2, 1) := by decide +kernel
theorem d_Pa_tooMuch_5 : decode bc_Pa_tooMuch 5 = .ok (.aload_n 0, 1) := by decide +kernel
theorem d_Pa_tooMuch_6 : decode bc_Pa_tooMuch 6 = .ok (.getfield 9, 3) := by decide +kernel
theorem d_Pa_tooMuch_9 : decode bc_Pa_tooMuch 9 = .ok (.invokevirtual 82, 3) := by decide +kernel
theorem d_Pa_tooMuch_12 : decode bc_Pa_tooMuch 12 = .ok (.invokevirtual 85, 3) := by decide +kernel
theorem d_Pa_tooMuch_15 : decode bc_Pa_tooMuch 15 = .ok (.iconst 0, 1) := by decide +kernel
theorem d_Pa_tooMuch_16 : decode bc_Pa_tooMuch 16 = .ok (.ireturn, 1) := by decide +kernel
abbrev bc_Pa_expect : ByteArray := prog_7_method_6_code
abbrev y_Pa_expect : MethodName := ⟨"KindRounds$Parser", "expect", "(I)Z"⟩
theorem d_Pa_expect_0 : decode bc_Pa_expect 0 = .ok (.aload_n 0, 1) := by decide +kernel
theorem d_Pa_expect_1 : decode bc_Pa_expect 1 = .ok (.getfield 9, 3) := by decide +kernel
theorem d_Pa_expect_4 : decode bc_Pa_expect 4 = .ok (.invokevirtual 40, 3) := by decide +kernel
theorem d_Pa_expect_7 : decode bc_Pa_expect 7 = .ok (.iload_n 1, 1) := by decide +kernel
theorem d_Pa_expect_8 : decode bc_Pa_expect 8 = .ok (.if_icmp .eq 20, 3) := by decide +kernel
theorem d_Pa_expect_11 : decode bc_Pa_expect 11 = .ok (.aload_n 0, 1) := by decide +kernel
theorem d_Pa_expect_12 : decode bc_Pa_expect 12 = .ok (.getfield 27, 3) := by decide +kernel
theorem d_Pa_expect_15 : decode bc_Pa_expect 15 = .ok (.iconst 1, 1) := by decide +kernel
theorem d_Pa_expect_16 : decode bc_Pa_expect 16 = .ok (.aload_n 0, 1) := by decide +kernel
theorem d_Pa_expect_17 : decode bc_Pa_expect 17 = .ok (.getfield 9, 3) := by decide +kernel
theorem d_Pa_expect_20 : decode bc_Pa_expect 20 = .ok (.invokevirtual 82, 3) := by decide +kernel
theorem d_Pa_expect_23 : decode bc_Pa_expect 23 = .ok (.invokevirtual 85, 3) := by decide +kernel
theorem d_Pa_expect_26 : decode bc_Pa_expect 26 = .ok (.iconst 0, 1) := by decide +kernel
theorem d_Pa_expect_27 : decode bc_Pa_expect 27 = .ok (.ireturn, 1) := by decide +kernel
theorem d_Pa_expect_28 : decode bc_Pa_expect 28 = .ok (.aload_n 0, 1) := by decide +kernel
theorem d_Pa_expect_29 : decode bc_Pa_expect 29 = .ok (.getfield 9, 3) := by decide +kernel
theorem d_Pa_expect_32 : decode bc_Pa_expect 32 = .ok (.invokevirtual 91, 3) := by decide +kernel
theorem d_Pa_expect_35 : decode bc_Pa_expect 35 = .ok (.iconst 1, 1) := by decide +kernel
theorem d_Pa_expect_36 : decode bc_Pa_expect 36 = .ok (.ireturn, 1) := by decide +kernel
abbrev bc_Pa_parseHead : ByteArray := prog_7_method_7_code
abbrev y_Pa_parseHead : MethodName := ⟨"KindRounds$Parser", "parseHead", "(I)Z"⟩
theorem d_Pa_parseHead_0 : decode bc_Pa_parseHead 0 = .ok (.aload_n 0, 1) := by decide +kernel
theorem d_Pa_parseHead_1 : decode bc_Pa_parseHead 1 = .ok (.getfield 9, 3) := by decide +kernel
theorem d_Pa_parseHead_4 : decode bc_Pa_parseHead 4 = .ok (.invokevirtual 91, 3) := by decide +kernel
theorem d_Pa_parseHead_7 : decode bc_Pa_parseHead 7 = .ok (.aload_n 0, 1) := by decide +kernel
theorem d_Pa_parseHead_8 : decode bc_Pa_parseHead 8 = .ok (.getfield 9, 3) := by decide +kernel
theorem d_Pa_parseHead_11 : decode bc_Pa_parseHead 11 = .ok (.invokevirtual 40, 3) := by decide +kernel
theorem d_Pa_parseHead_14 : decode bc_Pa_parseHead 14 = .ok (.iconst 2, 1) := by decide +kernel
theorem d_Pa_parseHead_15 : decode bc_Pa_parseHead 15 = .ok (.if_icmp .eq 8, 3) := by decide +kernel
theorem d_Pa_parseHead_18 : decode bc_Pa_parseHead 18 = .ok (.aload_n 0, 1) := by decide +kernel
theorem d_Pa_parseHead_19 : decode bc_Pa_parseHead 19 = .ok (.invokevirtual 79, 3) := by decide +kernel
theorem d_Pa_parseHead_22 : decode bc_Pa_parseHead 22 = .ok (.ireturn, 1) := by decide +kernel
theorem d_Pa_parseHead_23 : decode bc_Pa_parseHead 23 = .ok (.aload_n 0, 1) := by decide +kernel
theorem d_Pa_parseHead_24 : decode bc_Pa_parseHead 24 = .ok (.getfield 15, 3) := by decide +kernel
theorem d_Pa_parseHead_27 : decode bc_Pa_parseHead 27 = .ok (.getfield 94, 3) := by decide +kernel
theorem d_Pa_parseHead_30 : decode bc_Pa_parseHead 30 = .ok (.bipush 16, 2) := by decide +kernel
theorem d_Pa_parseHead_32 : decode bc_Pa_parseHead 32 = .ok (.if_icmp .lt 8, 3) := by decide +kernel
theorem d_Pa_parseHead_35 : decode bc_Pa_parseHead 35 = .ok (.aload_n 0, 1) := by decide +kernel
theorem d_Pa_parseHead_36 : decode bc_Pa_parseHead 36 = .ok (.invokevirtual 97, 3) := by decide +kernel
theorem d_Pa_parseHead_39 : decode bc_Pa_parseHead 39 = .ok (.ireturn, 1) := by decide +kernel
theorem d_Pa_parseHead_40 : decode bc_Pa_parseHead 40 = .ok (.aload_n 0, 1) := by decide +kernel
theorem d_Pa_parseHead_41 : decode bc_Pa_parseHead 41 = .ok (.aload_n 0, 1) := by decide +kernel
theorem d_Pa_parseHead_42 : decode bc_Pa_parseHead 42 = .ok (.getfield 15, 3) := by decide +kernel
theorem d_Pa_parseHead_45 : decode bc_Pa_parseHead 45 = .ok (.getfield 94, 3) := by decide +kernel
theorem d_Pa_parseHead_48 : decode bc_Pa_parseHead 48 = .ok (.putfield 58, 3) := by decide +kernel
theorem d_Pa_parseHead_51 : decode bc_Pa_parseHead 51 = .ok (.aload_n 0, 1) := by decide +kernel
theorem d_Pa_parseHead_52 : decode bc_Pa_parseHead 52 = .ok (.getfield 15, 3) := by decide +kernel
theorem d_Pa_parseHead_55 : decode bc_Pa_parseHead 55 = .ok (.iload_n 1, 1) := by decide +kernel
theorem d_Pa_parseHead_56 : decode bc_Pa_parseHead 56 = .ok (.aload_n 0, 1) := by decide +kernel
theorem d_Pa_parseHead_57 : decode bc_Pa_parseHead 57 = .ok (.getfield 9, 3) := by decide +kernel
theorem d_Pa_parseHead_60 : decode bc_Pa_parseHead 60 = .ok (.invokevirtual 100, 3) := by decide +kernel
theorem d_Pa_parseHead_63 : decode bc_Pa_parseHead 63 = .ok (.aload_n 0, 1) := by decide +kernel
theorem d_Pa_parseHead_64 : decode bc_Pa_parseHead 64 = .ok (.getfield 9, 3) := by decide +kernel
theorem d_Pa_parseHead_67 : decode bc_Pa_parseHead 67 = .ok (.invokevirtual 82, 3) := by decide +kernel
theorem d_Pa_parseHead_70 : decode bc_Pa_parseHead 70 = .ok (.invokevirtual 104, 3) := by decide +kernel
theorem d_Pa_parseHead_73 : decode bc_Pa_parseHead 73 = .ok (.aload_n 0, 1) := by decide +kernel
theorem d_Pa_parseHead_74 : decode bc_Pa_parseHead 74 = .ok (.getfield 19, 3) := by decide +kernel
theorem d_Pa_parseHead_77 : decode bc_Pa_parseHead 77 = .ok (.iconst 0, 1) := by decide +kernel
theorem d_Pa_parseHead_78 : decode bc_Pa_parseHead 78 = .ok (.aload_n 0, 1) := by decide +kernel
theorem d_Pa_parseHead_79 : decode bc_Pa_parseHead 79 = .ok (.getfield 58, 3) := by decide +kernel
theorem d_Pa_parseHead_82 : decode bc_Pa_parseHead 82 = .ok (.aload_n 0, 1) := by decide +kernel
theorem d_Pa_parseHead_83 : decode bc_Pa_parseHead 83 = .ok (.getfield 9, 3) := by decide +kernel
theorem d_Pa_parseHead_86 : decode bc_Pa_parseHead 86 = .ok (.invokevirtual 110, 3) := by decide +kernel
theorem d_Pa_parseHead_89 : decode bc_Pa_parseHead 89 = .ok (.aload_n 0, 1) := by decide +kernel
theorem d_Pa_parseHead_90 : decode bc_Pa_parseHead 90 = .ok (.getfield 9, 3) := by decide +kernel
theorem d_Pa_parseHead_93 : decode bc_Pa_parseHead 93 = .ok (.invokevirtual 91, 3) := by decide +kernel
theorem d_Pa_parseHead_96 : decode bc_Pa_parseHead 96 = .ok (.iconst 1, 1) := by decide +kernel
theorem d_Pa_parseHead_97 : decode bc_Pa_parseHead 97 = .ok (.ireturn, 1) := by decide +kernel
abbrev bc_Pa_parseParams : ByteArray := prog_7_method_8_code
abbrev y_Pa_parseParams : MethodName := ⟨"KindRounds$Parser", "parseParams", "()Z"⟩
theorem d_Pa_parseParams_0 : decode bc_Pa_parseParams 0 = .ok (.iconst 1, 1) := by decide +kernel
theorem d_Pa_parseParams_1 : decode bc_Pa_parseParams 1 = .ok (.istore_n 1, 1) := by decide +kernel
theorem d_Pa_parseParams_2 : decode bc_Pa_parseParams 2 = .ok (.iconst 0, 1) := by decide +kernel
theorem d_Pa_parseParams_3 : decode bc_Pa_parseParams 3 = .ok (.istore_n 2, 1) := by decide +kernel
theorem d_Pa_parseParams_4 : decode bc_Pa_parseParams 4 = .ok (.iload_n 2, 1) := by decide +kernel
theorem d_Pa_parseParams_5 : decode bc_Pa_parseParams 5 = .ok (.iconst 3, 1) := by decide +kernel
theorem d_Pa_parseParams_6 : decode bc_Pa_parseParams 6 = .ok (.if_icmp .gt 29, 3) := by decide +kernel
theorem d_Pa_parseParams_9 : decode bc_Pa_parseParams 9 = .ok (.iload_n 1, 1) := by decide +kernel
theorem d_Pa_parseParams_10 : decode bc_Pa_parseParams 10 = .ok (.ifCond .eq 25, 3) := by decide +kernel
theorem d_Pa_parseParams_13 : decode bc_Pa_parseParams 13 = .ok (.aload_n 0, 1) := by decide +kernel
theorem d_Pa_parseParams_14 : decode bc_Pa_parseParams 14 = .ok (.getfield 9, 3) := by decide +kernel
theorem d_Pa_parseParams_17 : decode bc_Pa_parseParams 17 = .ok (.invokevirtual 40, 3) := by decide +kernel
theorem d_Pa_parseParams_20 : decode bc_Pa_parseParams 20 = .ok (.iconst 3, 1) := by decide +kernel
theorem d_Pa_parseParams_21 : decode bc_Pa_parseParams 21 = .ok (.if_icmp .ne 14, 3) := by decide +kernel
theorem d_Pa_parseParams_24 : decode bc_Pa_parseParams 24 = .ok (.aload_n 0, 1) := by decide +kernel
theorem d_Pa_parseParams_25 : decode bc_Pa_parseParams 25 = .ok (.invokevirtual 70, 3) := by decide +kernel
theorem d_Pa_parseParams_28 : decode bc_Pa_parseParams 28 = .ok (.istore_n 1, 1) := by decide +kernel
theorem d_Pa_parseParams_29 : decode bc_Pa_parseParams 29 = .ok (.iinc 2 1, 3) := by decide +kernel
theorem d_Pa_parseParams_32 : decode bc_Pa_parseParams 32 = .ok (.goto (-28), 3) := by decide +kernel
theorem d_Pa_parseParams_35 : decode bc_Pa_parseParams 35 = .ok (.iload_n 1, 1) := by decide +kernel
theorem d_Pa_parseParams_36 : decode bc_Pa_parseParams 36 = .ok (.ireturn, 1) := by decide +kernel
abbrev bc_Pa_parseParam : ByteArray := prog_7_method_9_code
abbrev y_Pa_parseParam : MethodName := ⟨"KindRounds$Parser", "parseParam", "()Z"⟩
theorem d_Pa_parseParam_0 : decode bc_Pa_parseParam 0 = .ok (.aload_n 0, 1) := by decide +kernel
theorem d_Pa_parseParam_1 : decode bc_Pa_parseParam 1 = .ok (.getfield 9, 3) := by decide +kernel
theorem d_Pa_parseParam_4 : decode bc_Pa_parseParam 4 = .ok (.invokevirtual 40, 3) := by decide +kernel
theorem d_Pa_parseParam_7 : decode bc_Pa_parseParam 7 = .ok (.iconst 3, 1) := by decide +kernel
theorem d_Pa_parseParam_8 : decode bc_Pa_parseParam 8 = .ok (.if_icmp .eq 8, 3) := by decide +kernel
theorem d_Pa_parseParam_11 : decode bc_Pa_parseParam 11 = .ok (.aload_n 0, 1) := by decide +kernel
theorem d_Pa_parseParam_12 : decode bc_Pa_parseParam 12 = .ok (.invokevirtual 79, 3) := by decide +kernel
theorem d_Pa_parseParam_15 : decode bc_Pa_parseParam 15 = .ok (.ireturn, 1) := by decide +kernel
theorem d_Pa_parseParam_16 : decode bc_Pa_parseParam 16 = .ok (.aload_n 0, 1) := by decide +kernel
theorem d_Pa_parseParam_17 : decode bc_Pa_parseParam 17 = .ok (.getfield 15, 3) := by decide +kernel
theorem d_Pa_parseParam_20 : decode bc_Pa_parseParam 20 = .ok (.getfield 114, 3) := by decide +kernel
theorem d_Pa_parseParam_23 : decode bc_Pa_parseParam 23 = .ok (.aload_n 0, 1) := by decide +kernel
theorem d_Pa_parseParam_24 : decode bc_Pa_parseParam 24 = .ok (.getfield 58, 3) := by decide +kernel
theorem d_Pa_parseParam_27 : decode bc_Pa_parseParam 27 = .ok (.iaload, 1) := by decide +kernel
theorem d_Pa_parseParam_28 : decode bc_Pa_parseParam 28 = .ok (.iconst 3, 1) := by decide +kernel
theorem d_Pa_parseParam_29 : decode bc_Pa_parseParam 29 = .ok (.if_icmp .lt 8, 3) := by decide +kernel
theorem d_Pa_parseParam_32 : decode bc_Pa_parseParam 32 = .ok (.aload_n 0, 1) := by decide +kernel
theorem d_Pa_parseParam_33 : decode bc_Pa_parseParam 33 = .ok (.invokevirtual 97, 3) := by decide +kernel
theorem d_Pa_parseParam_36 : decode bc_Pa_parseParam 36 = .ok (.ireturn, 1) := by decide +kernel
theorem d_Pa_parseParam_37 : decode bc_Pa_parseParam 37 = .ok (.aload_n 0, 1) := by decide +kernel
theorem d_Pa_parseParam_38 : decode bc_Pa_parseParam 38 = .ok (.getfield 15, 3) := by decide +kernel
theorem d_Pa_parseParam_41 : decode bc_Pa_parseParam 41 = .ok (.aload_n 0, 1) := by decide +kernel
theorem d_Pa_parseParam_42 : decode bc_Pa_parseParam 42 = .ok (.getfield 58, 3) := by decide +kernel
theorem d_Pa_parseParam_45 : decode bc_Pa_parseParam 45 = .ok (.aload_n 0, 1) := by decide +kernel
theorem d_Pa_parseParam_46 : decode bc_Pa_parseParam 46 = .ok (.getfield 9, 3) := by decide +kernel
theorem d_Pa_parseParam_49 : decode bc_Pa_parseParam 49 = .ok (.invokevirtual 100, 3) := by decide +kernel
theorem d_Pa_parseParam_52 : decode bc_Pa_parseParam 52 = .ok (.invokevirtual 118, 3) := by decide +kernel
theorem d_Pa_parseParam_55 : decode bc_Pa_parseParam 55 = .ok (.aload_n 0, 1) := by decide +kernel
theorem d_Pa_parseParam_56 : decode bc_Pa_parseParam 56 = .ok (.getfield 19, 3) := by decide +kernel
theorem d_Pa_parseParam_59 : decode bc_Pa_parseParam 59 = .ok (.iconst 3, 1) := by decide +kernel
theorem d_Pa_parseParam_60 : decode bc_Pa_parseParam 60 = .ok (.aload_n 0, 1) := by decide +kernel
theorem d_Pa_parseParam_61 : decode bc_Pa_parseParam 61 = .ok (.getfield 58, 3) := by decide +kernel
theorem d_Pa_parseParam_64 : decode bc_Pa_parseParam 64 = .ok (.aload_n 0, 1) := by decide +kernel
theorem d_Pa_parseParam_65 : decode bc_Pa_parseParam 65 = .ok (.getfield 9, 3) := by decide +kernel
theorem d_Pa_parseParam_68 : decode bc_Pa_parseParam 68 = .ok (.invokevirtual 110, 3) := by decide +kernel
theorem d_Pa_parseParam_71 : decode bc_Pa_parseParam 71 = .ok (.aload_n 0, 1) := by decide +kernel
theorem d_Pa_parseParam_72 : decode bc_Pa_parseParam 72 = .ok (.getfield 9, 3) := by decide +kernel
theorem d_Pa_parseParam_75 : decode bc_Pa_parseParam 75 = .ok (.invokevirtual 91, 3) := by decide +kernel
theorem d_Pa_parseParam_78 : decode bc_Pa_parseParam 78 = .ok (.iconst 1, 1) := by decide +kernel
theorem d_Pa_parseParam_79 : decode bc_Pa_parseParam 79 = .ok (.ireturn, 1) := by decide +kernel
abbrev bc_Pa_parseCons : ByteArray := prog_7_method_10_code
abbrev y_Pa_parseCons : MethodName := ⟨"KindRounds$Parser", "parseCons", "()Z"⟩
theorem d_Pa_parseCons_0 : decode bc_Pa_parseCons 0 = .ok (.iconst 0, 1) := by decide +kernel
theorem d_Pa_parseCons_1 : decode bc_Pa_parseCons 1 = .ok (.istore_n 1, 1) := by decide +kernel
theorem d_Pa_parseCons_2 : decode bc_Pa_parseCons 2 = .ok (.iload_n 1, 1) := by decide +kernel
theorem d_Pa_parseCons_3 : decode bc_Pa_parseCons 3 = .ok (.bipush 6, 2) := by decide +kernel
theorem d_Pa_parseCons_5 : decode bc_Pa_parseCons 5 = .ok (.if_icmp .gt 142, 3) := by decide +kernel
theorem d_Pa_parseCons_8 : decode bc_Pa_parseCons 8 = .ok (.aload_n 0, 1) := by decide +kernel
theorem d_Pa_parseCons_9 : decode bc_Pa_parseCons 9 = .ok (.getfield 9, 3) := by decide +kernel
theorem d_Pa_parseCons_12 : decode bc_Pa_parseCons 12 = .ok (.invokevirtual 40, 3) := by decide +kernel
theorem d_Pa_parseCons_15 : decode bc_Pa_parseCons 15 = .ok (.iconst 2, 1) := by decide +kernel
theorem d_Pa_parseCons_16 : decode bc_Pa_parseCons 16 = .ok (.if_icmp .eq 8, 3) := by decide +kernel
theorem d_Pa_parseCons_19 : decode bc_Pa_parseCons 19 = .ok (.aload_n 0, 1) := by decide +kernel
theorem d_Pa_parseCons_20 : decode bc_Pa_parseCons 20 = .ok (.invokevirtual 79, 3) := by decide +kernel
theorem d_Pa_parseCons_23 : decode bc_Pa_parseCons 23 = .ok (.ireturn, 1) := by decide +kernel
theorem d_Pa_parseCons_24 : decode bc_Pa_parseCons 24 = .ok (.iload_n 1, 1) := by decide +kernel
theorem d_Pa_parseCons_25 : decode bc_Pa_parseCons 25 = .ok (.bipush 6, 2) := by decide +kernel
theorem d_Pa_parseCons_27 : decode bc_Pa_parseCons 27 = .ok (.if_icmp .ne 8, 3) := by decide +kernel
theorem d_Pa_parseCons_30 : decode bc_Pa_parseCons 30 = .ok (.aload_n 0, 1) := by decide +kernel
theorem d_Pa_parseCons_31 : decode bc_Pa_parseCons 31 = .ok (.invokevirtual 97, 3) := by decide +kernel
theorem d_Pa_parseCons_34 : decode bc_Pa_parseCons 34 = .ok (.ireturn, 1) := by decide +kernel
theorem d_Pa_parseCons_35 : decode bc_Pa_parseCons 35 = .ok (.aload_n 0, 1) := by decide +kernel
theorem d_Pa_parseCons_36 : decode bc_Pa_parseCons 36 = .ok (.getfield 15, 3) := by decide +kernel
theorem d_Pa_parseCons_39 : decode bc_Pa_parseCons 39 = .ok (.getfield 122, 3) := by decide +kernel
theorem d_Pa_parseCons_42 : decode bc_Pa_parseCons 42 = .ok (.aload_n 0, 1) := by decide +kernel
theorem d_Pa_parseCons_43 : decode bc_Pa_parseCons 43 = .ok (.getfield 58, 3) := by decide +kernel
theorem d_Pa_parseCons_46 : decode bc_Pa_parseCons 46 = .ok (.dup2, 1) := by decide +kernel
theorem d_Pa_parseCons_47 : decode bc_Pa_parseCons 47 = .ok (.iaload, 1) := by decide +kernel
theorem d_Pa_parseCons_48 : decode bc_Pa_parseCons 48 = .ok (.iconst 1, 1) := by decide +kernel
theorem d_Pa_parseCons_49 : decode bc_Pa_parseCons 49 = .ok (.iadd, 1) := by decide +kernel
theorem d_Pa_parseCons_50 : decode bc_Pa_parseCons 50 = .ok (.iastore, 1) := by decide +kernel
theorem d_Pa_parseCons_51 : decode bc_Pa_parseCons 51 = .ok (.aload_n 0, 1) := by decide +kernel
theorem d_Pa_parseCons_52 : decode bc_Pa_parseCons 52 = .ok (.getfield 19, 3) := by decide +kernel
theorem d_Pa_parseCons_55 : decode bc_Pa_parseCons 55 = .ok (.iconst 1, 1) := by decide +kernel
theorem d_Pa_parseCons_56 : decode bc_Pa_parseCons 56 = .ok (.aload_n 0, 1) := by decide +kernel
theorem d_Pa_parseCons_57 : decode bc_Pa_parseCons 57 = .ok (.getfield 58, 3) := by decide +kernel
theorem d_Pa_parseCons_60 : decode bc_Pa_parseCons 60 = .ok (.aload_n 0, 1) := by decide +kernel
theorem d_Pa_parseCons_61 : decode bc_Pa_parseCons 61 = .ok (.getfield 9, 3) := by decide +kernel
theorem d_Pa_parseCons_64 : decode bc_Pa_parseCons 64 = .ok (.invokevirtual 110, 3) := by decide +kernel
theorem d_Pa_parseCons_67 : decode bc_Pa_parseCons 67 = .ok (.aload_n 0, 1) := by decide +kernel
theorem d_Pa_parseCons_68 : decode bc_Pa_parseCons 68 = .ok (.getfield 9, 3) := by decide +kernel
theorem d_Pa_parseCons_71 : decode bc_Pa_parseCons 71 = .ok (.invokevirtual 91, 3) := by decide +kernel
theorem d_Pa_parseCons_74 : decode bc_Pa_parseCons 74 = .ok (.iconst 0, 1) := by decide +kernel
theorem d_Pa_parseCons_75 : decode bc_Pa_parseCons 75 = .ok (.istore_n 2, 1) := by decide +kernel
theorem d_Pa_parseCons_76 : decode bc_Pa_parseCons 76 = .ok (.iload_n 2, 1) := by decide +kernel
theorem d_Pa_parseCons_77 : decode bc_Pa_parseCons 77 = .ok (.sipush 200, 3) := by decide +kernel
theorem d_Pa_parseCons_80 : decode bc_Pa_parseCons 80 = .ok (.if_icmp .gt 40, 3) := by decide +kernel
theorem d_Pa_parseCons_83 : decode bc_Pa_parseCons 83 = .ok (.aload_n 0, 1) := by decide +kernel
theorem d_Pa_parseCons_84 : decode bc_Pa_parseCons 84 = .ok (.invokevirtual 125, 3) := by decide +kernel
theorem d_Pa_parseCons_87 : decode bc_Pa_parseCons 87 = .ok (.ifCond .eq 33, 3) := by decide +kernel
theorem d_Pa_parseCons_90 : decode bc_Pa_parseCons 90 = .ok (.aload_n 0, 1) := by decide +kernel
theorem d_Pa_parseCons_91 : decode bc_Pa_parseCons 91 = .ok (.getfield 37, 3) := by decide +kernel
theorem d_Pa_parseCons_94 : decode bc_Pa_parseCons 94 = .ok (.aload_n 0, 1) := by decide +kernel
theorem d_Pa_parseCons_95 : decode bc_Pa_parseCons 95 = .ok (.getfield 58, 3) := by decide +kernel
theorem d_Pa_parseCons_98 : decode bc_Pa_parseCons 98 = .ok (.invokevirtual 62, 3) := by decide +kernel
theorem d_Pa_parseCons_101 : decode bc_Pa_parseCons 101 = .ok (.ifCond .eq 11, 3) := by decide +kernel
theorem d_Pa_parseCons_104 : decode bc_Pa_parseCons 104 = .ok (.aload_n 0, 1) := by decide +kernel
theorem d_Pa_parseCons_105 : decode bc_Pa_parseCons 105 = .ok (.iconst 0, 1) := by decide +kernel
theorem d_Pa_parseCons_106 : decode bc_Pa_parseCons 106 = .ok (.invokevirtual 128, 3) := by decide +kernel
theorem d_Pa_parseCons_109 : decode bc_Pa_parseCons 109 = .ok (.ifCond .ne 5, 3) := by decide +kernel
theorem d_Pa_parseCons_112 : decode bc_Pa_parseCons 112 = .ok (.iconst 0, 1) := by decide +kernel
theorem d_Pa_parseCons_113 : decode bc_Pa_parseCons 113 = .ok (.ireturn, 1) := by decide +kernel
theorem d_Pa_parseCons_114 : decode bc_Pa_parseCons 114 = .ok (.iinc 2 1, 3) := by decide +kernel
theorem d_Pa_parseCons_117 : decode bc_Pa_parseCons 117 = .ok (.goto (-41), 3) := by decide +kernel
theorem d_Pa_parseCons_120 : decode bc_Pa_parseCons 120 = .ok (.aload_n 0, 1) := by decide +kernel
theorem d_Pa_parseCons_121 : decode bc_Pa_parseCons 121 = .ok (.getfield 9, 3) := by decide +kernel
theorem d_Pa_parseCons_124 : decode bc_Pa_parseCons 124 = .ok (.invokevirtual 40, 3) := by decide +kernel
theorem d_Pa_parseCons_127 : decode bc_Pa_parseCons 127 = .ok (.bipush 124, 2) := by decide +kernel
theorem d_Pa_parseCons_129 : decode bc_Pa_parseCons 129 = .ok (.if_icmp .eq 5, 3) := by decide +kernel
theorem d_Pa_parseCons_132 : decode bc_Pa_parseCons 132 = .ok (.iconst 1, 1) := by decide +kernel
theorem d_Pa_parseCons_133 : decode bc_Pa_parseCons 133 = .ok (.ireturn, 1) := by decide +kernel
theorem d_Pa_parseCons_134 : decode bc_Pa_parseCons 134 = .ok (.aload_n 0, 1) := by decide +kernel
theorem d_Pa_parseCons_135 : decode bc_Pa_parseCons 135 = .ok (.getfield 9, 3) := by decide +kernel
theorem d_Pa_parseCons_138 : decode bc_Pa_parseCons 138 = .ok (.invokevirtual 91, 3) := by decide +kernel
theorem d_Pa_parseCons_141 : decode bc_Pa_parseCons 141 = .ok (.iinc 1 1, 3) := by decide +kernel
theorem d_Pa_parseCons_144 : decode bc_Pa_parseCons 144 = .ok (.goto (-142), 3) := by decide +kernel
theorem d_Pa_parseCons_147 : decode bc_Pa_parseCons 147 = .ok (.iconst 0, 1) := by decide +kernel
theorem d_Pa_parseCons_148 : decode bc_Pa_parseCons 148 = .ok (.ireturn, 1) := by decide +kernel
abbrev bc_Pa_parseMethods : ByteArray := prog_7_method_11_code
abbrev y_Pa_parseMethods : MethodName := ⟨"KindRounds$Parser", "parseMethods", "()Z"⟩
theorem d_Pa_parseMethods_0 : decode bc_Pa_parseMethods 0 = .ok (.iconst 0, 1) := by decide +kernel
theorem d_Pa_parseMethods_1 : decode bc_Pa_parseMethods 1 = .ok (.istore_n 1, 1) := by decide +kernel
theorem d_Pa_parseMethods_2 : decode bc_Pa_parseMethods 2 = .ok (.iload_n 1, 1) := by decide +kernel
theorem d_Pa_parseMethods_3 : decode bc_Pa_parseMethods 3 = .ok (.iconst 4, 1) := by decide +kernel
theorem d_Pa_parseMethods_4 : decode bc_Pa_parseMethods 4 = .ok (.if_icmp .gt 121, 3) := by decide +kernel
theorem d_Pa_parseMethods_7 : decode bc_Pa_parseMethods 7 = .ok (.aload_n 0, 1) := by decide +kernel
theorem d_Pa_parseMethods_8 : decode bc_Pa_parseMethods 8 = .ok (.getfield 9, 3) := by decide +kernel
theorem d_Pa_parseMethods_11 : decode bc_Pa_parseMethods 11 = .ok (.invokevirtual 40, 3) := by decide +kernel
theorem d_Pa_parseMethods_14 : decode bc_Pa_parseMethods 14 = .ok (.iconst 3, 1) := by decide +kernel
theorem d_Pa_parseMethods_15 : decode bc_Pa_parseMethods 15 = .ok (.if_icmp .ne 110, 3) := by decide +kernel
theorem d_Pa_parseMethods_18 : decode bc_Pa_parseMethods 18 = .ok (.iload_n 1, 1) := by decide +kernel
theorem d_Pa_parseMethods_19 : decode bc_Pa_parseMethods 19 = .ok (.iconst 4, 1) := by decide +kernel
theorem d_Pa_parseMethods_20 : decode bc_Pa_parseMethods 20 = .ok (.if_icmp .ne 8, 3) := by decide +kernel
theorem d_Pa_parseMethods_23 : decode bc_Pa_parseMethods 23 = .ok (.aload_n 0, 1) := by decide +kernel
theorem d_Pa_parseMethods_24 : decode bc_Pa_parseMethods 24 = .ok (.invokevirtual 97, 3) := by decide +kernel
theorem d_Pa_parseMethods_27 : decode bc_Pa_parseMethods 27 = .ok (.ireturn, 1) := by decide +kernel
theorem d_Pa_parseMethods_28 : decode bc_Pa_parseMethods 28 = .ok (.aload_n 0, 1) := by decide +kernel
theorem d_Pa_parseMethods_29 : decode bc_Pa_parseMethods 29 = .ok (.getfield 15, 3) := by decide +kernel
theorem d_Pa_parseMethods_32 : decode bc_Pa_parseMethods 32 = .ok (.getfield 122, 3) := by decide +kernel
theorem d_Pa_parseMethods_35 : decode bc_Pa_parseMethods 35 = .ok (.aload_n 0, 1) := by decide +kernel
theorem d_Pa_parseMethods_36 : decode bc_Pa_parseMethods 36 = .ok (.getfield 58, 3) := by decide +kernel
theorem d_Pa_parseMethods_39 : decode bc_Pa_parseMethods 39 = .ok (.dup2, 1) := by decide +kernel
theorem d_Pa_parseMethods_40 : decode bc_Pa_parseMethods 40 = .ok (.iaload, 1) := by decide +kernel
theorem d_Pa_parseMethods_41 : decode bc_Pa_parseMethods 41 = .ok (.iconst 1, 1) := by decide +kernel
theorem d_Pa_parseMethods_42 : decode bc_Pa_parseMethods 42 = .ok (.iadd, 1) := by decide +kernel
theorem d_Pa_parseMethods_43 : decode bc_Pa_parseMethods 43 = .ok (.iastore, 1) := by decide +kernel
theorem d_Pa_parseMethods_44 : decode bc_Pa_parseMethods 44 = .ok (.aload_n 0, 1) := by decide +kernel
theorem d_Pa_parseMethods_45 : decode bc_Pa_parseMethods 45 = .ok (.getfield 19, 3) := by decide +kernel
theorem d_Pa_parseMethods_48 : decode bc_Pa_parseMethods 48 = .ok (.iconst 2, 1) := by decide +kernel
theorem d_Pa_parseMethods_49 : decode bc_Pa_parseMethods 49 = .ok (.aload_n 0, 1) := by decide +kernel
theorem d_Pa_parseMethods_50 : decode bc_Pa_parseMethods 50 = .ok (.getfield 58, 3) := by decide +kernel
theorem d_Pa_parseMethods_53 : decode bc_Pa_parseMethods 53 = .ok (.aload_n 0, 1) := by decide +kernel
theorem d_Pa_parseMethods_54 : decode bc_Pa_parseMethods 54 = .ok (.getfield 9, 3) := by decide +kernel
theorem d_Pa_parseMethods_57 : decode bc_Pa_parseMethods 57 = .ok (.invokevirtual 110, 3) := by decide +kernel
theorem d_Pa_parseMethods_60 : decode bc_Pa_parseMethods 60 = .ok (.aload_n 0, 1) := by decide +kernel
theorem d_Pa_parseMethods_61 : decode bc_Pa_parseMethods 61 = .ok (.getfield 9, 3) := by decide +kernel
theorem d_Pa_parseMethods_64 : decode bc_Pa_parseMethods 64 = .ok (.invokevirtual 91, 3) := by decide +kernel
theorem d_Pa_parseMethods_67 : decode bc_Pa_parseMethods 67 = .ok (.aload_n 0, 1) := by decide +kernel
theorem d_Pa_parseMethods_68 : decode bc_Pa_parseMethods 68 = .ok (.bipush 58, 2) := by decide +kernel
theorem d_Pa_parseMethods_70 : decode bc_Pa_parseMethods 70 = .ok (.invokevirtual 52, 3) := by decide +kernel
theorem d_Pa_parseMethods_73 : decode bc_Pa_parseMethods 73 = .ok (.ifCond .eq 38, 3) := by decide +kernel
theorem d_Pa_parseMethods_76 : decode bc_Pa_parseMethods 76 = .ok (.aload_n 0, 1) := by decide +kernel
theorem d_Pa_parseMethods_77 : decode bc_Pa_parseMethods 77 = .ok (.getfield 37, 3) := by decide +kernel
theorem d_Pa_parseMethods_80 : decode bc_Pa_parseMethods 80 = .ok (.aload_n 0, 1) := by decide +kernel
theorem d_Pa_parseMethods_81 : decode bc_Pa_parseMethods 81 = .ok (.getfield 58, 3) := by decide +kernel
theorem d_Pa_parseMethods_84 : decode bc_Pa_parseMethods 84 = .ok (.invokevirtual 62, 3) := by decide +kernel
theorem d_Pa_parseMethods_87 : decode bc_Pa_parseMethods 87 = .ok (.ifCond .eq 24, 3) := by decide +kernel
theorem d_Pa_parseMethods_90 : decode bc_Pa_parseMethods 90 = .ok (.aload_n 0, 1) := by decide +kernel
theorem d_Pa_parseMethods_91 : decode bc_Pa_parseMethods 91 = .ok (.iconst 0, 1) := by decide +kernel
theorem d_Pa_parseMethods_92 : decode bc_Pa_parseMethods 92 = .ok (.invokevirtual 67, 3) := by decide +kernel
theorem d_Pa_parseMethods_95 : decode bc_Pa_parseMethods 95 = .ok (.ifCond .eq 16, 3) := by decide +kernel
theorem d_Pa_parseMethods_98 : decode bc_Pa_parseMethods 98 = .ok (.aload_n 0, 1) := by decide +kernel
theorem d_Pa_parseMethods_99 : decode bc_Pa_parseMethods 99 = .ok (.bipush 59, 2) := by decide +kernel
theorem d_Pa_parseMethods_101 : decode bc_Pa_parseMethods 101 = .ok (.invokevirtual 52, 3) := by decide +kernel
theorem d_Pa_parseMethods_104 : decode bc_Pa_parseMethods 104 = .ok (.ifCond .eq 7, 3) := by decide +kernel
theorem d_Pa_parseMethods_107 : decode bc_Pa_parseMethods 107 = .ok (.iconst 1, 1) := by decide +kernel
theorem d_Pa_parseMethods_108 : decode bc_Pa_parseMethods 108 = .ok (.goto 4, 3) := by decide +kernel
theorem d_Pa_parseMethods_111 : decode bc_Pa_parseMethods 111 = .ok (.iconst 0, 1) := by decide +kernel
theorem d_Pa_parseMethods_112 : decode bc_Pa_parseMethods 112 = .ok (.istore_n 2, 1) := by decide +kernel
theorem d_Pa_parseMethods_113 : decode bc_Pa_parseMethods 113 = .ok (.iload_n 2, 1) := by decide +kernel
theorem d_Pa_parseMethods_114 : decode bc_Pa_parseMethods 114 = .ok (.ifCond .ne 5, 3) := by decide +kernel
theorem d_Pa_parseMethods_117 : decode bc_Pa_parseMethods 117 = .ok (.iconst 0, 1) := by decide +kernel
theorem d_Pa_parseMethods_118 : decode bc_Pa_parseMethods 118 = .ok (.ireturn, 1) := by decide +kernel
theorem d_Pa_parseMethods_119 : decode bc_Pa_parseMethods 119 = .ok (.iinc 1 1, 3) := by decide +kernel
theorem d_Pa_parseMethods_122 : decode bc_Pa_parseMethods 122 = .ok (.goto (-120), 3) := by decide +kernel
theorem d_Pa_parseMethods_125 : decode bc_Pa_parseMethods 125 = .ok (.iconst 1, 1) := by decide +kernel
theorem d_Pa_parseMethods_126 : decode bc_Pa_parseMethods 126 = .ok (.ireturn, 1) := by decide +kernel
abbrev bc_Pa_parseTold : ByteArray := prog_7_method_12_code
abbrev y_Pa_parseTold : MethodName := ⟨"KindRounds$Parser", "parseTold", "()Z"⟩
theorem d_Pa_parseTold_0 : decode bc_Pa_parseTold 0 = .ok (.aload_n 0, 1) := by decide +kernel
theorem d_Pa_parseTold_1 : decode bc_Pa_parseTold 1 = .ok (.getfield 9, 3) := by decide +kernel
theorem d_Pa_parseTold_4 : decode bc_Pa_parseTold 4 = .ok (.invokevirtual 91, 3) := by decide +kernel
theorem d_Pa_parseTold_7 : decode bc_Pa_parseTold 7 = .ok (.aload_n 0, 1) := by decide +kernel
theorem d_Pa_parseTold_8 : decode bc_Pa_parseTold 8 = .ok (.getfield 9, 3) := by decide +kernel
theorem d_Pa_parseTold_11 : decode bc_Pa_parseTold 11 = .ok (.invokevirtual 40, 3) := by decide +kernel
theorem d_Pa_parseTold_14 : decode bc_Pa_parseTold 14 = .ok (.iconst 2, 1) := by decide +kernel
theorem d_Pa_parseTold_15 : decode bc_Pa_parseTold 15 = .ok (.if_icmp .eq 8, 3) := by decide +kernel
theorem d_Pa_parseTold_18 : decode bc_Pa_parseTold 18 = .ok (.aload_n 0, 1) := by decide +kernel
theorem d_Pa_parseTold_19 : decode bc_Pa_parseTold 19 = .ok (.invokevirtual 79, 3) := by decide +kernel
theorem d_Pa_parseTold_22 : decode bc_Pa_parseTold 22 = .ok (.ireturn, 1) := by decide +kernel
theorem d_Pa_parseTold_23 : decode bc_Pa_parseTold 23 = .ok (.aload_n 0, 1) := by decide +kernel
theorem d_Pa_parseTold_24 : decode bc_Pa_parseTold 24 = .ok (.getfield 19, 3) := by decide +kernel
theorem d_Pa_parseTold_27 : decode bc_Pa_parseTold 27 = .ok (.getfield 131, 3) := by decide +kernel
theorem d_Pa_parseTold_30 : decode bc_Pa_parseTold 30 = .ok (.istore_n 1, 1) := by decide +kernel
theorem d_Pa_parseTold_31 : decode bc_Pa_parseTold 31 = .ok (.aload_n 0, 1) := by decide +kernel
theorem d_Pa_parseTold_32 : decode bc_Pa_parseTold 32 = .ok (.getfield 19, 3) := by decide +kernel
theorem d_Pa_parseTold_35 : decode bc_Pa_parseTold 35 = .ok (.iconst 4, 1) := by decide +kernel
theorem d_Pa_parseTold_36 : decode bc_Pa_parseTold 36 = .ok (.iconst (-1), 1) := by decide +kernel
theorem d_Pa_parseTold_37 : decode bc_Pa_parseTold 37 = .ok (.aload_n 0, 1) := by decide +kernel
theorem d_Pa_parseTold_38 : decode bc_Pa_parseTold 38 = .ok (.getfield 9, 3) := by decide +kernel
theorem d_Pa_parseTold_41 : decode bc_Pa_parseTold 41 = .ok (.invokevirtual 110, 3) := by decide +kernel
theorem d_Pa_parseTold_44 : decode bc_Pa_parseTold 44 = .ok (.aload_n 0, 1) := by decide +kernel
theorem d_Pa_parseTold_45 : decode bc_Pa_parseTold 45 = .ok (.getfield 9, 3) := by decide +kernel
theorem d_Pa_parseTold_48 : decode bc_Pa_parseTold 48 = .ok (.invokevirtual 91, 3) := by decide +kernel
theorem d_Pa_parseTold_51 : decode bc_Pa_parseTold 51 = .ok (.aload_n 0, 1) := by decide +kernel
theorem d_Pa_parseTold_52 : decode bc_Pa_parseTold 52 = .ok (.bipush 58, 2) := by decide +kernel
theorem d_Pa_parseTold_54 : decode bc_Pa_parseTold 54 = .ok (.invokevirtual 52, 3) := by decide +kernel
theorem d_Pa_parseTold_57 : decode bc_Pa_parseTold 57 = .ok (.ifCond .ne 5, 3) := by decide +kernel
theorem d_Pa_parseTold_60 : decode bc_Pa_parseTold 60 = .ok (.iconst 0, 1) := by decide +kernel
theorem d_Pa_parseTold_61 : decode bc_Pa_parseTold 61 = .ok (.ireturn, 1) := by decide +kernel
theorem d_Pa_parseTold_62 : decode bc_Pa_parseTold 62 = .ok (.aload_n 0, 1) := by decide +kernel
theorem d_Pa_parseTold_63 : decode bc_Pa_parseTold 63 = .ok (.iconst 0, 1) := by decide +kernel
theorem d_Pa_parseTold_64 : decode bc_Pa_parseTold 64 = .ok (.invokevirtual 132, 3) := by decide +kernel
theorem d_Pa_parseTold_67 : decode bc_Pa_parseTold 67 = .ok (.istore_n 2, 1) := by decide +kernel
theorem d_Pa_parseTold_68 : decode bc_Pa_parseTold 68 = .ok (.aload_n 0, 1) := by decide +kernel
theorem d_Pa_parseTold_69 : decode bc_Pa_parseTold 69 = .ok (.getfield 19, 3) := by decide +kernel
theorem d_Pa_parseTold_72 : decode bc_Pa_parseTold 72 = .ok (.iload_n 1, 1) := by decide +kernel
theorem d_Pa_parseTold_73 : decode bc_Pa_parseTold 73 = .ok (.iload_n 2, 1) := by decide +kernel
theorem d_Pa_parseTold_74 : decode bc_Pa_parseTold 74 = .ok (.invokevirtual 136, 3) := by decide +kernel
theorem d_Pa_parseTold_77 : decode bc_Pa_parseTold 77 = .ok (.iload_n 2, 1) := by decide +kernel
theorem d_Pa_parseTold_78 : decode bc_Pa_parseTold 78 = .ok (.ifCond .lt 7, 3) := by decide +kernel
theorem d_Pa_parseTold_81 : decode bc_Pa_parseTold 81 = .ok (.iconst 1, 1) := by decide +kernel
theorem d_Pa_parseTold_82 : decode bc_Pa_parseTold 82 = .ok (.goto 4, 3) := by decide +kernel
theorem d_Pa_parseTold_85 : decode bc_Pa_parseTold 85 = .ok (.iconst 0, 1) := by decide +kernel
theorem d_Pa_parseTold_86 : decode bc_Pa_parseTold 86 = .ok (.ireturn, 1) := by decide +kernel
abbrev bc_Pa_parseKind : ByteArray := prog_7_method_13_code
abbrev y_Pa_parseKind : MethodName := ⟨"KindRounds$Parser", "parseKind", "(I)I"⟩
theorem d_Pa_parseKind_0 : decode bc_Pa_parseKind 0 = .ok (.iconst (-1), 1) := by decide +kernel
theorem d_Pa_parseKind_1 : decode bc_Pa_parseKind 1 = .ok (.istore_n 2, 1) := by decide +kernel
theorem d_Pa_parseKind_2 : decode bc_Pa_parseKind 2 = .ok (.iconst (-1), 1) := by decide +kernel
theorem d_Pa_parseKind_3 : decode bc_Pa_parseKind 3 = .ok (.istore_n 3, 1) := by decide +kernel
theorem d_Pa_parseKind_4 : decode bc_Pa_parseKind 4 = .ok (.iconst 0, 1) := by decide +kernel
theorem d_Pa_parseKind_5 : decode bc_Pa_parseKind 5 = .ok (.istore 4, 2) := by decide +kernel
theorem d_Pa_parseKind_7 : decode bc_Pa_parseKind 7 = .ok (.iload 4, 2) := by decide +kernel
theorem d_Pa_parseKind_9 : decode bc_Pa_parseKind 9 = .ok (.sipush 1200, 3) := by decide +kernel
theorem d_Pa_parseKind_12 : decode bc_Pa_parseKind 12 = .ok (.if_icmp .ge 97, 3) := by decide +kernel
theorem d_Pa_parseKind_15 : decode bc_Pa_parseKind 15 = .ok (.aload_n 0, 1) := by decide +kernel
theorem d_Pa_parseKind_16 : decode bc_Pa_parseKind 16 = .ok (.iload_n 1, 1) := by decide +kernel
theorem d_Pa_parseKind_17 : decode bc_Pa_parseKind 17 = .ok (.invokevirtual 139, 3) := by decide +kernel
theorem d_Pa_parseKind_20 : decode bc_Pa_parseKind 20 = .ok (.istore 5, 2) := by decide +kernel
theorem d_Pa_parseKind_22 : decode bc_Pa_parseKind 22 = .ok (.iload 5, 2) := by decide +kernel
theorem d_Pa_parseKind_24 : decode bc_Pa_parseKind 24 = .ok (.ifCond .ge 5, 3) := by decide +kernel
theorem d_Pa_parseKind_27 : decode bc_Pa_parseKind 27 = .ok (.iconst (-1), 1) := by decide +kernel
theorem d_Pa_parseKind_28 : decode bc_Pa_parseKind 28 = .ok (.ireturn, 1) := by decide +kernel
theorem d_Pa_parseKind_29 : decode bc_Pa_parseKind 29 = .ok (.aload_n 0, 1) := by decide +kernel
theorem d_Pa_parseKind_30 : decode bc_Pa_parseKind 30 = .ok (.getfield 9, 3) := by decide +kernel
theorem d_Pa_parseKind_33 : decode bc_Pa_parseKind 33 = .ok (.invokevirtual 40, 3) := by decide +kernel
theorem d_Pa_parseKind_36 : decode bc_Pa_parseKind 36 = .ok (.bipush 45, 2) := by decide +kernel
theorem d_Pa_parseKind_38 : decode bc_Pa_parseKind 38 = .ok (.if_icmp .ne 7, 3) := by decide +kernel
theorem d_Pa_parseKind_41 : decode bc_Pa_parseKind 41 = .ok (.iconst 1, 1) := by decide +kernel
theorem d_Pa_parseKind_42 : decode bc_Pa_parseKind 42 = .ok (.goto 4, 3) := by decide +kernel
theorem d_Pa_parseKind_45 : decode bc_Pa_parseKind 45 = .ok (.iconst 0, 1) := by decide +kernel
theorem d_Pa_parseKind_46 : decode bc_Pa_parseKind 46 = .ok (.istore 6, 2) := by decide +kernel
theorem d_Pa_parseKind_48 : decode bc_Pa_parseKind 48 = .ok (.iload 6, 2) := by decide +kernel
theorem d_Pa_parseKind_50 : decode bc_Pa_parseKind 50 = .ok (.ifCond .eq 22, 3) := by decide +kernel
theorem d_Pa_parseKind_53 : decode bc_Pa_parseKind 53 = .ok (.aload_n 0, 1) := by decide +kernel
theorem d_Pa_parseKind_54 : decode bc_Pa_parseKind 54 = .ok (.getfield 9, 3) := by decide +kernel
theorem d_Pa_parseKind_57 : decode bc_Pa_parseKind 57 = .ok (.invokevirtual 91, 3) := by decide +kernel
theorem d_Pa_parseKind_60 : decode bc_Pa_parseKind 60 = .ok (.aload_n 0, 1) := by decide +kernel
theorem d_Pa_parseKind_61 : decode bc_Pa_parseKind 61 = .ok (.getfield 23, 3) := by decide +kernel
theorem d_Pa_parseKind_64 : decode bc_Pa_parseKind 64 = .ok (.iload 5, 2) := by decide +kernel
theorem d_Pa_parseKind_66 : decode bc_Pa_parseKind 66 = .ok (.iconst 0, 1) := by decide +kernel
theorem d_Pa_parseKind_67 : decode bc_Pa_parseKind 67 = .ok (.invokevirtual 142, 3) := by decide +kernel
theorem d_Pa_parseKind_70 : decode bc_Pa_parseKind 70 = .ok (.istore 5, 2) := by decide +kernel
theorem d_Pa_parseKind_72 : decode bc_Pa_parseKind 72 = .ok (.iload_n 3, 1) := by decide +kernel
theorem d_Pa_parseKind_73 : decode bc_Pa_parseKind 73 = .ok (.ifCond .lt 17, 3) := by decide +kernel
theorem d_Pa_parseKind_76 : decode bc_Pa_parseKind 76 = .ok (.aload_n 0, 1) := by decide +kernel
theorem d_Pa_parseKind_77 : decode bc_Pa_parseKind 77 = .ok (.getfield 23, 3) := by decide +kernel
theorem d_Pa_parseKind_80 : decode bc_Pa_parseKind 80 = .ok (.getfield 148, 3) := by decide +kernel
theorem d_Pa_parseKind_83 : decode bc_Pa_parseKind 83 = .ok (.iload_n 3, 1) := by decide +kernel
theorem d_Pa_parseKind_84 : decode bc_Pa_parseKind 84 = .ok (.iload 5, 2) := by decide +kernel
theorem d_Pa_parseKind_86 : decode bc_Pa_parseKind 86 = .ok (.iastore, 1) := by decide +kernel
theorem d_Pa_parseKind_87 : decode bc_Pa_parseKind 87 = .ok (.goto 6, 3) := by decide +kernel
theorem d_Pa_parseKind_90 : decode bc_Pa_parseKind 90 = .ok (.iload 5, 2) := by decide +kernel
theorem d_Pa_parseKind_92 : decode bc_Pa_parseKind 92 = .ok (.istore_n 2, 1) := by decide +kernel
theorem d_Pa_parseKind_93 : decode bc_Pa_parseKind 93 = .ok (.iload 6, 2) := by decide +kernel
theorem d_Pa_parseKind_95 : decode bc_Pa_parseKind 95 = .ok (.ifCond .ne 5, 3) := by decide +kernel
theorem d_Pa_parseKind_98 : decode bc_Pa_parseKind 98 = .ok (.iload_n 2, 1) := by decide +kernel
theorem d_Pa_parseKind_99 : decode bc_Pa_parseKind 99 = .ok (.ireturn, 1) := by decide +kernel
theorem d_Pa_parseKind_100 : decode bc_Pa_parseKind 100 = .ok (.iload 5, 2) := by decide +kernel
theorem d_Pa_parseKind_102 : decode bc_Pa_parseKind 102 = .ok (.istore_n 3, 1) := by decide +kernel
theorem d_Pa_parseKind_103 : decode bc_Pa_parseKind 103 = .ok (.iinc 4 1, 3) := by decide +kernel
theorem d_Pa_parseKind_106 : decode bc_Pa_parseKind 106 = .ok (.goto (-99), 3) := by decide +kernel
theorem d_Pa_parseKind_109 : decode bc_Pa_parseKind 109 = .ok (.iconst (-1), 1) := by decide +kernel
theorem d_Pa_parseKind_110 : decode bc_Pa_parseKind 110 = .ok (.ireturn, 1) := by decide +kernel
abbrev bc_Pa_parsePart : ByteArray := prog_7_method_14_code
abbrev y_Pa_parsePart : MethodName := ⟨"KindRounds$Parser", "parsePart", "(I)I"⟩
theorem d_Pa_parsePart_0 : decode bc_Pa_parsePart 0 = .ok (.aload_n 0, 1) := by decide +kernel
theorem d_Pa_parsePart_1 : decode bc_Pa_parsePart 1 = .ok (.getfield 9, 3) := by decide +kernel
theorem d_Pa_parsePart_4 : decode bc_Pa_parsePart 4 = .ok (.invokevirtual 40, 3) := by decide +kernel
theorem d_Pa_parsePart_7 : decode bc_Pa_parsePart 7 = .ok (.bipush 42, 2) := by decide +kernel
theorem d_Pa_parsePart_9 : decode bc_Pa_parsePart 9 = .ok (.if_icmp .ne 12, 3) := by decide +kernel
theorem d_Pa_parsePart_12 : decode bc_Pa_parsePart 12 = .ok (.aload_n 0, 1) := by decide +kernel
theorem d_Pa_parsePart_13 : decode bc_Pa_parsePart 13 = .ok (.getfield 9, 3) := by decide +kernel
theorem d_Pa_parsePart_16 : decode bc_Pa_parsePart 16 = .ok (.invokevirtual 91, 3) := by decide +kernel
theorem d_Pa_parsePart_19 : decode bc_Pa_parsePart 19 = .ok (.iconst 0, 1) := by decide +kernel
theorem d_Pa_parsePart_20 : decode bc_Pa_parsePart 20 = .ok (.ireturn, 1) := by decide +kernel
theorem d_Pa_parsePart_21 : decode bc_Pa_parsePart 21 = .ok (.aload_n 0, 1) := by decide +kernel
theorem d_Pa_parsePart_22 : decode bc_Pa_parsePart 22 = .ok (.getfield 9, 3) := by decide +kernel
theorem d_Pa_parsePart_25 : decode bc_Pa_parsePart 25 = .ok (.invokevirtual 40, 3) := by decide +kernel
theorem d_Pa_parsePart_28 : decode bc_Pa_parsePart 28 = .ok (.bipush 40, 2) := by decide +kernel
theorem d_Pa_parsePart_30 : decode bc_Pa_parsePart 30 = .ok (.if_icmp .ne 24, 3) := by decide +kernel
theorem d_Pa_parsePart_33 : decode bc_Pa_parsePart 33 = .ok (.iload_n 1, 1) := by decide +kernel
theorem d_Pa_parsePart_34 : decode bc_Pa_parsePart 34 = .ok (.bipush 8, 2) := by decide +kernel
theorem d_Pa_parsePart_36 : decode bc_Pa_parsePart 36 = .ok (.if_icmp .lt 10, 3) := by decide +kernel
theorem d_Pa_parsePart_39 : decode bc_Pa_parsePart 39 = .ok (.aload_n 0, 1) := by decide +kernel
theorem d_Pa_parsePart_40 : decode bc_Pa_parsePart 40 = .ok (.invokevirtual 97, 3) := by decide +kernel
theorem d_Pa_parsePart_43 : decode bc_Pa_parsePart 43 = .ok (.ifCond .eq 7, 3) := by decide +kernel
theorem d_Pa_parsePart_46 : decode bc_Pa_parsePart 46 = .ok (.iconst 1, 1) := by decide +kernel
theorem d_Pa_parsePart_47 : decode bc_Pa_parsePart 47 = .ok (.goto 11, 3) := by decide +kernel
theorem d_Pa_parsePart_50 : decode bc_Pa_parsePart 50 = .ok (.iconst 0, 1) := by decide +kernel
theorem d_Pa_parsePart_51 : decode bc_Pa_parsePart 51 = .ok (.goto 7, 3) := by decide +kernel
theorem d_Pa_parsePart_54 : decode bc_Pa_parsePart 54 = .ok (.aload_n 0, 1) := by decide +kernel
theorem d_Pa_parsePart_55 : decode bc_Pa_parsePart 55 = .ok (.invokevirtual 79, 3) := by decide +kernel
theorem d_Pa_parsePart_58 : decode bc_Pa_parsePart 58 = .ok (.istore_n 2, 1) := by decide +kernel
theorem d_Pa_parsePart_59 : decode bc_Pa_parsePart 59 = .ok (.iload_n 2, 1) := by decide +kernel
theorem d_Pa_parsePart_60 : decode bc_Pa_parsePart 60 = .ok (.ifCond .ne 5, 3) := by decide +kernel
theorem d_Pa_parsePart_63 : decode bc_Pa_parsePart 63 = .ok (.iconst (-1), 1) := by decide +kernel
theorem d_Pa_parsePart_64 : decode bc_Pa_parsePart 64 = .ok (.ireturn, 1) := by decide +kernel
theorem d_Pa_parsePart_65 : decode bc_Pa_parsePart 65 = .ok (.aload_n 0, 1) := by decide +kernel
theorem d_Pa_parsePart_66 : decode bc_Pa_parsePart 66 = .ok (.getfield 9, 3) := by decide +kernel
theorem d_Pa_parsePart_69 : decode bc_Pa_parsePart 69 = .ok (.invokevirtual 91, 3) := by decide +kernel
theorem d_Pa_parsePart_72 : decode bc_Pa_parsePart 72 = .ok (.aload_n 0, 1) := by decide +kernel
theorem d_Pa_parsePart_73 : decode bc_Pa_parsePart 73 = .ok (.iload_n 1, 1) := by decide +kernel
theorem d_Pa_parsePart_74 : decode bc_Pa_parsePart 74 = .ok (.iconst 1, 1) := by decide +kernel
theorem d_Pa_parsePart_75 : decode bc_Pa_parsePart 75 = .ok (.iadd, 1) := by decide +kernel
theorem d_Pa_parsePart_76 : decode bc_Pa_parsePart 76 = .ok (.invokevirtual 132, 3) := by decide +kernel
theorem d_Pa_parsePart_79 : decode bc_Pa_parsePart 79 = .ok (.istore_n 3, 1) := by decide +kernel
theorem d_Pa_parsePart_80 : decode bc_Pa_parsePart 80 = .ok (.iload_n 3, 1) := by decide +kernel
theorem d_Pa_parsePart_81 : decode bc_Pa_parsePart 81 = .ok (.ifCond .lt 16, 3) := by decide +kernel
theorem d_Pa_parsePart_84 : decode bc_Pa_parsePart 84 = .ok (.aload_n 0, 1) := by decide +kernel
theorem d_Pa_parsePart_85 : decode bc_Pa_parsePart 85 = .ok (.bipush 41, 2) := by decide +kernel
theorem d_Pa_parsePart_87 : decode bc_Pa_parsePart 87 = .ok (.invokevirtual 52, 3) := by decide +kernel
theorem d_Pa_parsePart_90 : decode bc_Pa_parsePart 90 = .ok (.ifCond .eq 7, 3) := by decide +kernel
theorem d_Pa_parsePart_93 : decode bc_Pa_parsePart 93 = .ok (.iload_n 3, 1) := by decide +kernel
theorem d_Pa_parsePart_94 : decode bc_Pa_parsePart 94 = .ok (.goto 4, 3) := by decide +kernel
theorem d_Pa_parsePart_97 : decode bc_Pa_parsePart 97 = .ok (.iconst (-1), 1) := by decide +kernel
theorem d_Pa_parsePart_98 : decode bc_Pa_parsePart 98 = .ok (.ireturn, 1) := by decide +kernel
abbrev bc_Pa_parseType : ByteArray := prog_7_method_15_code
abbrev y_Pa_parseType : MethodName := ⟨"KindRounds$Parser", "parseType", "(I)Z"⟩
theorem d_Pa_parseType_0 : decode bc_Pa_parseType 0 = .ok (.iconst 0, 1) := by decide +kernel
theorem d_Pa_parseType_1 : decode bc_Pa_parseType 1 = .ok (.istore_n 2, 1) := by decide +kernel
theorem d_Pa_parseType_2 : decode bc_Pa_parseType 2 = .ok (.iload_n 2, 1) := by decide +kernel
theorem d_Pa_parseType_3 : decode bc_Pa_parseType 3 = .ok (.sipush 200, 3) := by decide +kernel
theorem d_Pa_parseType_6 : decode bc_Pa_parseType 6 = .ok (.if_icmp .gt 71, 3) := by decide +kernel
theorem d_Pa_parseType_9 : decode bc_Pa_parseType 9 = .ok (.aload_n 0, 1) := by decide +kernel
theorem d_Pa_parseType_10 : decode bc_Pa_parseType 10 = .ok (.getfield 37, 3) := by decide +kernel
theorem d_Pa_parseType_13 : decode bc_Pa_parseType 13 = .ok (.getfield 151, 3) := by decide +kernel
theorem d_Pa_parseType_16 : decode bc_Pa_parseType 16 = .ok (.istore_n 3, 1) := by decide +kernel
theorem d_Pa_parseType_17 : decode bc_Pa_parseType 17 = .ok (.aload_n 0, 1) := by decide +kernel
theorem d_Pa_parseType_18 : decode bc_Pa_parseType 18 = .ok (.iload_n 1, 1) := by decide +kernel
theorem d_Pa_parseType_19 : decode bc_Pa_parseType 19 = .ok (.invokevirtual 152, 3) := by decide +kernel
theorem d_Pa_parseType_22 : decode bc_Pa_parseType 22 = .ok (.ifCond .ne 5, 3) := by decide +kernel
theorem d_Pa_parseType_25 : decode bc_Pa_parseType 25 = .ok (.iconst 0, 1) := by decide +kernel
theorem d_Pa_parseType_26 : decode bc_Pa_parseType 26 = .ok (.ireturn, 1) := by decide +kernel
theorem d_Pa_parseType_27 : decode bc_Pa_parseType 27 = .ok (.aload_n 0, 1) := by decide +kernel
theorem d_Pa_parseType_28 : decode bc_Pa_parseType 28 = .ok (.getfield 9, 3) := by decide +kernel
theorem d_Pa_parseType_31 : decode bc_Pa_parseType 31 = .ok (.invokevirtual 40, 3) := by decide +kernel
theorem d_Pa_parseType_34 : decode bc_Pa_parseType 34 = .ok (.bipush 45, 2) := by decide +kernel
theorem d_Pa_parseType_36 : decode bc_Pa_parseType 36 = .ok (.if_icmp .eq 5, 3) := by decide +kernel
theorem d_Pa_parseType_39 : decode bc_Pa_parseType 39 = .ok (.iconst 1, 1) := by decide +kernel
theorem d_Pa_parseType_40 : decode bc_Pa_parseType 40 = .ok (.ireturn, 1) := by decide +kernel
theorem d_Pa_parseType_41 : decode bc_Pa_parseType 41 = .ok (.aload_n 0, 1) := by decide +kernel
theorem d_Pa_parseType_42 : decode bc_Pa_parseType 42 = .ok (.getfield 37, 3) := by decide +kernel
theorem d_Pa_parseType_45 : decode bc_Pa_parseType 45 = .ok (.invokevirtual 155, 3) := by decide +kernel
theorem d_Pa_parseType_48 : decode bc_Pa_parseType 48 = .ok (.ifCond .eq 8, 3) := by decide +kernel
theorem d_Pa_parseType_51 : decode bc_Pa_parseType 51 = .ok (.aload_n 0, 1) := by decide +kernel
theorem d_Pa_parseType_52 : decode bc_Pa_parseType 52 = .ok (.invokevirtual 97, 3) := by decide +kernel
theorem d_Pa_parseType_55 : decode bc_Pa_parseType 55 = .ok (.ireturn, 1) := by decide +kernel
theorem d_Pa_parseType_56 : decode bc_Pa_parseType 56 = .ok (.aload_n 0, 1) := by decide +kernel
theorem d_Pa_parseType_57 : decode bc_Pa_parseType 57 = .ok (.getfield 37, 3) := by decide +kernel
theorem d_Pa_parseType_60 : decode bc_Pa_parseType 60 = .ok (.iload_n 3, 1) := by decide +kernel
theorem d_Pa_parseType_61 : decode bc_Pa_parseType 61 = .ok (.invokevirtual 158, 3) := by decide +kernel
theorem d_Pa_parseType_64 : decode bc_Pa_parseType 64 = .ok (.aload_n 0, 1) := by decide +kernel
theorem d_Pa_parseType_65 : decode bc_Pa_parseType 65 = .ok (.getfield 9, 3) := by decide +kernel
theorem d_Pa_parseType_68 : decode bc_Pa_parseType 68 = .ok (.invokevirtual 91, 3) := by decide +kernel
theorem d_Pa_parseType_71 : decode bc_Pa_parseType 71 = .ok (.iinc 2 1, 3) := by decide +kernel
theorem d_Pa_parseType_74 : decode bc_Pa_parseType 74 = .ok (.goto (-72), 3) := by decide +kernel
theorem d_Pa_parseType_77 : decode bc_Pa_parseType 77 = .ok (.iconst 0, 1) := by decide +kernel
theorem d_Pa_parseType_78 : decode bc_Pa_parseType 78 = .ok (.ireturn, 1) := by decide +kernel
abbrev bc_Pa_parseSome : ByteArray := prog_7_method_16_code
abbrev y_Pa_parseSome : MethodName := ⟨"KindRounds$Parser", "parseSome", "(I)Z"⟩
theorem d_Pa_parseSome_0 : decode bc_Pa_parseSome 0 = .ok (.aload_n 0, 1) := by decide +kernel
theorem d_Pa_parseSome_1 : decode bc_Pa_parseSome 1 = .ok (.getfield 37, 3) := by decide +kernel
theorem d_Pa_parseSome_4 : decode bc_Pa_parseSome 4 = .ok (.getfield 151, 3) := by decide +kernel
theorem d_Pa_parseSome_7 : decode bc_Pa_parseSome 7 = .ok (.istore_n 2, 1) := by decide +kernel
theorem d_Pa_parseSome_8 : decode bc_Pa_parseSome 8 = .ok (.aload_n 0, 1) := by decide +kernel
theorem d_Pa_parseSome_9 : decode bc_Pa_parseSome 9 = .ok (.getfield 19, 3) := by decide +kernel
theorem d_Pa_parseSome_12 : decode bc_Pa_parseSome 12 = .ok (.getfield 131, 3) := by decide +kernel
theorem d_Pa_parseSome_15 : decode bc_Pa_parseSome 15 = .ok (.istore_n 3, 1) := by decide +kernel
theorem d_Pa_parseSome_16 : decode bc_Pa_parseSome 16 = .ok (.aload_n 0, 1) := by decide +kernel
theorem d_Pa_parseSome_17 : decode bc_Pa_parseSome 17 = .ok (.getfield 9, 3) := by decide +kernel
theorem d_Pa_parseSome_20 : decode bc_Pa_parseSome 20 = .ok (.invokevirtual 40, 3) := by decide +kernel
theorem d_Pa_parseSome_23 : decode bc_Pa_parseSome 23 = .ok (.iconst 2, 1) := by decide +kernel
theorem d_Pa_parseSome_24 : decode bc_Pa_parseSome 24 = .ok (.if_icmp .ne 7, 3) := by decide +kernel
theorem d_Pa_parseSome_27 : decode bc_Pa_parseSome 27 = .ok (.iconst 1, 1) := by decide +kernel
theorem d_Pa_parseSome_28 : decode bc_Pa_parseSome 28 = .ok (.goto 4, 3) := by decide +kernel
theorem d_Pa_parseSome_31 : decode bc_Pa_parseSome 31 = .ok (.iconst 0, 1) := by decide +kernel
theorem d_Pa_parseSome_32 : decode bc_Pa_parseSome 32 = .ok (.istore 4, 2) := by decide +kernel
theorem d_Pa_parseSome_34 : decode bc_Pa_parseSome 34 = .ok (.aload_n 0, 1) := by decide +kernel
theorem d_Pa_parseSome_35 : decode bc_Pa_parseSome 35 = .ok (.iload_n 1, 1) := by decide +kernel
theorem d_Pa_parseSome_36 : decode bc_Pa_parseSome 36 = .ok (.invokevirtual 128, 3) := by decide +kernel
theorem d_Pa_parseSome_39 : decode bc_Pa_parseSome 39 = .ok (.ifCond .ne 5, 3) := by decide +kernel
theorem d_Pa_parseSome_42 : decode bc_Pa_parseSome 42 = .ok (.iconst 0, 1) := by decide +kernel
theorem d_Pa_parseSome_43 : decode bc_Pa_parseSome 43 = .ok (.ireturn, 1) := by decide +kernel
theorem d_Pa_parseSome_44 : decode bc_Pa_parseSome 44 = .ok (.iconst 0, 1) := by decide +kernel
theorem d_Pa_parseSome_45 : decode bc_Pa_parseSome 45 = .ok (.istore 5, 2) := by decide +kernel
theorem d_Pa_parseSome_47 : decode bc_Pa_parseSome 47 = .ok (.iconst 0, 1) := by decide +kernel
theorem d_Pa_parseSome_48 : decode bc_Pa_parseSome 48 = .ok (.istore 6, 2) := by decide +kernel
theorem d_Pa_parseSome_50 : decode bc_Pa_parseSome 50 = .ok (.iload 6, 2) := by decide +kernel
theorem d_Pa_parseSome_52 : decode bc_Pa_parseSome 52 = .ok (.sipush 200, 3) := by decide +kernel
theorem d_Pa_parseSome_55 : decode bc_Pa_parseSome 55 = .ok (.if_icmp .gt 29, 3) := by decide +kernel
theorem d_Pa_parseSome_58 : decode bc_Pa_parseSome 58 = .ok (.aload_n 0, 1) := by decide +kernel
theorem d_Pa_parseSome_59 : decode bc_Pa_parseSome 59 = .ok (.invokevirtual 125, 3) := by decide +kernel
theorem d_Pa_parseSome_62 : decode bc_Pa_parseSome 62 = .ok (.ifCond .eq 22, 3) := by decide +kernel
theorem d_Pa_parseSome_65 : decode bc_Pa_parseSome 65 = .ok (.aload_n 0, 1) := by decide +kernel
theorem d_Pa_parseSome_66 : decode bc_Pa_parseSome 66 = .ok (.iload_n 1, 1) := by decide +kernel
theorem d_Pa_parseSome_67 : decode bc_Pa_parseSome 67 = .ok (.invokevirtual 128, 3) := by decide +kernel
theorem d_Pa_parseSome_70 : decode bc_Pa_parseSome 70 = .ok (.ifCond .ne 5, 3) := by decide +kernel
theorem d_Pa_parseSome_73 : decode bc_Pa_parseSome 73 = .ok (.iconst 0, 1) := by decide +kernel
theorem d_Pa_parseSome_74 : decode bc_Pa_parseSome 74 = .ok (.ireturn, 1) := by decide +kernel
theorem d_Pa_parseSome_75 : decode bc_Pa_parseSome 75 = .ok (.iinc 5 1, 3) := by decide +kernel
theorem d_Pa_parseSome_78 : decode bc_Pa_parseSome 78 = .ok (.iinc 6 1, 3) := by decide +kernel
theorem d_Pa_parseSome_81 : decode bc_Pa_parseSome 81 = .ok (.goto (-31), 3) := by decide +kernel
theorem d_Pa_parseSome_84 : decode bc_Pa_parseSome 84 = .ok (.aload_n 0, 1) := by decide +kernel
theorem d_Pa_parseSome_85 : decode bc_Pa_parseSome 85 = .ok (.getfield 37, 3) := by decide +kernel
theorem d_Pa_parseSome_88 : decode bc_Pa_parseSome 88 = .ok (.getfield 162, 3) := by decide +kernel
theorem d_Pa_parseSome_91 : decode bc_Pa_parseSome 91 = .ok (.iload_n 2, 1) := by decide +kernel
theorem d_Pa_parseSome_92 : decode bc_Pa_parseSome 92 = .ok (.dup2, 1) := by decide +kernel
theorem d_Pa_parseSome_93 : decode bc_Pa_parseSome 93 = .ok (.iaload, 1) := by decide +kernel
theorem d_Pa_parseSome_94 : decode bc_Pa_parseSome 94 = .ok (.iload 5, 2) := by decide +kernel
theorem d_Pa_parseSome_96 : decode bc_Pa_parseSome 96 = .ok (.iadd, 1) := by decide +kernel
theorem d_Pa_parseSome_97 : decode bc_Pa_parseSome 97 = .ok (.iastore, 1) := by decide +kernel
theorem d_Pa_parseSome_98 : decode bc_Pa_parseSome 98 = .ok (.iload 4, 2) := by decide +kernel
theorem d_Pa_parseSome_100 : decode bc_Pa_parseSome 100 = .ok (.ifCond .eq 13, 3) := by decide +kernel
theorem d_Pa_parseSome_103 : decode bc_Pa_parseSome 103 = .ok (.aload_n 0, 1) := by decide +kernel
theorem d_Pa_parseSome_104 : decode bc_Pa_parseSome 104 = .ok (.getfield 19, 3) := by decide +kernel
theorem d_Pa_parseSome_107 : decode bc_Pa_parseSome 107 = .ok (.iload_n 3, 1) := by decide +kernel
theorem d_Pa_parseSome_108 : decode bc_Pa_parseSome 108 = .ok (.iload 5, 2) := by decide +kernel
theorem d_Pa_parseSome_110 : decode bc_Pa_parseSome 110 = .ok (.invokevirtual 136, 3) := by decide +kernel
theorem d_Pa_parseSome_113 : decode bc_Pa_parseSome 113 = .ok (.iconst 1, 1) := by decide +kernel
theorem d_Pa_parseSome_114 : decode bc_Pa_parseSome 114 = .ok (.ireturn, 1) := by decide +kernel
abbrev bc_Pa_startsOne : ByteArray := prog_7_method_17_code
abbrev y_Pa_startsOne : MethodName := ⟨"KindRounds$Parser", "startsOne", "()Z"⟩
theorem d_Pa_startsOne_0 : decode bc_Pa_startsOne 0 = .ok (.aload_n 0, 1) := by decide +kernel
theorem d_Pa_startsOne_1 : decode bc_Pa_startsOne 1 = .ok (.getfield 9, 3) := by decide +kernel
theorem d_Pa_startsOne_4 : decode bc_Pa_startsOne 4 = .ok (.invokevirtual 40, 3) := by decide +kernel
theorem d_Pa_startsOne_7 : decode bc_Pa_startsOne 7 = .ok (.istore_n 1, 1) := by decide +kernel
theorem d_Pa_startsOne_8 : decode bc_Pa_startsOne 8 = .ok (.iload_n 1, 1) := by decide +kernel
theorem d_Pa_startsOne_9 : decode bc_Pa_startsOne 9 = .ok (.iconst 2, 1) := by decide +kernel
theorem d_Pa_startsOne_10 : decode bc_Pa_startsOne 10 = .ok (.if_icmp .eq 20, 3) := by decide +kernel
theorem d_Pa_startsOne_13 : decode bc_Pa_startsOne 13 = .ok (.iload_n 1, 1) := by decide +kernel
theorem d_Pa_startsOne_14 : decode bc_Pa_startsOne 14 = .ok (.iconst 3, 1) := by decide +kernel
theorem d_Pa_startsOne_15 : decode bc_Pa_startsOne 15 = .ok (.if_icmp .eq 15, 3) := by decide +kernel
theorem d_Pa_startsOne_18 : decode bc_Pa_startsOne 18 = .ok (.iload_n 1, 1) := by decide +kernel
theorem d_Pa_startsOne_19 : decode bc_Pa_startsOne 19 = .ok (.bipush 40, 2) := by decide +kernel
theorem d_Pa_startsOne_21 : decode bc_Pa_startsOne 21 = .ok (.if_icmp .eq 9, 3) := by decide +kernel
theorem d_Pa_startsOne_24 : decode bc_Pa_startsOne 24 = .ok (.iload_n 1, 1) := by decide +kernel
theorem d_Pa_startsOne_25 : decode bc_Pa_startsOne 25 = .ok (.bipush 91, 2) := by decide +kernel
theorem d_Pa_startsOne_27 : decode bc_Pa_startsOne 27 = .ok (.if_icmp .ne 7, 3) := by decide +kernel
theorem d_Pa_startsOne_30 : decode bc_Pa_startsOne 30 = .ok (.iconst 1, 1) := by decide +kernel
theorem d_Pa_startsOne_31 : decode bc_Pa_startsOne 31 = .ok (.goto 4, 3) := by decide +kernel
theorem d_Pa_startsOne_34 : decode bc_Pa_startsOne 34 = .ok (.iconst 0, 1) := by decide +kernel
theorem d_Pa_startsOne_35 : decode bc_Pa_startsOne 35 = .ok (.ireturn, 1) := by decide +kernel
abbrev bc_Pa_parseOne : ByteArray := prog_7_method_18_code
abbrev y_Pa_parseOne : MethodName := ⟨"KindRounds$Parser", "parseOne", "(I)Z"⟩
theorem d_Pa_parseOne_0 : decode bc_Pa_parseOne 0 = .ok (.aload_n 0, 1) := by decide +kernel
theorem d_Pa_parseOne_1 : decode bc_Pa_parseOne 1 = .ok (.getfield 9, 3) := by decide +kernel
theorem d_Pa_parseOne_4 : decode bc_Pa_parseOne 4 = .ok (.invokevirtual 40, 3) := by decide +kernel
theorem d_Pa_parseOne_7 : decode bc_Pa_parseOne 7 = .ok (.istore_n 2, 1) := by decide +kernel
theorem d_Pa_parseOne_8 : decode bc_Pa_parseOne 8 = .ok (.aload_n 0, 1) := by decide +kernel
theorem d_Pa_parseOne_9 : decode bc_Pa_parseOne 9 = .ok (.getfield 9, 3) := by decide +kernel
theorem d_Pa_parseOne_12 : decode bc_Pa_parseOne 12 = .ok (.invokevirtual 82, 3) := by decide +kernel
theorem d_Pa_parseOne_15 : decode bc_Pa_parseOne 15 = .ok (.istore_n 3, 1) := by decide +kernel
theorem d_Pa_parseOne_16 : decode bc_Pa_parseOne 16 = .ok (.iload_n 2, 1) := by decide +kernel
theorem d_Pa_parseOne_17 : decode bc_Pa_parseOne 17 = .ok (.iconst 2, 1) := by decide +kernel
theorem d_Pa_parseOne_18 : decode bc_Pa_parseOne 18 = .ok (.if_icmp .eq 8, 3) := by decide +kernel
theorem d_Pa_parseOne_21 : decode bc_Pa_parseOne 21 = .ok (.iload_n 2, 1) := by decide +kernel
theorem d_Pa_parseOne_22 : decode bc_Pa_parseOne 22 = .ok (.iconst 3, 1) := by decide +kernel
theorem d_Pa_parseOne_23 : decode bc_Pa_parseOne 23 = .ok (.if_icmp .ne 63, 3) := by decide +kernel
theorem d_Pa_parseOne_26 : decode bc_Pa_parseOne 26 = .ok (.aload_n 0, 1) := by decide +kernel
theorem d_Pa_parseOne_27 : decode bc_Pa_parseOne 27 = .ok (.getfield 37, 3) := by decide +kernel
theorem d_Pa_parseOne_30 : decode bc_Pa_parseOne 30 = .ok (.iload_n 2, 1) := by decide +kernel
theorem d_Pa_parseOne_31 : decode bc_Pa_parseOne 31 = .ok (.aload_n 0, 1) := by decide +kernel
theorem d_Pa_parseOne_32 : decode bc_Pa_parseOne 32 = .ok (.getfield 9, 3) := by decide +kernel
theorem d_Pa_parseOne_35 : decode bc_Pa_parseOne 35 = .ok (.invokevirtual 100, 3) := by decide +kernel
theorem d_Pa_parseOne_38 : decode bc_Pa_parseOne 38 = .ok (.iconst 0, 1) := by decide +kernel
theorem d_Pa_parseOne_39 : decode bc_Pa_parseOne 39 = .ok (.iload_n 3, 1) := by decide +kernel
theorem d_Pa_parseOne_40 : decode bc_Pa_parseOne 40 = .ok (.invokevirtual 165, 3) := by decide +kernel
theorem d_Pa_parseOne_43 : decode bc_Pa_parseOne 43 = .ok (.ifCond .ne 8, 3) := by decide +kernel
theorem d_Pa_parseOne_46 : decode bc_Pa_parseOne 46 = .ok (.aload_n 0, 1) := by decide +kernel
theorem d_Pa_parseOne_47 : decode bc_Pa_parseOne 47 = .ok (.invokevirtual 97, 3) := by decide +kernel
theorem d_Pa_parseOne_50 : decode bc_Pa_parseOne 50 = .ok (.ireturn, 1) := by decide +kernel
theorem d_Pa_parseOne_51 : decode bc_Pa_parseOne 51 = .ok (.aload_n 0, 1) := by decide +kernel
theorem d_Pa_parseOne_52 : decode bc_Pa_parseOne 52 = .ok (.getfield 19, 3) := by decide +kernel
theorem d_Pa_parseOne_55 : decode bc_Pa_parseOne 55 = .ok (.iload_n 2, 1) := by decide +kernel
theorem d_Pa_parseOne_56 : decode bc_Pa_parseOne 56 = .ok (.iconst 2, 1) := by decide +kernel
theorem d_Pa_parseOne_57 : decode bc_Pa_parseOne 57 = .ok (.if_icmp .ne 7, 3) := by decide +kernel
theorem d_Pa_parseOne_60 : decode bc_Pa_parseOne 60 = .ok (.iconst 5, 1) := by decide +kernel
theorem d_Pa_parseOne_61 : decode bc_Pa_parseOne 61 = .ok (.goto 5, 3) := by decide +kernel
theorem d_Pa_parseOne_64 : decode bc_Pa_parseOne 64 = .ok (.bipush 6, 2) := by decide +kernel
theorem d_Pa_parseOne_66 : decode bc_Pa_parseOne 66 = .ok (.aload_n 0, 1) := by decide +kernel
theorem d_Pa_parseOne_67 : decode bc_Pa_parseOne 67 = .ok (.getfield 58, 3) := by decide +kernel
theorem d_Pa_parseOne_70 : decode bc_Pa_parseOne 70 = .ok (.aload_n 0, 1) := by decide +kernel
theorem d_Pa_parseOne_71 : decode bc_Pa_parseOne 71 = .ok (.getfield 9, 3) := by decide +kernel
theorem d_Pa_parseOne_74 : decode bc_Pa_parseOne 74 = .ok (.invokevirtual 110, 3) := by decide +kernel
theorem d_Pa_parseOne_77 : decode bc_Pa_parseOne 77 = .ok (.aload_n 0, 1) := by decide +kernel
theorem d_Pa_parseOne_78 : decode bc_Pa_parseOne 78 = .ok (.getfield 9, 3) := by decide +kernel
theorem d_Pa_parseOne_81 : decode bc_Pa_parseOne 81 = .ok (.invokevirtual 91, 3) := by decide +kernel
theorem d_Pa_parseOne_84 : decode bc_Pa_parseOne 84 = .ok (.iconst 1, 1) := by decide +kernel
theorem d_Pa_parseOne_85 : decode bc_Pa_parseOne 85 = .ok (.ireturn, 1) := by decide +kernel
theorem d_Pa_parseOne_86 : decode bc_Pa_parseOne 86 = .ok (.iload_n 2, 1) := by decide +kernel
theorem d_Pa_parseOne_87 : decode bc_Pa_parseOne 87 = .ok (.bipush 40, 2) := by decide +kernel
theorem d_Pa_parseOne_89 : decode bc_Pa_parseOne 89 = .ok (.if_icmp .eq 14, 3) := by decide +kernel
theorem d_Pa_parseOne_92 : decode bc_Pa_parseOne 92 = .ok (.iload_n 2, 1) := by decide +kernel
theorem d_Pa_parseOne_93 : decode bc_Pa_parseOne 93 = .ok (.bipush 91, 2) := by decide +kernel
theorem d_Pa_parseOne_95 : decode bc_Pa_parseOne 95 = .ok (.if_icmp .eq 8, 3) := by decide +kernel
theorem d_Pa_parseOne_98 : decode bc_Pa_parseOne 98 = .ok (.aload_n 0, 1) := by decide +kernel
theorem d_Pa_parseOne_99 : decode bc_Pa_parseOne 99 = .ok (.invokevirtual 79, 3) := by decide +kernel
theorem d_Pa_parseOne_102 : decode bc_Pa_parseOne 102 = .ok (.ireturn, 1) := by decide +kernel
theorem d_Pa_parseOne_103 : decode bc_Pa_parseOne 103 = .ok (.iload_n 1, 1) := by decide +kernel
theorem d_Pa_parseOne_104 : decode bc_Pa_parseOne 104 = .ok (.bipush 8, 2) := by decide +kernel
theorem d_Pa_parseOne_106 : decode bc_Pa_parseOne 106 = .ok (.if_icmp .lt 8, 3) := by decide +kernel
theorem d_Pa_parseOne_109 : decode bc_Pa_parseOne 109 = .ok (.aload_n 0, 1) := by decide +kernel
theorem d_Pa_parseOne_110 : decode bc_Pa_parseOne 110 = .ok (.invokevirtual 97, 3) := by decide +kernel
theorem d_Pa_parseOne_113 : decode bc_Pa_parseOne 113 = .ok (.ireturn, 1) := by decide +kernel
theorem d_Pa_parseOne_114 : decode bc_Pa_parseOne 114 = .ok (.aload_n 0, 1) := by decide +kernel
theorem d_Pa_parseOne_115 : decode bc_Pa_parseOne 115 = .ok (.getfield 37, 3) := by decide +kernel
theorem d_Pa_parseOne_118 : decode bc_Pa_parseOne 118 = .ok (.getfield 151, 3) := by decide +kernel
theorem d_Pa_parseOne_121 : decode bc_Pa_parseOne 121 = .ok (.istore 4, 2) := by decide +kernel
theorem d_Pa_parseOne_123 : decode bc_Pa_parseOne 123 = .ok (.iload_n 2, 1) := by decide +kernel
theorem d_Pa_parseOne_124 : decode bc_Pa_parseOne 124 = .ok (.bipush 91, 2) := by decide +kernel
theorem d_Pa_parseOne_126 : decode bc_Pa_parseOne 126 = .ok (.if_icmp .ne 23, 3) := by decide +kernel
theorem d_Pa_parseOne_129 : decode bc_Pa_parseOne 129 = .ok (.aload_n 0, 1) := by decide +kernel
theorem d_Pa_parseOne_130 : decode bc_Pa_parseOne 130 = .ok (.getfield 37, 3) := by decide +kernel
theorem d_Pa_parseOne_133 : decode bc_Pa_parseOne 133 = .ok (.bipush 91, 2) := by decide +kernel
theorem d_Pa_parseOne_135 : decode bc_Pa_parseOne 135 = .ok (.lconst 0, 1) := by decide +kernel
theorem d_Pa_parseOne_136 : decode bc_Pa_parseOne 136 = .ok (.iconst 1, 1) := by decide +kernel
theorem d_Pa_parseOne_137 : decode bc_Pa_parseOne 137 = .ok (.iload_n 3, 1) := by decide +kernel
theorem d_Pa_parseOne_138 : decode bc_Pa_parseOne 138 = .ok (.invokevirtual 165, 3) := by decide +kernel
theorem d_Pa_parseOne_141 : decode bc_Pa_parseOne 141 = .ok (.ifCond .ne 8, 3) := by decide +kernel
theorem d_Pa_parseOne_144 : decode bc_Pa_parseOne 144 = .ok (.aload_n 0, 1) := by decide +kernel
theorem d_Pa_parseOne_145 : decode bc_Pa_parseOne 145 = .ok (.invokevirtual 97, 3) := by decide +kernel
theorem d_Pa_parseOne_148 : decode bc_Pa_parseOne 148 = .ok (.ireturn, 1) := by decide +kernel
theorem d_Pa_parseOne_149 : decode bc_Pa_parseOne 149 = .ok (.aload_n 0, 1) := by decide +kernel
theorem d_Pa_parseOne_150 : decode bc_Pa_parseOne 150 = .ok (.getfield 9, 3) := by decide +kernel
theorem d_Pa_parseOne_153 : decode bc_Pa_parseOne 153 = .ok (.invokevirtual 91, 3) := by decide +kernel
theorem d_Pa_parseOne_156 : decode bc_Pa_parseOne 156 = .ok (.aload_n 0, 1) := by decide +kernel
theorem d_Pa_parseOne_157 : decode bc_Pa_parseOne 157 = .ok (.iload_n 1, 1) := by decide +kernel
theorem d_Pa_parseOne_158 : decode bc_Pa_parseOne 158 = .ok (.iconst 1, 1) := by decide +kernel
theorem d_Pa_parseOne_159 : decode bc_Pa_parseOne 159 = .ok (.iadd, 1) := by decide +kernel
theorem d_Pa_parseOne_160 : decode bc_Pa_parseOne 160 = .ok (.invokevirtual 67, 3) := by decide +kernel
theorem d_Pa_parseOne_163 : decode bc_Pa_parseOne 163 = .ok (.ifCond .ne 5, 3) := by decide +kernel
theorem d_Pa_parseOne_166 : decode bc_Pa_parseOne 166 = .ok (.iconst 0, 1) := by decide +kernel
theorem d_Pa_parseOne_167 : decode bc_Pa_parseOne 167 = .ok (.ireturn, 1) := by decide +kernel
theorem d_Pa_parseOne_168 : decode bc_Pa_parseOne 168 = .ok (.aload_n 0, 1) := by decide +kernel
theorem d_Pa_parseOne_169 : decode bc_Pa_parseOne 169 = .ok (.getfield 37, 3) := by decide +kernel
theorem d_Pa_parseOne_172 : decode bc_Pa_parseOne 172 = .ok (.getfield 168, 3) := by decide +kernel
theorem d_Pa_parseOne_175 : decode bc_Pa_parseOne 175 = .ok (.iload 4, 2) := by decide +kernel
theorem d_Pa_parseOne_177 : decode bc_Pa_parseOne 177 = .ok (.iload_n 3, 1) := by decide +kernel
theorem d_Pa_parseOne_178 : decode bc_Pa_parseOne 178 = .ok (.iastore, 1) := by decide +kernel
theorem d_Pa_parseOne_179 : decode bc_Pa_parseOne 179 = .ok (.aload_n 0, 1) := by decide +kernel
theorem d_Pa_parseOne_180 : decode bc_Pa_parseOne 180 = .ok (.iload_n 2, 1) := by decide +kernel
theorem d_Pa_parseOne_181 : decode bc_Pa_parseOne 181 = .ok (.bipush 91, 2) := by decide +kernel
theorem d_Pa_parseOne_183 : decode bc_Pa_parseOne 183 = .ok (.if_icmp .ne 8, 3) := by decide +kernel
theorem d_Pa_parseOne_186 : decode bc_Pa_parseOne 186 = .ok (.bipush 93, 2) := by decide +kernel
theorem d_Pa_parseOne_188 : decode bc_Pa_parseOne 188 = .ok (.goto 5, 3) := by decide +kernel
theorem d_Pa_parseOne_191 : decode bc_Pa_parseOne 191 = .ok (.bipush 41, 2) := by decide +kernel
theorem d_Pa_parseOne_193 : decode bc_Pa_parseOne 193 = .ok (.invokevirtual 52, 3) := by decide +kernel
theorem d_Pa_parseOne_196 : decode bc_Pa_parseOne 196 = .ok (.ireturn, 1) := by decide +kernel
abbrev bc_Ch_checkText : ByteArray := prog_2_method_2_code
abbrev y_Ch_checkText : MethodName := ⟨"KindRounds$Checker", "checkText", "()V"⟩
theorem d_Ch_checkText_0 : decode bc_Ch_checkText 0 = .ok (.aload_n 0, 1) := by decide +kernel
theorem d_Ch_checkText_1 : decode bc_Ch_checkText 1 = .ok (.invokevirtual 27, 3) := by decide +kernel
theorem d_Ch_checkText_4 : decode bc_Ch_checkText 4 = .ok (.aload_n 0, 1) := by decide +kernel
theorem d_Ch_checkText_5 : decode bc_Ch_checkText 5 = .ok (.getfield 19, 3) := by decide +kernel
theorem d_Ch_checkText_8 : decode bc_Ch_checkText 8 = .ok (.invokevirtual 30, 3) := by decide +kernel
theorem d_Ch_checkText_11 : decode bc_Ch_checkText 11 = .ok (.ifCond .ne 11, 3) := by decide +kernel
theorem d_Ch_checkText_14 : decode bc_Ch_checkText 14 = .ok (.aload_n 0, 1) := by decide +kernel
theorem d_Ch_checkText_15 : decode bc_Ch_checkText 15 = .ok (.invokevirtual 36, 3) := by decide +kernel
theorem d_Ch_checkText_18 : decode bc_Ch_checkText 18 = .ok (.aload_n 0, 1) := by decide +kernel
theorem d_Ch_checkText_19 : decode bc_Ch_checkText 19 = .ok (.invokevirtual 39, 3) := by decide +kernel
theorem d_Ch_checkText_22 : decode bc_Ch_checkText 22 = .ok (.aload_n 0, 1) := by decide +kernel
theorem d_Ch_checkText_23 : decode bc_Ch_checkText 23 = .ok (.invokevirtual 42, 3) := by decide +kernel
theorem d_Ch_checkText_26 : decode bc_Ch_checkText 26 = .ok (.return_, 1) := by decide +kernel
abbrev bc_Ch_checkTypes : ByteArray := prog_2_method_3_code
abbrev y_Ch_checkTypes : MethodName := ⟨"KindRounds$Checker", "checkTypes", "()V"⟩
theorem d_Ch_checkTypes_0 : decode bc_Ch_checkTypes 0 = .ok (.aload_n 0, 1) := by decide +kernel
theorem d_Ch_checkTypes_1 : decode bc_Ch_checkTypes 1 = .ok (.invokevirtual 27, 3) := by decide +kernel
theorem d_Ch_checkTypes_4 : decode bc_Ch_checkTypes 4 = .ok (.aload_n 0, 1) := by decide +kernel
theorem d_Ch_checkTypes_5 : decode bc_Ch_checkTypes 5 = .ok (.invokevirtual 42, 3) := by decide +kernel
theorem d_Ch_checkTypes_8 : decode bc_Ch_checkTypes 8 = .ok (.return_, 1) := by decide +kernel
abbrev bc_Ch_checkNames : ByteArray := prog_2_method_4_code
abbrev y_Ch_checkNames : MethodName := ⟨"KindRounds$Checker", "checkNames", "()V"⟩
theorem d_Ch_checkNames_0 : decode bc_Ch_checkNames 0 = .ok (.iconst 0, 1) := by decide +kernel
theorem d_Ch_checkNames_1 : decode bc_Ch_checkNames 1 = .ok (.istore_n 1, 1) := by decide +kernel
theorem d_Ch_checkNames_2 : decode bc_Ch_checkNames 2 = .ok (.iload_n 1, 1) := by decide +kernel
theorem d_Ch_checkNames_3 : decode bc_Ch_checkNames 3 = .ok (.aload_n 0, 1) := by decide +kernel
theorem d_Ch_checkNames_4 : decode bc_Ch_checkNames 4 = .ok (.getfield 15, 3) := by decide +kernel
theorem d_Ch_checkNames_7 : decode bc_Ch_checkNames 7 = .ok (.getfield 45, 3) := by decide +kernel
theorem d_Ch_checkNames_10 : decode bc_Ch_checkNames 10 = .ok (.if_icmp .ge 44, 3) := by decide +kernel
theorem d_Ch_checkNames_13 : decode bc_Ch_checkNames 13 = .ok (.aload_n 0, 1) := by decide +kernel
theorem d_Ch_checkNames_14 : decode bc_Ch_checkNames 14 = .ok (.getfield 19, 3) := by decide +kernel
theorem d_Ch_checkNames_17 : decode bc_Ch_checkNames 17 = .ok (.invokevirtual 30, 3) := by decide +kernel
theorem d_Ch_checkNames_20 : decode bc_Ch_checkNames 20 = .ok (.ifCond .ne 34, 3) := by decide +kernel
theorem d_Ch_checkNames_23 : decode bc_Ch_checkNames 23 = .ok (.aload_n 0, 1) := by decide +kernel
theorem d_Ch_checkNames_24 : decode bc_Ch_checkNames 24 = .ok (.iload_n 1, 1) := by decide +kernel
theorem d_Ch_checkNames_25 : decode bc_Ch_checkNames 25 = .ok (.invokevirtual 51, 3) := by decide +kernel
theorem d_Ch_checkNames_28 : decode bc_Ch_checkNames 28 = .ok (.ifCond .eq 20, 3) := by decide +kernel
theorem d_Ch_checkNames_31 : decode bc_Ch_checkNames 31 = .ok (.aload_n 0, 1) := by decide +kernel
theorem d_Ch_checkNames_32 : decode bc_Ch_checkNames 32 = .ok (.getfield 19, 3) := by decide +kernel
theorem d_Ch_checkNames_35 : decode bc_Ch_checkNames 35 = .ok (.iconst 3, 1) := by decide +kernel
theorem d_Ch_checkNames_36 : decode bc_Ch_checkNames 36 = .ok (.aload_n 0, 1) := by decide +kernel
theorem d_Ch_checkNames_37 : decode bc_Ch_checkNames 37 = .ok (.getfield 15, 3) := by decide +kernel
theorem d_Ch_checkNames_40 : decode bc_Ch_checkNames 40 = .ok (.getfield 55, 3) := by decide +kernel
theorem d_Ch_checkNames_43 : decode bc_Ch_checkNames 43 = .ok (.iload_n 1, 1) := by decide +kernel
theorem d_Ch_checkNames_44 : decode bc_Ch_checkNames 44 = .ok (.iaload, 1) := by decide +kernel
theorem d_Ch_checkNames_45 : decode bc_Ch_checkNames 45 = .ok (.invokevirtual 58, 3) := by decide +kernel
theorem d_Ch_checkNames_48 : decode bc_Ch_checkNames 48 = .ok (.iinc 1 1, 3) := by decide +kernel
theorem d_Ch_checkNames_51 : decode bc_Ch_checkNames 51 = .ok (.goto (-49), 3) := by decide +kernel
theorem d_Ch_checkNames_54 : decode bc_Ch_checkNames 54 = .ok (.return_, 1) := by decide +kernel
abbrev bc_Ch_isBadName : ByteArray := prog_2_method_5_code
abbrev y_Ch_isBadName : MethodName := ⟨"KindRounds$Checker", "isBadName", "(I)Z"⟩
theorem d_Ch_isBadName_0 : decode bc_Ch_isBadName 0 = .ok (.aload_n 0, 1) := by decide +kernel
theorem d_Ch_isBadName_1 : decode bc_Ch_isBadName 1 = .ok (.getfield 15, 3) := by decide +kernel
theorem d_Ch_isBadName_4 : decode bc_Ch_isBadName 4 = .ok (.getfield 62, 3) := by decide +kernel
theorem d_Ch_isBadName_7 : decode bc_Ch_isBadName 7 = .ok (.iload_n 1, 1) := by decide +kernel
theorem d_Ch_isBadName_8 : decode bc_Ch_isBadName 8 = .ok (.laload, 1) := by decide +kernel
theorem d_Ch_isBadName_9 : decode bc_Ch_isBadName 9 = .ok (.lstore_n 2, 1) := by decide +kernel
theorem d_Ch_isBadName_10 : decode bc_Ch_isBadName 10 = .ok (.aload_n 0, 1) := by decide +kernel
theorem d_Ch_isBadName_11 : decode bc_Ch_isBadName 11 = .ok (.getfield 15, 3) := by decide +kernel
theorem d_Ch_isBadName_14 : decode bc_Ch_isBadName 14 = .ok (.getfield 66, 3) := by decide +kernel
theorem d_Ch_isBadName_17 : decode bc_Ch_isBadName 17 = .ok (.iload_n 1, 1) := by decide +kernel
theorem d_Ch_isBadName_18 : decode bc_Ch_isBadName 18 = .ok (.iaload, 1) := by decide +kernel
theorem d_Ch_isBadName_19 : decode bc_Ch_isBadName 19 = .ok (.tableswitch 134 0 6 #[41, 134, 134, 134, 66, 94, 119], 41) := by decide +kernel
theorem d_Ch_isBadName_60 : decode bc_Ch_isBadName 60 = .ok (.lload_n 2, 1) := by decide +kernel
theorem d_Ch_isBadName_61 : decode bc_Ch_isBadName 61 = .ok (.ldc2_w 69, 3) := by decide +kernel
theorem d_Ch_isBadName_64 : decode bc_Ch_isBadName 64 = .ok (.lcmp, 1) := by decide +kernel
theorem d_Ch_isBadName_65 : decode bc_Ch_isBadName 65 = .ok (.ifCond .eq 14, 3) := by decide +kernel
theorem d_Ch_isBadName_68 : decode bc_Ch_isBadName 68 = .ok (.aload_n 0, 1) := by decide +kernel
theorem d_Ch_isBadName_69 : decode bc_Ch_isBadName 69 = .ok (.getfield 15, 3) := by decide +kernel
theorem d_Ch_isBadName_72 : decode bc_Ch_isBadName 72 = .ok (.iload_n 1, 1) := by decide +kernel
theorem d_Ch_isBadName_73 : decode bc_Ch_isBadName 73 = .ok (.invokevirtual 71, 3) := by decide +kernel
theorem d_Ch_isBadName_76 : decode bc_Ch_isBadName 76 = .ok (.ifCond .eq 7, 3) := by decide +kernel
theorem d_Ch_isBadName_79 : decode bc_Ch_isBadName 79 = .ok (.iconst 1, 1) := by decide +kernel
theorem d_Ch_isBadName_80 : decode bc_Ch_isBadName 80 = .ok (.goto 4, 3) := by decide +kernel
theorem d_Ch_isBadName_83 : decode bc_Ch_isBadName 83 = .ok (.iconst 0, 1) := by decide +kernel
theorem d_Ch_isBadName_84 : decode bc_Ch_isBadName 84 = .ok (.ireturn, 1) := by decide +kernel
theorem d_Ch_isBadName_85 : decode bc_Ch_isBadName 85 = .ok (.aload_n 0, 1) := by decide +kernel
theorem d_Ch_isBadName_86 : decode bc_Ch_isBadName 86 = .ok (.getfield 9, 3) := by decide +kernel
theorem d_Ch_isBadName_89 : decode bc_Ch_isBadName 89 = .ok (.lload_n 2, 1) := by decide +kernel
theorem d_Ch_isBadName_90 : decode bc_Ch_isBadName 90 = .ok (.invokevirtual 74, 3) := by decide +kernel
theorem d_Ch_isBadName_93 : decode bc_Ch_isBadName 93 = .ok (.ifCond .lt 14, 3) := by decide +kernel
theorem d_Ch_isBadName_96 : decode bc_Ch_isBadName 96 = .ok (.aload_n 0, 1) := by decide +kernel
theorem d_Ch_isBadName_97 : decode bc_Ch_isBadName 97 = .ok (.getfield 15, 3) := by decide +kernel
theorem d_Ch_isBadName_100 : decode bc_Ch_isBadName 100 = .ok (.iload_n 1, 1) := by decide +kernel
theorem d_Ch_isBadName_101 : decode bc_Ch_isBadName 101 = .ok (.invokevirtual 71, 3) := by decide +kernel
theorem d_Ch_isBadName_104 : decode bc_Ch_isBadName 104 = .ok (.ifCond .eq 7, 3) := by decide +kernel
theorem d_Ch_isBadName_107 : decode bc_Ch_isBadName 107 = .ok (.iconst 1, 1) := by decide +kernel
theorem d_Ch_isBadName_108 : decode bc_Ch_isBadName 108 = .ok (.goto 4, 3) := by decide +kernel
theorem d_Ch_isBadName_111 : decode bc_Ch_isBadName 111 = .ok (.iconst 0, 1) := by decide +kernel
theorem d_Ch_isBadName_112 : decode bc_Ch_isBadName 112 = .ok (.ireturn, 1) := by decide +kernel
theorem d_Ch_isBadName_113 : decode bc_Ch_isBadName 113 = .ok (.lload_n 2, 1) := by decide +kernel
theorem d_Ch_isBadName_114 : decode bc_Ch_isBadName 114 = .ok (.ldc2_w 69, 3) := by decide +kernel
theorem d_Ch_isBadName_117 : decode bc_Ch_isBadName 117 = .ok (.lcmp, 1) := by decide +kernel
theorem d_Ch_isBadName_118 : decode bc_Ch_isBadName 118 = .ok (.ifCond .eq 18, 3) := by decide +kernel
theorem d_Ch_isBadName_121 : decode bc_Ch_isBadName 121 = .ok (.aload_n 0, 1) := by decide +kernel
theorem d_Ch_isBadName_122 : decode bc_Ch_isBadName 122 = .ok (.getfield 9, 3) := by decide +kernel
theorem d_Ch_isBadName_125 : decode bc_Ch_isBadName 125 = .ok (.lload_n 2, 1) := by decide +kernel
theorem d_Ch_isBadName_126 : decode bc_Ch_isBadName 126 = .ok (.invokevirtual 80, 3) := by decide +kernel
theorem d_Ch_isBadName_129 : decode bc_Ch_isBadName 129 = .ok (.ifCond .ge 7, 3) := by decide +kernel
theorem d_Ch_isBadName_132 : decode bc_Ch_isBadName 132 = .ok (.iconst 1, 1) := by decide +kernel
theorem d_Ch_isBadName_133 : decode bc_Ch_isBadName 133 = .ok (.goto 4, 3) := by decide +kernel
theorem d_Ch_isBadName_136 : decode bc_Ch_isBadName 136 = .ok (.iconst 0, 1) := by decide +kernel
theorem d_Ch_isBadName_137 : decode bc_Ch_isBadName 137 = .ok (.ireturn, 1) := by decide +kernel
theorem d_Ch_isBadName_138 : decode bc_Ch_isBadName 138 = .ok (.aload_n 0, 1) := by decide +kernel
theorem d_Ch_isBadName_139 : decode bc_Ch_isBadName 139 = .ok (.aload_n 0, 1) := by decide +kernel
theorem d_Ch_isBadName_140 : decode bc_Ch_isBadName 140 = .ok (.getfield 15, 3) := by decide +kernel
theorem d_Ch_isBadName_143 : decode bc_Ch_isBadName 143 = .ok (.getfield 83, 3) := by decide +kernel
theorem d_Ch_isBadName_146 : decode bc_Ch_isBadName 146 = .ok (.iload_n 1, 1) := by decide +kernel
theorem d_Ch_isBadName_147 : decode bc_Ch_isBadName 147 = .ok (.iaload, 1) := by decide +kernel
theorem d_Ch_isBadName_148 : decode bc_Ch_isBadName 148 = .ok (.lload_n 2, 1) := by decide +kernel
theorem d_Ch_isBadName_149 : decode bc_Ch_isBadName 149 = .ok (.invokevirtual 86, 3) := by decide +kernel
theorem d_Ch_isBadName_152 : decode bc_Ch_isBadName 152 = .ok (.ireturn, 1) := by decide +kernel
theorem d_Ch_isBadName_153 : decode bc_Ch_isBadName 153 = .ok (.aload_n 0, 1) := by decide +kernel
theorem d_Ch_isBadName_154 : decode bc_Ch_isBadName 154 = .ok (.getfield 15, 3) := by decide +kernel
theorem d_Ch_isBadName_157 : decode bc_Ch_isBadName 157 = .ok (.iload_n 1, 1) := by decide +kernel
theorem d_Ch_isBadName_158 : decode bc_Ch_isBadName 158 = .ok (.invokevirtual 71, 3) := by decide +kernel
theorem d_Ch_isBadName_161 : decode bc_Ch_isBadName 161 = .ok (.ireturn, 1) := by decide +kernel
abbrev bc_Ch_isStrange : ByteArray := prog_2_method_6_code
abbrev y_Ch_isStrange : MethodName := ⟨"KindRounds$Checker", "isStrange", "(IJ)Z"⟩
theorem d_Ch_isStrange_0 : decode bc_Ch_isStrange 0 = .ok (.aload_n 0, 1) := by decide +kernel
theorem d_Ch_isStrange_1 : decode bc_Ch_isStrange 1 = .ok (.getfield 9, 3) := by decide +kernel
theorem d_Ch_isStrange_4 : decode bc_Ch_isStrange 4 = .ok (.iload_n 1, 1) := by decide +kernel
theorem d_Ch_isStrange_5 : decode bc_Ch_isStrange 5 = .ok (.invokevirtual 90, 3) := by decide +kernel
theorem d_Ch_isStrange_8 : decode bc_Ch_isStrange 8 = .ok (.ifCond .eq 32, 3) := by decide +kernel
theorem d_Ch_isStrange_11 : decode bc_Ch_isStrange 11 = .ok (.aload_n 0, 1) := by decide +kernel
theorem d_Ch_isStrange_12 : decode bc_Ch_isStrange 12 = .ok (.getfield 9, 3) := by decide +kernel
theorem d_Ch_isStrange_15 : decode bc_Ch_isStrange 15 = .ok (.getfield 93, 3) := by decide +kernel
theorem d_Ch_isStrange_18 : decode bc_Ch_isStrange 18 = .ok (.iload_n 1, 1) := by decide +kernel
theorem d_Ch_isStrange_19 : decode bc_Ch_isStrange 19 = .ok (.iaload, 1) := by decide +kernel
theorem d_Ch_isStrange_20 : decode bc_Ch_isStrange 20 = .ok (.iconst 2, 1) := by decide +kernel
theorem d_Ch_isStrange_21 : decode bc_Ch_isStrange 21 = .ok (.if_icmp .eq 19, 3) := by decide +kernel
theorem d_Ch_isStrange_24 : decode bc_Ch_isStrange 24 = .ok (.aload_n 0, 1) := by decide +kernel
theorem d_Ch_isStrange_25 : decode bc_Ch_isStrange 25 = .ok (.getfield 9, 3) := by decide +kernel
theorem d_Ch_isStrange_28 : decode bc_Ch_isStrange 28 = .ok (.iload_n 1, 1) := by decide +kernel
theorem d_Ch_isStrange_29 : decode bc_Ch_isStrange 29 = .ok (.lload_n 2, 1) := by decide +kernel
theorem d_Ch_isStrange_30 : decode bc_Ch_isStrange 30 = .ok (.invokevirtual 96, 3) := by decide +kernel
theorem d_Ch_isStrange_33 : decode bc_Ch_isStrange 33 = .ok (.ifCond .ge 7, 3) := by decide +kernel
theorem d_Ch_isStrange_36 : decode bc_Ch_isStrange 36 = .ok (.iconst 1, 1) := by decide +kernel
theorem d_Ch_isStrange_37 : decode bc_Ch_isStrange 37 = .ok (.goto 4, 3) := by decide +kernel
theorem d_Ch_isStrange_40 : decode bc_Ch_isStrange 40 = .ok (.iconst 0, 1) := by decide +kernel
theorem d_Ch_isStrange_41 : decode bc_Ch_isStrange 41 = .ok (.ireturn, 1) := by decide +kernel
abbrev bc_Ch_noteNames : ByteArray := prog_2_method_7_code
abbrev y_Ch_noteNames : MethodName := ⟨"KindRounds$Checker", "noteNames", "()V"⟩
theorem d_Ch_noteNames_0 : decode bc_Ch_noteNames 0 = .ok (.iconst 0, 1) := by decide +kernel
theorem d_Ch_noteNames_1 : decode bc_Ch_noteNames 1 = .ok (.istore_n 1, 1) := by decide +kernel
theorem d_Ch_noteNames_2 : decode bc_Ch_noteNames 2 = .ok (.iload_n 1, 1) := by decide +kernel
theorem d_Ch_noteNames_3 : decode bc_Ch_noteNames 3 = .ok (.aload_n 0, 1) := by decide +kernel
theorem d_Ch_noteNames_4 : decode bc_Ch_noteNames 4 = .ok (.getfield 15, 3) := by decide +kernel
theorem d_Ch_noteNames_7 : decode bc_Ch_noteNames 7 = .ok (.getfield 45, 3) := by decide +kernel
theorem d_Ch_noteNames_10 : decode bc_Ch_noteNames 10 = .ok (.if_icmp .ge 83, 3) := by decide +kernel
theorem d_Ch_noteNames_13 : decode bc_Ch_noteNames 13 = .ok (.aload_n 0, 1) := by decide +kernel
theorem d_Ch_noteNames_14 : decode bc_Ch_noteNames 14 = .ok (.getfield 15, 3) := by decide +kernel
theorem d_Ch_noteNames_17 : decode bc_Ch_noteNames 17 = .ok (.getfield 83, 3) := by decide +kernel
theorem d_Ch_noteNames_20 : decode bc_Ch_noteNames 20 = .ok (.iload_n 1, 1) := by decide +kernel
theorem d_Ch_noteNames_21 : decode bc_Ch_noteNames 21 = .ok (.iaload, 1) := by decide +kernel
theorem d_Ch_noteNames_22 : decode bc_Ch_noteNames 22 = .ok (.istore_n 2, 1) := by decide +kernel
theorem d_Ch_noteNames_23 : decode bc_Ch_noteNames 23 = .ok (.aload_n 0, 1) := by decide +kernel
theorem d_Ch_noteNames_24 : decode bc_Ch_noteNames 24 = .ok (.getfield 15, 3) := by decide +kernel
theorem d_Ch_noteNames_27 : decode bc_Ch_noteNames 27 = .ok (.getfield 66, 3) := by decide +kernel
theorem d_Ch_noteNames_30 : decode bc_Ch_noteNames 30 = .ok (.iload_n 1, 1) := by decide +kernel
theorem d_Ch_noteNames_31 : decode bc_Ch_noteNames 31 = .ok (.iaload, 1) := by decide +kernel
theorem d_Ch_noteNames_32 : decode bc_Ch_noteNames 32 = .ok (.iconst 5, 1) := by decide +kernel
theorem d_Ch_noteNames_33 : decode bc_Ch_noteNames 33 = .ok (.if_icmp .ne 22, 3) := by decide +kernel
theorem d_Ch_noteNames_36 : decode bc_Ch_noteNames 36 = .ok (.aload_n 0, 1) := by decide +kernel
theorem d_Ch_noteNames_37 : decode bc_Ch_noteNames 37 = .ok (.getfield 9, 3) := by decide +kernel
theorem d_Ch_noteNames_40 : decode bc_Ch_noteNames 40 = .ok (.aload_n 0, 1) := by decide +kernel
theorem d_Ch_noteNames_41 : decode bc_Ch_noteNames 41 = .ok (.getfield 15, 3) := by decide +kernel
theorem d_Ch_noteNames_44 : decode bc_Ch_noteNames 44 = .ok (.getfield 62, 3) := by decide +kernel
theorem d_Ch_noteNames_47 : decode bc_Ch_noteNames 47 = .ok (.iload_n 1, 1) := by decide +kernel
theorem d_Ch_noteNames_48 : decode bc_Ch_noteNames 48 = .ok (.laload, 1) := by decide +kernel
theorem d_Ch_noteNames_49 : decode bc_Ch_noteNames 49 = .ok (.invokevirtual 80, 3) := by decide +kernel
theorem d_Ch_noteNames_52 : decode bc_Ch_noteNames 52 = .ok (.goto 4, 3) := by decide +kernel
theorem d_Ch_noteNames_55 : decode bc_Ch_noteNames 55 = .ok (.iconst (-1), 1) := by decide +kernel
theorem d_Ch_noteNames_56 : decode bc_Ch_noteNames 56 = .ok (.istore_n 3, 1) := by decide +kernel
theorem d_Ch_noteNames_57 : decode bc_Ch_noteNames 57 = .ok (.iload_n 3, 1) := by decide +kernel
theorem d_Ch_noteNames_58 : decode bc_Ch_noteNames 58 = .ok (.ifCond .lt 29, 3) := by decide +kernel
theorem d_Ch_noteNames_61 : decode bc_Ch_noteNames 61 = .ok (.aload_n 0, 1) := by decide +kernel
theorem d_Ch_noteNames_62 : decode bc_Ch_noteNames 62 = .ok (.getfield 9, 3) := by decide +kernel
theorem d_Ch_noteNames_65 : decode bc_Ch_noteNames 65 = .ok (.iload_n 2, 1) := by decide +kernel
theorem d_Ch_noteNames_66 : decode bc_Ch_noteNames 66 = .ok (.invokevirtual 90, 3) := by decide +kernel
theorem d_Ch_noteNames_69 : decode bc_Ch_noteNames 69 = .ok (.ifCond .eq 18, 3) := by decide +kernel
theorem d_Ch_noteNames_72 : decode bc_Ch_noteNames 72 = .ok (.aload_n 0, 1) := by decide +kernel
theorem d_Ch_noteNames_73 : decode bc_Ch_noteNames 73 = .ok (.getfield 9, 3) := by decide +kernel
theorem d_Ch_noteNames_76 : decode bc_Ch_noteNames 76 = .ok (.getfield 100, 3) := by decide +kernel
theorem d_Ch_noteNames_79 : decode bc_Ch_noteNames 79 = .ok (.iload_n 2, 1) := by decide +kernel
theorem d_Ch_noteNames_80 : decode bc_Ch_noteNames 80 = .ok (.dup2, 1) := by decide +kernel
theorem d_Ch_noteNames_81 : decode bc_Ch_noteNames 81 = .ok (.iaload, 1) := by decide +kernel
theorem d_Ch_noteNames_82 : decode bc_Ch_noteNames 82 = .ok (.iconst 1, 1) := by decide +kernel
theorem d_Ch_noteNames_83 : decode bc_Ch_noteNames 83 = .ok (.iload_n 3, 1) := by decide +kernel
theorem d_Ch_noteNames_84 : decode bc_Ch_noteNames 84 = .ok (.ishl, 1) := by decide +kernel
theorem d_Ch_noteNames_85 : decode bc_Ch_noteNames 85 = .ok (.ior, 1) := by decide +kernel
theorem d_Ch_noteNames_86 : decode bc_Ch_noteNames 86 = .ok (.iastore, 1) := by decide +kernel
theorem d_Ch_noteNames_87 : decode bc_Ch_noteNames 87 = .ok (.iinc 1 1, 3) := by decide +kernel
theorem d_Ch_noteNames_90 : decode bc_Ch_noteNames 90 = .ok (.goto (-88), 3) := by decide +kernel
theorem d_Ch_noteNames_93 : decode bc_Ch_noteNames 93 = .ok (.return_, 1) := by decide +kernel
abbrev bc_Ch_checkRings : ByteArray := prog_2_method_8_code
abbrev y_Ch_checkRings : MethodName := ⟨"KindRounds$Checker", "checkRings", "()V"⟩
theorem d_Ch_checkRings_0 : decode bc_Ch_checkRings 0 = .ok (.iconst 0, 1) := by decide +kernel
theorem d_Ch_checkRings_1 : decode bc_Ch_checkRings 1 = .ok (.istore_n 1, 1) := by decide +kernel
theorem d_Ch_checkRings_2 : decode bc_Ch_checkRings 2 = .ok (.iconst 0, 1) := by decide +kernel
theorem d_Ch_checkRings_3 : decode bc_Ch_checkRings 3 = .ok (.istore_n 2, 1) := by decide +kernel
theorem d_Ch_checkRings_4 : decode bc_Ch_checkRings 4 = .ok (.iload_n 2, 1) := by decide +kernel
theorem d_Ch_checkRings_5 : decode bc_Ch_checkRings 5 = .ok (.aload_n 0, 1) := by decide +kernel
theorem d_Ch_checkRings_6 : decode bc_Ch_checkRings 6 = .ok (.getfield 9, 3) := by decide +kernel
theorem d_Ch_checkRings_9 : decode bc_Ch_checkRings 9 = .ok (.getfield 103, 3) := by decide +kernel
theorem d_Ch_checkRings_12 : decode bc_Ch_checkRings 12 = .ok (.if_icmp .ge 32, 3) := by decide +kernel
theorem d_Ch_checkRings_15 : decode bc_Ch_checkRings 15 = .ok (.iload_n 1, 1) := by decide +kernel
theorem d_Ch_checkRings_16 : decode bc_Ch_checkRings 16 = .ok (.aload_n 0, 1) := by decide +kernel
theorem d_Ch_checkRings_17 : decode bc_Ch_checkRings 17 = .ok (.getfield 9, 3) := by decide +kernel
theorem d_Ch_checkRings_20 : decode bc_Ch_checkRings 20 = .ok (.getfield 93, 3) := by decide +kernel
theorem d_Ch_checkRings_23 : decode bc_Ch_checkRings 23 = .ok (.iload_n 2, 1) := by decide +kernel
theorem d_Ch_checkRings_24 : decode bc_Ch_checkRings 24 = .ok (.iaload, 1) := by decide +kernel
theorem d_Ch_checkRings_25 : decode bc_Ch_checkRings 25 = .ok (.iconst 1, 1) := by decide +kernel
theorem d_Ch_checkRings_26 : decode bc_Ch_checkRings 26 = .ok (.if_icmp .ne 9, 3) := by decide +kernel
theorem d_Ch_checkRings_29 : decode bc_Ch_checkRings 29 = .ok (.iconst 1, 1) := by decide +kernel
theorem d_Ch_checkRings_30 : decode bc_Ch_checkRings 30 = .ok (.iload_n 2, 1) := by decide +kernel
theorem d_Ch_checkRings_31 : decode bc_Ch_checkRings 31 = .ok (.ishl, 1) := by decide +kernel
theorem d_Ch_checkRings_32 : decode bc_Ch_checkRings 32 = .ok (.goto 4, 3) := by decide +kernel
theorem d_Ch_checkRings_35 : decode bc_Ch_checkRings 35 = .ok (.iconst 0, 1) := by decide +kernel
theorem d_Ch_checkRings_36 : decode bc_Ch_checkRings 36 = .ok (.ior, 1) := by decide +kernel
theorem d_Ch_checkRings_37 : decode bc_Ch_checkRings 37 = .ok (.istore_n 1, 1) := by decide +kernel
theorem d_Ch_checkRings_38 : decode bc_Ch_checkRings 38 = .ok (.iinc 2 1, 3) := by decide +kernel
theorem d_Ch_checkRings_41 : decode bc_Ch_checkRings 41 = .ok (.goto (-37), 3) := by decide +kernel
theorem d_Ch_checkRings_44 : decode bc_Ch_checkRings 44 = .ok (.iconst 0, 1) := by decide +kernel
theorem d_Ch_checkRings_45 : decode bc_Ch_checkRings 45 = .ok (.istore_n 2, 1) := by decide +kernel
theorem d_Ch_checkRings_46 : decode bc_Ch_checkRings 46 = .ok (.iload_n 2, 1) := by decide +kernel
theorem d_Ch_checkRings_47 : decode bc_Ch_checkRings 47 = .ok (.aload_n 0, 1) := by decide +kernel
theorem d_Ch_checkRings_48 : decode bc_Ch_checkRings 48 = .ok (.getfield 9, 3) := by decide +kernel
theorem d_Ch_checkRings_51 : decode bc_Ch_checkRings 51 = .ok (.getfield 103, 3) := by decide +kernel
theorem d_Ch_checkRings_54 : decode bc_Ch_checkRings 54 = .ok (.if_icmp .ge 43, 3) := by decide +kernel
theorem d_Ch_checkRings_57 : decode bc_Ch_checkRings 57 = .ok (.aload_n 0, 1) := by decide +kernel
theorem d_Ch_checkRings_58 : decode bc_Ch_checkRings 58 = .ok (.getfield 23, 3) := by decide +kernel
theorem d_Ch_checkRings_61 : decode bc_Ch_checkRings 61 = .ok (.iload_n 2, 1) := by decide +kernel
theorem d_Ch_checkRings_62 : decode bc_Ch_checkRings 62 = .ok (.aload_n 0, 1) := by decide +kernel
theorem d_Ch_checkRings_63 : decode bc_Ch_checkRings 63 = .ok (.getfield 9, 3) := by decide +kernel
theorem d_Ch_checkRings_66 : decode bc_Ch_checkRings 66 = .ok (.getfield 93, 3) := by decide +kernel
theorem d_Ch_checkRings_69 : decode bc_Ch_checkRings 69 = .ok (.iload_n 2, 1) := by decide +kernel
theorem d_Ch_checkRings_70 : decode bc_Ch_checkRings 70 = .ok (.iaload, 1) := by decide +kernel
theorem d_Ch_checkRings_71 : decode bc_Ch_checkRings 71 = .ok (.iconst 1, 1) := by decide +kernel
theorem d_Ch_checkRings_72 : decode bc_Ch_checkRings 72 = .ok (.if_icmp .ne 17, 3) := by decide +kernel
theorem d_Ch_checkRings_75 : decode bc_Ch_checkRings 75 = .ok (.aload_n 0, 1) := by decide +kernel
theorem d_Ch_checkRings_76 : decode bc_Ch_checkRings 76 = .ok (.getfield 9, 3) := by decide +kernel
theorem d_Ch_checkRings_79 : decode bc_Ch_checkRings 79 = .ok (.getfield 100, 3) := by decide +kernel
theorem d_Ch_checkRings_82 : decode bc_Ch_checkRings 82 = .ok (.iload_n 2, 1) := by decide +kernel
theorem d_Ch_checkRings_83 : decode bc_Ch_checkRings 83 = .ok (.iaload, 1) := by decide +kernel
theorem d_Ch_checkRings_84 : decode bc_Ch_checkRings 84 = .ok (.iload_n 1, 1) := by decide +kernel
theorem d_Ch_checkRings_85 : decode bc_Ch_checkRings 85 = .ok (.iand, 1) := by decide +kernel
theorem d_Ch_checkRings_86 : decode bc_Ch_checkRings 86 = .ok (.goto 4, 3) := by decide +kernel
theorem d_Ch_checkRings_89 : decode bc_Ch_checkRings 89 = .ok (.iconst 0, 1) := by decide +kernel
theorem d_Ch_checkRings_90 : decode bc_Ch_checkRings 90 = .ok (.iastore, 1) := by decide +kernel
theorem d_Ch_checkRings_91 : decode bc_Ch_checkRings 91 = .ok (.iinc 2 1, 3) := by decide +kernel
theorem d_Ch_checkRings_94 : decode bc_Ch_checkRings 94 = .ok (.goto (-48), 3) := by decide +kernel
theorem d_Ch_checkRings_97 : decode bc_Ch_checkRings 97 = .ok (.aload_n 0, 1) := by decide +kernel
theorem d_Ch_checkRings_98 : decode bc_Ch_checkRings 98 = .ok (.getfield 9, 3) := by decide +kernel
theorem d_Ch_checkRings_101 : decode bc_Ch_checkRings 101 = .ok (.aload_n 0, 1) := by decide +kernel
theorem d_Ch_checkRings_102 : decode bc_Ch_checkRings 102 = .ok (.getfield 23, 3) := by decide +kernel
theorem d_Ch_checkRings_105 : decode bc_Ch_checkRings 105 = .ok (.invokevirtual 104, 3) := by decide +kernel
theorem d_Ch_checkRings_108 : decode bc_Ch_checkRings 108 = .ok (.iconst 0, 1) := by decide +kernel
theorem d_Ch_checkRings_109 : decode bc_Ch_checkRings 109 = .ok (.istore_n 2, 1) := by decide +kernel
theorem d_Ch_checkRings_110 : decode bc_Ch_checkRings 110 = .ok (.iload_n 2, 1) := by decide +kernel
theorem d_Ch_checkRings_111 : decode bc_Ch_checkRings 111 = .ok (.aload_n 0, 1) := by decide +kernel
theorem d_Ch_checkRings_112 : decode bc_Ch_checkRings 112 = .ok (.getfield 9, 3) := by decide +kernel
theorem d_Ch_checkRings_115 : decode bc_Ch_checkRings 115 = .ok (.getfield 103, 3) := by decide +kernel
theorem d_Ch_checkRings_118 : decode bc_Ch_checkRings 118 = .ok (.if_icmp .ge 49, 3) := by decide +kernel
theorem d_Ch_checkRings_121 : decode bc_Ch_checkRings 121 = .ok (.aload_n 0, 1) := by decide +kernel
theorem d_Ch_checkRings_122 : decode bc_Ch_checkRings 122 = .ok (.getfield 19, 3) := by decide +kernel
theorem d_Ch_checkRings_125 : decode bc_Ch_checkRings 125 = .ok (.invokevirtual 30, 3) := by decide +kernel
theorem d_Ch_checkRings_128 : decode bc_Ch_checkRings 128 = .ok (.ifCond .ne 39, 3) := by decide +kernel
theorem d_Ch_checkRings_131 : decode bc_Ch_checkRings 131 = .ok (.aload_n 0, 1) := by decide +kernel
theorem d_Ch_checkRings_132 : decode bc_Ch_checkRings 132 = .ok (.getfield 23, 3) := by decide +kernel
theorem d_Ch_checkRings_135 : decode bc_Ch_checkRings 135 = .ok (.iload_n 2, 1) := by decide +kernel
theorem d_Ch_checkRings_136 : decode bc_Ch_checkRings 136 = .ok (.iaload, 1) := by decide +kernel
theorem d_Ch_checkRings_137 : decode bc_Ch_checkRings 137 = .ok (.iload_n 2, 1) := by decide +kernel
theorem d_Ch_checkRings_138 : decode bc_Ch_checkRings 138 = .ok (.ishr, 1) := by decide +kernel
theorem d_Ch_checkRings_139 : decode bc_Ch_checkRings 139 = .ok (.iconst 1, 1) := by decide +kernel
theorem d_Ch_checkRings_140 : decode bc_Ch_checkRings 140 = .ok (.iand, 1) := by decide +kernel
theorem d_Ch_checkRings_141 : decode bc_Ch_checkRings 141 = .ok (.ifCond .eq 20, 3) := by decide +kernel
theorem d_Ch_checkRings_144 : decode bc_Ch_checkRings 144 = .ok (.aload_n 0, 1) := by decide +kernel
theorem d_Ch_checkRings_145 : decode bc_Ch_checkRings 145 = .ok (.getfield 19, 3) := by decide +kernel
theorem d_Ch_checkRings_148 : decode bc_Ch_checkRings 148 = .ok (.iconst 4, 1) := by decide +kernel
theorem d_Ch_checkRings_149 : decode bc_Ch_checkRings 149 = .ok (.aload_n 0, 1) := by decide +kernel
theorem d_Ch_checkRings_150 : decode bc_Ch_checkRings 150 = .ok (.getfield 9, 3) := by decide +kernel
theorem d_Ch_checkRings_153 : decode bc_Ch_checkRings 153 = .ok (.getfield 108, 3) := by decide +kernel
theorem d_Ch_checkRings_156 : decode bc_Ch_checkRings 156 = .ok (.iload_n 2, 1) := by decide +kernel
theorem d_Ch_checkRings_157 : decode bc_Ch_checkRings 157 = .ok (.iaload, 1) := by decide +kernel
theorem d_Ch_checkRings_158 : decode bc_Ch_checkRings 158 = .ok (.invokevirtual 58, 3) := by decide +kernel
theorem d_Ch_checkRings_161 : decode bc_Ch_checkRings 161 = .ok (.iinc 2 1, 3) := by decide +kernel
theorem d_Ch_checkRings_164 : decode bc_Ch_checkRings 164 = .ok (.goto (-54), 3) := by decide +kernel
theorem d_Ch_checkRings_167 : decode bc_Ch_checkRings 167 = .ok (.return_, 1) := by decide +kernel
abbrev bc_Ch_checkLacks : ByteArray := prog_2_method_9_code
abbrev y_Ch_checkLacks : MethodName := ⟨"KindRounds$Checker", "checkLacks", "()V"⟩
theorem d_Ch_checkLacks_0 : decode bc_Ch_checkLacks 0 = .ok (.iconst 0, 1) := by decide +kernel
theorem d_Ch_checkLacks_1 : decode bc_Ch_checkLacks 1 = .ok (.istore_n 1, 1) := by decide +kernel
theorem d_Ch_checkLacks_2 : decode bc_Ch_checkLacks 2 = .ok (.iload_n 1, 1) := by decide +kernel
theorem d_Ch_checkLacks_3 : decode bc_Ch_checkLacks 3 = .ok (.aload_n 0, 1) := by decide +kernel
theorem d_Ch_checkLacks_4 : decode bc_Ch_checkLacks 4 = .ok (.getfield 15, 3) := by decide +kernel
theorem d_Ch_checkLacks_7 : decode bc_Ch_checkLacks 7 = .ok (.getfield 45, 3) := by decide +kernel
theorem d_Ch_checkLacks_10 : decode bc_Ch_checkLacks 10 = .ok (.if_icmp .ge 98, 3) := by decide +kernel
theorem d_Ch_checkLacks_13 : decode bc_Ch_checkLacks 13 = .ok (.aload_n 0, 1) := by decide +kernel
theorem d_Ch_checkLacks_14 : decode bc_Ch_checkLacks 14 = .ok (.getfield 19, 3) := by decide +kernel
theorem d_Ch_checkLacks_17 : decode bc_Ch_checkLacks 17 = .ok (.invokevirtual 30, 3) := by decide +kernel
theorem d_Ch_checkLacks_20 : decode bc_Ch_checkLacks 20 = .ok (.ifCond .ne 88, 3) := by decide +kernel
theorem d_Ch_checkLacks_23 : decode bc_Ch_checkLacks 23 = .ok (.aload_n 0, 1) := by decide +kernel
theorem d_Ch_checkLacks_24 : decode bc_Ch_checkLacks 24 = .ok (.getfield 15, 3) := by decide +kernel
theorem d_Ch_checkLacks_27 : decode bc_Ch_checkLacks 27 = .ok (.getfield 66, 3) := by decide +kernel
theorem d_Ch_checkLacks_30 : decode bc_Ch_checkLacks 30 = .ok (.iload_n 1, 1) := by decide +kernel
theorem d_Ch_checkLacks_31 : decode bc_Ch_checkLacks 31 = .ok (.iaload, 1) := by decide +kernel
theorem d_Ch_checkLacks_32 : decode bc_Ch_checkLacks 32 = .ok (.iconst 5, 1) := by decide +kernel
theorem d_Ch_checkLacks_33 : decode bc_Ch_checkLacks 33 = .ok (.if_icmp .ne 7, 3) := by decide +kernel
theorem d_Ch_checkLacks_36 : decode bc_Ch_checkLacks 36 = .ok (.iconst 2, 1) := by decide +kernel
theorem d_Ch_checkLacks_37 : decode bc_Ch_checkLacks 37 = .ok (.goto 4, 3) := by decide +kernel
theorem d_Ch_checkLacks_40 : decode bc_Ch_checkLacks 40 = .ok (.iconst 3, 1) := by decide +kernel
theorem d_Ch_checkLacks_41 : decode bc_Ch_checkLacks 41 = .ok (.istore_n 2, 1) := by decide +kernel
theorem d_Ch_checkLacks_42 : decode bc_Ch_checkLacks 42 = .ok (.aload_n 0, 1) := by decide +kernel
theorem d_Ch_checkLacks_43 : decode bc_Ch_checkLacks 43 = .ok (.getfield 9, 3) := by decide +kernel
theorem d_Ch_checkLacks_46 : decode bc_Ch_checkLacks 46 = .ok (.iload_n 2, 1) := by decide +kernel
theorem d_Ch_checkLacks_47 : decode bc_Ch_checkLacks 47 = .ok (.aload_n 0, 1) := by decide +kernel
theorem d_Ch_checkLacks_48 : decode bc_Ch_checkLacks 48 = .ok (.getfield 15, 3) := by decide +kernel
theorem d_Ch_checkLacks_51 : decode bc_Ch_checkLacks 51 = .ok (.getfield 62, 3) := by decide +kernel
theorem d_Ch_checkLacks_54 : decode bc_Ch_checkLacks 54 = .ok (.iload_n 1, 1) := by decide +kernel
theorem d_Ch_checkLacks_55 : decode bc_Ch_checkLacks 55 = .ok (.laload, 1) := by decide +kernel
theorem d_Ch_checkLacks_56 : decode bc_Ch_checkLacks 56 = .ok (.invokevirtual 109, 3) := by decide +kernel
theorem d_Ch_checkLacks_59 : decode bc_Ch_checkLacks 59 = .ok (.istore_n 3, 1) := by decide +kernel
theorem d_Ch_checkLacks_60 : decode bc_Ch_checkLacks 60 = .ok (.iload_n 3, 1) := by decide +kernel
theorem d_Ch_checkLacks_61 : decode bc_Ch_checkLacks 61 = .ok (.ifCond .lt 41, 3) := by decide +kernel
theorem d_Ch_checkLacks_64 : decode bc_Ch_checkLacks 64 = .ok (.aload_n 0, 1) := by decide +kernel
theorem d_Ch_checkLacks_65 : decode bc_Ch_checkLacks 65 = .ok (.getfield 15, 3) := by decide +kernel
theorem d_Ch_checkLacks_68 : decode bc_Ch_checkLacks 68 = .ok (.getfield 112, 3) := by decide +kernel
theorem d_Ch_checkLacks_71 : decode bc_Ch_checkLacks 71 = .ok (.iload_n 1, 1) := by decide +kernel
theorem d_Ch_checkLacks_72 : decode bc_Ch_checkLacks 72 = .ok (.iaload, 1) := by decide +kernel
theorem d_Ch_checkLacks_73 : decode bc_Ch_checkLacks 73 = .ok (.aload_n 0, 1) := by decide +kernel
theorem d_Ch_checkLacks_74 : decode bc_Ch_checkLacks 74 = .ok (.getfield 9, 3) := by decide +kernel
theorem d_Ch_checkLacks_77 : decode bc_Ch_checkLacks 77 = .ok (.getfield 115, 3) := by decide +kernel
theorem d_Ch_checkLacks_80 : decode bc_Ch_checkLacks 80 = .ok (.iload_n 3, 1) := by decide +kernel
theorem d_Ch_checkLacks_81 : decode bc_Ch_checkLacks 81 = .ok (.iaload, 1) := by decide +kernel
theorem d_Ch_checkLacks_82 : decode bc_Ch_checkLacks 82 = .ok (.if_icmp .ge 20, 3) := by decide +kernel
theorem d_Ch_checkLacks_85 : decode bc_Ch_checkLacks 85 = .ok (.aload_n 0, 1) := by decide +kernel
theorem d_Ch_checkLacks_86 : decode bc_Ch_checkLacks 86 = .ok (.getfield 19, 3) := by decide +kernel
theorem d_Ch_checkLacks_89 : decode bc_Ch_checkLacks 89 = .ok (.iconst 5, 1) := by decide +kernel
theorem d_Ch_checkLacks_90 : decode bc_Ch_checkLacks 90 = .ok (.aload_n 0, 1) := by decide +kernel
theorem d_Ch_checkLacks_91 : decode bc_Ch_checkLacks 91 = .ok (.getfield 15, 3) := by decide +kernel
theorem d_Ch_checkLacks_94 : decode bc_Ch_checkLacks 94 = .ok (.getfield 55, 3) := by decide +kernel
theorem d_Ch_checkLacks_97 : decode bc_Ch_checkLacks 97 = .ok (.iload_n 1, 1) := by decide +kernel
theorem d_Ch_checkLacks_98 : decode bc_Ch_checkLacks 98 = .ok (.iaload, 1) := by decide +kernel
theorem d_Ch_checkLacks_99 : decode bc_Ch_checkLacks 99 = .ok (.invokevirtual 58, 3) := by decide +kernel
theorem d_Ch_checkLacks_102 : decode bc_Ch_checkLacks 102 = .ok (.iinc 1 1, 3) := by decide +kernel
theorem d_Ch_checkLacks_105 : decode bc_Ch_checkLacks 105 = .ok (.goto (-103), 3) := by decide +kernel
theorem d_Ch_checkLacks_108 : decode bc_Ch_checkLacks 108 = .ok (.return_, 1) := by decide +kernel
abbrev bc_So_solveText : ByteArray := prog_10_method_2_code
abbrev y_So_solveText : MethodName := ⟨"KindRounds$Solver", "solveText", "()V"⟩
theorem d_So_solveText_0 : decode bc_So_solveText 0 = .ok (.iconst 0, 1) := by decide +kernel
theorem d_So_solveText_1 : decode bc_So_solveText 1 = .ok (.istore_n 1, 1) := by decide +kernel
theorem d_So_solveText_2 : decode bc_So_solveText 2 = .ok (.iload_n 1, 1) := by decide +kernel
theorem d_So_solveText_3 : decode bc_So_solveText 3 = .ok (.aload_n 0, 1) := by decide +kernel
theorem d_So_solveText_4 : decode bc_So_solveText 4 = .ok (.getfield 9, 3) := by decide +kernel
theorem d_So_solveText_7 : decode bc_So_solveText 7 = .ok (.getfield 53, 3) := by decide +kernel
theorem d_So_solveText_10 : decode bc_So_solveText 10 = .ok (.if_icmp .ge 65, 3) := by decide +kernel
theorem d_So_solveText_13 : decode bc_So_solveText 13 = .ok (.aload_n 0, 1) := by decide +kernel
theorem d_So_solveText_14 : decode bc_So_solveText 14 = .ok (.getfield 23, 3) := by decide +kernel
theorem d_So_solveText_17 : decode bc_So_solveText 17 = .ok (.invokevirtual 59, 3) := by decide +kernel
theorem d_So_solveText_20 : decode bc_So_solveText 20 = .ok (.ifCond .ne 55, 3) := by decide +kernel
theorem d_So_solveText_23 : decode bc_So_solveText 23 = .ok (.aload_n 0, 1) := by decide +kernel
theorem d_So_solveText_24 : decode bc_So_solveText 24 = .ok (.iconst 0, 1) := by decide +kernel
theorem d_So_solveText_25 : decode bc_So_solveText 25 = .ok (.putfield 65, 3) := by decide +kernel
theorem d_So_solveText_28 : decode bc_So_solveText 28 = .ok (.aload_n 0, 1) := by decide +kernel
theorem d_So_solveText_29 : decode bc_So_solveText 29 = .ok (.getfield 9, 3) := by decide +kernel
theorem d_So_solveText_32 : decode bc_So_solveText 32 = .ok (.getfield 68, 3) := by decide +kernel
theorem d_So_solveText_35 : decode bc_So_solveText 35 = .ok (.iload_n 1, 1) := by decide +kernel
theorem d_So_solveText_36 : decode bc_So_solveText 36 = .ok (.iaload, 1) := by decide +kernel
theorem d_So_solveText_37 : decode bc_So_solveText 37 = .ok (.istore_n 2, 1) := by decide +kernel
theorem d_So_solveText_38 : decode bc_So_solveText 38 = .ok (.aload_n 0, 1) := by decide +kernel
theorem d_So_solveText_39 : decode bc_So_solveText 39 = .ok (.iload_n 2, 1) := by decide +kernel
theorem d_So_solveText_40 : decode bc_So_solveText 40 = .ok (.invokevirtual 71, 3) := by decide +kernel
theorem d_So_solveText_43 : decode bc_So_solveText 43 = .ok (.aload_n 0, 1) := by decide +kernel
theorem d_So_solveText_44 : decode bc_So_solveText 44 = .ok (.iload_n 2, 1) := by decide +kernel
theorem d_So_solveText_45 : decode bc_So_solveText 45 = .ok (.invokevirtual 75, 3) := by decide +kernel
theorem d_So_solveText_48 : decode bc_So_solveText 48 = .ok (.aload_n 0, 1) := by decide +kernel
theorem d_So_solveText_49 : decode bc_So_solveText 49 = .ok (.iload_n 2, 1) := by decide +kernel
theorem d_So_solveText_50 : decode bc_So_solveText 50 = .ok (.invokevirtual 78, 3) := by decide +kernel
theorem d_So_solveText_53 : decode bc_So_solveText 53 = .ok (.aload_n 0, 1) := by decide +kernel
theorem d_So_solveText_54 : decode bc_So_solveText 54 = .ok (.invokevirtual 81, 3) := by decide +kernel
theorem d_So_solveText_57 : decode bc_So_solveText 57 = .ok (.aload_n 0, 1) := by decide +kernel
theorem d_So_solveText_58 : decode bc_So_solveText 58 = .ok (.iload_n 2, 1) := by decide +kernel
theorem d_So_solveText_59 : decode bc_So_solveText 59 = .ok (.invokevirtual 84, 3) := by decide +kernel
theorem d_So_solveText_62 : decode bc_So_solveText 62 = .ok (.aload_n 0, 1) := by decide +kernel
theorem d_So_solveText_63 : decode bc_So_solveText 63 = .ok (.getfield 19, 3) := by decide +kernel
theorem d_So_solveText_66 : decode bc_So_solveText 66 = .ok (.invokevirtual 87, 3) := by decide +kernel
theorem d_So_solveText_69 : decode bc_So_solveText 69 = .ok (.iinc 1 1, 3) := by decide +kernel
theorem d_So_solveText_72 : decode bc_So_solveText 72 = .ok (.goto (-70), 3) := by decide +kernel
theorem d_So_solveText_75 : decode bc_So_solveText 75 = .ok (.return_, 1) := by decide +kernel
abbrev bc_So_solveAsked : ByteArray := prog_10_method_3_code
abbrev y_So_solveAsked : MethodName := ⟨"KindRounds$Solver", "solveAsked", "(LKindRounds$Row;I)V"⟩
theorem d_So_solveAsked_0 : decode bc_So_solveAsked 0 = .ok (.aload_n 0, 1) := by decide +kernel
theorem d_So_solveAsked_1 : decode bc_So_solveAsked 1 = .ok (.iconst 0, 1) := by decide +kernel
theorem d_So_solveAsked_2 : decode bc_So_solveAsked 2 = .ok (.putfield 65, 3) := by decide +kernel
theorem d_So_solveAsked_5 : decode bc_So_solveAsked 5 = .ok (.aload_n 0, 1) := by decide +kernel
theorem d_So_solveAsked_6 : decode bc_So_solveAsked 6 = .ok (.aload_n 1, 1) := by decide +kernel
theorem d_So_solveAsked_7 : decode bc_So_solveAsked 7 = .ok (.iload_n 2, 1) := by decide +kernel
theorem d_So_solveAsked_8 : decode bc_So_solveAsked 8 = .ok (.invokevirtual 92, 3) := by decide +kernel
theorem d_So_solveAsked_11 : decode bc_So_solveAsked 11 = .ok (.aload_n 0, 1) := by decide +kernel
theorem d_So_solveAsked_12 : decode bc_So_solveAsked 12 = .ok (.invokevirtual 81, 3) := by decide +kernel
theorem d_So_solveAsked_15 : decode bc_So_solveAsked 15 = .ok (.return_, 1) := by decide +kernel
abbrev bc_So_solveListed : ByteArray := prog_10_method_4_code
abbrev y_So_solveListed : MethodName := ⟨"KindRounds$Solver", "solveListed", "()V"⟩
theorem d_So_solveListed_0 : decode bc_So_solveListed 0 = .ok (.iconst 0, 1) := by decide +kernel
theorem d_So_solveListed_1 : decode bc_So_solveListed 1 = .ok (.istore_n 1, 1) := by decide +kernel
theorem d_So_solveListed_2 : decode bc_So_solveListed 2 = .ok (.iload_n 1, 1) := by decide +kernel
theorem d_So_solveListed_3 : decode bc_So_solveListed 3 = .ok (.aload_n 0, 1) := by decide +kernel
theorem d_So_solveListed_4 : decode bc_So_solveListed 4 = .ok (.getfield 65, 3) := by decide +kernel
theorem d_So_solveListed_7 : decode bc_So_solveListed 7 = .ok (.if_icmp .ge 79, 3) := by decide +kernel
theorem d_So_solveListed_10 : decode bc_So_solveListed 10 = .ok (.aload_n 0, 1) := by decide +kernel
theorem d_So_solveListed_11 : decode bc_So_solveListed 11 = .ok (.getfield 23, 3) := by decide +kernel
theorem d_So_solveListed_14 : decode bc_So_solveListed 14 = .ok (.invokevirtual 59, 3) := by decide +kernel
theorem d_So_solveListed_17 : decode bc_So_solveListed 17 = .ok (.ifCond .ne 69, 3) := by decide +kernel
theorem d_So_solveListed_20 : decode bc_So_solveListed 20 = .ok (.aload_n 0, 1) := by decide +kernel
theorem d_So_solveListed_21 : decode bc_So_solveListed 21 = .ok (.getfield 19, 3) := by decide +kernel
theorem d_So_solveListed_24 : decode bc_So_solveListed 24 = .ok (.aload_n 0, 1) := by decide +kernel
theorem d_So_solveListed_25 : decode bc_So_solveListed 25 = .ok (.getfield 27, 3) := by decide +kernel
theorem d_So_solveListed_28 : decode bc_So_solveListed 28 = .ok (.iload_n 1, 1) := by decide +kernel
theorem d_So_solveListed_29 : decode bc_So_solveListed 29 = .ok (.iaload, 1) := by decide +kernel
theorem d_So_solveListed_30 : decode bc_So_solveListed 30 = .ok (.aload_n 0, 1) := by decide +kernel
theorem d_So_solveListed_31 : decode bc_So_solveListed 31 = .ok (.getfield 31, 3) := by decide +kernel
theorem d_So_solveListed_34 : decode bc_So_solveListed 34 = .ok (.iload_n 1, 1) := by decide +kernel
theorem d_So_solveListed_35 : decode bc_So_solveListed 35 = .ok (.iaload, 1) := by decide +kernel
theorem d_So_solveListed_36 : decode bc_So_solveListed 36 = .ok (.invokevirtual 96, 3) := by decide +kernel
theorem d_So_solveListed_39 : decode bc_So_solveListed 39 = .ok (.ifCond .ne 41, 3) := by decide +kernel
theorem d_So_solveListed_42 : decode bc_So_solveListed 42 = .ok (.aload_n 0, 1) := by decide +kernel
theorem d_So_solveListed_43 : decode bc_So_solveListed 43 = .ok (.getfield 23, 3) := by decide +kernel
theorem d_So_solveListed_46 : decode bc_So_solveListed 46 = .ok (.bipush 6, 2) := by decide +kernel
theorem d_So_solveListed_48 : decode bc_So_solveListed 48 = .ok (.aload_n 0, 1) := by decide +kernel
theorem d_So_solveListed_49 : decode bc_So_solveListed 49 = .ok (.getfield 34, 3) := by decide +kernel
theorem d_So_solveListed_52 : decode bc_So_solveListed 52 = .ok (.iload_n 1, 1) := by decide +kernel
theorem d_So_solveListed_53 : decode bc_So_solveListed 53 = .ok (.iaload, 1) := by decide +kernel
theorem d_So_solveListed_54 : decode bc_So_solveListed 54 = .ok (.invokevirtual 100, 3) := by decide +kernel
theorem d_So_solveListed_57 : decode bc_So_solveListed 57 = .ok (.aload_n 0, 1) := by decide +kernel
theorem d_So_solveListed_58 : decode bc_So_solveListed 58 = .ok (.getfield 19, 3) := by decide +kernel
theorem d_So_solveListed_61 : decode bc_So_solveListed 61 = .ok (.aload_n 0, 1) := by decide +kernel
theorem d_So_solveListed_62 : decode bc_So_solveListed 62 = .ok (.getfield 27, 3) := by decide +kernel
theorem d_So_solveListed_65 : decode bc_So_solveListed 65 = .ok (.iload_n 1, 1) := by decide +kernel
theorem d_So_solveListed_66 : decode bc_So_solveListed 66 = .ok (.iaload, 1) := by decide +kernel
theorem d_So_solveListed_67 : decode bc_So_solveListed 67 = .ok (.aload_n 0, 1) := by decide +kernel
theorem d_So_solveListed_68 : decode bc_So_solveListed 68 = .ok (.getfield 31, 3) := by decide +kernel
theorem d_So_solveListed_71 : decode bc_So_solveListed 71 = .ok (.iload_n 1, 1) := by decide +kernel
theorem d_So_solveListed_72 : decode bc_So_solveListed 72 = .ok (.iaload, 1) := by decide +kernel
theorem d_So_solveListed_73 : decode bc_So_solveListed 73 = .ok (.aload_n 0, 1) := by decide +kernel
theorem d_So_solveListed_74 : decode bc_So_solveListed 74 = .ok (.getfield 23, 3) := by decide +kernel
theorem d_So_solveListed_77 : decode bc_So_solveListed 77 = .ok (.invokevirtual 104, 3) := by decide +kernel
theorem d_So_solveListed_80 : decode bc_So_solveListed 80 = .ok (.iinc 1 1, 3) := by decide +kernel
theorem d_So_solveListed_83 : decode bc_So_solveListed 83 = .ok (.goto (-81), 3) := by decide +kernel
theorem d_So_solveListed_86 : decode bc_So_solveListed 86 = .ok (.return_, 1) := by decide +kernel
abbrev bc_So_makeKinds : ByteArray := prog_10_method_5_code
abbrev y_So_makeKinds : MethodName := ⟨"KindRounds$Solver", "makeKinds", "(I)V"⟩
theorem d_So_makeKinds_0 : decode bc_So_makeKinds 0 = .ok (.iconst 0, 1) := by decide +kernel
theorem d_So_makeKinds_1 : decode bc_So_makeKinds 1 = .ok (.istore_n 2, 1) := by decide +kernel
theorem d_So_makeKinds_2 : decode bc_So_makeKinds 2 = .ok (.iload_n 2, 1) := by decide +kernel
theorem d_So_makeKinds_3 : decode bc_So_makeKinds 3 = .ok (.aload_n 0, 1) := by decide +kernel
theorem d_So_makeKinds_4 : decode bc_So_makeKinds 4 = .ok (.getfield 9, 3) := by decide +kernel
theorem d_So_makeKinds_7 : decode bc_So_makeKinds 7 = .ok (.getfield 108, 3) := by decide +kernel
theorem d_So_makeKinds_10 : decode bc_So_makeKinds 10 = .ok (.if_icmp .ge 108, 3) := by decide +kernel
theorem d_So_makeKinds_13 : decode bc_So_makeKinds 13 = .ok (.iload_n 1, 1) := by decide +kernel
theorem d_So_makeKinds_14 : decode bc_So_makeKinds 14 = .ok (.iload_n 2, 1) := by decide +kernel
theorem d_So_makeKinds_15 : decode bc_So_makeKinds 15 = .ok (.ishr, 1) := by decide +kernel
theorem d_So_makeKinds_16 : decode bc_So_makeKinds 16 = .ok (.iconst 1, 1) := by decide +kernel
theorem d_So_makeKinds_17 : decode bc_So_makeKinds 17 = .ok (.iand, 1) := by decide +kernel
theorem d_So_makeKinds_18 : decode bc_So_makeKinds 18 = .ok (.ifCond .ne 6, 3) := by decide +kernel
theorem d_So_makeKinds_21 : decode bc_So_makeKinds 21 = .ok (.goto 91, 3) := by decide +kernel
theorem d_So_makeKinds_24 : decode bc_So_makeKinds 24 = .ok (.iconst 0, 1) := by decide +kernel
theorem d_So_makeKinds_25 : decode bc_So_makeKinds 25 = .ok (.istore_n 3, 1) := by decide +kernel
theorem d_So_makeKinds_26 : decode bc_So_makeKinds 26 = .ok (.iload_n 3, 1) := by decide +kernel
theorem d_So_makeKinds_27 : decode bc_So_makeKinds 27 = .ok (.aload_n 0, 1) := by decide +kernel
theorem d_So_makeKinds_28 : decode bc_So_makeKinds 28 = .ok (.getfield 9, 3) := by decide +kernel
theorem d_So_makeKinds_31 : decode bc_So_makeKinds 31 = .ok (.getfield 111, 3) := by decide +kernel
theorem d_So_makeKinds_34 : decode bc_So_makeKinds 34 = .ok (.iload_n 2, 1) := by decide +kernel
theorem d_So_makeKinds_35 : decode bc_So_makeKinds 35 = .ok (.iaload, 1) := by decide +kernel
theorem d_So_makeKinds_36 : decode bc_So_makeKinds 36 = .ok (.if_icmp .ge 29, 3) := by decide +kernel
theorem d_So_makeKinds_39 : decode bc_So_makeKinds 39 = .ok (.aload_n 0, 1) := by decide +kernel
theorem d_So_makeKinds_40 : decode bc_So_makeKinds 40 = .ok (.getfield 9, 3) := by decide +kernel
theorem d_So_makeKinds_43 : decode bc_So_makeKinds 43 = .ok (.getfield 114, 3) := by decide +kernel
theorem d_So_makeKinds_46 : decode bc_So_makeKinds 46 = .ok (.iload_n 2, 1) := by decide +kernel
theorem d_So_makeKinds_47 : decode bc_So_makeKinds 47 = .ok (.iconst 3, 1) := by decide +kernel
theorem d_So_makeKinds_48 : decode bc_So_makeKinds 48 = .ok (.imul, 1) := by decide +kernel
theorem d_So_makeKinds_49 : decode bc_So_makeKinds 49 = .ok (.iload_n 3, 1) := by decide +kernel
theorem d_So_makeKinds_50 : decode bc_So_makeKinds 50 = .ok (.iadd, 1) := by decide +kernel
theorem d_So_makeKinds_51 : decode bc_So_makeKinds 51 = .ok (.aload_n 0, 1) := by decide +kernel
theorem d_So_makeKinds_52 : decode bc_So_makeKinds 52 = .ok (.getfield 19, 3) := by decide +kernel
theorem d_So_makeKinds_55 : decode bc_So_makeKinds 55 = .ok (.invokevirtual 117, 3) := by decide +kernel
theorem d_So_makeKinds_58 : decode bc_So_makeKinds 58 = .ok (.iastore, 1) := by decide +kernel
theorem d_So_makeKinds_59 : decode bc_So_makeKinds 59 = .ok (.iinc 3 1, 3) := by decide +kernel
theorem d_So_makeKinds_62 : decode bc_So_makeKinds 62 = .ok (.goto (-36), 3) := by decide +kernel
theorem d_So_makeKinds_65 : decode bc_So_makeKinds 65 = .ok (.aload_n 0, 1) := by decide +kernel
theorem d_So_makeKinds_66 : decode bc_So_makeKinds 66 = .ok (.getfield 9, 3) := by decide +kernel
theorem d_So_makeKinds_69 : decode bc_So_makeKinds 69 = .ok (.getfield 121, 3) := by decide +kernel
theorem d_So_makeKinds_72 : decode bc_So_makeKinds 72 = .ok (.iload_n 2, 1) := by decide +kernel
theorem d_So_makeKinds_73 : decode bc_So_makeKinds 73 = .ok (.aload_n 0, 1) := by decide +kernel
theorem d_So_makeKinds_74 : decode bc_So_makeKinds 74 = .ok (.getfield 9, 3) := by decide +kernel
theorem d_So_makeKinds_77 : decode bc_So_makeKinds 77 = .ok (.getfield 124, 3) := by decide +kernel
theorem d_So_makeKinds_80 : decode bc_So_makeKinds 80 = .ok (.iload_n 2, 1) := by decide +kernel
theorem d_So_makeKinds_81 : decode bc_So_makeKinds 81 = .ok (.iaload, 1) := by decide +kernel
theorem d_So_makeKinds_82 : decode bc_So_makeKinds 82 = .ok (.iconst 1, 1) := by decide +kernel
theorem d_So_makeKinds_83 : decode bc_So_makeKinds 83 = .ok (.if_icmp .ne 13, 3) := by decide +kernel
theorem d_So_makeKinds_86 : decode bc_So_makeKinds 86 = .ok (.aload_n 0, 1) := by decide +kernel
theorem d_So_makeKinds_87 : decode bc_So_makeKinds 87 = .ok (.getfield 19, 3) := by decide +kernel
theorem d_So_makeKinds_90 : decode bc_So_makeKinds 90 = .ok (.invokevirtual 117, 3) := by decide +kernel
theorem d_So_makeKinds_93 : decode bc_So_makeKinds 93 = .ok (.goto 4, 3) := by decide +kernel
theorem d_So_makeKinds_96 : decode bc_So_makeKinds 96 = .ok (.iconst 0, 1) := by decide +kernel
theorem d_So_makeKinds_97 : decode bc_So_makeKinds 97 = .ok (.iastore, 1) := by decide +kernel
theorem d_So_makeKinds_98 : decode bc_So_makeKinds 98 = .ok (.aload_n 0, 1) := by decide +kernel
theorem d_So_makeKinds_99 : decode bc_So_makeKinds 99 = .ok (.getfield 9, 3) := by decide +kernel
theorem d_So_makeKinds_102 : decode bc_So_makeKinds 102 = .ok (.getfield 127, 3) := by decide +kernel
theorem d_So_makeKinds_105 : decode bc_So_makeKinds 105 = .ok (.iload_n 2, 1) := by decide +kernel
theorem d_So_makeKinds_106 : decode bc_So_makeKinds 106 = .ok (.aload_n 0, 1) := by decide +kernel
theorem d_So_makeKinds_107 : decode bc_So_makeKinds 107 = .ok (.iload_n 2, 1) := by decide +kernel
theorem d_So_makeKinds_108 : decode bc_So_makeKinds 108 = .ok (.invokevirtual 129, 3) := by decide +kernel
theorem d_So_makeKinds_111 : decode bc_So_makeKinds 111 = .ok (.iastore, 1) := by decide +kernel
theorem d_So_makeKinds_112 : decode bc_So_makeKinds 112 = .ok (.iinc 2 1, 3) := by decide +kernel
theorem d_So_makeKinds_115 : decode bc_So_makeKinds 115 = .ok (.goto (-113), 3) := by decide +kernel
theorem d_So_makeKinds_118 : decode bc_So_makeKinds 118 = .ok (.return_, 1) := by decide +kernel
abbrev bc_So_wholeKind : ByteArray := prog_10_method_6_code
abbrev y_So_wholeKind : MethodName := ⟨"KindRounds$Solver", "wholeKind", "(I)I"⟩
theorem d_So_wholeKind_0 : decode bc_So_wholeKind 0 = .ok (.iload_n 1, 1) := by decide +kernel
theorem d_So_wholeKind_1 : decode bc_So_wholeKind 1 = .ok (.iconst 3, 1) := by decide +kernel
theorem d_So_wholeKind_2 : decode bc_So_wholeKind 2 = .ok (.imul, 1) := by decide +kernel
theorem d_So_wholeKind_3 : decode bc_So_wholeKind 3 = .ok (.istore_n 2, 1) := by decide +kernel
theorem d_So_wholeKind_4 : decode bc_So_wholeKind 4 = .ok (.aload_n 0, 1) := by decide +kernel
theorem d_So_wholeKind_5 : decode bc_So_wholeKind 5 = .ok (.getfield 9, 3) := by decide +kernel
theorem d_So_wholeKind_8 : decode bc_So_wholeKind 8 = .ok (.getfield 124, 3) := by decide +kernel
theorem d_So_wholeKind_11 : decode bc_So_wholeKind 11 = .ok (.iload_n 1, 1) := by decide +kernel
theorem d_So_wholeKind_12 : decode bc_So_wholeKind 12 = .ok (.iaload, 1) := by decide +kernel
theorem d_So_wholeKind_13 : decode bc_So_wholeKind 13 = .ok (.iconst 2, 1) := by decide +kernel
theorem d_So_wholeKind_14 : decode bc_So_wholeKind 14 = .ok (.if_icmp .ne 13, 3) := by decide +kernel
theorem d_So_wholeKind_17 : decode bc_So_wholeKind 17 = .ok (.aload_n 0, 1) := by decide +kernel
theorem d_So_wholeKind_18 : decode bc_So_wholeKind 18 = .ok (.getfield 9, 3) := by decide +kernel
theorem d_So_wholeKind_21 : decode bc_So_wholeKind 21 = .ok (.getfield 114, 3) := by decide +kernel
theorem d_So_wholeKind_24 : decode bc_So_wholeKind 24 = .ok (.iload_n 2, 1) := by decide +kernel
theorem d_So_wholeKind_25 : decode bc_So_wholeKind 25 = .ok (.iaload, 1) := by decide +kernel
theorem d_So_wholeKind_26 : decode bc_So_wholeKind 26 = .ok (.ireturn, 1) := by decide +kernel
theorem d_So_wholeKind_27 : decode bc_So_wholeKind 27 = .ok (.aload_n 0, 1) := by decide +kernel
theorem d_So_wholeKind_28 : decode bc_So_wholeKind 28 = .ok (.getfield 9, 3) := by decide +kernel
theorem d_So_wholeKind_31 : decode bc_So_wholeKind 31 = .ok (.getfield 121, 3) := by decide +kernel
theorem d_So_wholeKind_34 : decode bc_So_wholeKind 34 = .ok (.iload_n 1, 1) := by decide +kernel
theorem d_So_wholeKind_35 : decode bc_So_wholeKind 35 = .ok (.iaload, 1) := by decide +kernel
theorem d_So_wholeKind_36 : decode bc_So_wholeKind 36 = .ok (.istore_n 3, 1) := by decide +kernel
theorem d_So_wholeKind_37 : decode bc_So_wholeKind 37 = .ok (.aload_n 0, 1) := by decide +kernel
theorem d_So_wholeKind_38 : decode bc_So_wholeKind 38 = .ok (.getfield 9, 3) := by decide +kernel
theorem d_So_wholeKind_41 : decode bc_So_wholeKind 41 = .ok (.getfield 111, 3) := by decide +kernel
theorem d_So_wholeKind_44 : decode bc_So_wholeKind 44 = .ok (.iload_n 1, 1) := by decide +kernel
theorem d_So_wholeKind_45 : decode bc_So_wholeKind 45 = .ok (.iaload, 1) := by decide +kernel
theorem d_So_wholeKind_46 : decode bc_So_wholeKind 46 = .ok (.iconst 1, 1) := by decide +kernel
theorem d_So_wholeKind_47 : decode bc_So_wholeKind 47 = .ok (.isub, 1) := by decide +kernel
theorem d_So_wholeKind_48 : decode bc_So_wholeKind 48 = .ok (.istore 4, 2) := by decide +kernel
theorem d_So_wholeKind_50 : decode bc_So_wholeKind 50 = .ok (.iload 4, 2) := by decide +kernel
theorem d_So_wholeKind_52 : decode bc_So_wholeKind 52 = .ok (.ifCond .lt 30, 3) := by decide +kernel
theorem d_So_wholeKind_55 : decode bc_So_wholeKind 55 = .ok (.aload_n 0, 1) := by decide +kernel
theorem d_So_wholeKind_56 : decode bc_So_wholeKind 56 = .ok (.getfield 19, 3) := by decide +kernel
theorem d_So_wholeKind_59 : decode bc_So_wholeKind 59 = .ok (.aload_n 0, 1) := by decide +kernel
theorem d_So_wholeKind_60 : decode bc_So_wholeKind 60 = .ok (.getfield 9, 3) := by decide +kernel
theorem d_So_wholeKind_63 : decode bc_So_wholeKind 63 = .ok (.getfield 114, 3) := by decide +kernel
theorem d_So_wholeKind_66 : decode bc_So_wholeKind 66 = .ok (.iload_n 2, 1) := by decide +kernel
theorem d_So_wholeKind_67 : decode bc_So_wholeKind 67 = .ok (.iload 4, 2) := by decide +kernel
theorem d_So_wholeKind_69 : decode bc_So_wholeKind 69 = .ok (.iadd, 1) := by decide +kernel
theorem d_So_wholeKind_70 : decode bc_So_wholeKind 70 = .ok (.iaload, 1) := by decide +kernel
theorem d_So_wholeKind_71 : decode bc_So_wholeKind 71 = .ok (.iload_n 3, 1) := by decide +kernel
theorem d_So_wholeKind_72 : decode bc_So_wholeKind 72 = .ok (.invokevirtual 133, 3) := by decide +kernel
theorem d_So_wholeKind_75 : decode bc_So_wholeKind 75 = .ok (.istore_n 3, 1) := by decide +kernel
theorem d_So_wholeKind_76 : decode bc_So_wholeKind 76 = .ok (.iinc 4 (-1), 3) := by decide +kernel
theorem d_So_wholeKind_79 : decode bc_So_wholeKind 79 = .ok (.goto (-29), 3) := by decide +kernel
theorem d_So_wholeKind_82 : decode bc_So_wholeKind 82 = .ok (.iload_n 3, 1) := by decide +kernel
theorem d_So_wholeKind_83 : decode bc_So_wholeKind 83 = .ok (.ireturn, 1) := by decide +kernel
abbrev bc_So_countOpens : ByteArray := prog_10_method_7_code
abbrev y_So_countOpens : MethodName := ⟨"KindRounds$Solver", "countOpens", "(I)V"⟩
theorem d_So_countOpens_0 : decode bc_So_countOpens 0 = .ok (.iconst 0, 1) := by decide +kernel
theorem d_So_countOpens_1 : decode bc_So_countOpens 1 = .ok (.istore_n 2, 1) := by decide +kernel
theorem d_So_countOpens_2 : decode bc_So_countOpens 2 = .ok (.iload_n 2, 1) := by decide +kernel
theorem d_So_countOpens_3 : decode bc_So_countOpens 3 = .ok (.aload_n 0, 1) := by decide +kernel
theorem d_So_countOpens_4 : decode bc_So_countOpens 4 = .ok (.getfield 9, 3) := by decide +kernel
theorem d_So_countOpens_7 : decode bc_So_countOpens 7 = .ok (.getfield 108, 3) := by decide +kernel
theorem d_So_countOpens_10 : decode bc_So_countOpens 10 = .ok (.if_icmp .ge 74, 3) := by decide +kernel
theorem d_So_countOpens_13 : decode bc_So_countOpens 13 = .ok (.iconst 0, 1) := by decide +kernel
theorem d_So_countOpens_14 : decode bc_So_countOpens 14 = .ok (.istore_n 3, 1) := by decide +kernel
theorem d_So_countOpens_15 : decode bc_So_countOpens 15 = .ok (.iload_n 3, 1) := by decide +kernel
theorem d_So_countOpens_16 : decode bc_So_countOpens 16 = .ok (.aload_n 0, 1) := by decide +kernel
theorem d_So_countOpens_17 : decode bc_So_countOpens 17 = .ok (.getfield 9, 3) := by decide +kernel
theorem d_So_countOpens_20 : decode bc_So_countOpens 20 = .ok (.getfield 111, 3) := by decide +kernel
theorem d_So_countOpens_23 : decode bc_So_countOpens 23 = .ok (.iload_n 2, 1) := by decide +kernel
theorem d_So_countOpens_24 : decode bc_So_countOpens 24 = .ok (.iaload, 1) := by decide +kernel
theorem d_So_countOpens_25 : decode bc_So_countOpens 25 = .ok (.if_icmp .ge 53, 3) := by decide +kernel
theorem d_So_countOpens_28 : decode bc_So_countOpens 28 = .ok (.iload_n 1, 1) := by decide +kernel
theorem d_So_countOpens_29 : decode bc_So_countOpens 29 = .ok (.iload_n 2, 1) := by decide +kernel
theorem d_So_countOpens_30 : decode bc_So_countOpens 30 = .ok (.ishr, 1) := by decide +kernel
theorem d_So_countOpens_31 : decode bc_So_countOpens 31 = .ok (.iconst 1, 1) := by decide +kernel
theorem d_So_countOpens_32 : decode bc_So_countOpens 32 = .ok (.iand, 1) := by decide +kernel
theorem d_So_countOpens_33 : decode bc_So_countOpens 33 = .ok (.ifCond .eq 45, 3) := by decide +kernel
theorem d_So_countOpens_36 : decode bc_So_countOpens 36 = .ok (.aload_n 0, 1) := by decide +kernel
theorem d_So_countOpens_37 : decode bc_So_countOpens 37 = .ok (.getfield 19, 3) := by decide +kernel
theorem d_So_countOpens_40 : decode bc_So_countOpens 40 = .ok (.aload_n 0, 1) := by decide +kernel
theorem d_So_countOpens_41 : decode bc_So_countOpens 41 = .ok (.getfield 9, 3) := by decide +kernel
theorem d_So_countOpens_44 : decode bc_So_countOpens 44 = .ok (.getfield 114, 3) := by decide +kernel
theorem d_So_countOpens_47 : decode bc_So_countOpens 47 = .ok (.iload_n 2, 1) := by decide +kernel
theorem d_So_countOpens_48 : decode bc_So_countOpens 48 = .ok (.iconst 3, 1) := by decide +kernel
theorem d_So_countOpens_49 : decode bc_So_countOpens 49 = .ok (.imul, 1) := by decide +kernel
theorem d_So_countOpens_50 : decode bc_So_countOpens 50 = .ok (.iload_n 3, 1) := by decide +kernel
theorem d_So_countOpens_51 : decode bc_So_countOpens 51 = .ok (.iadd, 1) := by decide +kernel
theorem d_So_countOpens_52 : decode bc_So_countOpens 52 = .ok (.iaload, 1) := by decide +kernel
theorem d_So_countOpens_53 : decode bc_So_countOpens 53 = .ok (.invokevirtual 137, 3) := by decide +kernel
theorem d_So_countOpens_56 : decode bc_So_countOpens 56 = .ok (.ifCond .eq 16, 3) := by decide +kernel
theorem d_So_countOpens_59 : decode bc_So_countOpens 59 = .ok (.aload_n 0, 1) := by decide +kernel
theorem d_So_countOpens_60 : decode bc_So_countOpens 60 = .ok (.getfield 9, 3) := by decide +kernel
theorem d_So_countOpens_63 : decode bc_So_countOpens 63 = .ok (.getfield 141, 3) := by decide +kernel
theorem d_So_countOpens_66 : decode bc_So_countOpens 66 = .ok (.iload_n 2, 1) := by decide +kernel
theorem d_So_countOpens_67 : decode bc_So_countOpens 67 = .ok (.dup2, 1) := by decide +kernel
theorem d_So_countOpens_68 : decode bc_So_countOpens 68 = .ok (.iaload, 1) := by decide +kernel
theorem d_So_countOpens_69 : decode bc_So_countOpens 69 = .ok (.iconst 1, 1) := by decide +kernel
theorem d_So_countOpens_70 : decode bc_So_countOpens 70 = .ok (.iadd, 1) := by decide +kernel
theorem d_So_countOpens_71 : decode bc_So_countOpens 71 = .ok (.iastore, 1) := by decide +kernel
theorem d_So_countOpens_72 : decode bc_So_countOpens 72 = .ok (.iinc 3 1, 3) := by decide +kernel
theorem d_So_countOpens_75 : decode bc_So_countOpens 75 = .ok (.goto (-60), 3) := by decide +kernel
theorem d_So_countOpens_78 : decode bc_So_countOpens 78 = .ok (.iinc 2 1, 3) := by decide +kernel
theorem d_So_countOpens_81 : decode bc_So_countOpens 81 = .ok (.goto (-79), 3) := by decide +kernel
theorem d_So_countOpens_84 : decode bc_So_countOpens 84 = .ok (.return_, 1) := by decide +kernel
abbrev bc_So_listTold : ByteArray := prog_10_method_8_code
abbrev y_So_listTold : MethodName := ⟨"KindRounds$Solver", "listTold", "(I)V"⟩
theorem d_So_listTold_0 : decode bc_So_listTold 0 = .ok (.iconst 0, 1) := by decide +kernel
theorem d_So_listTold_1 : decode bc_So_listTold 1 = .ok (.istore_n 2, 1) := by decide +kernel
theorem d_So_listTold_2 : decode bc_So_listTold 2 = .ok (.iload_n 2, 1) := by decide +kernel
theorem d_So_listTold_3 : decode bc_So_listTold 3 = .ok (.aload_n 0, 1) := by decide +kernel
theorem d_So_listTold_4 : decode bc_So_listTold 4 = .ok (.getfield 15, 3) := by decide +kernel
theorem d_So_listTold_7 : decode bc_So_listTold 7 = .ok (.getfield 144, 3) := by decide +kernel
theorem d_So_listTold_10 : decode bc_So_listTold 10 = .ok (.if_icmp .ge 86, 3) := by decide +kernel
theorem d_So_listTold_13 : decode bc_So_listTold 13 = .ok (.aload_n 0, 1) := by decide +kernel
theorem d_So_listTold_14 : decode bc_So_listTold 14 = .ok (.getfield 15, 3) := by decide +kernel
theorem d_So_listTold_17 : decode bc_So_listTold 17 = .ok (.getfield 147, 3) := by decide +kernel
theorem d_So_listTold_20 : decode bc_So_listTold 20 = .ok (.iload_n 2, 1) := by decide +kernel
theorem d_So_listTold_21 : decode bc_So_listTold 21 = .ok (.iaload, 1) := by decide +kernel
theorem d_So_listTold_22 : decode bc_So_listTold 22 = .ok (.iconst 4, 1) := by decide +kernel
theorem d_So_listTold_23 : decode bc_So_listTold 23 = .ok (.if_icmp .ne 22, 3) := by decide +kernel
theorem d_So_listTold_26 : decode bc_So_listTold 26 = .ok (.aload_n 0, 1) := by decide +kernel
theorem d_So_listTold_27 : decode bc_So_listTold 27 = .ok (.getfield 9, 3) := by decide +kernel
theorem d_So_listTold_30 : decode bc_So_listTold 30 = .ok (.aload_n 0, 1) := by decide +kernel
theorem d_So_listTold_31 : decode bc_So_listTold 31 = .ok (.getfield 15, 3) := by decide +kernel
theorem d_So_listTold_34 : decode bc_So_listTold 34 = .ok (.getfield 150, 3) := by decide +kernel
theorem d_So_listTold_37 : decode bc_So_listTold 37 = .ok (.iload_n 2, 1) := by decide +kernel
theorem d_So_listTold_38 : decode bc_So_listTold 38 = .ok (.laload, 1) := by decide +kernel
theorem d_So_listTold_39 : decode bc_So_listTold 39 = .ok (.invokevirtual 153, 3) := by decide +kernel
theorem d_So_listTold_42 : decode bc_So_listTold 42 = .ok (.goto 4, 3) := by decide +kernel
theorem d_So_listTold_45 : decode bc_So_listTold 45 = .ok (.iconst (-1), 1) := by decide +kernel
theorem d_So_listTold_46 : decode bc_So_listTold 46 = .ok (.istore_n 3, 1) := by decide +kernel
theorem d_So_listTold_47 : decode bc_So_listTold 47 = .ok (.iload_n 3, 1) := by decide +kernel
theorem d_So_listTold_48 : decode bc_So_listTold 48 = .ok (.ifCond .lt 42, 3) := by decide +kernel
theorem d_So_listTold_51 : decode bc_So_listTold 51 = .ok (.iload_n 1, 1) := by decide +kernel
theorem d_So_listTold_52 : decode bc_So_listTold 52 = .ok (.iload_n 3, 1) := by decide +kernel
theorem d_So_listTold_53 : decode bc_So_listTold 53 = .ok (.ishr, 1) := by decide +kernel
theorem d_So_listTold_54 : decode bc_So_listTold 54 = .ok (.iconst 1, 1) := by decide +kernel
theorem d_So_listTold_55 : decode bc_So_listTold 55 = .ok (.iand, 1) := by decide +kernel
theorem d_So_listTold_56 : decode bc_So_listTold 56 = .ok (.ifCond .eq 34, 3) := by decide +kernel
theorem d_So_listTold_59 : decode bc_So_listTold 59 = .ok (.aload_n 0, 1) := by decide +kernel
theorem d_So_listTold_60 : decode bc_So_listTold 60 = .ok (.aload_n 0, 1) := by decide +kernel
theorem d_So_listTold_61 : decode bc_So_listTold 61 = .ok (.getfield 9, 3) := by decide +kernel
theorem d_So_listTold_64 : decode bc_So_listTold 64 = .ok (.getfield 127, 3) := by decide +kernel
theorem d_So_listTold_67 : decode bc_So_listTold 67 = .ok (.iload_n 3, 1) := by decide +kernel
theorem d_So_listTold_68 : decode bc_So_listTold 68 = .ok (.iaload, 1) := by decide +kernel
theorem d_So_listTold_69 : decode bc_So_listTold 69 = .ok (.aload_n 0, 1) := by decide +kernel
theorem d_So_listTold_70 : decode bc_So_listTold 70 = .ok (.getfield 15, 3) := by decide +kernel
theorem d_So_listTold_73 : decode bc_So_listTold 73 = .ok (.getfield 157, 3) := by decide +kernel
theorem d_So_listTold_76 : decode bc_So_listTold 76 = .ok (.iload_n 2, 1) := by decide +kernel
theorem d_So_listTold_77 : decode bc_So_listTold 77 = .ok (.iaload, 1) := by decide +kernel
theorem d_So_listTold_78 : decode bc_So_listTold 78 = .ok (.aload_n 0, 1) := by decide +kernel
theorem d_So_listTold_79 : decode bc_So_listTold 79 = .ok (.getfield 15, 3) := by decide +kernel
theorem d_So_listTold_82 : decode bc_So_listTold 82 = .ok (.getfield 160, 3) := by decide +kernel
theorem d_So_listTold_85 : decode bc_So_listTold 85 = .ok (.iload_n 2, 1) := by decide +kernel
theorem d_So_listTold_86 : decode bc_So_listTold 86 = .ok (.iaload, 1) := by decide +kernel
theorem d_So_listTold_87 : decode bc_So_listTold 87 = .ok (.invokevirtual 161, 3) := by decide +kernel
theorem d_So_listTold_90 : decode bc_So_listTold 90 = .ok (.iinc 2 1, 3) := by decide +kernel
theorem d_So_listTold_93 : decode bc_So_listTold 93 = .ok (.goto (-91), 3) := by decide +kernel
theorem d_So_listTold_96 : decode bc_So_listTold 96 = .ok (.return_, 1) := by decide +kernel
abbrev bc_So_listMembers : ByteArray := prog_10_method_9_code
abbrev y_So_listMembers : MethodName := ⟨"KindRounds$Solver", "listMembers", "(I)V"⟩
theorem d_So_listMembers_0 : decode bc_So_listMembers 0 = .ok (.aload_n 0, 1) := by decide +kernel
theorem d_So_listMembers_1 : decode bc_So_listMembers 1 = .ok (.getfield 9, 3) := by decide +kernel
theorem d_So_listMembers_4 : decode bc_So_listMembers 4 = .ok (.getfield 165, 3) := by decide +kernel
theorem d_So_listMembers_7 : decode bc_So_listMembers 7 = .ok (.astore_n 2, 1) := by decide +kernel
theorem d_So_listMembers_8 : decode bc_So_listMembers 8 = .ok (.iconst 0, 1) := by decide +kernel
theorem d_So_listMembers_9 : decode bc_So_listMembers 9 = .ok (.istore_n 3, 1) := by decide +kernel
theorem d_So_listMembers_10 : decode bc_So_listMembers 10 = .ok (.iload_n 3, 1) := by decide +kernel
theorem d_So_listMembers_11 : decode bc_So_listMembers 11 = .ok (.aload_n 2, 1) := by decide +kernel
theorem d_So_listMembers_12 : decode bc_So_listMembers 12 = .ok (.getfield 169, 3) := by decide +kernel
theorem d_So_listMembers_15 : decode bc_So_listMembers 15 = .ok (.if_icmp .ge 73, 3) := by decide +kernel
theorem d_So_listMembers_18 : decode bc_So_listMembers 18 = .ok (.aload_n 2, 1) := by decide +kernel
theorem d_So_listMembers_19 : decode bc_So_listMembers 19 = .ok (.getfield 174, 3) := by decide +kernel
theorem d_So_listMembers_22 : decode bc_So_listMembers 22 = .ok (.iload_n 3, 1) := by decide +kernel
theorem d_So_listMembers_23 : decode bc_So_listMembers 23 = .ok (.iaload, 1) := by decide +kernel
theorem d_So_listMembers_24 : decode bc_So_listMembers 24 = .ok (.istore 4, 2) := by decide +kernel
theorem d_So_listMembers_26 : decode bc_So_listMembers 26 = .ok (.aload_n 0, 1) := by decide +kernel
theorem d_So_listMembers_27 : decode bc_So_listMembers 27 = .ok (.getfield 9, 3) := by decide +kernel
theorem d_So_listMembers_30 : decode bc_So_listMembers 30 = .ok (.iload 4, 2) := by decide +kernel
theorem d_So_listMembers_32 : decode bc_So_listMembers 32 = .ok (.invokevirtual 177, 3) := by decide +kernel
theorem d_So_listMembers_35 : decode bc_So_listMembers 35 = .ok (.ifCond .eq 47, 3) := by decide +kernel
theorem d_So_listMembers_38 : decode bc_So_listMembers 38 = .ok (.iload_n 1, 1) := by decide +kernel
theorem d_So_listMembers_39 : decode bc_So_listMembers 39 = .ok (.iload 4, 2) := by decide +kernel
theorem d_So_listMembers_41 : decode bc_So_listMembers 41 = .ok (.ishr, 1) := by decide +kernel
theorem d_So_listMembers_42 : decode bc_So_listMembers 42 = .ok (.iconst 1, 1) := by decide +kernel
theorem d_So_listMembers_43 : decode bc_So_listMembers 43 = .ok (.iand, 1) := by decide +kernel
theorem d_So_listMembers_44 : decode bc_So_listMembers 44 = .ok (.ifCond .eq 38, 3) := by decide +kernel
theorem d_So_listMembers_47 : decode bc_So_listMembers 47 = .ok (.aload_n 0, 1) := by decide +kernel
theorem d_So_listMembers_48 : decode bc_So_listMembers 48 = .ok (.aload_n 2, 1) := by decide +kernel
theorem d_So_listMembers_49 : decode bc_So_listMembers 49 = .ok (.iload_n 3, 1) := by decide +kernel
theorem d_So_listMembers_50 : decode bc_So_listMembers 50 = .ok (.invokevirtual 92, 3) := by decide +kernel
theorem d_So_listMembers_53 : decode bc_So_listMembers 53 = .ok (.aload_n 0, 1) := by decide +kernel
theorem d_So_listMembers_54 : decode bc_So_listMembers 54 = .ok (.aload_n 0, 1) := by decide +kernel
theorem d_So_listMembers_55 : decode bc_So_listMembers 55 = .ok (.getfield 180, 3) := by decide +kernel
theorem d_So_listMembers_58 : decode bc_So_listMembers 58 = .ok (.aload_n 0, 1) := by decide +kernel
theorem d_So_listMembers_59 : decode bc_So_listMembers 59 = .ok (.getfield 9, 3) := by decide +kernel
theorem d_So_listMembers_62 : decode bc_So_listMembers 62 = .ok (.getfield 121, 3) := by decide +kernel
theorem d_So_listMembers_65 : decode bc_So_listMembers 65 = .ok (.iload 4, 2) := by decide +kernel
theorem d_So_listMembers_67 : decode bc_So_listMembers 67 = .ok (.iaload, 1) := by decide +kernel
theorem d_So_listMembers_68 : decode bc_So_listMembers 68 = .ok (.aload_n 2, 1) := by decide +kernel
theorem d_So_listMembers_69 : decode bc_So_listMembers 69 = .ok (.getfield 183, 3) := by decide +kernel
theorem d_So_listMembers_72 : decode bc_So_listMembers 72 = .ok (.aload_n 2, 1) := by decide +kernel
theorem d_So_listMembers_73 : decode bc_So_listMembers 73 = .ok (.getfield 184, 3) := by decide +kernel
theorem d_So_listMembers_76 : decode bc_So_listMembers 76 = .ok (.iload_n 3, 1) := by decide +kernel
theorem d_So_listMembers_77 : decode bc_So_listMembers 77 = .ok (.iaload, 1) := by decide +kernel
theorem d_So_listMembers_78 : decode bc_So_listMembers 78 = .ok (.iaload, 1) := by decide +kernel
theorem d_So_listMembers_79 : decode bc_So_listMembers 79 = .ok (.invokevirtual 161, 3) := by decide +kernel
theorem d_So_listMembers_82 : decode bc_So_listMembers 82 = .ok (.iinc 3 1, 3) := by decide +kernel
theorem d_So_listMembers_85 : decode bc_So_listMembers 85 = .ok (.goto (-75), 3) := by decide +kernel
theorem d_So_listMembers_88 : decode bc_So_listMembers 88 = .ok (.return_, 1) := by decide +kernel
abbrev bc_So_equate : ByteArray := prog_10_method_10_code
abbrev y_So_equate : MethodName := ⟨"KindRounds$Solver", "equate", "(III)V"⟩
theorem d_So_equate_0 : decode bc_So_equate 0 = .ok (.aload_n 0, 1) := by decide +kernel
theorem d_So_equate_1 : decode bc_So_equate 1 = .ok (.getfield 65, 3) := by decide +kernel
theorem d_So_equate_4 : decode bc_So_equate 4 = .ok (.sipush 216, 3) := by decide +kernel
theorem d_So_equate_7 : decode bc_So_equate 7 = .ok (.if_icmp .ge 43, 3) := by decide +kernel
theorem d_So_equate_10 : decode bc_So_equate 10 = .ok (.aload_n 0, 1) := by decide +kernel
theorem d_So_equate_11 : decode bc_So_equate 11 = .ok (.getfield 27, 3) := by decide +kernel
theorem d_So_equate_14 : decode bc_So_equate 14 = .ok (.aload_n 0, 1) := by decide +kernel
theorem d_So_equate_15 : decode bc_So_equate 15 = .ok (.getfield 65, 3) := by decide +kernel
theorem d_So_equate_18 : decode bc_So_equate 18 = .ok (.iload_n 1, 1) := by decide +kernel
theorem d_So_equate_19 : decode bc_So_equate 19 = .ok (.iastore, 1) := by decide +kernel
theorem d_So_equate_20 : decode bc_So_equate 20 = .ok (.aload_n 0, 1) := by decide +kernel
theorem d_So_equate_21 : decode bc_So_equate 21 = .ok (.getfield 31, 3) := by decide +kernel
theorem d_So_equate_24 : decode bc_So_equate 24 = .ok (.aload_n 0, 1) := by decide +kernel
theorem d_So_equate_25 : decode bc_So_equate 25 = .ok (.getfield 65, 3) := by decide +kernel
theorem d_So_equate_28 : decode bc_So_equate 28 = .ok (.iload_n 2, 1) := by decide +kernel
theorem d_So_equate_29 : decode bc_So_equate 29 = .ok (.iastore, 1) := by decide +kernel
theorem d_So_equate_30 : decode bc_So_equate 30 = .ok (.aload_n 0, 1) := by decide +kernel
theorem d_So_equate_31 : decode bc_So_equate 31 = .ok (.getfield 34, 3) := by decide +kernel
theorem d_So_equate_34 : decode bc_So_equate 34 = .ok (.aload_n 0, 1) := by decide +kernel
theorem d_So_equate_35 : decode bc_So_equate 35 = .ok (.getfield 65, 3) := by decide +kernel
theorem d_So_equate_38 : decode bc_So_equate 38 = .ok (.iload_n 3, 1) := by decide +kernel
theorem d_So_equate_39 : decode bc_So_equate 39 = .ok (.iastore, 1) := by decide +kernel
theorem d_So_equate_40 : decode bc_So_equate 40 = .ok (.aload_n 0, 1) := by decide +kernel
theorem d_So_equate_41 : decode bc_So_equate 41 = .ok (.dup, 1) := by decide +kernel
theorem d_So_equate_42 : decode bc_So_equate 42 = .ok (.getfield 65, 3) := by decide +kernel
theorem d_So_equate_45 : decode bc_So_equate 45 = .ok (.iconst 1, 1) := by decide +kernel
theorem d_So_equate_46 : decode bc_So_equate 46 = .ok (.iadd, 1) := by decide +kernel
theorem d_So_equate_47 : decode bc_So_equate 47 = .ok (.putfield 65, 3) := by decide +kernel
theorem d_So_equate_50 : decode bc_So_equate 50 = .ok (.return_, 1) := by decide +kernel
abbrev bc_So_listTerm : ByteArray := prog_10_method_11_code
abbrev y_So_listTerm : MethodName := ⟨"KindRounds$Solver", "listTerm", "(LKindRounds$Row;I)V"⟩
theorem d_So_listTerm_0 : decode bc_So_listTerm 0 = .ok (.aload_n 0, 1) := by decide +kernel
theorem d_So_listTerm_1 : decode bc_So_listTerm 1 = .ok (.iconst 0, 1) := by decide +kernel
theorem d_So_listTerm_2 : decode bc_So_listTerm 2 = .ok (.putfield 187, 3) := by decide +kernel
theorem d_So_listTerm_5 : decode bc_So_listTerm 5 = .ok (.aload_n 0, 1) := by decide +kernel
theorem d_So_listTerm_6 : decode bc_So_listTerm 6 = .ok (.iconst 0, 1) := by decide +kernel
theorem d_So_listTerm_7 : decode bc_So_listTerm 7 = .ok (.putfield 190, 3) := by decide +kernel
theorem d_So_listTerm_10 : decode bc_So_listTerm 10 = .ok (.aload_n 1, 1) := by decide +kernel
theorem d_So_listTerm_11 : decode bc_So_listTerm 11 = .ok (.getfield 174, 3) := by decide +kernel
theorem d_So_listTerm_14 : decode bc_So_listTerm 14 = .ok (.iload_n 2, 1) := by decide +kernel
theorem d_So_listTerm_15 : decode bc_So_listTerm 15 = .ok (.iaload, 1) := by decide +kernel
theorem d_So_listTerm_16 : decode bc_So_listTerm 16 = .ok (.istore_n 3, 1) := by decide +kernel
theorem d_So_listTerm_17 : decode bc_So_listTerm 17 = .ok (.aload_n 1, 1) := by decide +kernel
theorem d_So_listTerm_18 : decode bc_So_listTerm 18 = .ok (.iload_n 2, 1) := by decide +kernel
theorem d_So_listTerm_19 : decode bc_So_listTerm 19 = .ok (.invokevirtual 193, 3) := by decide +kernel
theorem d_So_listTerm_22 : decode bc_So_listTerm 22 = .ok (.istore 4, 2) := by decide +kernel
theorem d_So_listTerm_24 : decode bc_So_listTerm 24 = .ok (.aload_n 1, 1) := by decide +kernel
theorem d_So_listTerm_25 : decode bc_So_listTerm 25 = .ok (.getfield 184, 3) := by decide +kernel
theorem d_So_listTerm_28 : decode bc_So_listTerm 28 = .ok (.iload_n 2, 1) := by decide +kernel
theorem d_So_listTerm_29 : decode bc_So_listTerm 29 = .ok (.iaload, 1) := by decide +kernel
theorem d_So_listTerm_30 : decode bc_So_listTerm 30 = .ok (.istore 5, 2) := by decide +kernel
theorem d_So_listTerm_32 : decode bc_So_listTerm 32 = .ok (.iload 5, 2) := by decide +kernel
theorem d_So_listTerm_34 : decode bc_So_listTerm 34 = .ok (.iload 4, 2) := by decide +kernel
theorem d_So_listTerm_36 : decode bc_So_listTerm 36 = .ok (.if_icmp .ge 72, 3) := by decide +kernel
theorem d_So_listTerm_39 : decode bc_So_listTerm 39 = .ok (.aload_n 0, 1) := by decide +kernel
theorem d_So_listTerm_40 : decode bc_So_listTerm 40 = .ok (.getfield 190, 3) := by decide +kernel
theorem d_So_listTerm_43 : decode bc_So_listTerm 43 = .ok (.sipush 200, 3) := by decide +kernel
theorem d_So_listTerm_46 : decode bc_So_listTerm 46 = .ok (.if_icmp .ge 62, 3) := by decide +kernel
theorem d_So_listTerm_49 : decode bc_So_listTerm 49 = .ok (.aload_n 0, 1) := by decide +kernel
theorem d_So_listTerm_50 : decode bc_So_listTerm 50 = .ok (.getfield 37, 3) := by decide +kernel
theorem d_So_listTerm_53 : decode bc_So_listTerm 53 = .ok (.aload_n 0, 1) := by decide +kernel
theorem d_So_listTerm_54 : decode bc_So_listTerm 54 = .ok (.getfield 190, 3) := by decide +kernel
theorem d_So_listTerm_57 : decode bc_So_listTerm 57 = .ok (.iload 5, 2) := by decide +kernel
theorem d_So_listTerm_59 : decode bc_So_listTerm 59 = .ok (.iastore, 1) := by decide +kernel
theorem d_So_listTerm_60 : decode bc_So_listTerm 60 = .ok (.aload_n 0, 1) := by decide +kernel
theorem d_So_listTerm_61 : decode bc_So_listTerm 61 = .ok (.getfield 40, 3) := by decide +kernel
theorem d_So_listTerm_64 : decode bc_So_listTerm 64 = .ok (.aload_n 0, 1) := by decide +kernel
theorem d_So_listTerm_65 : decode bc_So_listTerm 65 = .ok (.getfield 190, 3) := by decide +kernel
theorem d_So_listTerm_68 : decode bc_So_listTerm 68 = .ok (.aload_n 0, 1) := by decide +kernel
theorem d_So_listTerm_69 : decode bc_So_listTerm 69 = .ok (.aload_n 1, 1) := by decide +kernel
theorem d_So_listTerm_70 : decode bc_So_listTerm 70 = .ok (.iload 5, 2) := by decide +kernel
theorem d_So_listTerm_72 : decode bc_So_listTerm 72 = .ok (.iload_n 3, 1) := by decide +kernel
theorem d_So_listTerm_73 : decode bc_So_listTerm 73 = .ok (.invokevirtual 196, 3) := by decide +kernel
theorem d_So_listTerm_76 : decode bc_So_listTerm 76 = .ok (.iastore, 1) := by decide +kernel
theorem d_So_listTerm_77 : decode bc_So_listTerm 77 = .ok (.aload_n 0, 1) := by decide +kernel
theorem d_So_listTerm_78 : decode bc_So_listTerm 78 = .ok (.getfield 43, 3) := by decide +kernel
theorem d_So_listTerm_81 : decode bc_So_listTerm 81 = .ok (.aload_n 0, 1) := by decide +kernel
theorem d_So_listTerm_82 : decode bc_So_listTerm 82 = .ok (.getfield 190, 3) := by decide +kernel
theorem d_So_listTerm_85 : decode bc_So_listTerm 85 = .ok (.iconst 0, 1) := by decide +kernel
theorem d_So_listTerm_86 : decode bc_So_listTerm 86 = .ok (.iastore, 1) := by decide +kernel
theorem d_So_listTerm_87 : decode bc_So_listTerm 87 = .ok (.aload_n 0, 1) := by decide +kernel
theorem d_So_listTerm_88 : decode bc_So_listTerm 88 = .ok (.dup, 1) := by decide +kernel
theorem d_So_listTerm_89 : decode bc_So_listTerm 89 = .ok (.getfield 190, 3) := by decide +kernel
theorem d_So_listTerm_92 : decode bc_So_listTerm 92 = .ok (.iconst 1, 1) := by decide +kernel
theorem d_So_listTerm_93 : decode bc_So_listTerm 93 = .ok (.iadd, 1) := by decide +kernel
theorem d_So_listTerm_94 : decode bc_So_listTerm 94 = .ok (.putfield 190, 3) := by decide +kernel
theorem d_So_listTerm_97 : decode bc_So_listTerm 97 = .ok (.aload_n 0, 1) := by decide +kernel
theorem d_So_listTerm_98 : decode bc_So_listTerm 98 = .ok (.aload_n 1, 1) := by decide +kernel
theorem d_So_listTerm_99 : decode bc_So_listTerm 99 = .ok (.invokevirtual 200, 3) := by decide +kernel
theorem d_So_listTerm_102 : decode bc_So_listTerm 102 = .ok (.iinc 5 1, 3) := by decide +kernel
theorem d_So_listTerm_105 : decode bc_So_listTerm 105 = .ok (.goto (-73), 3) := by decide +kernel
theorem d_So_listTerm_108 : decode bc_So_listTerm 108 = .ok (.return_, 1) := by decide +kernel
abbrev bc_So_closeFrames : ByteArray := prog_10_method_12_code
abbrev y_So_closeFrames : MethodName := ⟨"KindRounds$Solver", "closeFrames", "(LKindRounds$Row;)V"⟩
theorem d_So_closeFrames_0 : decode bc_So_closeFrames 0 = .ok (.iconst 0, 1) := by decide +kernel
theorem d_So_closeFrames_1 : decode bc_So_closeFrames 1 = .ok (.istore_n 2, 1) := by decide +kernel
theorem d_So_closeFrames_2 : decode bc_So_closeFrames 2 = .ok (.iload_n 2, 1) := by decide +kernel
theorem d_So_closeFrames_3 : decode bc_So_closeFrames 3 = .ok (.sipush 200, 3) := by decide +kernel
theorem d_So_closeFrames_6 : decode bc_So_closeFrames 6 = .ok (.if_icmp .ge 105, 3) := by decide +kernel
theorem d_So_closeFrames_9 : decode bc_So_closeFrames 9 = .ok (.aload_n 0, 1) := by decide +kernel
theorem d_So_closeFrames_10 : decode bc_So_closeFrames 10 = .ok (.getfield 190, 3) := by decide +kernel
theorem d_So_closeFrames_13 : decode bc_So_closeFrames 13 = .ok (.ifCond .le 98, 3) := by decide +kernel
theorem d_So_closeFrames_16 : decode bc_So_closeFrames 16 = .ok (.aload_n 0, 1) := by decide +kernel
theorem d_So_closeFrames_17 : decode bc_So_closeFrames 17 = .ok (.getfield 37, 3) := by decide +kernel
theorem d_So_closeFrames_20 : decode bc_So_closeFrames 20 = .ok (.aload_n 0, 1) := by decide +kernel
theorem d_So_closeFrames_21 : decode bc_So_closeFrames 21 = .ok (.getfield 190, 3) := by decide +kernel
theorem d_So_closeFrames_24 : decode bc_So_closeFrames 24 = .ok (.iconst 1, 1) := by decide +kernel
theorem d_So_closeFrames_25 : decode bc_So_closeFrames 25 = .ok (.isub, 1) := by decide +kernel
theorem d_So_closeFrames_26 : decode bc_So_closeFrames 26 = .ok (.iaload, 1) := by decide +kernel
theorem d_So_closeFrames_27 : decode bc_So_closeFrames 27 = .ok (.istore_n 3, 1) := by decide +kernel
theorem d_So_closeFrames_28 : decode bc_So_closeFrames 28 = .ok (.aload_n 0, 1) := by decide +kernel
theorem d_So_closeFrames_29 : decode bc_So_closeFrames 29 = .ok (.getfield 43, 3) := by decide +kernel
theorem d_So_closeFrames_32 : decode bc_So_closeFrames 32 = .ok (.aload_n 0, 1) := by decide +kernel
theorem d_So_closeFrames_33 : decode bc_So_closeFrames 33 = .ok (.getfield 190, 3) := by decide +kernel
theorem d_So_closeFrames_36 : decode bc_So_closeFrames 36 = .ok (.iconst 1, 1) := by decide +kernel
theorem d_So_closeFrames_37 : decode bc_So_closeFrames 37 = .ok (.isub, 1) := by decide +kernel
theorem d_So_closeFrames_38 : decode bc_So_closeFrames 38 = .ok (.iaload, 1) := by decide +kernel
theorem d_So_closeFrames_39 : decode bc_So_closeFrames 39 = .ok (.aload_n 1, 1) := by decide +kernel
theorem d_So_closeFrames_40 : decode bc_So_closeFrames 40 = .ok (.getfield 204, 3) := by decide +kernel
theorem d_So_closeFrames_43 : decode bc_So_closeFrames 43 = .ok (.iload_n 3, 1) := by decide +kernel
theorem d_So_closeFrames_44 : decode bc_So_closeFrames 44 = .ok (.iaload, 1) := by decide +kernel
theorem d_So_closeFrames_45 : decode bc_So_closeFrames 45 = .ok (.if_icmp .ge 4, 3) := by decide +kernel
theorem d_So_closeFrames_48 : decode bc_So_closeFrames 48 = .ok (.return_, 1) := by decide +kernel
theorem d_So_closeFrames_49 : decode bc_So_closeFrames 49 = .ok (.aload_n 0, 1) := by decide +kernel
theorem d_So_closeFrames_50 : decode bc_So_closeFrames 50 = .ok (.dup, 1) := by decide +kernel
theorem d_So_closeFrames_51 : decode bc_So_closeFrames 51 = .ok (.getfield 190, 3) := by decide +kernel
theorem d_So_closeFrames_54 : decode bc_So_closeFrames 54 = .ok (.iconst 1, 1) := by decide +kernel
theorem d_So_closeFrames_55 : decode bc_So_closeFrames 55 = .ok (.isub, 1) := by decide +kernel
theorem d_So_closeFrames_56 : decode bc_So_closeFrames 56 = .ok (.putfield 190, 3) := by decide +kernel
theorem d_So_closeFrames_59 : decode bc_So_closeFrames 59 = .ok (.aload_n 0, 1) := by decide +kernel
theorem d_So_closeFrames_60 : decode bc_So_closeFrames 60 = .ok (.getfield 190, 3) := by decide +kernel
theorem d_So_closeFrames_63 : decode bc_So_closeFrames 63 = .ok (.ifCond .ne 16, 3) := by decide +kernel
theorem d_So_closeFrames_66 : decode bc_So_closeFrames 66 = .ok (.aload_n 0, 1) := by decide +kernel
theorem d_So_closeFrames_67 : decode bc_So_closeFrames 67 = .ok (.aload_n 0, 1) := by decide +kernel
theorem d_So_closeFrames_68 : decode bc_So_closeFrames 68 = .ok (.getfield 40, 3) := by decide +kernel
theorem d_So_closeFrames_71 : decode bc_So_closeFrames 71 = .ok (.iconst 0, 1) := by decide +kernel
theorem d_So_closeFrames_72 : decode bc_So_closeFrames 72 = .ok (.iaload, 1) := by decide +kernel
theorem d_So_closeFrames_73 : decode bc_So_closeFrames 73 = .ok (.putfield 180, 3) := by decide +kernel
theorem d_So_closeFrames_76 : decode bc_So_closeFrames 76 = .ok (.goto 29, 3) := by decide +kernel
theorem d_So_closeFrames_79 : decode bc_So_closeFrames 79 = .ok (.aload_n 0, 1) := by decide +kernel
theorem d_So_closeFrames_80 : decode bc_So_closeFrames 80 = .ok (.aload_n 1, 1) := by decide +kernel
theorem d_So_closeFrames_81 : decode bc_So_closeFrames 81 = .ok (.aload_n 0, 1) := by decide +kernel
theorem d_So_closeFrames_82 : decode bc_So_closeFrames 82 = .ok (.getfield 190, 3) := by decide +kernel
theorem d_So_closeFrames_85 : decode bc_So_closeFrames 85 = .ok (.iconst 1, 1) := by decide +kernel
theorem d_So_closeFrames_86 : decode bc_So_closeFrames 86 = .ok (.isub, 1) := by decide +kernel
theorem d_So_closeFrames_87 : decode bc_So_closeFrames 87 = .ok (.aload_n 0, 1) := by decide +kernel
theorem d_So_closeFrames_88 : decode bc_So_closeFrames 88 = .ok (.getfield 40, 3) := by decide +kernel
theorem d_So_closeFrames_91 : decode bc_So_closeFrames 91 = .ok (.aload_n 0, 1) := by decide +kernel
theorem d_So_closeFrames_92 : decode bc_So_closeFrames 92 = .ok (.getfield 190, 3) := by decide +kernel
theorem d_So_closeFrames_95 : decode bc_So_closeFrames 95 = .ok (.iaload, 1) := by decide +kernel
theorem d_So_closeFrames_96 : decode bc_So_closeFrames 96 = .ok (.aload_n 1, 1) := by decide +kernel
theorem d_So_closeFrames_97 : decode bc_So_closeFrames 97 = .ok (.getfield 183, 3) := by decide +kernel
theorem d_So_closeFrames_100 : decode bc_So_closeFrames 100 = .ok (.iload_n 3, 1) := by decide +kernel
theorem d_So_closeFrames_101 : decode bc_So_closeFrames 101 = .ok (.iaload, 1) := by decide +kernel
theorem d_So_closeFrames_102 : decode bc_So_closeFrames 102 = .ok (.invokevirtual 207, 3) := by decide +kernel
theorem d_So_closeFrames_105 : decode bc_So_closeFrames 105 = .ok (.iinc 2 1, 3) := by decide +kernel
theorem d_So_closeFrames_108 : decode bc_So_closeFrames 108 = .ok (.goto (-106), 3) := by decide +kernel
theorem d_So_closeFrames_111 : decode bc_So_closeFrames 111 = .ok (.return_, 1) := by decide +kernel
abbrev bc_So_joinFrame : ByteArray := prog_10_method_13_code
abbrev y_So_joinFrame : MethodName := ⟨"KindRounds$Solver", "joinFrame", "(LKindRounds$Row;III)V"⟩
theorem d_So_joinFrame_0 : decode bc_So_joinFrame 0 = .ok (.aload_n 0, 1) := by decide +kernel
theorem d_So_joinFrame_1 : decode bc_So_joinFrame 1 = .ok (.getfield 43, 3) := by decide +kernel
theorem d_So_joinFrame_4 : decode bc_So_joinFrame 4 = .ok (.iload_n 2, 1) := by decide +kernel
theorem d_So_joinFrame_5 : decode bc_So_joinFrame 5 = .ok (.iaload, 1) := by decide +kernel
theorem d_So_joinFrame_6 : decode bc_So_joinFrame 6 = .ok (.aload_n 1, 1) := by decide +kernel
theorem d_So_joinFrame_7 : decode bc_So_joinFrame 7 = .ok (.aload_n 0, 1) := by decide +kernel
theorem d_So_joinFrame_8 : decode bc_So_joinFrame 8 = .ok (.getfield 37, 3) := by decide +kernel
theorem d_So_joinFrame_11 : decode bc_So_joinFrame 11 = .ok (.iload_n 2, 1) := by decide +kernel
theorem d_So_joinFrame_12 : decode bc_So_joinFrame 12 = .ok (.iaload, 1) := by decide +kernel
theorem d_So_joinFrame_13 : decode bc_So_joinFrame 13 = .ok (.invokevirtual 211, 3) := by decide +kernel
theorem d_So_joinFrame_16 : decode bc_So_joinFrame 16 = .ok (.if_icmp .ge 14, 3) := by decide +kernel
theorem d_So_joinFrame_19 : decode bc_So_joinFrame 19 = .ok (.aload_n 0, 1) := by decide +kernel
theorem d_So_joinFrame_20 : decode bc_So_joinFrame 20 = .ok (.iload_n 3, 1) := by decide +kernel
theorem d_So_joinFrame_21 : decode bc_So_joinFrame 21 = .ok (.iconst 0, 1) := by decide +kernel
theorem d_So_joinFrame_22 : decode bc_So_joinFrame 22 = .ok (.iload 4, 2) := by decide +kernel
theorem d_So_joinFrame_24 : decode bc_So_joinFrame 24 = .ok (.invokevirtual 161, 3) := by decide +kernel
theorem d_So_joinFrame_27 : decode bc_So_joinFrame 27 = .ok (.goto 42, 3) := by decide +kernel
theorem d_So_joinFrame_30 : decode bc_So_joinFrame 30 = .ok (.aload_n 0, 1) := by decide +kernel
theorem d_So_joinFrame_31 : decode bc_So_joinFrame 31 = .ok (.getfield 19, 3) := by decide +kernel
theorem d_So_joinFrame_34 : decode bc_So_joinFrame 34 = .ok (.invokevirtual 117, 3) := by decide +kernel
theorem d_So_joinFrame_37 : decode bc_So_joinFrame 37 = .ok (.istore 5, 2) := by decide +kernel
theorem d_So_joinFrame_39 : decode bc_So_joinFrame 39 = .ok (.aload_n 0, 1) := by decide +kernel
theorem d_So_joinFrame_40 : decode bc_So_joinFrame 40 = .ok (.aload_n 0, 1) := by decide +kernel
theorem d_So_joinFrame_41 : decode bc_So_joinFrame 41 = .ok (.getfield 40, 3) := by decide +kernel
theorem d_So_joinFrame_44 : decode bc_So_joinFrame 44 = .ok (.iload_n 2, 1) := by decide +kernel
theorem d_So_joinFrame_45 : decode bc_So_joinFrame 45 = .ok (.iaload, 1) := by decide +kernel
theorem d_So_joinFrame_46 : decode bc_So_joinFrame 46 = .ok (.aload_n 0, 1) := by decide +kernel
theorem d_So_joinFrame_47 : decode bc_So_joinFrame 47 = .ok (.getfield 19, 3) := by decide +kernel
theorem d_So_joinFrame_50 : decode bc_So_joinFrame 50 = .ok (.iload_n 3, 1) := by decide +kernel
theorem d_So_joinFrame_51 : decode bc_So_joinFrame 51 = .ok (.iload 5, 2) := by decide +kernel
theorem d_So_joinFrame_53 : decode bc_So_joinFrame 53 = .ok (.invokevirtual 133, 3) := by decide +kernel
theorem d_So_joinFrame_56 : decode bc_So_joinFrame 56 = .ok (.iload 4, 2) := by decide +kernel
theorem d_So_joinFrame_58 : decode bc_So_joinFrame 58 = .ok (.invokevirtual 161, 3) := by decide +kernel
theorem d_So_joinFrame_61 : decode bc_So_joinFrame 61 = .ok (.aload_n 0, 1) := by decide +kernel
theorem d_So_joinFrame_62 : decode bc_So_joinFrame 62 = .ok (.getfield 40, 3) := by decide +kernel
theorem d_So_joinFrame_65 : decode bc_So_joinFrame 65 = .ok (.iload_n 2, 1) := by decide +kernel
theorem d_So_joinFrame_66 : decode bc_So_joinFrame 66 = .ok (.iload 5, 2) := by decide +kernel
theorem d_So_joinFrame_68 : decode bc_So_joinFrame 68 = .ok (.iastore, 1) := by decide +kernel
theorem d_So_joinFrame_69 : decode bc_So_joinFrame 69 = .ok (.aload_n 0, 1) := by decide +kernel
theorem d_So_joinFrame_70 : decode bc_So_joinFrame 70 = .ok (.getfield 43, 3) := by decide +kernel
theorem d_So_joinFrame_73 : decode bc_So_joinFrame 73 = .ok (.iload_n 2, 1) := by decide +kernel
theorem d_So_joinFrame_74 : decode bc_So_joinFrame 74 = .ok (.dup2, 1) := by decide +kernel
theorem d_So_joinFrame_75 : decode bc_So_joinFrame 75 = .ok (.iaload, 1) := by decide +kernel
theorem d_So_joinFrame_76 : decode bc_So_joinFrame 76 = .ok (.iconst 1, 1) := by decide +kernel
theorem d_So_joinFrame_77 : decode bc_So_joinFrame 77 = .ok (.iadd, 1) := by decide +kernel
theorem d_So_joinFrame_78 : decode bc_So_joinFrame 78 = .ok (.iastore, 1) := by decide +kernel
theorem d_So_joinFrame_79 : decode bc_So_joinFrame 79 = .ok (.return_, 1) := by decide +kernel
abbrev bc_So_startKind : ByteArray := prog_10_method_14_code
abbrev y_So_startKind : MethodName := ⟨"KindRounds$Solver", "startKind", "(LKindRounds$Row;II)I"⟩
theorem d_So_startKind_0 : decode bc_So_startKind 0 = .ok (.aload_n 1, 1) := by decide +kernel
theorem d_So_startKind_1 : decode bc_So_startKind 1 = .ok (.getfield 214, 3) := by decide +kernel
theorem d_So_startKind_4 : decode bc_So_startKind 4 = .ok (.iload_n 2, 1) := by decide +kernel
theorem d_So_startKind_5 : decode bc_So_startKind 5 = .ok (.laload, 1) := by decide +kernel
theorem d_So_startKind_6 : decode bc_So_startKind 6 = .ok (.lstore 4, 2) := by decide +kernel
theorem d_So_startKind_8 : decode bc_So_startKind 8 = .ok (.aload_n 1, 1) := by decide +kernel
theorem d_So_startKind_9 : decode bc_So_startKind 9 = .ok (.getfield 215, 3) := by decide +kernel
theorem d_So_startKind_12 : decode bc_So_startKind 12 = .ok (.iload_n 2, 1) := by decide +kernel
theorem d_So_startKind_13 : decode bc_So_startKind 13 = .ok (.iaload, 1) := by decide +kernel
theorem d_So_startKind_14 : decode bc_So_startKind 14 = .ok (.iconst 2, 1) := by decide +kernel
theorem d_So_startKind_15 : decode bc_So_startKind 15 = .ok (.if_icmp .ne 34, 3) := by decide +kernel
theorem d_So_startKind_18 : decode bc_So_startKind 18 = .ok (.aload_n 0, 1) := by decide +kernel
theorem d_So_startKind_19 : decode bc_So_startKind 19 = .ok (.getfield 9, 3) := by decide +kernel
theorem d_So_startKind_22 : decode bc_So_startKind 22 = .ok (.lload 4, 2) := by decide +kernel
theorem d_So_startKind_24 : decode bc_So_startKind 24 = .ok (.invokevirtual 216, 3) := by decide +kernel
theorem d_So_startKind_27 : decode bc_So_startKind 27 = .ok (.istore 6, 2) := by decide +kernel
theorem d_So_startKind_29 : decode bc_So_startKind 29 = .ok (.iload 6, 2) := by decide +kernel
theorem d_So_startKind_31 : decode bc_So_startKind 31 = .ok (.ifCond .ge 7, 3) := by decide +kernel
theorem d_So_startKind_34 : decode bc_So_startKind 34 = .ok (.iconst 0, 1) := by decide +kernel
theorem d_So_startKind_35 : decode bc_So_startKind 35 = .ok (.goto 13, 3) := by decide +kernel
theorem d_So_startKind_38 : decode bc_So_startKind 38 = .ok (.aload_n 0, 1) := by decide +kernel
theorem d_So_startKind_39 : decode bc_So_startKind 39 = .ok (.getfield 9, 3) := by decide +kernel
theorem d_So_startKind_42 : decode bc_So_startKind 42 = .ok (.getfield 127, 3) := by decide +kernel
theorem d_So_startKind_45 : decode bc_So_startKind 45 = .ok (.iload 6, 2) := by decide +kernel
theorem d_So_startKind_47 : decode bc_So_startKind 47 = .ok (.iaload, 1) := by decide +kernel
theorem d_So_startKind_48 : decode bc_So_startKind 48 = .ok (.ireturn, 1) := by decide +kernel
theorem d_So_startKind_49 : decode bc_So_startKind 49 = .ok (.aload_n 1, 1) := by decide +kernel
theorem d_So_startKind_50 : decode bc_So_startKind 50 = .ok (.getfield 215, 3) := by decide +kernel
theorem d_So_startKind_53 : decode bc_So_startKind 53 = .ok (.iload_n 2, 1) := by decide +kernel
theorem d_So_startKind_54 : decode bc_So_startKind 54 = .ok (.iaload, 1) := by decide +kernel
theorem d_So_startKind_55 : decode bc_So_startKind 55 = .ok (.iconst 3, 1) := by decide +kernel
theorem d_So_startKind_56 : decode bc_So_startKind 56 = .ok (.if_icmp .eq 5, 3) := by decide +kernel
theorem d_So_startKind_59 : decode bc_So_startKind 59 = .ok (.iconst 0, 1) := by decide +kernel
theorem d_So_startKind_60 : decode bc_So_startKind 60 = .ok (.ireturn, 1) := by decide +kernel
theorem d_So_startKind_61 : decode bc_So_startKind 61 = .ok (.aload_n 0, 1) := by decide +kernel
theorem d_So_startKind_62 : decode bc_So_startKind 62 = .ok (.getfield 9, 3) := by decide +kernel
theorem d_So_startKind_65 : decode bc_So_startKind 65 = .ok (.iload_n 3, 1) := by decide +kernel
theorem d_So_startKind_66 : decode bc_So_startKind 66 = .ok (.invokevirtual 177, 3) := by decide +kernel
theorem d_So_startKind_69 : decode bc_So_startKind 69 = .ok (.ifCond .eq 16, 3) := by decide +kernel
theorem d_So_startKind_72 : decode bc_So_startKind 72 = .ok (.aload_n 0, 1) := by decide +kernel
theorem d_So_startKind_73 : decode bc_So_startKind 73 = .ok (.getfield 9, 3) := by decide +kernel
theorem d_So_startKind_76 : decode bc_So_startKind 76 = .ok (.iload_n 3, 1) := by decide +kernel
theorem d_So_startKind_77 : decode bc_So_startKind 77 = .ok (.lload 4, 2) := by decide +kernel
theorem d_So_startKind_79 : decode bc_So_startKind 79 = .ok (.invokevirtual 219, 3) := by decide +kernel
theorem d_So_startKind_82 : decode bc_So_startKind 82 = .ok (.goto 4, 3) := by decide +kernel
theorem d_So_startKind_85 : decode bc_So_startKind 85 = .ok (.iconst (-1), 1) := by decide +kernel
theorem d_So_startKind_86 : decode bc_So_startKind 86 = .ok (.istore 6, 2) := by decide +kernel
theorem d_So_startKind_88 : decode bc_So_startKind 88 = .ok (.iload 6, 2) := by decide +kernel
theorem d_So_startKind_90 : decode bc_So_startKind 90 = .ok (.ifCond .ge 12, 3) := by decide +kernel
theorem d_So_startKind_93 : decode bc_So_startKind 93 = .ok (.aload_n 0, 1) := by decide +kernel
theorem d_So_startKind_94 : decode bc_So_startKind 94 = .ok (.lload 4, 2) := by decide +kernel
theorem d_So_startKind_96 : decode bc_So_startKind 96 = .ok (.invokevirtual 223, 3) := by decide +kernel
theorem d_So_startKind_99 : decode bc_So_startKind 99 = .ok (.goto 17, 3) := by decide +kernel
theorem d_So_startKind_102 : decode bc_So_startKind 102 = .ok (.aload_n 0, 1) := by decide +kernel
theorem d_So_startKind_103 : decode bc_So_startKind 103 = .ok (.getfield 9, 3) := by decide +kernel
theorem d_So_startKind_106 : decode bc_So_startKind 106 = .ok (.getfield 114, 3) := by decide +kernel
theorem d_So_startKind_109 : decode bc_So_startKind 109 = .ok (.iload_n 3, 1) := by decide +kernel
theorem d_So_startKind_110 : decode bc_So_startKind 110 = .ok (.iconst 3, 1) := by decide +kernel
theorem d_So_startKind_111 : decode bc_So_startKind 111 = .ok (.imul, 1) := by decide +kernel
theorem d_So_startKind_112 : decode bc_So_startKind 112 = .ok (.iload 6, 2) := by decide +kernel
theorem d_So_startKind_114 : decode bc_So_startKind 114 = .ok (.iadd, 1) := by decide +kernel
theorem d_So_startKind_115 : decode bc_So_startKind 115 = .ok (.iaload, 1) := by decide +kernel
theorem d_So_startKind_116 : decode bc_So_startKind 116 = .ok (.ireturn, 1) := by decide +kernel
abbrev bc_So_freeKind : ByteArray := prog_10_method_15_code
abbrev y_So_freeKind : MethodName := ⟨"KindRounds$Solver", "freeKind", "(J)I"⟩
theorem d_So_freeKind_0 : decode bc_So_freeKind 0 = .ok (.iconst 0, 1) := by decide +kernel
theorem d_So_freeKind_1 : decode bc_So_freeKind 1 = .ok (.istore_n 3, 1) := by decide +kernel
theorem d_So_freeKind_2 : decode bc_So_freeKind 2 = .ok (.iload_n 3, 1) := by decide +kernel
theorem d_So_freeKind_3 : decode bc_So_freeKind 3 = .ok (.aload_n 0, 1) := by decide +kernel
theorem d_So_freeKind_4 : decode bc_So_freeKind 4 = .ok (.getfield 187, 3) := by decide +kernel
theorem d_So_freeKind_7 : decode bc_So_freeKind 7 = .ok (.if_icmp .ge 27, 3) := by decide +kernel
theorem d_So_freeKind_10 : decode bc_So_freeKind 10 = .ok (.aload_n 0, 1) := by decide +kernel
theorem d_So_freeKind_11 : decode bc_So_freeKind 11 = .ok (.getfield 46, 3) := by decide +kernel
theorem d_So_freeKind_14 : decode bc_So_freeKind 14 = .ok (.iload_n 3, 1) := by decide +kernel
theorem d_So_freeKind_15 : decode bc_So_freeKind 15 = .ok (.laload, 1) := by decide +kernel
theorem d_So_freeKind_16 : decode bc_So_freeKind 16 = .ok (.lload_n 1, 1) := by decide +kernel
theorem d_So_freeKind_17 : decode bc_So_freeKind 17 = .ok (.lcmp, 1) := by decide +kernel
theorem d_So_freeKind_18 : decode bc_So_freeKind 18 = .ok (.ifCond .ne 10, 3) := by decide +kernel
theorem d_So_freeKind_21 : decode bc_So_freeKind 21 = .ok (.aload_n 0, 1) := by decide +kernel
theorem d_So_freeKind_22 : decode bc_So_freeKind 22 = .ok (.getfield 50, 3) := by decide +kernel
theorem d_So_freeKind_25 : decode bc_So_freeKind 25 = .ok (.iload_n 3, 1) := by decide +kernel
theorem d_So_freeKind_26 : decode bc_So_freeKind 26 = .ok (.iaload, 1) := by decide +kernel
theorem d_So_freeKind_27 : decode bc_So_freeKind 27 = .ok (.ireturn, 1) := by decide +kernel
theorem d_So_freeKind_28 : decode bc_So_freeKind 28 = .ok (.iinc 3 1, 3) := by decide +kernel
theorem d_So_freeKind_31 : decode bc_So_freeKind 31 = .ok (.goto (-29), 3) := by decide +kernel
theorem d_So_freeKind_34 : decode bc_So_freeKind 34 = .ok (.aload_n 0, 1) := by decide +kernel
theorem d_So_freeKind_35 : decode bc_So_freeKind 35 = .ok (.getfield 19, 3) := by decide +kernel
theorem d_So_freeKind_38 : decode bc_So_freeKind 38 = .ok (.invokevirtual 117, 3) := by decide +kernel
theorem d_So_freeKind_41 : decode bc_So_freeKind 41 = .ok (.istore_n 3, 1) := by decide +kernel
theorem d_So_freeKind_42 : decode bc_So_freeKind 42 = .ok (.aload_n 0, 1) := by decide +kernel
theorem d_So_freeKind_43 : decode bc_So_freeKind 43 = .ok (.getfield 187, 3) := by decide +kernel
theorem d_So_freeKind_46 : decode bc_So_freeKind 46 = .ok (.sipush 200, 3) := by decide +kernel
theorem d_So_freeKind_49 : decode bc_So_freeKind 49 = .ok (.if_icmp .ge 33, 3) := by decide +kernel
theorem d_So_freeKind_52 : decode bc_So_freeKind 52 = .ok (.aload_n 0, 1) := by decide +kernel
theorem d_So_freeKind_53 : decode bc_So_freeKind 53 = .ok (.getfield 46, 3) := by decide +kernel
theorem d_So_freeKind_56 : decode bc_So_freeKind 56 = .ok (.aload_n 0, 1) := by decide +kernel
theorem d_So_freeKind_57 : decode bc_So_freeKind 57 = .ok (.getfield 187, 3) := by decide +kernel
theorem d_So_freeKind_60 : decode bc_So_freeKind 60 = .ok (.lload_n 1, 1) := by decide +kernel
theorem d_So_freeKind_61 : decode bc_So_freeKind 61 = .ok (.lastore, 1) := by decide +kernel
theorem d_So_freeKind_62 : decode bc_So_freeKind 62 = .ok (.aload_n 0, 1) := by decide +kernel
theorem d_So_freeKind_63 : decode bc_So_freeKind 63 = .ok (.getfield 50, 3) := by decide +kernel
theorem d_So_freeKind_66 : decode bc_So_freeKind 66 = .ok (.aload_n 0, 1) := by decide +kernel
theorem d_So_freeKind_67 : decode bc_So_freeKind 67 = .ok (.getfield 187, 3) := by decide +kernel
theorem d_So_freeKind_70 : decode bc_So_freeKind 70 = .ok (.iload_n 3, 1) := by decide +kernel
theorem d_So_freeKind_71 : decode bc_So_freeKind 71 = .ok (.iastore, 1) := by decide +kernel
theorem d_So_freeKind_72 : decode bc_So_freeKind 72 = .ok (.aload_n 0, 1) := by decide +kernel
theorem d_So_freeKind_73 : decode bc_So_freeKind 73 = .ok (.dup, 1) := by decide +kernel
theorem d_So_freeKind_74 : decode bc_So_freeKind 74 = .ok (.getfield 187, 3) := by decide +kernel
theorem d_So_freeKind_77 : decode bc_So_freeKind 77 = .ok (.iconst 1, 1) := by decide +kernel
theorem d_So_freeKind_78 : decode bc_So_freeKind 78 = .ok (.iadd, 1) := by decide +kernel
theorem d_So_freeKind_79 : decode bc_So_freeKind 79 = .ok (.putfield 187, 3) := by decide +kernel
theorem d_So_freeKind_82 : decode bc_So_freeKind 82 = .ok (.iload_n 3, 1) := by decide +kernel
theorem d_So_freeKind_83 : decode bc_So_freeKind 83 = .ok (.ireturn, 1) := by decide +kernel
abbrev bc_Pl_replaceAll : ByteArray := prog_8_method_2_code
abbrev y_Pl_replaceAll : MethodName := ⟨"KindRounds$Plainer", "replaceAll", "(LKindRounds$Row;I)Z"⟩
theorem d_Pl_replaceAll_0 : decode bc_Pl_replaceAll 0 = .ok (.aload_n 0, 1) := by decide +kernel
theorem d_Pl_replaceAll_1 : decode bc_Pl_replaceAll 1 = .ok (.getfield 18, 3) := by decide +kernel
theorem d_Pl_replaceAll_4 : decode bc_Pl_replaceAll 4 = .ok (.invokevirtual 38, 3) := by decide +kernel
theorem d_Pl_replaceAll_7 : decode bc_Pl_replaceAll 7 = .ok (.aload_n 0, 1) := by decide +kernel
theorem d_Pl_replaceAll_8 : decode bc_Pl_replaceAll 8 = .ok (.iconst 1, 1) := by decide +kernel
theorem d_Pl_replaceAll_9 : decode bc_Pl_replaceAll 9 = .ok (.putfield 41, 3) := by decide +kernel
theorem d_Pl_replaceAll_12 : decode bc_Pl_replaceAll 12 = .ok (.aload_n 0, 1) := by decide +kernel
theorem d_Pl_replaceAll_13 : decode bc_Pl_replaceAll 13 = .ok (.aload_n 1, 1) := by decide +kernel
theorem d_Pl_replaceAll_14 : decode bc_Pl_replaceAll 14 = .ok (.aload_n 1, 1) := by decide +kernel
theorem d_Pl_replaceAll_15 : decode bc_Pl_replaceAll 15 = .ok (.getfield 45, 3) := by decide +kernel
theorem d_Pl_replaceAll_18 : decode bc_Pl_replaceAll 18 = .ok (.iload_n 2, 1) := by decide +kernel
theorem d_Pl_replaceAll_19 : decode bc_Pl_replaceAll 19 = .ok (.iaload, 1) := by decide +kernel
theorem d_Pl_replaceAll_20 : decode bc_Pl_replaceAll 20 = .ok (.aload_n 1, 1) := by decide +kernel
theorem d_Pl_replaceAll_21 : decode bc_Pl_replaceAll 21 = .ok (.iload_n 2, 1) := by decide +kernel
theorem d_Pl_replaceAll_22 : decode bc_Pl_replaceAll 22 = .ok (.invokevirtual 48, 3) := by decide +kernel
theorem d_Pl_replaceAll_25 : decode bc_Pl_replaceAll 25 = .ok (.aload_n 0, 1) := by decide +kernel
theorem d_Pl_replaceAll_26 : decode bc_Pl_replaceAll 26 = .ok (.getfield 18, 3) := by decide +kernel
theorem d_Pl_replaceAll_29 : decode bc_Pl_replaceAll 29 = .ok (.invokevirtual 52, 3) := by decide +kernel
theorem d_Pl_replaceAll_32 : decode bc_Pl_replaceAll 32 = .ok (.iconst 0, 1) := by decide +kernel
theorem d_Pl_replaceAll_33 : decode bc_Pl_replaceAll 33 = .ok (.istore_n 3, 1) := by decide +kernel
theorem d_Pl_replaceAll_34 : decode bc_Pl_replaceAll 34 = .ok (.iconst 0, 1) := by decide +kernel
theorem d_Pl_replaceAll_35 : decode bc_Pl_replaceAll 35 = .ok (.istore 4, 2) := by decide +kernel
theorem d_Pl_replaceAll_37 : decode bc_Pl_replaceAll 37 = .ok (.iconst 0, 1) := by decide +kernel
theorem d_Pl_replaceAll_38 : decode bc_Pl_replaceAll 38 = .ok (.istore 5, 2) := by decide +kernel
theorem d_Pl_replaceAll_40 : decode bc_Pl_replaceAll 40 = .ok (.iload 5, 2) := by decide +kernel
theorem d_Pl_replaceAll_42 : decode bc_Pl_replaceAll 42 = .ok (.sipush 500, 3) := by decide +kernel
theorem d_Pl_replaceAll_45 : decode bc_Pl_replaceAll 45 = .ok (.if_icmp .gt 90, 3) := by decide +kernel
theorem d_Pl_replaceAll_48 : decode bc_Pl_replaceAll 48 = .ok (.iload 4, 2) := by decide +kernel
theorem d_Pl_replaceAll_50 : decode bc_Pl_replaceAll 50 = .ok (.aload_n 0, 1) := by decide +kernel
theorem d_Pl_replaceAll_51 : decode bc_Pl_replaceAll 51 = .ok (.getfield 18, 3) := by decide +kernel
theorem d_Pl_replaceAll_54 : decode bc_Pl_replaceAll 54 = .ok (.getfield 56, 3) := by decide +kernel
theorem d_Pl_replaceAll_57 : decode bc_Pl_replaceAll 57 = .ok (.if_icmp .ge 78, 3) := by decide +kernel
theorem d_Pl_replaceAll_60 : decode bc_Pl_replaceAll 60 = .ok (.aload_n 0, 1) := by decide +kernel
theorem d_Pl_replaceAll_61 : decode bc_Pl_replaceAll 61 = .ok (.getfield 9, 3) := by decide +kernel
theorem d_Pl_replaceAll_64 : decode bc_Pl_replaceAll 64 = .ok (.aload_n 0, 1) := by decide +kernel
theorem d_Pl_replaceAll_65 : decode bc_Pl_replaceAll 65 = .ok (.getfield 18, 3) := by decide +kernel
theorem d_Pl_replaceAll_68 : decode bc_Pl_replaceAll 68 = .ok (.getfield 60, 3) := by decide +kernel
theorem d_Pl_replaceAll_71 : decode bc_Pl_replaceAll 71 = .ok (.iload 4, 2) := by decide +kernel
theorem d_Pl_replaceAll_73 : decode bc_Pl_replaceAll 73 = .ok (.iaload, 1) := by decide +kernel
theorem d_Pl_replaceAll_74 : decode bc_Pl_replaceAll 74 = .ok (.aload_n 0, 1) := by decide +kernel
theorem d_Pl_replaceAll_75 : decode bc_Pl_replaceAll 75 = .ok (.getfield 18, 3) := by decide +kernel
theorem d_Pl_replaceAll_78 : decode bc_Pl_replaceAll 78 = .ok (.getfield 63, 3) := by decide +kernel
theorem d_Pl_replaceAll_81 : decode bc_Pl_replaceAll 81 = .ok (.iload 4, 2) := by decide +kernel
theorem d_Pl_replaceAll_83 : decode bc_Pl_replaceAll 83 = .ok (.laload, 1) := by decide +kernel
theorem d_Pl_replaceAll_84 : decode bc_Pl_replaceAll 84 = .ok (.invokevirtual 67, 3) := by decide +kernel
theorem d_Pl_replaceAll_87 : decode bc_Pl_replaceAll 87 = .ok (.istore 6, 2) := by decide +kernel
theorem d_Pl_replaceAll_89 : decode bc_Pl_replaceAll 89 = .ok (.iload 6, 2) := by decide +kernel
theorem d_Pl_replaceAll_91 : decode bc_Pl_replaceAll 91 = .ok (.ifCond .ge 9, 3) := by decide +kernel
theorem d_Pl_replaceAll_94 : decode bc_Pl_replaceAll 94 = .ok (.iinc 4 1, 3) := by decide +kernel
theorem d_Pl_replaceAll_97 : decode bc_Pl_replaceAll 97 = .ok (.goto 32, 3) := by decide +kernel
theorem d_Pl_replaceAll_100 : decode bc_Pl_replaceAll 100 = .ok (.iload_n 3, 1) := by decide +kernel
theorem d_Pl_replaceAll_101 : decode bc_Pl_replaceAll 101 = .ok (.sipush 300, 3) := by decide +kernel
theorem d_Pl_replaceAll_104 : decode bc_Pl_replaceAll 104 = .ok (.if_icmp .ne 5, 3) := by decide +kernel
theorem d_Pl_replaceAll_107 : decode bc_Pl_replaceAll 107 = .ok (.iconst 0, 1) := by decide +kernel
theorem d_Pl_replaceAll_108 : decode bc_Pl_replaceAll 108 = .ok (.ireturn, 1) := by decide +kernel
theorem d_Pl_replaceAll_109 : decode bc_Pl_replaceAll 109 = .ok (.iinc 3 1, 3) := by decide +kernel
theorem d_Pl_replaceAll_112 : decode bc_Pl_replaceAll 112 = .ok (.aload_n 0, 1) := by decide +kernel
theorem d_Pl_replaceAll_113 : decode bc_Pl_replaceAll 113 = .ok (.iload 4, 2) := by decide +kernel
theorem d_Pl_replaceAll_115 : decode bc_Pl_replaceAll 115 = .ok (.iload 6, 2) := by decide +kernel
theorem d_Pl_replaceAll_117 : decode bc_Pl_replaceAll 117 = .ok (.invokevirtual 73, 3) := by decide +kernel
theorem d_Pl_replaceAll_120 : decode bc_Pl_replaceAll 120 = .ok (.aload_n 0, 1) := by decide +kernel
theorem d_Pl_replaceAll_121 : decode bc_Pl_replaceAll 121 = .ok (.getfield 41, 3) := by decide +kernel
theorem d_Pl_replaceAll_124 : decode bc_Pl_replaceAll 124 = .ok (.ifCond .ne 5, 3) := by decide +kernel
theorem d_Pl_replaceAll_127 : decode bc_Pl_replaceAll 127 = .ok (.iconst 0, 1) := by decide +kernel
theorem d_Pl_replaceAll_128 : decode bc_Pl_replaceAll 128 = .ok (.ireturn, 1) := by decide +kernel
theorem d_Pl_replaceAll_129 : decode bc_Pl_replaceAll 129 = .ok (.iinc 5 1, 3) := by decide +kernel
theorem d_Pl_replaceAll_132 : decode bc_Pl_replaceAll 132 = .ok (.goto (-92), 3) := by decide +kernel
theorem d_Pl_replaceAll_135 : decode bc_Pl_replaceAll 135 = .ok (.iconst 1, 1) := by decide +kernel
theorem d_Pl_replaceAll_136 : decode bc_Pl_replaceAll 136 = .ok (.ireturn, 1) := by decide +kernel
abbrev bc_Pl_replace : ByteArray := prog_8_method_3_code
abbrev y_Pl_replace : MethodName := ⟨"KindRounds$Plainer", "replace", "(II)V"⟩
theorem d_Pl_replace_0 : decode bc_Pl_replace 0 = .ok (.aload_n 0, 1) := by decide +kernel
theorem d_Pl_replace_1 : decode bc_Pl_replace 1 = .ok (.getfield 9, 3) := by decide +kernel
theorem d_Pl_replace_4 : decode bc_Pl_replace 4 = .ok (.getfield 77, 3) := by decide +kernel
theorem d_Pl_replace_7 : decode bc_Pl_replace 7 = .ok (.iload_n 2, 1) := by decide +kernel
theorem d_Pl_replace_8 : decode bc_Pl_replace 8 = .ok (.iaload, 1) := by decide +kernel
theorem d_Pl_replace_9 : decode bc_Pl_replace 9 = .ok (.istore_n 3, 1) := by decide +kernel
theorem d_Pl_replace_10 : decode bc_Pl_replace 10 = .ok (.aload_n 0, 1) := by decide +kernel
theorem d_Pl_replace_11 : decode bc_Pl_replace 11 = .ok (.getfield 28, 3) := by decide +kernel
theorem d_Pl_replace_14 : decode bc_Pl_replace 14 = .ok (.iconst 0, 1) := by decide +kernel
theorem d_Pl_replace_15 : decode bc_Pl_replace 15 = .ok (.iload_n 1, 1) := by decide +kernel
theorem d_Pl_replace_16 : decode bc_Pl_replace 16 = .ok (.iconst 1, 1) := by decide +kernel
theorem d_Pl_replace_17 : decode bc_Pl_replace 17 = .ok (.iadd, 1) := by decide +kernel
theorem d_Pl_replace_18 : decode bc_Pl_replace 18 = .ok (.iastore, 1) := by decide +kernel
theorem d_Pl_replace_19 : decode bc_Pl_replace 19 = .ok (.iconst 0, 1) := by decide +kernel
theorem d_Pl_replace_20 : decode bc_Pl_replace 20 = .ok (.istore 4, 2) := by decide +kernel
theorem d_Pl_replace_22 : decode bc_Pl_replace 22 = .ok (.iload 4, 2) := by decide +kernel
theorem d_Pl_replace_24 : decode bc_Pl_replace 24 = .ok (.iload_n 3, 1) := by decide +kernel
theorem d_Pl_replace_25 : decode bc_Pl_replace 25 = .ok (.if_icmp .ge 32, 3) := by decide +kernel
theorem d_Pl_replace_28 : decode bc_Pl_replace 28 = .ok (.aload_n 0, 1) := by decide +kernel
theorem d_Pl_replace_29 : decode bc_Pl_replace 29 = .ok (.getfield 28, 3) := by decide +kernel
theorem d_Pl_replace_32 : decode bc_Pl_replace 32 = .ok (.iload 4, 2) := by decide +kernel
theorem d_Pl_replace_34 : decode bc_Pl_replace 34 = .ok (.iconst 1, 1) := by decide +kernel
theorem d_Pl_replace_35 : decode bc_Pl_replace 35 = .ok (.iadd, 1) := by decide +kernel
theorem d_Pl_replace_36 : decode bc_Pl_replace 36 = .ok (.aload_n 0, 1) := by decide +kernel
theorem d_Pl_replace_37 : decode bc_Pl_replace 37 = .ok (.getfield 18, 3) := by decide +kernel
theorem d_Pl_replace_40 : decode bc_Pl_replace 40 = .ok (.aload_n 0, 1) := by decide +kernel
theorem d_Pl_replace_41 : decode bc_Pl_replace 41 = .ok (.getfield 28, 3) := by decide +kernel
theorem d_Pl_replace_44 : decode bc_Pl_replace 44 = .ok (.iload 4, 2) := by decide +kernel
theorem d_Pl_replace_46 : decode bc_Pl_replace 46 = .ok (.iaload, 1) := by decide +kernel
theorem d_Pl_replace_47 : decode bc_Pl_replace 47 = .ok (.invokevirtual 80, 3) := by decide +kernel
theorem d_Pl_replace_50 : decode bc_Pl_replace 50 = .ok (.iastore, 1) := by decide +kernel
theorem d_Pl_replace_51 : decode bc_Pl_replace 51 = .ok (.iinc 4 1, 3) := by decide +kernel
theorem d_Pl_replace_54 : decode bc_Pl_replace 54 = .ok (.goto (-32), 3) := by decide +kernel
theorem d_Pl_replace_57 : decode bc_Pl_replace 57 = .ok (.aload_n 0, 1) := by decide +kernel
theorem d_Pl_replace_58 : decode bc_Pl_replace 58 = .ok (.getfield 22, 3) := by decide +kernel
theorem d_Pl_replace_61 : decode bc_Pl_replace 61 = .ok (.invokevirtual 38, 3) := by decide +kernel
theorem d_Pl_replace_64 : decode bc_Pl_replace 64 = .ok (.aload_n 0, 1) := by decide +kernel
theorem d_Pl_replace_65 : decode bc_Pl_replace 65 = .ok (.aload_n 0, 1) := by decide +kernel
theorem d_Pl_replace_66 : decode bc_Pl_replace 66 = .ok (.getfield 18, 3) := by decide +kernel
theorem d_Pl_replace_69 : decode bc_Pl_replace 69 = .ok (.iconst 0, 1) := by decide +kernel
theorem d_Pl_replace_70 : decode bc_Pl_replace 70 = .ok (.iload_n 1, 1) := by decide +kernel
theorem d_Pl_replace_71 : decode bc_Pl_replace 71 = .ok (.aload_n 0, 1) := by decide +kernel
theorem d_Pl_replace_72 : decode bc_Pl_replace 72 = .ok (.getfield 22, 3) := by decide +kernel
theorem d_Pl_replace_75 : decode bc_Pl_replace 75 = .ok (.invokevirtual 52, 3) := by decide +kernel
theorem d_Pl_replace_78 : decode bc_Pl_replace 78 = .ok (.aload_n 0, 1) := by decide +kernel
theorem d_Pl_replace_79 : decode bc_Pl_replace 79 = .ok (.getfield 22, 3) := by decide +kernel
theorem d_Pl_replace_82 : decode bc_Pl_replace 82 = .ok (.getfield 56, 3) := by decide +kernel
theorem d_Pl_replace_85 : decode bc_Pl_replace 85 = .ok (.istore 4, 2) := by decide +kernel
theorem d_Pl_replace_87 : decode bc_Pl_replace 87 = .ok (.aload_n 0, 1) := by decide +kernel
theorem d_Pl_replace_88 : decode bc_Pl_replace 88 = .ok (.iload_n 2, 1) := by decide +kernel
theorem d_Pl_replace_89 : decode bc_Pl_replace 89 = .ok (.invokevirtual 83, 3) := by decide +kernel
theorem d_Pl_replace_92 : decode bc_Pl_replace 92 = .ok (.iload 4, 2) := by decide +kernel
theorem d_Pl_replace_94 : decode bc_Pl_replace 94 = .ok (.aload_n 0, 1) := by decide +kernel
theorem d_Pl_replace_95 : decode bc_Pl_replace 95 = .ok (.getfield 22, 3) := by decide +kernel
theorem d_Pl_replace_98 : decode bc_Pl_replace 98 = .ok (.getfield 56, 3) := by decide +kernel
theorem d_Pl_replace_101 : decode bc_Pl_replace 101 = .ok (.if_icmp .ge 27, 3) := by decide +kernel
theorem d_Pl_replace_104 : decode bc_Pl_replace 104 = .ok (.aload_n 0, 1) := by decide +kernel
theorem d_Pl_replace_105 : decode bc_Pl_replace 105 = .ok (.getfield 22, 3) := by decide +kernel
theorem d_Pl_replace_108 : decode bc_Pl_replace 108 = .ok (.getfield 87, 3) := by decide +kernel
theorem d_Pl_replace_111 : decode bc_Pl_replace 111 = .ok (.iload 4, 2) := by decide +kernel
theorem d_Pl_replace_113 : decode bc_Pl_replace 113 = .ok (.dup2, 1) := by decide +kernel
theorem d_Pl_replace_114 : decode bc_Pl_replace 114 = .ok (.iaload, 1) := by decide +kernel
theorem d_Pl_replace_115 : decode bc_Pl_replace 115 = .ok (.aload_n 0, 1) := by decide +kernel
theorem d_Pl_replace_116 : decode bc_Pl_replace 116 = .ok (.getfield 18, 3) := by decide +kernel
theorem d_Pl_replace_119 : decode bc_Pl_replace 119 = .ok (.getfield 87, 3) := by decide +kernel
theorem d_Pl_replace_122 : decode bc_Pl_replace 122 = .ok (.iload_n 1, 1) := by decide +kernel
theorem d_Pl_replace_123 : decode bc_Pl_replace 123 = .ok (.iaload, 1) := by decide +kernel
theorem d_Pl_replace_124 : decode bc_Pl_replace 124 = .ok (.iload_n 3, 1) := by decide +kernel
theorem d_Pl_replace_125 : decode bc_Pl_replace 125 = .ok (.isub, 1) := by decide +kernel
theorem d_Pl_replace_126 : decode bc_Pl_replace 126 = .ok (.iadd, 1) := by decide +kernel
theorem d_Pl_replace_127 : decode bc_Pl_replace 127 = .ok (.iastore, 1) := by decide +kernel
theorem d_Pl_replace_128 : decode bc_Pl_replace 128 = .ok (.aload_n 0, 1) := by decide +kernel
theorem d_Pl_replace_129 : decode bc_Pl_replace 129 = .ok (.aload_n 0, 1) := by decide +kernel
theorem d_Pl_replace_130 : decode bc_Pl_replace 130 = .ok (.getfield 18, 3) := by decide +kernel
theorem d_Pl_replace_133 : decode bc_Pl_replace 133 = .ok (.aload_n 0, 1) := by decide +kernel
theorem d_Pl_replace_134 : decode bc_Pl_replace 134 = .ok (.getfield 28, 3) := by decide +kernel
theorem d_Pl_replace_137 : decode bc_Pl_replace 137 = .ok (.iload_n 3, 1) := by decide +kernel
theorem d_Pl_replace_138 : decode bc_Pl_replace 138 = .ok (.iaload, 1) := by decide +kernel
theorem d_Pl_replace_139 : decode bc_Pl_replace 139 = .ok (.aload_n 0, 1) := by decide +kernel
theorem d_Pl_replace_140 : decode bc_Pl_replace 140 = .ok (.getfield 18, 3) := by decide +kernel
theorem d_Pl_replace_143 : decode bc_Pl_replace 143 = .ok (.getfield 56, 3) := by decide +kernel
theorem d_Pl_replace_146 : decode bc_Pl_replace 146 = .ok (.aload_n 0, 1) := by decide +kernel
theorem d_Pl_replace_147 : decode bc_Pl_replace 147 = .ok (.getfield 22, 3) := by decide +kernel
theorem d_Pl_replace_150 : decode bc_Pl_replace 150 = .ok (.invokevirtual 52, 3) := by decide +kernel
theorem d_Pl_replace_153 : decode bc_Pl_replace 153 = .ok (.aload_n 0, 1) := by decide +kernel
theorem d_Pl_replace_154 : decode bc_Pl_replace 154 = .ok (.getfield 18, 3) := by decide +kernel
theorem d_Pl_replace_157 : decode bc_Pl_replace 157 = .ok (.astore 5, 2) := by decide +kernel
theorem d_Pl_replace_159 : decode bc_Pl_replace 159 = .ok (.aload_n 0, 1) := by decide +kernel
theorem d_Pl_replace_160 : decode bc_Pl_replace 160 = .ok (.aload_n 0, 1) := by decide +kernel
theorem d_Pl_replace_161 : decode bc_Pl_replace 161 = .ok (.getfield 22, 3) := by decide +kernel
theorem d_Pl_replace_164 : decode bc_Pl_replace 164 = .ok (.putfield 18, 3) := by decide +kernel
theorem d_Pl_replace_167 : decode bc_Pl_replace 167 = .ok (.aload_n 0, 1) := by decide +kernel
theorem d_Pl_replace_168 : decode bc_Pl_replace 168 = .ok (.aload 5, 2) := by decide +kernel
theorem d_Pl_replace_170 : decode bc_Pl_replace 170 = .ok (.putfield 22, 3) := by decide +kernel
theorem d_Pl_replace_173 : decode bc_Pl_replace 173 = .ok (.return_, 1) := by decide +kernel
abbrev bc_Pl_copyRightSide : ByteArray := prog_8_method_4_code
abbrev y_Pl_copyRightSide : MethodName := ⟨"KindRounds$Plainer", "copyRightSide", "(I)V"⟩
theorem d_Pl_copyRightSide_0 : decode bc_Pl_copyRightSide 0 = .ok (.aload_n 0, 1) := by decide +kernel
theorem d_Pl_copyRightSide_1 : decode bc_Pl_copyRightSide 1 = .ok (.getfield 9, 3) := by decide +kernel
theorem d_Pl_copyRightSide_4 : decode bc_Pl_copyRightSide 4 = .ok (.getfield 90, 3) := by decide +kernel
theorem d_Pl_copyRightSide_7 : decode bc_Pl_copyRightSide 7 = .ok (.astore_n 2, 1) := by decide +kernel
theorem d_Pl_copyRightSide_8 : decode bc_Pl_copyRightSide 8 = .ok (.aload_n 2, 1) := by decide +kernel
theorem d_Pl_copyRightSide_9 : decode bc_Pl_copyRightSide 9 = .ok (.iload_n 1, 1) := by decide +kernel
theorem d_Pl_copyRightSide_10 : decode bc_Pl_copyRightSide 10 = .ok (.invokevirtual 93, 3) := by decide +kernel
theorem d_Pl_copyRightSide_13 : decode bc_Pl_copyRightSide 13 = .ok (.istore_n 3, 1) := by decide +kernel
theorem d_Pl_copyRightSide_14 : decode bc_Pl_copyRightSide 14 = .ok (.aload_n 2, 1) := by decide +kernel
theorem d_Pl_copyRightSide_15 : decode bc_Pl_copyRightSide 15 = .ok (.iload_n 3, 1) := by decide +kernel
theorem d_Pl_copyRightSide_16 : decode bc_Pl_copyRightSide 16 = .ok (.invokevirtual 48, 3) := by decide +kernel
theorem d_Pl_copyRightSide_19 : decode bc_Pl_copyRightSide 19 = .ok (.istore 4, 2) := by decide +kernel
theorem d_Pl_copyRightSide_21 : decode bc_Pl_copyRightSide 21 = .ok (.aload_n 2, 1) := by decide +kernel
theorem d_Pl_copyRightSide_22 : decode bc_Pl_copyRightSide 22 = .ok (.getfield 45, 3) := by decide +kernel
theorem d_Pl_copyRightSide_25 : decode bc_Pl_copyRightSide 25 = .ok (.iload_n 3, 1) := by decide +kernel
theorem d_Pl_copyRightSide_26 : decode bc_Pl_copyRightSide 26 = .ok (.iaload, 1) := by decide +kernel
theorem d_Pl_copyRightSide_27 : decode bc_Pl_copyRightSide 27 = .ok (.istore 5, 2) := by decide +kernel
theorem d_Pl_copyRightSide_29 : decode bc_Pl_copyRightSide 29 = .ok (.iload 5, 2) := by decide +kernel
theorem d_Pl_copyRightSide_31 : decode bc_Pl_copyRightSide 31 = .ok (.iload 4, 2) := by decide +kernel
theorem d_Pl_copyRightSide_33 : decode bc_Pl_copyRightSide 33 = .ok (.if_icmp .ge 133, 3) := by decide +kernel
theorem d_Pl_copyRightSide_36 : decode bc_Pl_copyRightSide 36 = .ok (.aload_n 2, 1) := by decide +kernel
theorem d_Pl_copyRightSide_37 : decode bc_Pl_copyRightSide 37 = .ok (.getfield 60, 3) := by decide +kernel
theorem d_Pl_copyRightSide_40 : decode bc_Pl_copyRightSide 40 = .ok (.iload 5, 2) := by decide +kernel
theorem d_Pl_copyRightSide_42 : decode bc_Pl_copyRightSide 42 = .ok (.iaload, 1) := by decide +kernel
theorem d_Pl_copyRightSide_43 : decode bc_Pl_copyRightSide 43 = .ok (.iconst 3, 1) := by decide +kernel
theorem d_Pl_copyRightSide_44 : decode bc_Pl_copyRightSide 44 = .ok (.if_icmp .ne 21, 3) := by decide +kernel
theorem d_Pl_copyRightSide_47 : decode bc_Pl_copyRightSide 47 = .ok (.aload_n 0, 1) := by decide +kernel
theorem d_Pl_copyRightSide_48 : decode bc_Pl_copyRightSide 48 = .ok (.getfield 9, 3) := by decide +kernel
theorem d_Pl_copyRightSide_51 : decode bc_Pl_copyRightSide 51 = .ok (.iload_n 1, 1) := by decide +kernel
theorem d_Pl_copyRightSide_52 : decode bc_Pl_copyRightSide 52 = .ok (.aload_n 2, 1) := by decide +kernel
theorem d_Pl_copyRightSide_53 : decode bc_Pl_copyRightSide 53 = .ok (.getfield 63, 3) := by decide +kernel
theorem d_Pl_copyRightSide_56 : decode bc_Pl_copyRightSide 56 = .ok (.iload 5, 2) := by decide +kernel
theorem d_Pl_copyRightSide_58 : decode bc_Pl_copyRightSide 58 = .ok (.laload, 1) := by decide +kernel
theorem d_Pl_copyRightSide_59 : decode bc_Pl_copyRightSide 59 = .ok (.invokevirtual 96, 3) := by decide +kernel
theorem d_Pl_copyRightSide_62 : decode bc_Pl_copyRightSide 62 = .ok (.goto 4, 3) := by decide +kernel
theorem d_Pl_copyRightSide_65 : decode bc_Pl_copyRightSide 65 = .ok (.iconst (-1), 1) := by decide +kernel
theorem d_Pl_copyRightSide_66 : decode bc_Pl_copyRightSide 66 = .ok (.istore 6, 2) := by decide +kernel
theorem d_Pl_copyRightSide_68 : decode bc_Pl_copyRightSide 68 = .ok (.iload 6, 2) := by decide +kernel
theorem d_Pl_copyRightSide_70 : decode bc_Pl_copyRightSide 70 = .ok (.ifCond .ge 21, 3) := by decide +kernel
theorem d_Pl_copyRightSide_73 : decode bc_Pl_copyRightSide 73 = .ok (.aload_n 0, 1) := by decide +kernel
theorem d_Pl_copyRightSide_74 : decode bc_Pl_copyRightSide 74 = .ok (.aload_n 2, 1) := by decide +kernel
theorem d_Pl_copyRightSide_75 : decode bc_Pl_copyRightSide 75 = .ok (.iload 5, 2) := by decide +kernel
theorem d_Pl_copyRightSide_77 : decode bc_Pl_copyRightSide 77 = .ok (.iload 5, 2) := by decide +kernel
theorem d_Pl_copyRightSide_79 : decode bc_Pl_copyRightSide 79 = .ok (.iconst 1, 1) := by decide +kernel
theorem d_Pl_copyRightSide_80 : decode bc_Pl_copyRightSide 80 = .ok (.iadd, 1) := by decide +kernel
theorem d_Pl_copyRightSide_81 : decode bc_Pl_copyRightSide 81 = .ok (.aload_n 0, 1) := by decide +kernel
theorem d_Pl_copyRightSide_82 : decode bc_Pl_copyRightSide 82 = .ok (.getfield 22, 3) := by decide +kernel
theorem d_Pl_copyRightSide_85 : decode bc_Pl_copyRightSide 85 = .ok (.invokevirtual 52, 3) := by decide +kernel
theorem d_Pl_copyRightSide_88 : decode bc_Pl_copyRightSide 88 = .ok (.goto 72, 3) := by decide +kernel
theorem d_Pl_copyRightSide_91 : decode bc_Pl_copyRightSide 91 = .ok (.aload_n 0, 1) := by decide +kernel
theorem d_Pl_copyRightSide_92 : decode bc_Pl_copyRightSide 92 = .ok (.getfield 22, 3) := by decide +kernel
theorem d_Pl_copyRightSide_95 : decode bc_Pl_copyRightSide 95 = .ok (.getfield 56, 3) := by decide +kernel
theorem d_Pl_copyRightSide_98 : decode bc_Pl_copyRightSide 98 = .ok (.istore 7, 2) := by decide +kernel
theorem d_Pl_copyRightSide_100 : decode bc_Pl_copyRightSide 100 = .ok (.aload_n 0, 1) := by decide +kernel
theorem d_Pl_copyRightSide_101 : decode bc_Pl_copyRightSide 101 = .ok (.aload_n 0, 1) := by decide +kernel
theorem d_Pl_copyRightSide_102 : decode bc_Pl_copyRightSide 102 = .ok (.getfield 18, 3) := by decide +kernel
theorem d_Pl_copyRightSide_105 : decode bc_Pl_copyRightSide 105 = .ok (.aload_n 0, 1) := by decide +kernel
theorem d_Pl_copyRightSide_106 : decode bc_Pl_copyRightSide 106 = .ok (.getfield 28, 3) := by decide +kernel
theorem d_Pl_copyRightSide_109 : decode bc_Pl_copyRightSide 109 = .ok (.iload 6, 2) := by decide +kernel
theorem d_Pl_copyRightSide_111 : decode bc_Pl_copyRightSide 111 = .ok (.iaload, 1) := by decide +kernel
theorem d_Pl_copyRightSide_112 : decode bc_Pl_copyRightSide 112 = .ok (.aload_n 0, 1) := by decide +kernel
theorem d_Pl_copyRightSide_113 : decode bc_Pl_copyRightSide 113 = .ok (.getfield 28, 3) := by decide +kernel
theorem d_Pl_copyRightSide_116 : decode bc_Pl_copyRightSide 116 = .ok (.iload 6, 2) := by decide +kernel
theorem d_Pl_copyRightSide_118 : decode bc_Pl_copyRightSide 118 = .ok (.iconst 1, 1) := by decide +kernel
theorem d_Pl_copyRightSide_119 : decode bc_Pl_copyRightSide 119 = .ok (.iadd, 1) := by decide +kernel
theorem d_Pl_copyRightSide_120 : decode bc_Pl_copyRightSide 120 = .ok (.iaload, 1) := by decide +kernel
theorem d_Pl_copyRightSide_121 : decode bc_Pl_copyRightSide 121 = .ok (.aload_n 0, 1) := by decide +kernel
theorem d_Pl_copyRightSide_122 : decode bc_Pl_copyRightSide 122 = .ok (.getfield 22, 3) := by decide +kernel
theorem d_Pl_copyRightSide_125 : decode bc_Pl_copyRightSide 125 = .ok (.invokevirtual 52, 3) := by decide +kernel
theorem d_Pl_copyRightSide_128 : decode bc_Pl_copyRightSide 128 = .ok (.iload 7, 2) := by decide +kernel
theorem d_Pl_copyRightSide_130 : decode bc_Pl_copyRightSide 130 = .ok (.aload_n 0, 1) := by decide +kernel
theorem d_Pl_copyRightSide_131 : decode bc_Pl_copyRightSide 131 = .ok (.getfield 22, 3) := by decide +kernel
theorem d_Pl_copyRightSide_134 : decode bc_Pl_copyRightSide 134 = .ok (.getfield 56, 3) := by decide +kernel
theorem d_Pl_copyRightSide_137 : decode bc_Pl_copyRightSide 137 = .ok (.if_icmp .ge 23, 3) := by decide +kernel
theorem d_Pl_copyRightSide_140 : decode bc_Pl_copyRightSide 140 = .ok (.aload_n 0, 1) := by decide +kernel
theorem d_Pl_copyRightSide_141 : decode bc_Pl_copyRightSide 141 = .ok (.getfield 22, 3) := by decide +kernel
theorem d_Pl_copyRightSide_144 : decode bc_Pl_copyRightSide 144 = .ok (.getfield 87, 3) := by decide +kernel
theorem d_Pl_copyRightSide_147 : decode bc_Pl_copyRightSide 147 = .ok (.iload 7, 2) := by decide +kernel
theorem d_Pl_copyRightSide_149 : decode bc_Pl_copyRightSide 149 = .ok (.dup2, 1) := by decide +kernel
theorem d_Pl_copyRightSide_150 : decode bc_Pl_copyRightSide 150 = .ok (.iaload, 1) := by decide +kernel
theorem d_Pl_copyRightSide_151 : decode bc_Pl_copyRightSide 151 = .ok (.aload_n 2, 1) := by decide +kernel
theorem d_Pl_copyRightSide_152 : decode bc_Pl_copyRightSide 152 = .ok (.getfield 87, 3) := by decide +kernel
theorem d_Pl_copyRightSide_155 : decode bc_Pl_copyRightSide 155 = .ok (.iload 5, 2) := by decide +kernel
theorem d_Pl_copyRightSide_157 : decode bc_Pl_copyRightSide 157 = .ok (.iaload, 1) := by decide +kernel
theorem d_Pl_copyRightSide_158 : decode bc_Pl_copyRightSide 158 = .ok (.iadd, 1) := by decide +kernel
theorem d_Pl_copyRightSide_159 : decode bc_Pl_copyRightSide 159 = .ok (.iastore, 1) := by decide +kernel
theorem d_Pl_copyRightSide_160 : decode bc_Pl_copyRightSide 160 = .ok (.iinc 5 1, 3) := by decide +kernel
theorem d_Pl_copyRightSide_163 : decode bc_Pl_copyRightSide 163 = .ok (.goto (-134), 3) := by decide +kernel
theorem d_Pl_copyRightSide_166 : decode bc_Pl_copyRightSide 166 = .ok (.return_, 1) := by decide +kernel
abbrev bc_Pl_copyNodes : ByteArray := prog_8_method_5_code
abbrev y_Pl_copyNodes : MethodName := ⟨"KindRounds$Plainer", "copyNodes", "(LKindRounds$Row;IILKindRounds$Row;)V"⟩
theorem d_Pl_copyNodes_0 : decode bc_Pl_copyNodes 0 = .ok (.iload_n 2, 1) := by decide +kernel
theorem d_Pl_copyNodes_1 : decode bc_Pl_copyNodes 1 = .ok (.istore 5, 2) := by decide +kernel
theorem d_Pl_copyNodes_3 : decode bc_Pl_copyNodes 3 = .ok (.iload 5, 2) := by decide +kernel
theorem d_Pl_copyNodes_5 : decode bc_Pl_copyNodes 5 = .ok (.iload_n 3, 1) := by decide +kernel
theorem d_Pl_copyNodes_6 : decode bc_Pl_copyNodes 6 = .ok (.if_icmp .ge 47, 3) := by decide +kernel
theorem d_Pl_copyNodes_9 : decode bc_Pl_copyNodes 9 = .ok (.aload_n 0, 1) := by decide +kernel
theorem d_Pl_copyNodes_10 : decode bc_Pl_copyNodes 10 = .ok (.getfield 41, 3) := by decide +kernel
theorem d_Pl_copyNodes_13 : decode bc_Pl_copyNodes 13 = .ok (.ifCond .eq 40, 3) := by decide +kernel
theorem d_Pl_copyNodes_16 : decode bc_Pl_copyNodes 16 = .ok (.aload_n 0, 1) := by decide +kernel
theorem d_Pl_copyNodes_17 : decode bc_Pl_copyNodes 17 = .ok (.aload 4, 2) := by decide +kernel
theorem d_Pl_copyNodes_19 : decode bc_Pl_copyNodes 19 = .ok (.aload_n 1, 1) := by decide +kernel
theorem d_Pl_copyNodes_20 : decode bc_Pl_copyNodes 20 = .ok (.getfield 60, 3) := by decide +kernel
theorem d_Pl_copyNodes_23 : decode bc_Pl_copyNodes 23 = .ok (.iload 5, 2) := by decide +kernel
theorem d_Pl_copyNodes_25 : decode bc_Pl_copyNodes 25 = .ok (.iaload, 1) := by decide +kernel
theorem d_Pl_copyNodes_26 : decode bc_Pl_copyNodes 26 = .ok (.aload_n 1, 1) := by decide +kernel
theorem d_Pl_copyNodes_27 : decode bc_Pl_copyNodes 27 = .ok (.getfield 63, 3) := by decide +kernel
theorem d_Pl_copyNodes_30 : decode bc_Pl_copyNodes 30 = .ok (.iload 5, 2) := by decide +kernel
theorem d_Pl_copyNodes_32 : decode bc_Pl_copyNodes 32 = .ok (.laload, 1) := by decide +kernel
theorem d_Pl_copyNodes_33 : decode bc_Pl_copyNodes 33 = .ok (.aload_n 1, 1) := by decide +kernel
theorem d_Pl_copyNodes_34 : decode bc_Pl_copyNodes 34 = .ok (.getfield 87, 3) := by decide +kernel
theorem d_Pl_copyNodes_37 : decode bc_Pl_copyNodes 37 = .ok (.iload 5, 2) := by decide +kernel
theorem d_Pl_copyNodes_39 : decode bc_Pl_copyNodes 39 = .ok (.iaload, 1) := by decide +kernel
theorem d_Pl_copyNodes_40 : decode bc_Pl_copyNodes 40 = .ok (.iconst 0, 1) := by decide +kernel
theorem d_Pl_copyNodes_41 : decode bc_Pl_copyNodes 41 = .ok (.invokevirtual 99, 3) := by decide +kernel
theorem d_Pl_copyNodes_44 : decode bc_Pl_copyNodes 44 = .ok (.putfield 41, 3) := by decide +kernel
theorem d_Pl_copyNodes_47 : decode bc_Pl_copyNodes 47 = .ok (.iinc 5 1, 3) := by decide +kernel
theorem d_Pl_copyNodes_50 : decode bc_Pl_copyNodes 50 = .ok (.goto (-47), 3) := by decide +kernel
theorem d_Pl_copyNodes_53 : decode bc_Pl_copyNodes 53 = .ok (.return_, 1) := by decide +kernel
abbrev bc_Pl_keep : ByteArray := prog_8_method_6_code
abbrev y_Pl_keep : MethodName := ⟨"KindRounds$Plainer", "keep", "()V"⟩
theorem d_Pl_keep_0 : decode bc_Pl_keep 0 = .ok (.aload_n 0, 1) := by decide +kernel
theorem d_Pl_keep_1 : decode bc_Pl_keep 1 = .ok (.getfield 25, 3) := by decide +kernel
theorem d_Pl_keep_4 : decode bc_Pl_keep 4 = .ok (.astore_n 1, 1) := by decide +kernel
theorem d_Pl_keep_5 : decode bc_Pl_keep 5 = .ok (.aload_n 0, 1) := by decide +kernel
theorem d_Pl_keep_6 : decode bc_Pl_keep 6 = .ok (.aload_n 0, 1) := by decide +kernel
theorem d_Pl_keep_7 : decode bc_Pl_keep 7 = .ok (.getfield 18, 3) := by decide +kernel
theorem d_Pl_keep_10 : decode bc_Pl_keep 10 = .ok (.putfield 25, 3) := by decide +kernel
theorem d_Pl_keep_13 : decode bc_Pl_keep 13 = .ok (.aload_n 0, 1) := by decide +kernel
theorem d_Pl_keep_14 : decode bc_Pl_keep 14 = .ok (.aload_n 1, 1) := by decide +kernel
theorem d_Pl_keep_15 : decode bc_Pl_keep 15 = .ok (.putfield 18, 3) := by decide +kernel
theorem d_Pl_keep_18 : decode bc_Pl_keep 18 = .ok (.return_, 1) := by decide +kernel
abbrev bc_Pl_isAsKept : ByteArray := prog_8_method_7_code
abbrev y_Pl_isAsKept : MethodName := ⟨"KindRounds$Plainer", "isAsKept", "()Z"⟩
theorem d_Pl_isAsKept_0 : decode bc_Pl_isAsKept 0 = .ok (.aload_n 0, 1) := by decide +kernel
theorem d_Pl_isAsKept_1 : decode bc_Pl_isAsKept 1 = .ok (.getfield 18, 3) := by decide +kernel
theorem d_Pl_isAsKept_4 : decode bc_Pl_isAsKept 4 = .ok (.aload_n 0, 1) := by decide +kernel
theorem d_Pl_isAsKept_5 : decode bc_Pl_isAsKept 5 = .ok (.getfield 25, 3) := by decide +kernel
theorem d_Pl_isAsKept_8 : decode bc_Pl_isAsKept 8 = .ok (.invokevirtual 103, 3) := by decide +kernel
theorem d_Pl_isAsKept_11 : decode bc_Pl_isAsKept 11 = .ok (.ireturn, 1) := by decide +kernel
abbrev bc_Pl_show : ByteArray := prog_8_method_8_code
abbrev y_Pl_show : MethodName := ⟨"KindRounds$Plainer", "show", "(LKindRounds$Line;)V"⟩
theorem d_Pl_show_0 : decode bc_Pl_show 0 = .ok (.aload_n 1, 1) := by decide +kernel
theorem d_Pl_show_1 : decode bc_Pl_show 1 = .ok (.invokevirtual 107, 3) := by decide +kernel
theorem d_Pl_show_4 : decode bc_Pl_show 4 = .ok (.aload_n 0, 1) := by decide +kernel
theorem d_Pl_show_5 : decode bc_Pl_show 5 = .ok (.iconst 0, 1) := by decide +kernel
theorem d_Pl_show_6 : decode bc_Pl_show 6 = .ok (.putfield 110, 3) := by decide +kernel
theorem d_Pl_show_9 : decode bc_Pl_show 9 = .ok (.iconst 0, 1) := by decide +kernel
theorem d_Pl_show_10 : decode bc_Pl_show 10 = .ok (.istore_n 2, 1) := by decide +kernel
theorem d_Pl_show_11 : decode bc_Pl_show 11 = .ok (.iload_n 2, 1) := by decide +kernel
theorem d_Pl_show_12 : decode bc_Pl_show 12 = .ok (.aload_n 0, 1) := by decide +kernel
theorem d_Pl_show_13 : decode bc_Pl_show 13 = .ok (.getfield 18, 3) := by decide +kernel
theorem d_Pl_show_16 : decode bc_Pl_show 16 = .ok (.getfield 56, 3) := by decide +kernel
theorem d_Pl_show_19 : decode bc_Pl_show 19 = .ok (.if_icmp .ge 60, 3) := by decide +kernel
theorem d_Pl_show_22 : decode bc_Pl_show 22 = .ok (.aload_n 0, 1) := by decide +kernel
theorem d_Pl_show_23 : decode bc_Pl_show 23 = .ok (.getfield 110, 3) := by decide +kernel
theorem d_Pl_show_26 : decode bc_Pl_show 26 = .ok (.sipush 200, 3) := by decide +kernel
theorem d_Pl_show_29 : decode bc_Pl_show 29 = .ok (.if_icmp .ge 50, 3) := by decide +kernel
theorem d_Pl_show_32 : decode bc_Pl_show 32 = .ok (.aload_n 0, 1) := by decide +kernel
theorem d_Pl_show_33 : decode bc_Pl_show 33 = .ok (.iload_n 2, 1) := by decide +kernel
theorem d_Pl_show_34 : decode bc_Pl_show 34 = .ok (.aload_n 1, 1) := by decide +kernel
theorem d_Pl_show_35 : decode bc_Pl_show 35 = .ok (.invokevirtual 113, 3) := by decide +kernel
theorem d_Pl_show_38 : decode bc_Pl_show 38 = .ok (.aload_n 0, 1) := by decide +kernel
theorem d_Pl_show_39 : decode bc_Pl_show 39 = .ok (.getfield 32, 3) := by decide +kernel
theorem d_Pl_show_42 : decode bc_Pl_show 42 = .ok (.aload_n 0, 1) := by decide +kernel
theorem d_Pl_show_43 : decode bc_Pl_show 43 = .ok (.getfield 110, 3) := by decide +kernel
theorem d_Pl_show_46 : decode bc_Pl_show 46 = .ok (.iload_n 2, 1) := by decide +kernel
theorem d_Pl_show_47 : decode bc_Pl_show 47 = .ok (.iastore, 1) := by decide +kernel
theorem d_Pl_show_48 : decode bc_Pl_show 48 = .ok (.aload_n 0, 1) := by decide +kernel
theorem d_Pl_show_49 : decode bc_Pl_show 49 = .ok (.getfield 35, 3) := by decide +kernel
theorem d_Pl_show_52 : decode bc_Pl_show 52 = .ok (.aload_n 0, 1) := by decide +kernel
theorem d_Pl_show_53 : decode bc_Pl_show 53 = .ok (.getfield 110, 3) := by decide +kernel
theorem d_Pl_show_56 : decode bc_Pl_show 56 = .ok (.iconst 0, 1) := by decide +kernel
theorem d_Pl_show_57 : decode bc_Pl_show 57 = .ok (.iastore, 1) := by decide +kernel
theorem d_Pl_show_58 : decode bc_Pl_show 58 = .ok (.aload_n 0, 1) := by decide +kernel
theorem d_Pl_show_59 : decode bc_Pl_show 59 = .ok (.dup, 1) := by decide +kernel
theorem d_Pl_show_60 : decode bc_Pl_show 60 = .ok (.getfield 110, 3) := by decide +kernel
theorem d_Pl_show_63 : decode bc_Pl_show 63 = .ok (.iconst 1, 1) := by decide +kernel
theorem d_Pl_show_64 : decode bc_Pl_show 64 = .ok (.iadd, 1) := by decide +kernel
theorem d_Pl_show_65 : decode bc_Pl_show 65 = .ok (.putfield 110, 3) := by decide +kernel
theorem d_Pl_show_68 : decode bc_Pl_show 68 = .ok (.aload_n 0, 1) := by decide +kernel
theorem d_Pl_show_69 : decode bc_Pl_show 69 = .ok (.aload_n 1, 1) := by decide +kernel
theorem d_Pl_show_70 : decode bc_Pl_show 70 = .ok (.invokevirtual 117, 3) := by decide +kernel
theorem d_Pl_show_73 : decode bc_Pl_show 73 = .ok (.iinc 2 1, 3) := by decide +kernel
theorem d_Pl_show_76 : decode bc_Pl_show 76 = .ok (.goto (-65), 3) := by decide +kernel
theorem d_Pl_show_79 : decode bc_Pl_show 79 = .ok (.return_, 1) := by decide +kernel
abbrev bc_Pl_beginNode : ByteArray := prog_8_method_9_code
abbrev y_Pl_beginNode : MethodName := ⟨"KindRounds$Plainer", "beginNode", "(ILKindRounds$Line;)V"⟩
theorem d_Pl_beginNode_0 : decode bc_Pl_beginNode 0 = .ok (.aload_n 0, 1) := by decide +kernel
theorem d_Pl_beginNode_1 : decode bc_Pl_beginNode 1 = .ok (.getfield 110, 3) := by decide +kernel
theorem d_Pl_beginNode_4 : decode bc_Pl_beginNode 4 = .ok (.ifCond .le 60, 3) := by decide +kernel
theorem d_Pl_beginNode_7 : decode bc_Pl_beginNode 7 = .ok (.aload_n 0, 1) := by decide +kernel
theorem d_Pl_beginNode_8 : decode bc_Pl_beginNode 8 = .ok (.getfield 32, 3) := by decide +kernel
theorem d_Pl_beginNode_11 : decode bc_Pl_beginNode 11 = .ok (.aload_n 0, 1) := by decide +kernel
theorem d_Pl_beginNode_12 : decode bc_Pl_beginNode 12 = .ok (.getfield 110, 3) := by decide +kernel
theorem d_Pl_beginNode_15 : decode bc_Pl_beginNode 15 = .ok (.iconst 1, 1) := by decide +kernel
theorem d_Pl_beginNode_16 : decode bc_Pl_beginNode 16 = .ok (.isub, 1) := by decide +kernel
theorem d_Pl_beginNode_17 : decode bc_Pl_beginNode 17 = .ok (.iaload, 1) := by decide +kernel
theorem d_Pl_beginNode_18 : decode bc_Pl_beginNode 18 = .ok (.istore_n 3, 1) := by decide +kernel
theorem d_Pl_beginNode_19 : decode bc_Pl_beginNode 19 = .ok (.aload_n 0, 1) := by decide +kernel
theorem d_Pl_beginNode_20 : decode bc_Pl_beginNode 20 = .ok (.getfield 35, 3) := by decide +kernel
theorem d_Pl_beginNode_23 : decode bc_Pl_beginNode 23 = .ok (.aload_n 0, 1) := by decide +kernel
theorem d_Pl_beginNode_24 : decode bc_Pl_beginNode 24 = .ok (.getfield 110, 3) := by decide +kernel
theorem d_Pl_beginNode_27 : decode bc_Pl_beginNode 27 = .ok (.iconst 1, 1) := by decide +kernel
theorem d_Pl_beginNode_28 : decode bc_Pl_beginNode 28 = .ok (.isub, 1) := by decide +kernel
theorem d_Pl_beginNode_29 : decode bc_Pl_beginNode 29 = .ok (.iaload, 1) := by decide +kernel
theorem d_Pl_beginNode_30 : decode bc_Pl_beginNode 30 = .ok (.istore 4, 2) := by decide +kernel
theorem d_Pl_beginNode_32 : decode bc_Pl_beginNode 32 = .ok (.iload 4, 2) := by decide +kernel
theorem d_Pl_beginNode_34 : decode bc_Pl_beginNode 34 = .ok (.aload_n 0, 1) := by decide +kernel
theorem d_Pl_beginNode_35 : decode bc_Pl_beginNode 35 = .ok (.getfield 18, 3) := by decide +kernel
theorem d_Pl_beginNode_38 : decode bc_Pl_beginNode 38 = .ok (.iload_n 3, 1) := by decide +kernel
theorem d_Pl_beginNode_39 : decode bc_Pl_beginNode 39 = .ok (.invokevirtual 121, 3) := by decide +kernel
theorem d_Pl_beginNode_42 : decode bc_Pl_beginNode 42 = .ok (.if_icmp .lt 12, 3) := by decide +kernel
theorem d_Pl_beginNode_45 : decode bc_Pl_beginNode 45 = .ok (.aload_n 2, 1) := by decide +kernel
theorem d_Pl_beginNode_46 : decode bc_Pl_beginNode 46 = .ok (.bipush 32, 2) := by decide +kernel
theorem d_Pl_beginNode_48 : decode bc_Pl_beginNode 48 = .ok (.invokevirtual 124, 3) := by decide +kernel
theorem d_Pl_beginNode_51 : decode bc_Pl_beginNode 51 = .ok (.goto 13, 3) := by decide +kernel
theorem d_Pl_beginNode_54 : decode bc_Pl_beginNode 54 = .ok (.iload 4, 2) := by decide +kernel
theorem d_Pl_beginNode_56 : decode bc_Pl_beginNode 56 = .ok (.iconst 1, 1) := by decide +kernel
theorem d_Pl_beginNode_57 : decode bc_Pl_beginNode 57 = .ok (.if_icmp .ne 7, 3) := by decide +kernel
theorem d_Pl_beginNode_60 : decode bc_Pl_beginNode 60 = .ok (.aload_n 2, 1) := by decide +kernel
theorem d_Pl_beginNode_61 : decode bc_Pl_beginNode 61 = .ok (.invokevirtual 127, 3) := by decide +kernel
theorem d_Pl_beginNode_64 : decode bc_Pl_beginNode 64 = .ok (.aload_n 0, 1) := by decide +kernel
theorem d_Pl_beginNode_65 : decode bc_Pl_beginNode 65 = .ok (.iload_n 1, 1) := by decide +kernel
theorem d_Pl_beginNode_66 : decode bc_Pl_beginNode 66 = .ok (.aload_n 0, 1) := by decide +kernel
theorem d_Pl_beginNode_67 : decode bc_Pl_beginNode 67 = .ok (.getfield 110, 3) := by decide +kernel
theorem d_Pl_beginNode_70 : decode bc_Pl_beginNode 70 = .ok (.iconst 1, 1) := by decide +kernel
theorem d_Pl_beginNode_71 : decode bc_Pl_beginNode 71 = .ok (.isub, 1) := by decide +kernel
theorem d_Pl_beginNode_72 : decode bc_Pl_beginNode 72 = .ok (.invokevirtual 130, 3) := by decide +kernel
theorem d_Pl_beginNode_75 : decode bc_Pl_beginNode 75 = .ok (.ifCond .eq 9, 3) := by decide +kernel
theorem d_Pl_beginNode_78 : decode bc_Pl_beginNode 78 = .ok (.aload_n 2, 1) := by decide +kernel
theorem d_Pl_beginNode_79 : decode bc_Pl_beginNode 79 = .ok (.bipush 40, 2) := by decide +kernel
theorem d_Pl_beginNode_81 : decode bc_Pl_beginNode 81 = .ok (.invokevirtual 124, 3) := by decide +kernel
theorem d_Pl_beginNode_84 : decode bc_Pl_beginNode 84 = .ok (.aload_n 0, 1) := by decide +kernel
theorem d_Pl_beginNode_85 : decode bc_Pl_beginNode 85 = .ok (.getfield 18, 3) := by decide +kernel
theorem d_Pl_beginNode_88 : decode bc_Pl_beginNode 88 = .ok (.getfield 60, 3) := by decide +kernel
theorem d_Pl_beginNode_91 : decode bc_Pl_beginNode 91 = .ok (.iload_n 1, 1) := by decide +kernel
theorem d_Pl_beginNode_92 : decode bc_Pl_beginNode 92 = .ok (.iaload, 1) := by decide +kernel
theorem d_Pl_beginNode_93 : decode bc_Pl_beginNode 93 = .ok (.bipush 91, 2) := by decide +kernel
theorem d_Pl_beginNode_95 : decode bc_Pl_beginNode 95 = .ok (.if_icmp .ne 9, 3) := by decide +kernel
theorem d_Pl_beginNode_98 : decode bc_Pl_beginNode 98 = .ok (.aload_n 2, 1) := by decide +kernel
theorem d_Pl_beginNode_99 : decode bc_Pl_beginNode 99 = .ok (.bipush 91, 2) := by decide +kernel
theorem d_Pl_beginNode_101 : decode bc_Pl_beginNode 101 = .ok (.invokevirtual 124, 3) := by decide +kernel
theorem d_Pl_beginNode_104 : decode bc_Pl_beginNode 104 = .ok (.aload_n 2, 1) := by decide +kernel
theorem d_Pl_beginNode_105 : decode bc_Pl_beginNode 105 = .ok (.aload_n 0, 1) := by decide +kernel
theorem d_Pl_beginNode_106 : decode bc_Pl_beginNode 106 = .ok (.getfield 18, 3) := by decide +kernel
theorem d_Pl_beginNode_109 : decode bc_Pl_beginNode 109 = .ok (.getfield 63, 3) := by decide +kernel
theorem d_Pl_beginNode_112 : decode bc_Pl_beginNode 112 = .ok (.iload_n 1, 1) := by decide +kernel
theorem d_Pl_beginNode_113 : decode bc_Pl_beginNode 113 = .ok (.laload, 1) := by decide +kernel
theorem d_Pl_beginNode_114 : decode bc_Pl_beginNode 114 = .ok (.invokevirtual 134, 3) := by decide +kernel
theorem d_Pl_beginNode_117 : decode bc_Pl_beginNode 117 = .ok (.return_, 1) := by decide +kernel
abbrev bc_Pl_endNodes : ByteArray := prog_8_method_10_code
abbrev y_Pl_endNodes : MethodName := ⟨"KindRounds$Plainer", "endNodes", "(LKindRounds$Line;)V"⟩
theorem d_Pl_endNodes_0 : decode bc_Pl_endNodes 0 = .ok (.iconst 0, 1) := by decide +kernel
theorem d_Pl_endNodes_1 : decode bc_Pl_endNodes 1 = .ok (.istore_n 2, 1) := by decide +kernel
theorem d_Pl_endNodes_2 : decode bc_Pl_endNodes 2 = .ok (.iload_n 2, 1) := by decide +kernel
theorem d_Pl_endNodes_3 : decode bc_Pl_endNodes 3 = .ok (.sipush 200, 3) := by decide +kernel
theorem d_Pl_endNodes_6 : decode bc_Pl_endNodes 6 = .ok (.if_icmp .ge 139, 3) := by decide +kernel
theorem d_Pl_endNodes_9 : decode bc_Pl_endNodes 9 = .ok (.aload_n 0, 1) := by decide +kernel
theorem d_Pl_endNodes_10 : decode bc_Pl_endNodes 10 = .ok (.getfield 110, 3) := by decide +kernel
theorem d_Pl_endNodes_13 : decode bc_Pl_endNodes 13 = .ok (.ifCond .le 132, 3) := by decide +kernel
theorem d_Pl_endNodes_16 : decode bc_Pl_endNodes 16 = .ok (.aload_n 0, 1) := by decide +kernel
theorem d_Pl_endNodes_17 : decode bc_Pl_endNodes 17 = .ok (.getfield 32, 3) := by decide +kernel
theorem d_Pl_endNodes_20 : decode bc_Pl_endNodes 20 = .ok (.aload_n 0, 1) := by decide +kernel
theorem d_Pl_endNodes_21 : decode bc_Pl_endNodes 21 = .ok (.getfield 110, 3) := by decide +kernel
theorem d_Pl_endNodes_24 : decode bc_Pl_endNodes 24 = .ok (.iconst 1, 1) := by decide +kernel
theorem d_Pl_endNodes_25 : decode bc_Pl_endNodes 25 = .ok (.isub, 1) := by decide +kernel
theorem d_Pl_endNodes_26 : decode bc_Pl_endNodes 26 = .ok (.iaload, 1) := by decide +kernel
theorem d_Pl_endNodes_27 : decode bc_Pl_endNodes 27 = .ok (.istore_n 3, 1) := by decide +kernel
theorem d_Pl_endNodes_28 : decode bc_Pl_endNodes 28 = .ok (.aload_n 0, 1) := by decide +kernel
theorem d_Pl_endNodes_29 : decode bc_Pl_endNodes 29 = .ok (.getfield 18, 3) := by decide +kernel
theorem d_Pl_endNodes_32 : decode bc_Pl_endNodes 32 = .ok (.getfield 60, 3) := by decide +kernel
theorem d_Pl_endNodes_35 : decode bc_Pl_endNodes 35 = .ok (.iload_n 3, 1) := by decide +kernel
theorem d_Pl_endNodes_36 : decode bc_Pl_endNodes 36 = .ok (.iaload, 1) := by decide +kernel
theorem d_Pl_endNodes_37 : decode bc_Pl_endNodes 37 = .ok (.bipush 91, 2) := by decide +kernel
theorem d_Pl_endNodes_39 : decode bc_Pl_endNodes 39 = .ok (.if_icmp .ne 24, 3) := by decide +kernel
theorem d_Pl_endNodes_42 : decode bc_Pl_endNodes 42 = .ok (.aload_n 0, 1) := by decide +kernel
theorem d_Pl_endNodes_43 : decode bc_Pl_endNodes 43 = .ok (.getfield 35, 3) := by decide +kernel
theorem d_Pl_endNodes_46 : decode bc_Pl_endNodes 46 = .ok (.aload_n 0, 1) := by decide +kernel
theorem d_Pl_endNodes_47 : decode bc_Pl_endNodes 47 = .ok (.getfield 110, 3) := by decide +kernel
theorem d_Pl_endNodes_50 : decode bc_Pl_endNodes 50 = .ok (.iconst 1, 1) := by decide +kernel
theorem d_Pl_endNodes_51 : decode bc_Pl_endNodes 51 = .ok (.isub, 1) := by decide +kernel
theorem d_Pl_endNodes_52 : decode bc_Pl_endNodes 52 = .ok (.iaload, 1) := by decide +kernel
theorem d_Pl_endNodes_53 : decode bc_Pl_endNodes 53 = .ok (.iconst 1, 1) := by decide +kernel
theorem d_Pl_endNodes_54 : decode bc_Pl_endNodes 54 = .ok (.if_icmp .ne 9, 3) := by decide +kernel
theorem d_Pl_endNodes_57 : decode bc_Pl_endNodes 57 = .ok (.aload_n 1, 1) := by decide +kernel
theorem d_Pl_endNodes_58 : decode bc_Pl_endNodes 58 = .ok (.bipush 93, 2) := by decide +kernel
theorem d_Pl_endNodes_60 : decode bc_Pl_endNodes 60 = .ok (.invokevirtual 124, 3) := by decide +kernel
theorem d_Pl_endNodes_63 : decode bc_Pl_endNodes 63 = .ok (.aload_n 0, 1) := by decide +kernel
theorem d_Pl_endNodes_64 : decode bc_Pl_endNodes 64 = .ok (.getfield 35, 3) := by decide +kernel
theorem d_Pl_endNodes_67 : decode bc_Pl_endNodes 67 = .ok (.aload_n 0, 1) := by decide +kernel
theorem d_Pl_endNodes_68 : decode bc_Pl_endNodes 68 = .ok (.getfield 110, 3) := by decide +kernel
theorem d_Pl_endNodes_71 : decode bc_Pl_endNodes 71 = .ok (.iconst 1, 1) := by decide +kernel
theorem d_Pl_endNodes_72 : decode bc_Pl_endNodes 72 = .ok (.isub, 1) := by decide +kernel
theorem d_Pl_endNodes_73 : decode bc_Pl_endNodes 73 = .ok (.iaload, 1) := by decide +kernel
theorem d_Pl_endNodes_74 : decode bc_Pl_endNodes 74 = .ok (.aload_n 0, 1) := by decide +kernel
theorem d_Pl_endNodes_75 : decode bc_Pl_endNodes 75 = .ok (.getfield 18, 3) := by decide +kernel
theorem d_Pl_endNodes_78 : decode bc_Pl_endNodes 78 = .ok (.getfield 87, 3) := by decide +kernel
theorem d_Pl_endNodes_81 : decode bc_Pl_endNodes 81 = .ok (.iload_n 3, 1) := by decide +kernel
theorem d_Pl_endNodes_82 : decode bc_Pl_endNodes 82 = .ok (.iaload, 1) := by decide +kernel
theorem d_Pl_endNodes_83 : decode bc_Pl_endNodes 83 = .ok (.if_icmp .ge 4, 3) := by decide +kernel
theorem d_Pl_endNodes_86 : decode bc_Pl_endNodes 86 = .ok (.return_, 1) := by decide +kernel
theorem d_Pl_endNodes_87 : decode bc_Pl_endNodes 87 = .ok (.aload_n 0, 1) := by decide +kernel
theorem d_Pl_endNodes_88 : decode bc_Pl_endNodes 88 = .ok (.dup, 1) := by decide +kernel
theorem d_Pl_endNodes_89 : decode bc_Pl_endNodes 89 = .ok (.getfield 110, 3) := by decide +kernel
theorem d_Pl_endNodes_92 : decode bc_Pl_endNodes 92 = .ok (.iconst 1, 1) := by decide +kernel
theorem d_Pl_endNodes_93 : decode bc_Pl_endNodes 93 = .ok (.isub, 1) := by decide +kernel
theorem d_Pl_endNodes_94 : decode bc_Pl_endNodes 94 = .ok (.putfield 110, 3) := by decide +kernel
theorem d_Pl_endNodes_97 : decode bc_Pl_endNodes 97 = .ok (.aload_n 0, 1) := by decide +kernel
theorem d_Pl_endNodes_98 : decode bc_Pl_endNodes 98 = .ok (.iload_n 3, 1) := by decide +kernel
theorem d_Pl_endNodes_99 : decode bc_Pl_endNodes 99 = .ok (.aload_n 0, 1) := by decide +kernel
theorem d_Pl_endNodes_100 : decode bc_Pl_endNodes 100 = .ok (.getfield 110, 3) := by decide +kernel
theorem d_Pl_endNodes_103 : decode bc_Pl_endNodes 103 = .ok (.iconst 1, 1) := by decide +kernel
theorem d_Pl_endNodes_104 : decode bc_Pl_endNodes 104 = .ok (.isub, 1) := by decide +kernel
theorem d_Pl_endNodes_105 : decode bc_Pl_endNodes 105 = .ok (.invokevirtual 130, 3) := by decide +kernel
theorem d_Pl_endNodes_108 : decode bc_Pl_endNodes 108 = .ok (.ifCond .eq 9, 3) := by decide +kernel
theorem d_Pl_endNodes_111 : decode bc_Pl_endNodes 111 = .ok (.aload_n 1, 1) := by decide +kernel
theorem d_Pl_endNodes_112 : decode bc_Pl_endNodes 112 = .ok (.bipush 41, 2) := by decide +kernel
theorem d_Pl_endNodes_114 : decode bc_Pl_endNodes 114 = .ok (.invokevirtual 124, 3) := by decide +kernel
theorem d_Pl_endNodes_117 : decode bc_Pl_endNodes 117 = .ok (.aload_n 0, 1) := by decide +kernel
theorem d_Pl_endNodes_118 : decode bc_Pl_endNodes 118 = .ok (.getfield 110, 3) := by decide +kernel
theorem d_Pl_endNodes_121 : decode bc_Pl_endNodes 121 = .ok (.ifCond .le 18, 3) := by decide +kernel
theorem d_Pl_endNodes_124 : decode bc_Pl_endNodes 124 = .ok (.aload_n 0, 1) := by decide +kernel
theorem d_Pl_endNodes_125 : decode bc_Pl_endNodes 125 = .ok (.getfield 35, 3) := by decide +kernel
theorem d_Pl_endNodes_128 : decode bc_Pl_endNodes 128 = .ok (.aload_n 0, 1) := by decide +kernel
theorem d_Pl_endNodes_129 : decode bc_Pl_endNodes 129 = .ok (.getfield 110, 3) := by decide +kernel
theorem d_Pl_endNodes_132 : decode bc_Pl_endNodes 132 = .ok (.iconst 1, 1) := by decide +kernel
theorem d_Pl_endNodes_133 : decode bc_Pl_endNodes 133 = .ok (.isub, 1) := by decide +kernel
theorem d_Pl_endNodes_134 : decode bc_Pl_endNodes 134 = .ok (.dup2, 1) := by decide +kernel
theorem d_Pl_endNodes_135 : decode bc_Pl_endNodes 135 = .ok (.iaload, 1) := by decide +kernel
theorem d_Pl_endNodes_136 : decode bc_Pl_endNodes 136 = .ok (.iconst 1, 1) := by decide +kernel
theorem d_Pl_endNodes_137 : decode bc_Pl_endNodes 137 = .ok (.iadd, 1) := by decide +kernel
theorem d_Pl_endNodes_138 : decode bc_Pl_endNodes 138 = .ok (.iastore, 1) := by decide +kernel
theorem d_Pl_endNodes_139 : decode bc_Pl_endNodes 139 = .ok (.iinc 2 1, 3) := by decide +kernel
theorem d_Pl_endNodes_142 : decode bc_Pl_endNodes 142 = .ok (.goto (-140), 3) := by decide +kernel
theorem d_Pl_endNodes_145 : decode bc_Pl_endNodes 145 = .ok (.return_, 1) := by decide +kernel
abbrev bc_Pl_isWrapped : ByteArray := prog_8_method_11_code
abbrev y_Pl_isWrapped : MethodName := ⟨"KindRounds$Plainer", "isWrapped", "(II)Z"⟩
theorem d_Pl_isWrapped_0 : decode bc_Pl_isWrapped 0 = .ok (.iload_n 2, 1) := by decide +kernel
theorem d_Pl_isWrapped_1 : decode bc_Pl_isWrapped 1 = .ok (.ifCond .ge 5, 3) := by decide +kernel
theorem d_Pl_isWrapped_4 : decode bc_Pl_isWrapped 4 = .ok (.iconst 0, 1) := by decide +kernel
theorem d_Pl_isWrapped_5 : decode bc_Pl_isWrapped 5 = .ok (.ireturn, 1) := by decide +kernel
theorem d_Pl_isWrapped_6 : decode bc_Pl_isWrapped 6 = .ok (.aload_n 0, 1) := by decide +kernel
theorem d_Pl_isWrapped_7 : decode bc_Pl_isWrapped 7 = .ok (.getfield 32, 3) := by decide +kernel
theorem d_Pl_isWrapped_10 : decode bc_Pl_isWrapped 10 = .ok (.iload_n 2, 1) := by decide +kernel
theorem d_Pl_isWrapped_11 : decode bc_Pl_isWrapped 11 = .ok (.iaload, 1) := by decide +kernel
theorem d_Pl_isWrapped_12 : decode bc_Pl_isWrapped 12 = .ok (.istore_n 3, 1) := by decide +kernel
theorem d_Pl_isWrapped_13 : decode bc_Pl_isWrapped 13 = .ok (.aload_n 0, 1) := by decide +kernel
theorem d_Pl_isWrapped_14 : decode bc_Pl_isWrapped 14 = .ok (.getfield 35, 3) := by decide +kernel
theorem d_Pl_isWrapped_17 : decode bc_Pl_isWrapped 17 = .ok (.iload_n 2, 1) := by decide +kernel
theorem d_Pl_isWrapped_18 : decode bc_Pl_isWrapped 18 = .ok (.iaload, 1) := by decide +kernel
theorem d_Pl_isWrapped_19 : decode bc_Pl_isWrapped 19 = .ok (.aload_n 0, 1) := by decide +kernel
theorem d_Pl_isWrapped_20 : decode bc_Pl_isWrapped 20 = .ok (.getfield 18, 3) := by decide +kernel
theorem d_Pl_isWrapped_23 : decode bc_Pl_isWrapped 23 = .ok (.iload_n 3, 1) := by decide +kernel
theorem d_Pl_isWrapped_24 : decode bc_Pl_isWrapped 24 = .ok (.invokevirtual 121, 3) := by decide +kernel
theorem d_Pl_isWrapped_27 : decode bc_Pl_isWrapped 27 = .ok (.if_icmp .lt 43, 3) := by decide +kernel
theorem d_Pl_isWrapped_30 : decode bc_Pl_isWrapped 30 = .ok (.aload_n 0, 1) := by decide +kernel
theorem d_Pl_isWrapped_31 : decode bc_Pl_isWrapped 31 = .ok (.getfield 18, 3) := by decide +kernel
theorem d_Pl_isWrapped_34 : decode bc_Pl_isWrapped 34 = .ok (.getfield 87, 3) := by decide +kernel
theorem d_Pl_isWrapped_37 : decode bc_Pl_isWrapped 37 = .ok (.iload_n 1, 1) := by decide +kernel
theorem d_Pl_isWrapped_38 : decode bc_Pl_isWrapped 38 = .ok (.iaload, 1) := by decide +kernel
theorem d_Pl_isWrapped_39 : decode bc_Pl_isWrapped 39 = .ok (.aload_n 0, 1) := by decide +kernel
theorem d_Pl_isWrapped_40 : decode bc_Pl_isWrapped 40 = .ok (.getfield 18, 3) := by decide +kernel
theorem d_Pl_isWrapped_43 : decode bc_Pl_isWrapped 43 = .ok (.iload_n 1, 1) := by decide +kernel
theorem d_Pl_isWrapped_44 : decode bc_Pl_isWrapped 44 = .ok (.invokevirtual 121, 3) := by decide +kernel
theorem d_Pl_isWrapped_47 : decode bc_Pl_isWrapped 47 = .ok (.if_icmp .gt 17, 3) := by decide +kernel
theorem d_Pl_isWrapped_50 : decode bc_Pl_isWrapped 50 = .ok (.aload_n 0, 1) := by decide +kernel
theorem d_Pl_isWrapped_51 : decode bc_Pl_isWrapped 51 = .ok (.getfield 18, 3) := by decide +kernel
theorem d_Pl_isWrapped_54 : decode bc_Pl_isWrapped 54 = .ok (.getfield 60, 3) := by decide +kernel
theorem d_Pl_isWrapped_57 : decode bc_Pl_isWrapped 57 = .ok (.iload_n 1, 1) := by decide +kernel
theorem d_Pl_isWrapped_58 : decode bc_Pl_isWrapped 58 = .ok (.iaload, 1) := by decide +kernel
theorem d_Pl_isWrapped_59 : decode bc_Pl_isWrapped 59 = .ok (.bipush 45, 2) := by decide +kernel
theorem d_Pl_isWrapped_61 : decode bc_Pl_isWrapped 61 = .ok (.if_icmp .ne 7, 3) := by decide +kernel
theorem d_Pl_isWrapped_64 : decode bc_Pl_isWrapped 64 = .ok (.iconst 1, 1) := by decide +kernel
theorem d_Pl_isWrapped_65 : decode bc_Pl_isWrapped 65 = .ok (.goto 4, 3) := by decide +kernel
theorem d_Pl_isWrapped_68 : decode bc_Pl_isWrapped 68 = .ok (.iconst 0, 1) := by decide +kernel
theorem d_Pl_isWrapped_69 : decode bc_Pl_isWrapped 69 = .ok (.ireturn, 1) := by decide +kernel
theorem d_Pl_isWrapped_70 : decode bc_Pl_isWrapped 70 = .ok (.aload_n 0, 1) := by decide +kernel
theorem d_Pl_isWrapped_71 : decode bc_Pl_isWrapped 71 = .ok (.getfield 18, 3) := by decide +kernel
theorem d_Pl_isWrapped_74 : decode bc_Pl_isWrapped 74 = .ok (.getfield 60, 3) := by decide +kernel
theorem d_Pl_isWrapped_77 : decode bc_Pl_isWrapped 77 = .ok (.iload_n 3, 1) := by decide +kernel
theorem d_Pl_isWrapped_78 : decode bc_Pl_isWrapped 78 = .ok (.iaload, 1) := by decide +kernel
theorem d_Pl_isWrapped_79 : decode bc_Pl_isWrapped 79 = .ok (.bipush 45, 2) := by decide +kernel
theorem d_Pl_isWrapped_81 : decode bc_Pl_isWrapped 81 = .ok (.if_icmp .ne 30, 3) := by decide +kernel
theorem d_Pl_isWrapped_84 : decode bc_Pl_isWrapped 84 = .ok (.aload_n 0, 1) := by decide +kernel
theorem d_Pl_isWrapped_85 : decode bc_Pl_isWrapped 85 = .ok (.getfield 35, 3) := by decide +kernel
theorem d_Pl_isWrapped_88 : decode bc_Pl_isWrapped 88 = .ok (.iload_n 2, 1) := by decide +kernel
theorem d_Pl_isWrapped_89 : decode bc_Pl_isWrapped 89 = .ok (.iaload, 1) := by decide +kernel
theorem d_Pl_isWrapped_90 : decode bc_Pl_isWrapped 90 = .ok (.ifCond .ne 21, 3) := by decide +kernel
theorem d_Pl_isWrapped_93 : decode bc_Pl_isWrapped 93 = .ok (.aload_n 0, 1) := by decide +kernel
theorem d_Pl_isWrapped_94 : decode bc_Pl_isWrapped 94 = .ok (.getfield 18, 3) := by decide +kernel
theorem d_Pl_isWrapped_97 : decode bc_Pl_isWrapped 97 = .ok (.getfield 60, 3) := by decide +kernel
theorem d_Pl_isWrapped_100 : decode bc_Pl_isWrapped 100 = .ok (.iload_n 1, 1) := by decide +kernel
theorem d_Pl_isWrapped_101 : decode bc_Pl_isWrapped 101 = .ok (.iaload, 1) := by decide +kernel
theorem d_Pl_isWrapped_102 : decode bc_Pl_isWrapped 102 = .ok (.bipush 45, 2) := by decide +kernel
theorem d_Pl_isWrapped_104 : decode bc_Pl_isWrapped 104 = .ok (.if_icmp .ne 7, 3) := by decide +kernel
theorem d_Pl_isWrapped_107 : decode bc_Pl_isWrapped 107 = .ok (.iconst 1, 1) := by decide +kernel
theorem d_Pl_isWrapped_108 : decode bc_Pl_isWrapped 108 = .ok (.goto 4, 3) := by decide +kernel
theorem d_Pl_isWrapped_111 : decode bc_Pl_isWrapped 111 = .ok (.iconst 0, 1) := by decide +kernel
theorem d_Pl_isWrapped_112 : decode bc_Pl_isWrapped 112 = .ok (.ireturn, 1) := by decide +kernel
abbrev bc_Q_feed : ByteArray := prog_1_method_2_code
abbrev y_Q_feed : MethodName := ⟨"KindRounds", "feed", "(IIIII)I"⟩
theorem d_Q_feed_0 : decode bc_Q_feed 0 = .ok (.aload_n 0, 1) := by decide +kernel
theorem d_Q_feed_1 : decode bc_Q_feed 1 = .ok (.getfield 10, 3) := by decide +kernel
theorem d_Q_feed_4 : decode bc_Q_feed 4 = .ok (.invokevirtual 97, 3) := by decide +kernel
theorem d_Q_feed_7 : decode bc_Q_feed 7 = .ok (.ifCond .ne 6, 3) := by decide +kernel
theorem d_Q_feed_10 : decode bc_Q_feed 10 = .ok (.bipush (-4), 2) := by decide +kernel
theorem d_Q_feed_12 : decode bc_Q_feed 12 = .ok (.ireturn, 1) := by decide +kernel
theorem d_Q_feed_13 : decode bc_Q_feed 13 = .ok (.aload_n 0, 1) := by decide +kernel
theorem d_Q_feed_14 : decode bc_Q_feed 14 = .ok (.getfield 10, 3) := by decide +kernel
theorem d_Q_feed_17 : decode bc_Q_feed 17 = .ok (.iload_n 1, 1) := by decide +kernel
theorem d_Q_feed_18 : decode bc_Q_feed 18 = .ok (.invokevirtual 101, 3) := by decide +kernel
theorem d_Q_feed_21 : decode bc_Q_feed 21 = .ok (.aload_n 0, 1) := by decide +kernel
theorem d_Q_feed_22 : decode bc_Q_feed 22 = .ok (.getfield 10, 3) := by decide +kernel
theorem d_Q_feed_25 : decode bc_Q_feed 25 = .ok (.iload_n 2, 1) := by decide +kernel
theorem d_Q_feed_26 : decode bc_Q_feed 26 = .ok (.invokevirtual 101, 3) := by decide +kernel
theorem d_Q_feed_29 : decode bc_Q_feed 29 = .ok (.aload_n 0, 1) := by decide +kernel
theorem d_Q_feed_30 : decode bc_Q_feed 30 = .ok (.getfield 10, 3) := by decide +kernel
theorem d_Q_feed_33 : decode bc_Q_feed 33 = .ok (.iload_n 3, 1) := by decide +kernel
theorem d_Q_feed_34 : decode bc_Q_feed 34 = .ok (.invokevirtual 101, 3) := by decide +kernel
theorem d_Q_feed_37 : decode bc_Q_feed 37 = .ok (.aload_n 0, 1) := by decide +kernel
theorem d_Q_feed_38 : decode bc_Q_feed 38 = .ok (.getfield 10, 3) := by decide +kernel
theorem d_Q_feed_41 : decode bc_Q_feed 41 = .ok (.iload 4, 2) := by decide +kernel
theorem d_Q_feed_43 : decode bc_Q_feed 43 = .ok (.invokevirtual 101, 3) := by decide +kernel
theorem d_Q_feed_46 : decode bc_Q_feed 46 = .ok (.aload_n 0, 1) := by decide +kernel
theorem d_Q_feed_47 : decode bc_Q_feed 47 = .ok (.getfield 10, 3) := by decide +kernel
theorem d_Q_feed_50 : decode bc_Q_feed 50 = .ok (.iload 5, 2) := by decide +kernel
theorem d_Q_feed_52 : decode bc_Q_feed 52 = .ok (.invokevirtual 101, 3) := by decide +kernel
theorem d_Q_feed_55 : decode bc_Q_feed 55 = .ok (.aload_n 0, 1) := by decide +kernel
theorem d_Q_feed_56 : decode bc_Q_feed 56 = .ok (.getfield 10, 3) := by decide +kernel
theorem d_Q_feed_59 : decode bc_Q_feed 59 = .ok (.getfield 105, 3) := by decide +kernel
theorem d_Q_feed_62 : decode bc_Q_feed 62 = .ok (.ireturn, 1) := by decide +kernel
abbrev bc_Q_cut : ByteArray := prog_1_method_3_code
abbrev y_Q_cut : MethodName := ⟨"KindRounds", "cut", "(I)I"⟩
theorem d_Q_cut_0 : decode bc_Q_cut 0 = .ok (.iload_n 1, 1) := by decide +kernel
theorem d_Q_cut_1 : decode bc_Q_cut 1 = .ok (.ifCond .lt 14, 3) := by decide +kernel
theorem d_Q_cut_4 : decode bc_Q_cut 4 = .ok (.iload_n 1, 1) := by decide +kernel
theorem d_Q_cut_5 : decode bc_Q_cut 5 = .ok (.aload_n 0, 1) := by decide +kernel
theorem d_Q_cut_6 : decode bc_Q_cut 6 = .ok (.getfield 10, 3) := by decide +kernel
theorem d_Q_cut_9 : decode bc_Q_cut 9 = .ok (.getfield 105, 3) := by decide +kernel
theorem d_Q_cut_12 : decode bc_Q_cut 12 = .ok (.if_icmp .le 6, 3) := by decide +kernel
theorem d_Q_cut_15 : decode bc_Q_cut 15 = .ok (.bipush (-2), 2) := by decide +kernel
theorem d_Q_cut_17 : decode bc_Q_cut 17 = .ok (.ireturn, 1) := by decide +kernel
theorem d_Q_cut_18 : decode bc_Q_cut 18 = .ok (.aload_n 0, 1) := by decide +kernel
theorem d_Q_cut_19 : decode bc_Q_cut 19 = .ok (.getfield 10, 3) := by decide +kernel
theorem d_Q_cut_22 : decode bc_Q_cut 22 = .ok (.getfield 105, 3) := by decide +kernel
theorem d_Q_cut_25 : decode bc_Q_cut 25 = .ok (.iload_n 1, 1) := by decide +kernel
theorem d_Q_cut_26 : decode bc_Q_cut 26 = .ok (.isub, 1) := by decide +kernel
theorem d_Q_cut_27 : decode bc_Q_cut 27 = .ok (.istore_n 2, 1) := by decide +kernel
theorem d_Q_cut_28 : decode bc_Q_cut 28 = .ok (.aload_n 0, 1) := by decide +kernel
theorem d_Q_cut_29 : decode bc_Q_cut 29 = .ok (.getfield 10, 3) := by decide +kernel
theorem d_Q_cut_32 : decode bc_Q_cut 32 = .ok (.iload_n 1, 1) := by decide +kernel
theorem d_Q_cut_33 : decode bc_Q_cut 33 = .ok (.putfield 105, 3) := by decide +kernel
theorem d_Q_cut_36 : decode bc_Q_cut 36 = .ok (.iload_n 2, 1) := by decide +kernel
theorem d_Q_cut_37 : decode bc_Q_cut 37 = .ok (.ireturn, 1) := by decide +kernel
abbrev bc_Q_read : ByteArray := prog_1_method_4_code
abbrev y_Q_read : MethodName := ⟨"KindRounds", "read", "()I"⟩
theorem d_Q_read_0 : decode bc_Q_read 0 = .ok (.aload_n 0, 1) := by decide +kernel
theorem d_Q_read_1 : decode bc_Q_read 1 = .ok (.getfield 19, 3) := by decide +kernel
theorem d_Q_read_4 : decode bc_Q_read 4 = .ok (.invokevirtual 109, 3) := by decide +kernel
theorem d_Q_read_7 : decode bc_Q_read 7 = .ok (.aload_n 0, 1) := by decide +kernel
theorem d_Q_read_8 : decode bc_Q_read 8 = .ok (.getfield 40, 3) := by decide +kernel
theorem d_Q_read_11 : decode bc_Q_read 11 = .ok (.invokevirtual 112, 3) := by decide +kernel
theorem d_Q_read_14 : decode bc_Q_read 14 = .ok (.aload_n 0, 1) := by decide +kernel
theorem d_Q_read_15 : decode bc_Q_read 15 = .ok (.getfield 26, 3) := by decide +kernel
theorem d_Q_read_18 : decode bc_Q_read 18 = .ok (.invokevirtual 113, 3) := by decide +kernel
theorem d_Q_read_21 : decode bc_Q_read 21 = .ok (.aload_n 0, 1) := by decide +kernel
theorem d_Q_read_22 : decode bc_Q_read 22 = .ok (.getfield 33, 3) := by decide +kernel
theorem d_Q_read_25 : decode bc_Q_read 25 = .ok (.invokevirtual 114, 3) := by decide +kernel
theorem d_Q_read_28 : decode bc_Q_read 28 = .ok (.aload_n 0, 1) := by decide +kernel
theorem d_Q_read_29 : decode bc_Q_read 29 = .ok (.getfield 10, 3) := by decide +kernel
theorem d_Q_read_32 : decode bc_Q_read 32 = .ok (.invokevirtual 115, 3) := by decide +kernel
theorem d_Q_read_35 : decode bc_Q_read 35 = .ok (.aload_n 0, 1) := by decide +kernel
theorem d_Q_read_36 : decode bc_Q_read 36 = .ok (.getfield 56, 3) := by decide +kernel
theorem d_Q_read_39 : decode bc_Q_read 39 = .ok (.invokevirtual 118, 3) := by decide +kernel
theorem d_Q_read_42 : decode bc_Q_read 42 = .ok (.aload_n 0, 1) := by decide +kernel
theorem d_Q_read_43 : decode bc_Q_read 43 = .ok (.getfield 10, 3) := by decide +kernel
theorem d_Q_read_46 : decode bc_Q_read 46 = .ok (.iconst 0, 1) := by decide +kernel
theorem d_Q_read_47 : decode bc_Q_read 47 = .ok (.putfield 105, 3) := by decide +kernel
theorem d_Q_read_50 : decode bc_Q_read 50 = .ok (.aload_n 0, 1) := by decide +kernel
theorem d_Q_read_51 : decode bc_Q_read 51 = .ok (.getfield 65, 3) := by decide +kernel
theorem d_Q_read_54 : decode bc_Q_read 54 = .ok (.invokevirtual 121, 3) := by decide +kernel
theorem d_Q_read_57 : decode bc_Q_read 57 = .ok (.aload_n 0, 1) := by decide +kernel
theorem d_Q_read_58 : decode bc_Q_read 58 = .ok (.getfield 19, 3) := by decide +kernel
theorem d_Q_read_61 : decode bc_Q_read 61 = .ok (.invokevirtual 124, 3) := by decide +kernel
theorem d_Q_read_64 : decode bc_Q_read 64 = .ok (.ifCond .ne 17, 3) := by decide +kernel
theorem d_Q_read_67 : decode bc_Q_read 67 = .ok (.aload_n 0, 1) := by decide +kernel
theorem d_Q_read_68 : decode bc_Q_read 68 = .ok (.getfield 33, 3) := by decide +kernel
theorem d_Q_read_71 : decode bc_Q_read 71 = .ok (.invokevirtual 127, 3) := by decide +kernel
theorem d_Q_read_74 : decode bc_Q_read 74 = .ok (.aload_n 0, 1) := by decide +kernel
theorem d_Q_read_75 : decode bc_Q_read 75 = .ok (.getfield 74, 3) := by decide +kernel
theorem d_Q_read_78 : decode bc_Q_read 78 = .ok (.invokevirtual 130, 3) := by decide +kernel
theorem d_Q_read_81 : decode bc_Q_read 81 = .ok (.aload_n 0, 1) := by decide +kernel
theorem d_Q_read_82 : decode bc_Q_read 82 = .ok (.getfield 19, 3) := by decide +kernel
theorem d_Q_read_85 : decode bc_Q_read 85 = .ok (.invokevirtual 124, 3) := by decide +kernel
theorem d_Q_read_88 : decode bc_Q_read 88 = .ok (.ifCond .eq 21, 3) := by decide +kernel
theorem d_Q_read_91 : decode bc_Q_read 91 = .ok (.aload_n 0, 1) := by decide +kernel
theorem d_Q_read_92 : decode bc_Q_read 92 = .ok (.getfield 33, 3) := by decide +kernel
theorem d_Q_read_95 : decode bc_Q_read 95 = .ok (.invokevirtual 114, 3) := by decide +kernel
theorem d_Q_read_98 : decode bc_Q_read 98 = .ok (.bipush (-10), 2) := by decide +kernel
theorem d_Q_read_100 : decode bc_Q_read 100 = .ok (.aload_n 0, 1) := by decide +kernel
theorem d_Q_read_101 : decode bc_Q_read 101 = .ok (.getfield 19, 3) := by decide +kernel
theorem d_Q_read_104 : decode bc_Q_read 104 = .ok (.getfield 133, 3) := by decide +kernel
theorem d_Q_read_107 : decode bc_Q_read 107 = .ok (.isub, 1) := by decide +kernel
theorem d_Q_read_108 : decode bc_Q_read 108 = .ok (.ireturn, 1) := by decide +kernel
theorem d_Q_read_109 : decode bc_Q_read 109 = .ok (.aload_n 0, 1) := by decide +kernel
theorem d_Q_read_110 : decode bc_Q_read 110 = .ok (.getfield 33, 3) := by decide +kernel
theorem d_Q_read_113 : decode bc_Q_read 113 = .ok (.getfield 136, 3) := by decide +kernel
theorem d_Q_read_116 : decode bc_Q_read 116 = .ok (.ireturn, 1) := by decide +kernel
abbrev bc_Q_place : ByteArray := prog_1_method_5_code
abbrev y_Q_place : MethodName := ⟨"KindRounds", "place", "()I"⟩
theorem d_Q_place_0 : decode bc_Q_place 0 = .ok (.aload_n 0, 1) := by decide +kernel
theorem d_Q_place_1 : decode bc_Q_place 1 = .ok (.getfield 19, 3) := by decide +kernel
theorem d_Q_place_4 : decode bc_Q_place 4 = .ok (.invokevirtual 124, 3) := by decide +kernel
theorem d_Q_place_7 : decode bc_Q_place 7 = .ok (.ifCond .eq 13, 3) := by decide +kernel
theorem d_Q_place_10 : decode bc_Q_place 10 = .ok (.aload_n 0, 1) := by decide +kernel
theorem d_Q_place_11 : decode bc_Q_place 11 = .ok (.getfield 19, 3) := by decide +kernel
theorem d_Q_place_14 : decode bc_Q_place 14 = .ok (.getfield 139, 3) := by decide +kernel
theorem d_Q_place_17 : decode bc_Q_place 17 = .ok (.goto 5, 3) := by decide +kernel
theorem d_Q_place_20 : decode bc_Q_place 20 = .ok (.bipush (-3), 2) := by decide +kernel
theorem d_Q_place_22 : decode bc_Q_place 22 = .ok (.ireturn, 1) := by decide +kernel
abbrev bc_Q_side : ByteArray := prog_1_method_6_code
abbrev y_Q_side : MethodName := ⟨"KindRounds", "side", "(I)I"⟩
theorem d_Q_side_0 : decode bc_Q_side 0 = .ok (.iload_n 1, 1) := by decide +kernel
theorem d_Q_side_1 : decode bc_Q_side 1 = .ok (.ifCond .eq 11, 3) := by decide +kernel
theorem d_Q_side_4 : decode bc_Q_side 4 = .ok (.iload_n 1, 1) := by decide +kernel
theorem d_Q_side_5 : decode bc_Q_side 5 = .ok (.iconst 1, 1) := by decide +kernel
theorem d_Q_side_6 : decode bc_Q_side 6 = .ok (.if_icmp .eq 6, 3) := by decide +kernel
theorem d_Q_side_9 : decode bc_Q_side 9 = .ok (.bipush (-2), 2) := by decide +kernel
theorem d_Q_side_11 : decode bc_Q_side 11 = .ok (.ireturn, 1) := by decide +kernel
theorem d_Q_side_12 : decode bc_Q_side 12 = .ok (.aload_n 0, 1) := by decide +kernel
theorem d_Q_side_13 : decode bc_Q_side 13 = .ok (.getfield 19, 3) := by decide +kernel
theorem d_Q_side_16 : decode bc_Q_side 16 = .ok (.getfield 133, 3) := by decide +kernel
theorem d_Q_side_19 : decode bc_Q_side 19 = .ok (.bipush 6, 2) := by decide +kernel
theorem d_Q_side_21 : decode bc_Q_side 21 = .ok (.if_icmp .eq 6, 3) := by decide +kernel
theorem d_Q_side_24 : decode bc_Q_side 24 = .ok (.bipush (-3), 2) := by decide +kernel
theorem d_Q_side_26 : decode bc_Q_side 26 = .ok (.ireturn, 1) := by decide +kernel
theorem d_Q_side_27 : decode bc_Q_side 27 = .ok (.iload_n 1, 1) := by decide +kernel
theorem d_Q_side_28 : decode bc_Q_side 28 = .ok (.ifCond .ne 13, 3) := by decide +kernel
theorem d_Q_side_31 : decode bc_Q_side 31 = .ok (.aload_n 0, 1) := by decide +kernel
theorem d_Q_side_32 : decode bc_Q_side 32 = .ok (.getfield 19, 3) := by decide +kernel
theorem d_Q_side_35 : decode bc_Q_side 35 = .ok (.getfield 142, 3) := by decide +kernel
theorem d_Q_side_38 : decode bc_Q_side 38 = .ok (.goto 10, 3) := by decide +kernel
theorem d_Q_side_41 : decode bc_Q_side 41 = .ok (.aload_n 0, 1) := by decide +kernel
theorem d_Q_side_42 : decode bc_Q_side 42 = .ok (.getfield 19, 3) := by decide +kernel
theorem d_Q_side_45 : decode bc_Q_side 45 = .ok (.getfield 145, 3) := by decide +kernel
theorem d_Q_side_48 : decode bc_Q_side 48 = .ok (.astore_n 2, 1) := by decide +kernel
theorem d_Q_side_49 : decode bc_Q_side 49 = .ok (.aload_n 2, 1) := by decide +kernel
theorem d_Q_side_50 : decode bc_Q_side 50 = .ok (.getfield 148, 3) := by decide +kernel
theorem d_Q_side_53 : decode bc_Q_side 53 = .ok (.sipush 2000, 3) := by decide +kernel
theorem d_Q_side_56 : decode bc_Q_side 56 = .ok (.if_icmp .le 6, 3) := by decide +kernel
theorem d_Q_side_59 : decode bc_Q_side 59 = .ok (.bipush (-4), 2) := by decide +kernel
theorem d_Q_side_61 : decode bc_Q_side 61 = .ok (.ireturn, 1) := by decide +kernel
theorem d_Q_side_62 : decode bc_Q_side 62 = .ok (.aload_n 0, 1) := by decide +kernel
theorem d_Q_side_63 : decode bc_Q_side 63 = .ok (.getfield 90, 3) := by decide +kernel
theorem d_Q_side_66 : decode bc_Q_side 66 = .ok (.aload_n 2, 1) := by decide +kernel
theorem d_Q_side_67 : decode bc_Q_side 67 = .ok (.invokevirtual 149, 3) := by decide +kernel
theorem d_Q_side_70 : decode bc_Q_side 70 = .ok (.aload_n 0, 1) := by decide +kernel
theorem d_Q_side_71 : decode bc_Q_side 71 = .ok (.getfield 90, 3) := by decide +kernel
theorem d_Q_side_74 : decode bc_Q_side 74 = .ok (.getfield 148, 3) := by decide +kernel
theorem d_Q_side_77 : decode bc_Q_side 77 = .ok (.ireturn, 1) := by decide +kernel
abbrev bc_Q_out : ByteArray := prog_1_method_7_code
abbrev y_Q_out : MethodName := ⟨"KindRounds", "out", "(I)I"⟩
theorem d_Q_out_0 : decode bc_Q_out 0 = .ok (.iload_n 1, 1) := by decide +kernel
theorem d_Q_out_1 : decode bc_Q_out 1 = .ok (.ifCond .lt 26, 3) := by decide +kernel
theorem d_Q_out_4 : decode bc_Q_out 4 = .ok (.iload_n 1, 1) := by decide +kernel
theorem d_Q_out_5 : decode bc_Q_out 5 = .ok (.aload_n 0, 1) := by decide +kernel
theorem d_Q_out_6 : decode bc_Q_out 6 = .ok (.getfield 90, 3) := by decide +kernel
theorem d_Q_out_9 : decode bc_Q_out 9 = .ok (.getfield 148, 3) := by decide +kernel
theorem d_Q_out_12 : decode bc_Q_out 12 = .ok (.if_icmp .ge 15, 3) := by decide +kernel
theorem d_Q_out_15 : decode bc_Q_out 15 = .ok (.aload_n 0, 1) := by decide +kernel
theorem d_Q_out_16 : decode bc_Q_out 16 = .ok (.getfield 90, 3) := by decide +kernel
theorem d_Q_out_19 : decode bc_Q_out 19 = .ok (.getfield 153, 3) := by decide +kernel
theorem d_Q_out_22 : decode bc_Q_out 22 = .ok (.iload_n 1, 1) := by decide +kernel
theorem d_Q_out_23 : decode bc_Q_out 23 = .ok (.baload, 1) := by decide +kernel
theorem d_Q_out_24 : decode bc_Q_out 24 = .ok (.goto 4, 3) := by decide +kernel
theorem d_Q_out_27 : decode bc_Q_out 27 = .ok (.iconst (-1), 1) := by decide +kernel
theorem d_Q_out_28 : decode bc_Q_out 28 = .ok (.ireturn, 1) := by decide +kernel
abbrev bc_Q_told : ByteArray := prog_1_method_8_code
abbrev y_Q_told : MethodName := ⟨"KindRounds", "told", "(II)I"⟩
theorem d_Q_told_0 : decode bc_Q_told 0 = .ok (.aload_n 0, 1) := by decide +kernel
theorem d_Q_told_1 : decode bc_Q_told 1 = .ok (.getfield 33, 3) := by decide +kernel
theorem d_Q_told_4 : decode bc_Q_told 4 = .ok (.iload_n 1, 1) := by decide +kernel
theorem d_Q_told_5 : decode bc_Q_told 5 = .ok (.invokevirtual 157, 3) := by decide +kernel
theorem d_Q_told_8 : decode bc_Q_told 8 = .ok (.ifCond .ne 5, 3) := by decide +kernel
theorem d_Q_told_11 : decode bc_Q_told 11 = .ok (.iconst (-1), 1) := by decide +kernel
theorem d_Q_told_12 : decode bc_Q_told 12 = .ok (.ireturn, 1) := by decide +kernel
theorem d_Q_told_13 : decode bc_Q_told 13 = .ok (.iload_n 2, 1) := by decide +kernel
theorem d_Q_told_14 : decode bc_Q_told 14 = .ok (.tableswitch 98 0 5 #[38, 48, 58, 68, 78, 88], 38) := by decide +kernel
theorem d_Q_told_52 : decode bc_Q_told 52 = .ok (.aload_n 0, 1) := by decide +kernel
theorem d_Q_told_53 : decode bc_Q_told 53 = .ok (.getfield 33, 3) := by decide +kernel
theorem d_Q_told_56 : decode bc_Q_told 56 = .ok (.getfield 161, 3) := by decide +kernel
theorem d_Q_told_59 : decode bc_Q_told 59 = .ok (.iload_n 1, 1) := by decide +kernel
theorem d_Q_told_60 : decode bc_Q_told 60 = .ok (.iaload, 1) := by decide +kernel
theorem d_Q_told_61 : decode bc_Q_told 61 = .ok (.ireturn, 1) := by decide +kernel
theorem d_Q_told_62 : decode bc_Q_told 62 = .ok (.aload_n 0, 1) := by decide +kernel
theorem d_Q_told_63 : decode bc_Q_told 63 = .ok (.getfield 33, 3) := by decide +kernel
theorem d_Q_told_66 : decode bc_Q_told 66 = .ok (.getfield 165, 3) := by decide +kernel
theorem d_Q_told_69 : decode bc_Q_told 69 = .ok (.iload_n 1, 1) := by decide +kernel
theorem d_Q_told_70 : decode bc_Q_told 70 = .ok (.iaload, 1) := by decide +kernel
theorem d_Q_told_71 : decode bc_Q_told 71 = .ok (.ireturn, 1) := by decide +kernel
theorem d_Q_told_72 : decode bc_Q_told 72 = .ok (.aload_n 0, 1) := by decide +kernel
theorem d_Q_told_73 : decode bc_Q_told 73 = .ok (.getfield 33, 3) := by decide +kernel
theorem d_Q_told_76 : decode bc_Q_told 76 = .ok (.getfield 168, 3) := by decide +kernel
theorem d_Q_told_79 : decode bc_Q_told 79 = .ok (.iload_n 1, 1) := by decide +kernel
theorem d_Q_told_80 : decode bc_Q_told 80 = .ok (.iaload, 1) := by decide +kernel
theorem d_Q_told_81 : decode bc_Q_told 81 = .ok (.ireturn, 1) := by decide +kernel
theorem d_Q_told_82 : decode bc_Q_told 82 = .ok (.aload_n 0, 1) := by decide +kernel
theorem d_Q_told_83 : decode bc_Q_told 83 = .ok (.getfield 33, 3) := by decide +kernel
theorem d_Q_told_86 : decode bc_Q_told 86 = .ok (.getfield 171, 3) := by decide +kernel
theorem d_Q_told_89 : decode bc_Q_told 89 = .ok (.iload_n 1, 1) := by decide +kernel
theorem d_Q_told_90 : decode bc_Q_told 90 = .ok (.iaload, 1) := by decide +kernel
theorem d_Q_told_91 : decode bc_Q_told 91 = .ok (.ireturn, 1) := by decide +kernel
theorem d_Q_told_92 : decode bc_Q_told 92 = .ok (.aload_n 0, 1) := by decide +kernel
theorem d_Q_told_93 : decode bc_Q_told 93 = .ok (.getfield 33, 3) := by decide +kernel
theorem d_Q_told_96 : decode bc_Q_told 96 = .ok (.getfield 174, 3) := by decide +kernel
theorem d_Q_told_99 : decode bc_Q_told 99 = .ok (.iload_n 1, 1) := by decide +kernel
theorem d_Q_told_100 : decode bc_Q_told 100 = .ok (.iaload, 1) := by decide +kernel
theorem d_Q_told_101 : decode bc_Q_told 101 = .ok (.ireturn, 1) := by decide +kernel
theorem d_Q_told_102 : decode bc_Q_told 102 = .ok (.aload_n 0, 1) := by decide +kernel
theorem d_Q_told_103 : decode bc_Q_told 103 = .ok (.getfield 33, 3) := by decide +kernel
theorem d_Q_told_106 : decode bc_Q_told 106 = .ok (.getfield 177, 3) := by decide +kernel
theorem d_Q_told_109 : decode bc_Q_told 109 = .ok (.iload_n 1, 1) := by decide +kernel
theorem d_Q_told_110 : decode bc_Q_told 110 = .ok (.iaload, 1) := by decide +kernel
theorem d_Q_told_111 : decode bc_Q_told 111 = .ok (.ireturn, 1) := by decide +kernel
theorem d_Q_told_112 : decode bc_Q_told 112 = .ok (.bipush (-2), 2) := by decide +kernel
theorem d_Q_told_114 : decode bc_Q_told 114 = .ok (.ireturn, 1) := by decide +kernel
abbrev bc_Q_kindOf : ByteArray := prog_1_method_9_code
abbrev y_Q_kindOf : MethodName := ⟨"KindRounds", "kindOf", "(II)I"⟩
theorem d_Q_kindOf_0 : decode bc_Q_kindOf 0 = .ok (.aload_n 0, 1) := by decide +kernel
theorem d_Q_kindOf_1 : decode bc_Q_kindOf 1 = .ok (.getfield 33, 3) := by decide +kernel
theorem d_Q_kindOf_4 : decode bc_Q_kindOf 4 = .ok (.iload_n 1, 1) := by decide +kernel
theorem d_Q_kindOf_5 : decode bc_Q_kindOf 5 = .ok (.invokevirtual 157, 3) := by decide +kernel
theorem d_Q_kindOf_8 : decode bc_Q_kindOf 8 = .ok (.ifCond .eq 21, 3) := by decide +kernel
theorem d_Q_kindOf_11 : decode bc_Q_kindOf 11 = .ok (.iload_n 2, 1) := by decide +kernel
theorem d_Q_kindOf_12 : decode bc_Q_kindOf 12 = .ok (.iconst (-1), 1) := by decide +kernel
theorem d_Q_kindOf_13 : decode bc_Q_kindOf 13 = .ok (.if_icmp .lt 16, 3) := by decide +kernel
theorem d_Q_kindOf_16 : decode bc_Q_kindOf 16 = .ok (.iload_n 2, 1) := by decide +kernel
theorem d_Q_kindOf_17 : decode bc_Q_kindOf 17 = .ok (.aload_n 0, 1) := by decide +kernel
theorem d_Q_kindOf_18 : decode bc_Q_kindOf 18 = .ok (.getfield 33, 3) := by decide +kernel
theorem d_Q_kindOf_21 : decode bc_Q_kindOf 21 = .ok (.getfield 165, 3) := by decide +kernel
theorem d_Q_kindOf_24 : decode bc_Q_kindOf 24 = .ok (.iload_n 1, 1) := by decide +kernel
theorem d_Q_kindOf_25 : decode bc_Q_kindOf 25 = .ok (.iaload, 1) := by decide +kernel
theorem d_Q_kindOf_26 : decode bc_Q_kindOf 26 = .ok (.if_icmp .lt 5, 3) := by decide +kernel
theorem d_Q_kindOf_29 : decode bc_Q_kindOf 29 = .ok (.iconst (-1), 1) := by decide +kernel
theorem d_Q_kindOf_30 : decode bc_Q_kindOf 30 = .ok (.ireturn, 1) := by decide +kernel
theorem d_Q_kindOf_31 : decode bc_Q_kindOf 31 = .ok (.aload_n 0, 1) := by decide +kernel
theorem d_Q_kindOf_32 : decode bc_Q_kindOf 32 = .ok (.iload_n 2, 1) := by decide +kernel
theorem d_Q_kindOf_33 : decode bc_Q_kindOf 33 = .ok (.ifCond .ge 15, 3) := by decide +kernel
theorem d_Q_kindOf_36 : decode bc_Q_kindOf 36 = .ok (.aload_n 0, 1) := by decide +kernel
theorem d_Q_kindOf_37 : decode bc_Q_kindOf 37 = .ok (.getfield 33, 3) := by decide +kernel
theorem d_Q_kindOf_40 : decode bc_Q_kindOf 40 = .ok (.getfield 180, 3) := by decide +kernel
theorem d_Q_kindOf_43 : decode bc_Q_kindOf 43 = .ok (.iload_n 1, 1) := by decide +kernel
theorem d_Q_kindOf_44 : decode bc_Q_kindOf 44 = .ok (.iaload, 1) := by decide +kernel
theorem d_Q_kindOf_45 : decode bc_Q_kindOf 45 = .ok (.goto 16, 3) := by decide +kernel
theorem d_Q_kindOf_48 : decode bc_Q_kindOf 48 = .ok (.aload_n 0, 1) := by decide +kernel
theorem d_Q_kindOf_49 : decode bc_Q_kindOf 49 = .ok (.getfield 33, 3) := by decide +kernel
theorem d_Q_kindOf_52 : decode bc_Q_kindOf 52 = .ok (.getfield 182, 3) := by decide +kernel
theorem d_Q_kindOf_55 : decode bc_Q_kindOf 55 = .ok (.iload_n 1, 1) := by decide +kernel
theorem d_Q_kindOf_56 : decode bc_Q_kindOf 56 = .ok (.iconst 3, 1) := by decide +kernel
theorem d_Q_kindOf_57 : decode bc_Q_kindOf 57 = .ok (.imul, 1) := by decide +kernel
theorem d_Q_kindOf_58 : decode bc_Q_kindOf 58 = .ok (.iload_n 2, 1) := by decide +kernel
theorem d_Q_kindOf_59 : decode bc_Q_kindOf 59 = .ok (.iadd, 1) := by decide +kernel
theorem d_Q_kindOf_60 : decode bc_Q_kindOf 60 = .ok (.iaload, 1) := by decide +kernel
theorem d_Q_kindOf_61 : decode bc_Q_kindOf 61 = .ok (.invokevirtual 185, 3) := by decide +kernel
theorem d_Q_kindOf_64 : decode bc_Q_kindOf 64 = .ok (.ireturn, 1) := by decide +kernel
abbrev bc_Q_groups : ByteArray := prog_1_method_10_code
abbrev y_Q_groups : MethodName := ⟨"KindRounds", "groups", "()I"⟩
theorem d_Q_groups_0 : decode bc_Q_groups 0 = .ok (.aload_n 0, 1) := by decide +kernel
theorem d_Q_groups_1 : decode bc_Q_groups 1 = .ok (.getfield 33, 3) := by decide +kernel
theorem d_Q_groups_4 : decode bc_Q_groups 4 = .ok (.getfield 189, 3) := by decide +kernel
theorem d_Q_groups_7 : decode bc_Q_groups 7 = .ok (.ireturn, 1) := by decide +kernel
abbrev bc_Q_member : ByteArray := prog_1_method_11_code
abbrev y_Q_member : MethodName := ⟨"KindRounds", "member", "(II)I"⟩
theorem d_Q_member_0 : decode bc_Q_member 0 = .ok (.iload_n 1, 1) := by decide +kernel
theorem d_Q_member_1 : decode bc_Q_member 1 = .ok (.ifCond .lt 18, 3) := by decide +kernel
theorem d_Q_member_4 : decode bc_Q_member 4 = .ok (.iload_n 1, 1) := by decide +kernel
theorem d_Q_member_5 : decode bc_Q_member 5 = .ok (.aload_n 0, 1) := by decide +kernel
theorem d_Q_member_6 : decode bc_Q_member 6 = .ok (.getfield 33, 3) := by decide +kernel
theorem d_Q_member_9 : decode bc_Q_member 9 = .ok (.getfield 189, 3) := by decide +kernel
theorem d_Q_member_12 : decode bc_Q_member 12 = .ok (.if_icmp .ge 7, 3) := by decide +kernel
theorem d_Q_member_15 : decode bc_Q_member 15 = .ok (.iload_n 2, 1) := by decide +kernel
theorem d_Q_member_16 : decode bc_Q_member 16 = .ok (.ifCond .ge 5, 3) := by decide +kernel
theorem d_Q_member_19 : decode bc_Q_member 19 = .ok (.iconst (-1), 1) := by decide +kernel
theorem d_Q_member_20 : decode bc_Q_member 20 = .ok (.ireturn, 1) := by decide +kernel
theorem d_Q_member_21 : decode bc_Q_member 21 = .ok (.aload_n 0, 1) := by decide +kernel
theorem d_Q_member_22 : decode bc_Q_member 22 = .ok (.getfield 33, 3) := by decide +kernel
theorem d_Q_member_25 : decode bc_Q_member 25 = .ok (.iload_n 1, 1) := by decide +kernel
theorem d_Q_member_26 : decode bc_Q_member 26 = .ok (.iload_n 2, 1) := by decide +kernel
theorem d_Q_member_27 : decode bc_Q_member 27 = .ok (.invokevirtual 192, 3) := by decide +kernel
theorem d_Q_member_30 : decode bc_Q_member 30 = .ok (.ireturn, 1) := by decide +kernel
abbrev bc_Q_needs : ByteArray := prog_1_method_12_code
abbrev y_Q_needs : MethodName := ⟨"KindRounds", "needs", "(II)I"⟩
theorem d_Q_needs_0 : decode bc_Q_needs 0 = .ok (.aload_n 0, 1) := by decide +kernel
theorem d_Q_needs_1 : decode bc_Q_needs 1 = .ok (.getfield 33, 3) := by decide +kernel
theorem d_Q_needs_4 : decode bc_Q_needs 4 = .ok (.iload_n 1, 1) := by decide +kernel
theorem d_Q_needs_5 : decode bc_Q_needs 5 = .ok (.invokevirtual 157, 3) := by decide +kernel
theorem d_Q_needs_8 : decode bc_Q_needs 8 = .ok (.ifCond .eq 14, 3) := by decide +kernel
theorem d_Q_needs_11 : decode bc_Q_needs 11 = .ok (.aload_n 0, 1) := by decide +kernel
theorem d_Q_needs_12 : decode bc_Q_needs 12 = .ok (.getfield 33, 3) := by decide +kernel
theorem d_Q_needs_15 : decode bc_Q_needs 15 = .ok (.iload_n 2, 1) := by decide +kernel
theorem d_Q_needs_16 : decode bc_Q_needs 16 = .ok (.invokevirtual 157, 3) := by decide +kernel
theorem d_Q_needs_19 : decode bc_Q_needs 19 = .ok (.ifCond .ne 5, 3) := by decide +kernel
theorem d_Q_needs_22 : decode bc_Q_needs 22 = .ok (.iconst (-1), 1) := by decide +kernel
theorem d_Q_needs_23 : decode bc_Q_needs 23 = .ok (.ireturn, 1) := by decide +kernel
theorem d_Q_needs_24 : decode bc_Q_needs 24 = .ok (.aload_n 0, 1) := by decide +kernel
theorem d_Q_needs_25 : decode bc_Q_needs 25 = .ok (.getfield 33, 3) := by decide +kernel
theorem d_Q_needs_28 : decode bc_Q_needs 28 = .ok (.getfield 196, 3) := by decide +kernel
theorem d_Q_needs_31 : decode bc_Q_needs 31 = .ok (.iload_n 1, 1) := by decide +kernel
theorem d_Q_needs_32 : decode bc_Q_needs 32 = .ok (.iaload, 1) := by decide +kernel
theorem d_Q_needs_33 : decode bc_Q_needs 33 = .ok (.iload_n 2, 1) := by decide +kernel
theorem d_Q_needs_34 : decode bc_Q_needs 34 = .ok (.ishr, 1) := by decide +kernel
theorem d_Q_needs_35 : decode bc_Q_needs 35 = .ok (.iconst 1, 1) := by decide +kernel
theorem d_Q_needs_36 : decode bc_Q_needs 36 = .ok (.iand, 1) := by decide +kernel
theorem d_Q_needs_37 : decode bc_Q_needs 37 = .ok (.ireturn, 1) := by decide +kernel
abbrev bc_Q_kind : ByteArray := prog_1_method_13_code
abbrev y_Q_kind : MethodName := ⟨"KindRounds", "kind", "()I"⟩
theorem d_Q_kind_0 : decode bc_Q_kind 0 = .ok (.aload_n 0, 1) := by decide +kernel
theorem d_Q_kind_1 : decode bc_Q_kind 1 = .ok (.iconst 1, 1) := by decide +kernel
theorem d_Q_kind_2 : decode bc_Q_kind 2 = .ok (.invokevirtual 199, 3) := by decide +kernel
theorem d_Q_kind_5 : decode bc_Q_kind 5 = .ok (.ifCond .ne 14, 3) := by decide +kernel
theorem d_Q_kind_8 : decode bc_Q_kind 8 = .ok (.bipush (-10), 2) := by decide +kernel
theorem d_Q_kind_10 : decode bc_Q_kind 10 = .ok (.aload_n 0, 1) := by decide +kernel
theorem d_Q_kind_11 : decode bc_Q_kind 11 = .ok (.getfield 19, 3) := by decide +kernel
theorem d_Q_kind_14 : decode bc_Q_kind 14 = .ok (.getfield 133, 3) := by decide +kernel
theorem d_Q_kind_17 : decode bc_Q_kind 17 = .ok (.isub, 1) := by decide +kernel
theorem d_Q_kind_18 : decode bc_Q_kind 18 = .ok (.ireturn, 1) := by decide +kernel
theorem d_Q_kind_19 : decode bc_Q_kind 19 = .ok (.aload_n 0, 1) := by decide +kernel
theorem d_Q_kind_20 : decode bc_Q_kind 20 = .ok (.aload_n 0, 1) := by decide +kernel
theorem d_Q_kind_21 : decode bc_Q_kind 21 = .ok (.getfield 74, 3) := by decide +kernel
theorem d_Q_kind_24 : decode bc_Q_kind 24 = .ok (.getfield 202, 3) := by decide +kernel
theorem d_Q_kind_27 : decode bc_Q_kind 27 = .ok (.invokevirtual 185, 3) := by decide +kernel
theorem d_Q_kind_30 : decode bc_Q_kind 30 = .ok (.ireturn, 1) := by decide +kernel
abbrev bc_Q_plain : ByteArray := prog_1_method_14_code
abbrev y_Q_plain : MethodName := ⟨"KindRounds", "plain", "()I"⟩
theorem d_Q_plain_0 : decode bc_Q_plain 0 = .ok (.aload_n 0, 1) := by decide +kernel
theorem d_Q_plain_1 : decode bc_Q_plain 1 = .ok (.iconst 1, 1) := by decide +kernel
theorem d_Q_plain_2 : decode bc_Q_plain 2 = .ok (.invokevirtual 199, 3) := by decide +kernel
theorem d_Q_plain_5 : decode bc_Q_plain 5 = .ok (.ifCond .ne 14, 3) := by decide +kernel
theorem d_Q_plain_8 : decode bc_Q_plain 8 = .ok (.bipush (-10), 2) := by decide +kernel
theorem d_Q_plain_10 : decode bc_Q_plain 10 = .ok (.aload_n 0, 1) := by decide +kernel
theorem d_Q_plain_11 : decode bc_Q_plain 11 = .ok (.getfield 19, 3) := by decide +kernel
theorem d_Q_plain_14 : decode bc_Q_plain 14 = .ok (.getfield 133, 3) := by decide +kernel
theorem d_Q_plain_17 : decode bc_Q_plain 17 = .ok (.isub, 1) := by decide +kernel
theorem d_Q_plain_18 : decode bc_Q_plain 18 = .ok (.ireturn, 1) := by decide +kernel
theorem d_Q_plain_19 : decode bc_Q_plain 19 = .ok (.aload_n 0, 1) := by decide +kernel
theorem d_Q_plain_20 : decode bc_Q_plain 20 = .ok (.getfield 83, 3) := by decide +kernel
theorem d_Q_plain_23 : decode bc_Q_plain 23 = .ok (.aload_n 0, 1) := by decide +kernel
theorem d_Q_plain_24 : decode bc_Q_plain 24 = .ok (.getfield 47, 3) := by decide +kernel
theorem d_Q_plain_27 : decode bc_Q_plain 27 = .ok (.iconst 0, 1) := by decide +kernel
theorem d_Q_plain_28 : decode bc_Q_plain 28 = .ok (.invokevirtual 205, 3) := by decide +kernel
theorem d_Q_plain_31 : decode bc_Q_plain 31 = .ok (.ifCond .ne 6, 3) := by decide +kernel
theorem d_Q_plain_34 : decode bc_Q_plain 34 = .ok (.bipush (-4), 2) := by decide +kernel
theorem d_Q_plain_36 : decode bc_Q_plain 36 = .ok (.ireturn, 1) := by decide +kernel
theorem d_Q_plain_37 : decode bc_Q_plain 37 = .ok (.aload_n 0, 1) := by decide +kernel
theorem d_Q_plain_38 : decode bc_Q_plain 38 = .ok (.getfield 83, 3) := by decide +kernel
theorem d_Q_plain_41 : decode bc_Q_plain 41 = .ok (.aload_n 0, 1) := by decide +kernel
theorem d_Q_plain_42 : decode bc_Q_plain 42 = .ok (.getfield 94, 3) := by decide +kernel
theorem d_Q_plain_45 : decode bc_Q_plain 45 = .ok (.invokevirtual 209, 3) := by decide +kernel
theorem d_Q_plain_48 : decode bc_Q_plain 48 = .ok (.aload_n 0, 1) := by decide +kernel
theorem d_Q_plain_49 : decode bc_Q_plain 49 = .ok (.invokevirtual 212, 3) := by decide +kernel
theorem d_Q_plain_52 : decode bc_Q_plain 52 = .ok (.aload_n 0, 1) := by decide +kernel
theorem d_Q_plain_53 : decode bc_Q_plain 53 = .ok (.getfield 90, 3) := by decide +kernel
theorem d_Q_plain_56 : decode bc_Q_plain 56 = .ok (.getfield 148, 3) := by decide +kernel
theorem d_Q_plain_59 : decode bc_Q_plain 59 = .ok (.ireturn, 1) := by decide +kernel
abbrev bc_Q_same : ByteArray := prog_1_method_15_code
abbrev y_Q_same : MethodName := ⟨"KindRounds", "same", "()I"⟩
theorem d_Q_same_0 : decode bc_Q_same 0 = .ok (.aload_n 0, 1) := by decide +kernel
theorem d_Q_same_1 : decode bc_Q_same 1 = .ok (.iconst 2, 1) := by decide +kernel
theorem d_Q_same_2 : decode bc_Q_same 2 = .ok (.invokevirtual 199, 3) := by decide +kernel
theorem d_Q_same_5 : decode bc_Q_same 5 = .ok (.ifCond .ne 14, 3) := by decide +kernel
theorem d_Q_same_8 : decode bc_Q_same 8 = .ok (.bipush (-10), 2) := by decide +kernel
theorem d_Q_same_10 : decode bc_Q_same 10 = .ok (.aload_n 0, 1) := by decide +kernel
theorem d_Q_same_11 : decode bc_Q_same 11 = .ok (.getfield 19, 3) := by decide +kernel
theorem d_Q_same_14 : decode bc_Q_same 14 = .ok (.getfield 133, 3) := by decide +kernel
theorem d_Q_same_17 : decode bc_Q_same 17 = .ok (.isub, 1) := by decide +kernel
theorem d_Q_same_18 : decode bc_Q_same 18 = .ok (.ireturn, 1) := by decide +kernel
theorem d_Q_same_19 : decode bc_Q_same 19 = .ok (.aload_n 0, 1) := by decide +kernel
theorem d_Q_same_20 : decode bc_Q_same 20 = .ok (.getfield 83, 3) := by decide +kernel
theorem d_Q_same_23 : decode bc_Q_same 23 = .ok (.aload_n 0, 1) := by decide +kernel
theorem d_Q_same_24 : decode bc_Q_same 24 = .ok (.getfield 47, 3) := by decide +kernel
theorem d_Q_same_27 : decode bc_Q_same 27 = .ok (.iconst 0, 1) := by decide +kernel
theorem d_Q_same_28 : decode bc_Q_same 28 = .ok (.invokevirtual 205, 3) := by decide +kernel
theorem d_Q_same_31 : decode bc_Q_same 31 = .ok (.ifCond .ne 6, 3) := by decide +kernel
theorem d_Q_same_34 : decode bc_Q_same 34 = .ok (.bipush (-4), 2) := by decide +kernel
theorem d_Q_same_36 : decode bc_Q_same 36 = .ok (.ireturn, 1) := by decide +kernel
theorem d_Q_same_37 : decode bc_Q_same 37 = .ok (.aload_n 0, 1) := by decide +kernel
theorem d_Q_same_38 : decode bc_Q_same 38 = .ok (.getfield 83, 3) := by decide +kernel
theorem d_Q_same_41 : decode bc_Q_same 41 = .ok (.invokevirtual 215, 3) := by decide +kernel
theorem d_Q_same_44 : decode bc_Q_same 44 = .ok (.aload_n 0, 1) := by decide +kernel
theorem d_Q_same_45 : decode bc_Q_same 45 = .ok (.getfield 83, 3) := by decide +kernel
theorem d_Q_same_48 : decode bc_Q_same 48 = .ok (.aload_n 0, 1) := by decide +kernel
theorem d_Q_same_49 : decode bc_Q_same 49 = .ok (.getfield 47, 3) := by decide +kernel
theorem d_Q_same_52 : decode bc_Q_same 52 = .ok (.iconst 1, 1) := by decide +kernel
theorem d_Q_same_53 : decode bc_Q_same 53 = .ok (.invokevirtual 205, 3) := by decide +kernel
theorem d_Q_same_56 : decode bc_Q_same 56 = .ok (.ifCond .ne 6, 3) := by decide +kernel
theorem d_Q_same_59 : decode bc_Q_same 59 = .ok (.bipush (-4), 2) := by decide +kernel
theorem d_Q_same_61 : decode bc_Q_same 61 = .ok (.ireturn, 1) := by decide +kernel
theorem d_Q_same_62 : decode bc_Q_same 62 = .ok (.aload_n 0, 1) := by decide +kernel
theorem d_Q_same_63 : decode bc_Q_same 63 = .ok (.getfield 83, 3) := by decide +kernel
theorem d_Q_same_66 : decode bc_Q_same 66 = .ok (.invokevirtual 218, 3) := by decide +kernel
theorem d_Q_same_69 : decode bc_Q_same 69 = .ok (.ifCond .eq 7, 3) := by decide +kernel
theorem d_Q_same_72 : decode bc_Q_same 72 = .ok (.iconst 1, 1) := by decide +kernel
theorem d_Q_same_73 : decode bc_Q_same 73 = .ok (.goto 4, 3) := by decide +kernel
theorem d_Q_same_76 : decode bc_Q_same 76 = .ok (.iconst 0, 1) := by decide +kernel
theorem d_Q_same_77 : decode bc_Q_same 77 = .ok (.ireturn, 1) := by decide +kernel
abbrev bc_Q_takeTypes : ByteArray := prog_1_method_16_code
abbrev y_Q_takeTypes : MethodName := ⟨"KindRounds", "takeTypes", "(I)Z"⟩
theorem d_Q_takeTypes_0 : decode bc_Q_takeTypes 0 = .ok (.aload_n 0, 1) := by decide +kernel
theorem d_Q_takeTypes_1 : decode bc_Q_takeTypes 1 = .ok (.getfield 19, 3) := by decide +kernel
theorem d_Q_takeTypes_4 : decode bc_Q_takeTypes 4 = .ok (.invokevirtual 109, 3) := by decide +kernel
theorem d_Q_takeTypes_7 : decode bc_Q_takeTypes 7 = .ok (.aload_n 0, 1) := by decide +kernel
theorem d_Q_takeTypes_8 : decode bc_Q_takeTypes 8 = .ok (.getfield 40, 3) := by decide +kernel
theorem d_Q_takeTypes_11 : decode bc_Q_takeTypes 11 = .ok (.invokevirtual 112, 3) := by decide +kernel
theorem d_Q_takeTypes_14 : decode bc_Q_takeTypes 14 = .ok (.aload_n 0, 1) := by decide +kernel
theorem d_Q_takeTypes_15 : decode bc_Q_takeTypes 15 = .ok (.getfield 47, 3) := by decide +kernel
theorem d_Q_takeTypes_18 : decode bc_Q_takeTypes 18 = .ok (.invokevirtual 221, 3) := by decide +kernel
theorem d_Q_takeTypes_21 : decode bc_Q_takeTypes 21 = .ok (.aload_n 0, 1) := by decide +kernel
theorem d_Q_takeTypes_22 : decode bc_Q_takeTypes 22 = .ok (.getfield 26, 3) := by decide +kernel
theorem d_Q_takeTypes_25 : decode bc_Q_takeTypes 25 = .ok (.invokevirtual 222, 3) := by decide +kernel
theorem d_Q_takeTypes_28 : decode bc_Q_takeTypes 28 = .ok (.aload_n 0, 1) := by decide +kernel
theorem d_Q_takeTypes_29 : decode bc_Q_takeTypes 29 = .ok (.getfield 10, 3) := by decide +kernel
theorem d_Q_takeTypes_32 : decode bc_Q_takeTypes 32 = .ok (.invokevirtual 115, 3) := by decide +kernel
theorem d_Q_takeTypes_35 : decode bc_Q_takeTypes 35 = .ok (.aload_n 0, 1) := by decide +kernel
theorem d_Q_takeTypes_36 : decode bc_Q_takeTypes 36 = .ok (.getfield 56, 3) := by decide +kernel
theorem d_Q_takeTypes_39 : decode bc_Q_takeTypes 39 = .ok (.aload_n 0, 1) := by decide +kernel
theorem d_Q_takeTypes_40 : decode bc_Q_takeTypes 40 = .ok (.getfield 47, 3) := by decide +kernel
theorem d_Q_takeTypes_43 : decode bc_Q_takeTypes 43 = .ok (.iload_n 1, 1) := by decide +kernel
theorem d_Q_takeTypes_44 : decode bc_Q_takeTypes 44 = .ok (.invokevirtual 225, 3) := by decide +kernel
theorem d_Q_takeTypes_47 : decode bc_Q_takeTypes 47 = .ok (.aload_n 0, 1) := by decide +kernel
theorem d_Q_takeTypes_48 : decode bc_Q_takeTypes 48 = .ok (.getfield 10, 3) := by decide +kernel
theorem d_Q_takeTypes_51 : decode bc_Q_takeTypes 51 = .ok (.iconst 0, 1) := by decide +kernel
theorem d_Q_takeTypes_52 : decode bc_Q_takeTypes 52 = .ok (.putfield 105, 3) := by decide +kernel
theorem d_Q_takeTypes_55 : decode bc_Q_takeTypes 55 = .ok (.aload_n 0, 1) := by decide +kernel
theorem d_Q_takeTypes_56 : decode bc_Q_takeTypes 56 = .ok (.getfield 65, 3) := by decide +kernel
theorem d_Q_takeTypes_59 : decode bc_Q_takeTypes 59 = .ok (.invokevirtual 229, 3) := by decide +kernel
theorem d_Q_takeTypes_62 : decode bc_Q_takeTypes 62 = .ok (.iconst 0, 1) := by decide +kernel
theorem d_Q_takeTypes_63 : decode bc_Q_takeTypes 63 = .ok (.istore_n 2, 1) := by decide +kernel
theorem d_Q_takeTypes_64 : decode bc_Q_takeTypes 64 = .ok (.iload_n 2, 1) := by decide +kernel
theorem d_Q_takeTypes_65 : decode bc_Q_takeTypes 65 = .ok (.iload_n 1, 1) := by decide +kernel
theorem d_Q_takeTypes_66 : decode bc_Q_takeTypes 66 = .ok (.if_icmp .ge 31, 3) := by decide +kernel
theorem d_Q_takeTypes_69 : decode bc_Q_takeTypes 69 = .ok (.aload_n 0, 1) := by decide +kernel
theorem d_Q_takeTypes_70 : decode bc_Q_takeTypes 70 = .ok (.getfield 19, 3) := by decide +kernel
theorem d_Q_takeTypes_73 : decode bc_Q_takeTypes 73 = .ok (.invokevirtual 124, 3) := by decide +kernel
theorem d_Q_takeTypes_76 : decode bc_Q_takeTypes 76 = .ok (.ifCond .ne 21, 3) := by decide +kernel
theorem d_Q_takeTypes_79 : decode bc_Q_takeTypes 79 = .ok (.aload_n 0, 1) := by decide +kernel
theorem d_Q_takeTypes_80 : decode bc_Q_takeTypes 80 = .ok (.getfield 74, 3) := by decide +kernel
theorem d_Q_takeTypes_83 : decode bc_Q_takeTypes 83 = .ok (.aload_n 0, 1) := by decide +kernel
theorem d_Q_takeTypes_84 : decode bc_Q_takeTypes 84 = .ok (.getfield 47, 3) := by decide +kernel
theorem d_Q_takeTypes_87 : decode bc_Q_takeTypes 87 = .ok (.iload_n 2, 1) := by decide +kernel
theorem d_Q_takeTypes_88 : decode bc_Q_takeTypes 88 = .ok (.invokevirtual 232, 3) := by decide +kernel
theorem d_Q_takeTypes_91 : decode bc_Q_takeTypes 91 = .ok (.iinc 2 1, 3) := by decide +kernel
theorem d_Q_takeTypes_94 : decode bc_Q_takeTypes 94 = .ok (.goto (-30), 3) := by decide +kernel
theorem d_Q_takeTypes_97 : decode bc_Q_takeTypes 97 = .ok (.aload_n 0, 1) := by decide +kernel
theorem d_Q_takeTypes_98 : decode bc_Q_takeTypes 98 = .ok (.getfield 19, 3) := by decide +kernel
theorem d_Q_takeTypes_101 : decode bc_Q_takeTypes 101 = .ok (.invokevirtual 124, 3) := by decide +kernel
theorem d_Q_takeTypes_104 : decode bc_Q_takeTypes 104 = .ok (.ifCond .ne 7, 3) := by decide +kernel
theorem d_Q_takeTypes_107 : decode bc_Q_takeTypes 107 = .ok (.iconst 1, 1) := by decide +kernel
theorem d_Q_takeTypes_108 : decode bc_Q_takeTypes 108 = .ok (.goto 4, 3) := by decide +kernel
theorem d_Q_takeTypes_111 : decode bc_Q_takeTypes 111 = .ok (.iconst 0, 1) := by decide +kernel
theorem d_Q_takeTypes_112 : decode bc_Q_takeTypes 112 = .ok (.ireturn, 1) := by decide +kernel
abbrev bc_Q_showKind : ByteArray := prog_1_method_17_code
abbrev y_Q_showKind : MethodName := ⟨"KindRounds", "showKind", "(I)I"⟩
theorem d_Q_showKind_0 : decode bc_Q_showKind 0 = .ok (.aload_n 0, 1) := by decide +kernel
theorem d_Q_showKind_1 : decode bc_Q_showKind 1 = .ok (.getfield 94, 3) := by decide +kernel
theorem d_Q_showKind_4 : decode bc_Q_showKind 4 = .ok (.invokevirtual 235, 3) := by decide +kernel
theorem d_Q_showKind_7 : decode bc_Q_showKind 7 = .ok (.aload_n 0, 1) := by decide +kernel
theorem d_Q_showKind_8 : decode bc_Q_showKind 8 = .ok (.getfield 26, 3) := by decide +kernel
theorem d_Q_showKind_11 : decode bc_Q_showKind 11 = .ok (.iload_n 1, 1) := by decide +kernel
theorem d_Q_showKind_12 : decode bc_Q_showKind 12 = .ok (.aload_n 0, 1) := by decide +kernel
theorem d_Q_showKind_13 : decode bc_Q_showKind 13 = .ok (.getfield 94, 3) := by decide +kernel
theorem d_Q_showKind_16 : decode bc_Q_showKind 16 = .ok (.iconst 0, 1) := by decide +kernel
theorem d_Q_showKind_17 : decode bc_Q_showKind 17 = .ok (.invokevirtual 236, 3) := by decide +kernel
theorem d_Q_showKind_20 : decode bc_Q_showKind 20 = .ok (.aload_n 0, 1) := by decide +kernel
theorem d_Q_showKind_21 : decode bc_Q_showKind 21 = .ok (.getfield 94, 3) := by decide +kernel
theorem d_Q_showKind_24 : decode bc_Q_showKind 24 = .ok (.getfield 148, 3) := by decide +kernel
theorem d_Q_showKind_27 : decode bc_Q_showKind 27 = .ok (.sipush 2000, 3) := by decide +kernel
theorem d_Q_showKind_30 : decode bc_Q_showKind 30 = .ok (.if_icmp .le 6, 3) := by decide +kernel
theorem d_Q_showKind_33 : decode bc_Q_showKind 33 = .ok (.bipush (-4), 2) := by decide +kernel
theorem d_Q_showKind_35 : decode bc_Q_showKind 35 = .ok (.ireturn, 1) := by decide +kernel
theorem d_Q_showKind_36 : decode bc_Q_showKind 36 = .ok (.aload_n 0, 1) := by decide +kernel
theorem d_Q_showKind_37 : decode bc_Q_showKind 37 = .ok (.invokevirtual 212, 3) := by decide +kernel
theorem d_Q_showKind_40 : decode bc_Q_showKind 40 = .ok (.aload_n 0, 1) := by decide +kernel
theorem d_Q_showKind_41 : decode bc_Q_showKind 41 = .ok (.getfield 90, 3) := by decide +kernel
theorem d_Q_showKind_44 : decode bc_Q_showKind 44 = .ok (.getfield 148, 3) := by decide +kernel
theorem d_Q_showKind_47 : decode bc_Q_showKind 47 = .ok (.ireturn, 1) := by decide +kernel
abbrev bc_Q_swapLines : ByteArray := prog_1_method_18_code
abbrev y_Q_swapLines : MethodName := ⟨"KindRounds", "swapLines", "()V"⟩
theorem d_Q_swapLines_0 : decode bc_Q_swapLines 0 = .ok (.aload_n 0, 1) := by decide +kernel
theorem d_Q_swapLines_1 : decode bc_Q_swapLines 1 = .ok (.getfield 90, 3) := by decide +kernel
theorem d_Q_swapLines_4 : decode bc_Q_swapLines 4 = .ok (.astore_n 1, 1) := by decide +kernel
theorem d_Q_swapLines_5 : decode bc_Q_swapLines 5 = .ok (.aload_n 0, 1) := by decide +kernel
theorem d_Q_swapLines_6 : decode bc_Q_swapLines 6 = .ok (.aload_n 0, 1) := by decide +kernel
theorem d_Q_swapLines_7 : decode bc_Q_swapLines 7 = .ok (.getfield 94, 3) := by decide +kernel
theorem d_Q_swapLines_10 : decode bc_Q_swapLines 10 = .ok (.putfield 90, 3) := by decide +kernel
theorem d_Q_swapLines_13 : decode bc_Q_swapLines 13 = .ok (.aload_n 0, 1) := by decide +kernel
theorem d_Q_swapLines_14 : decode bc_Q_swapLines 14 = .ok (.aload_n 1, 1) := by decide +kernel
theorem d_Q_swapLines_15 : decode bc_Q_swapLines 15 = .ok (.putfield 94, 3) := by decide +kernel
theorem d_Q_swapLines_18 : decode bc_Q_swapLines 18 = .ok (.return_, 1) := by decide +kernel
