/-! NAMES AND TABLES, by program (names.py): classes, methods, the cells of the small machine, the words of the tables -/
def TB : List Cond := lw_tbl.filter goodWord
theorem TB_good : ∀ w ∈ TB, goodWord w = true := fun w h => (List.mem_filter.mp h).2
theorem TB1 {w : Cond} (h : w ∈ tables_1_1) (g : goodWord w = true) : w ∈ TB := List.mem_filter.mpr ⟨List.mem_append_right _ (List.mem_append_left _ h), g⟩
theorem TB2 {w : Cond} (h : w ∈ tables_1_2) (g : goodWord w = true) : w ∈ TB := List.mem_filter.mpr ⟨List.mem_append_right _ (List.mem_append_right _ (List.mem_append_left _ h)), g⟩
theorem TB3 {w : Cond} (h : w ∈ tables_1_3) (g : goodWord w = true) : w ∈ TB := List.mem_filter.mpr ⟨List.mem_append_right _ (List.mem_append_right _ (List.mem_append_right _ (List.mem_append_left _ h))), g⟩
theorem TB4 {w : Cond} (h : w ∈ tables_1_4) (g : goodWord w = true) : w ∈ TB := List.mem_filter.mpr ⟨List.mem_append_right _ (List.mem_append_right _ (List.mem_append_right _ (List.mem_append_right _ h))), g⟩
theorem TBs {w : Cond} (h : w ∈ k2_sels lw_privs) (g : goodWord w = true) : w ∈ TB := List.mem_filter.mpr ⟨List.mem_append_left _ h, g⟩
def mK : Nat := 40
def RO : String := "PointsToRounds"
def TO : u_T := fun k => match k with
  | 0 => ("PointsToRounds", "program", "LPointsToRounds$Program;", true)
  | 1 => ("PointsToRounds", "sets", "LPointsToRounds$Sets;", true)
  | _ => ("PointsToRounds", "trial", "LPointsToRounds$Trial;", true)
def tyO : Nat → FieldType := fun k => match k with
  | 0 => .object "PointsToRounds$Program"
  | 1 => .object "PointsToRounds$Sets"
  | _ => .object "PointsToRounds$Trial"
theorem nmO : ∀ a, a < 3 → ∀ b, b < 3 → a ≠ b → (TO a).2.1 ≠ (TO b).2.1 := by decide +kernel
theorem tyO_ok : ∀ k, k < 3 → parseFieldDescriptor (TO k).2.2.1 = some (tyO k) := by decide +kernel
set_option maxRecDepth 20000 in
theorem inO : ∀ w ∈ u_ws RO TO 3, w ∈ TB := by
  intro w hw
  obtain ⟨k, hk, rfl⟩ := List.mem_map.mp hw
  have hk := List.mem_range.mp hk
  match k, hk with
  | 0, _ => exact TB1 (List.mem_of_getElem? (i := 228) (by decide +kernel)) rfl
  | 1, _ => exact TB1 (List.mem_of_getElem? (i := 230) (by decide +kernel)) rfl
  | 2, _ => exact TB1 (List.mem_of_getElem? (i := 232) (by decide +kernel)) rfl
  | k + 3, h => exact absurd h (by omega)
def RP : String := "PointsToRounds$Program"
def TP : u_T := fun k => match k with
  | 0 => ("PointsToRounds$Program", "classes", "I", false)
  | 1 => ("PointsToRounds$Program", "fields", "I", false)
  | 2 => ("PointsToRounds$Program", "methods", "I", false)
  | 3 => ("PointsToRounds$Program", "statements", "I", false)
  | 4 => ("PointsToRounds$Program", "sites", "I", false)
  | 5 => ("PointsToRounds$Program", "parent", "[I", true)
  | 6 => ("PointsToRounds$Program", "above", "[I", true)
  | 7 => ("PointsToRounds$Program", "sitesUnder", "[I", true)
  | 8 => ("PointsToRounds$Program", "own", "[I", true)
  | 9 => ("PointsToRounds$Program", "found", "[I", true)
  | 10 => ("PointsToRounds$Program", "fieldClass", "[I", true)
  | 11 => ("PointsToRounds$Program", "siteClass", "[I", true)
  | 12 => ("PointsToRounds$Program", "numbered", "[LPointsToRounds$Statement;", true)
  | 13 => ("PointsToRounds$Program", "length", "[I", true)
  | _ => ("PointsToRounds$Program", "order", "[I", true)
def tyP : Nat → FieldType := fun k => match k with
  | 0 => .int
  | 1 => .int
  | 2 => .int
  | 3 => .int
  | 4 => .int
  | 5 => .array .int
  | 6 => .array .int
  | 7 => .array .int
  | 8 => .array .int
  | 9 => .array .int
  | 10 => .array .int
  | 11 => .array .int
  | 12 => .array (.object "PointsToRounds$Statement")
  | 13 => .array .int
  | _ => .array .int
theorem nmP : ∀ a, a < 15 → ∀ b, b < 15 → a ≠ b → (TP a).2.1 ≠ (TP b).2.1 := by decide +kernel
theorem tyP_ok : ∀ k, k < 15 → parseFieldDescriptor (TP k).2.2.1 = some (tyP k) := by decide +kernel
set_option maxRecDepth 20000 in
theorem inP : ∀ w ∈ u_ws RP TP 15, w ∈ TB := by
  intro w hw
  obtain ⟨k, hk, rfl⟩ := List.mem_map.mp hw
  have hk := List.mem_range.mp hk
  match k, hk with
  | 0, _ => exact TB1 (List.mem_of_getElem? (i := 104) (by decide +kernel)) rfl
  | 1, _ => exact TB1 (List.mem_of_getElem? (i := 106) (by decide +kernel)) rfl
  | 2, _ => exact TB1 (List.mem_of_getElem? (i := 108) (by decide +kernel)) rfl
  | 3, _ => exact TB1 (List.mem_of_getElem? (i := 110) (by decide +kernel)) rfl
  | 4, _ => exact TB1 (List.mem_of_getElem? (i := 112) (by decide +kernel)) rfl
  | 5, _ => exact TB1 (List.mem_of_getElem? (i := 114) (by decide +kernel)) rfl
  | 6, _ => exact TB1 (List.mem_of_getElem? (i := 116) (by decide +kernel)) rfl
  | 7, _ => exact TB1 (List.mem_of_getElem? (i := 118) (by decide +kernel)) rfl
  | 8, _ => exact TB1 (List.mem_of_getElem? (i := 120) (by decide +kernel)) rfl
  | 9, _ => exact TB1 (List.mem_of_getElem? (i := 122) (by decide +kernel)) rfl
  | 10, _ => exact TB1 (List.mem_of_getElem? (i := 124) (by decide +kernel)) rfl
  | 11, _ => exact TB1 (List.mem_of_getElem? (i := 126) (by decide +kernel)) rfl
  | 12, _ => exact TB1 (List.mem_of_getElem? (i := 128) (by decide +kernel)) rfl
  | 13, _ => exact TB1 (List.mem_of_getElem? (i := 130) (by decide +kernel)) rfl
  | 14, _ => exact TB1 (List.mem_of_getElem? (i := 132) (by decide +kernel)) rfl
  | k + 15, h => exact absurd h (by omega)
def RS : String := "PointsToRounds$Sets"
def TS : u_T := fun k => match k with
  | 0 => ("PointsToRounds$Sets", "program", "LPointsToRounds$Program;", true)
  | 1 => ("PointsToRounds$Sets", "before", "[I", true)
  | 2 => ("PointsToRounds$Sets", "now", "[I", true)
  | 3 => ("PointsToRounds$Sets", "cameAt", "[I", true)
  | 4 => ("PointsToRounds$Sets", "round", "I", false)
  | 5 => ("PointsToRounds$Sets", "grown", "Z", false)
  | 6 => ("PointsToRounds$Sets", "last", "I", false)
  | 7 => ("PointsToRounds$Sets", "settled", "Z", false)
  | _ => ("PointsToRounds$Sets", "perReceiver", "Z", false)
def tyS : Nat → FieldType := fun k => match k with
  | 0 => .object "PointsToRounds$Program"
  | 1 => .array .int
  | 2 => .array .int
  | 3 => .array .int
  | 4 => .int
  | 5 => .boolean
  | 6 => .int
  | 7 => .boolean
  | _ => .boolean
theorem nmS : ∀ a, a < 9 → ∀ b, b < 9 → a ≠ b → (TS a).2.1 ≠ (TS b).2.1 := by decide +kernel
theorem tyS_ok : ∀ k, k < 9 → parseFieldDescriptor (TS k).2.2.1 = some (tyS k) := by decide +kernel
set_option maxRecDepth 20000 in
theorem inS : ∀ w ∈ u_ws RS TS 9, w ∈ TB := by
  intro w hw
  obtain ⟨k, hk, rfl⟩ := List.mem_map.mp hw
  have hk := List.mem_range.mp hk
  match k, hk with
  | 0, _ => exact TB1 (List.mem_of_getElem? (i := 153) (by decide +kernel)) rfl
  | 1, _ => exact TB1 (List.mem_of_getElem? (i := 155) (by decide +kernel)) rfl
  | 2, _ => exact TB1 (List.mem_of_getElem? (i := 157) (by decide +kernel)) rfl
  | 3, _ => exact TB1 (List.mem_of_getElem? (i := 159) (by decide +kernel)) rfl
  | 4, _ => exact TB1 (List.mem_of_getElem? (i := 161) (by decide +kernel)) rfl
  | 5, _ => exact TB1 (List.mem_of_getElem? (i := 163) (by decide +kernel)) rfl
  | 6, _ => exact TB1 (List.mem_of_getElem? (i := 165) (by decide +kernel)) rfl
  | 7, _ => exact TB1 (List.mem_of_getElem? (i := 167) (by decide +kernel)) rfl
  | 8, _ => exact TB1 (List.mem_of_getElem? (i := 169) (by decide +kernel)) rfl
  | k + 9, h => exact absurd h (by omega)
def RT : String := "PointsToRounds$Trial"
def TT : u_T := fun k => match k with
  | 0 => ("PointsToRounds$Trial", "program", "LPointsToRounds$Program;", true)
  | 1 => ("PointsToRounds$Trial", "sets", "LPointsToRounds$Sets;", true)
  | 2 => ("PointsToRounds$Trial", "siteOf", "[I", true)
  | 3 => ("PointsToRounds$Trial", "slots", "[I", true)
  | 4 => ("PointsToRounds$Trial", "statics", "[I", true)
  | 5 => ("PointsToRounds$Trial", "names", "[I", true)
  | 6 => ("PointsToRounds$Trial", "frameMethod", "[I", true)
  | 7 => ("PointsToRounds$Trial", "frameContext", "[I", true)
  | 8 => ("PointsToRounds$Trial", "frameTarget", "[I", true)
  | 9 => ("PointsToRounds$Trial", "metSites", "[I", true)
  | 10 => ("PointsToRounds$Trial", "holding", "Z", false)
  | 11 => ("PointsToRounds$Trial", "objects", "I", false)
  | 12 => ("PointsToRounds$Trial", "frames", "I", false)
  | _ => ("PointsToRounds$Trial", "calls", "I", false)
def tyT : Nat → FieldType := fun k => match k with
  | 0 => .object "PointsToRounds$Program"
  | 1 => .object "PointsToRounds$Sets"
  | 2 => .array .int
  | 3 => .array .int
  | 4 => .array .int
  | 5 => .array .int
  | 6 => .array .int
  | 7 => .array .int
  | 8 => .array .int
  | 9 => .array .int
  | 10 => .boolean
  | 11 => .int
  | 12 => .int
  | _ => .int
theorem nmT : ∀ a, a < 14 → ∀ b, b < 14 → a ≠ b → (TT a).2.1 ≠ (TT b).2.1 := by decide +kernel
theorem tyT_ok : ∀ k, k < 14 → parseFieldDescriptor (TT k).2.2.1 = some (tyT k) := by decide +kernel
set_option maxRecDepth 20000 in
theorem inT : ∀ w ∈ u_ws RT TT 14, w ∈ TB := by
  intro w hw
  obtain ⟨k, hk, rfl⟩ := List.mem_map.mp hw
  have hk := List.mem_range.mp hk
  match k, hk with
  | 0, _ => exact TB1 (List.mem_of_getElem? (i := 196) (by decide +kernel)) rfl
  | 1, _ => exact TB1 (List.mem_of_getElem? (i := 198) (by decide +kernel)) rfl
  | 2, _ => exact TB1 (List.mem_of_getElem? (i := 200) (by decide +kernel)) rfl
  | 3, _ => exact TB1 (List.mem_of_getElem? (i := 202) (by decide +kernel)) rfl
  | 4, _ => exact TB1 (List.mem_of_getElem? (i := 204) (by decide +kernel)) rfl
  | 5, _ => exact TB1 (List.mem_of_getElem? (i := 206) (by decide +kernel)) rfl
  | 6, _ => exact TB1 (List.mem_of_getElem? (i := 208) (by decide +kernel)) rfl
  | 7, _ => exact TB1 (List.mem_of_getElem? (i := 210) (by decide +kernel)) rfl
  | 8, _ => exact TB1 (List.mem_of_getElem? (i := 212) (by decide +kernel)) rfl
  | 9, _ => exact TB1 (List.mem_of_getElem? (i := 214) (by decide +kernel)) rfl
  | 10, _ => exact TB1 (List.mem_of_getElem? (i := 216) (by decide +kernel)) rfl
  | 11, _ => exact TB1 (List.mem_of_getElem? (i := 218) (by decide +kernel)) rfl
  | 12, _ => exact TB1 (List.mem_of_getElem? (i := 220) (by decide +kernel)) rfl
  | 13, _ => exact TB1 (List.mem_of_getElem? (i := 222) (by decide +kernel)) rfl
  | k + 14, h => exact absurd h (by omega)
def RG : String := "PointsToRounds$Statement"
def TG : u_T := fun k => match k with
  | 0 => ("PointsToRounds$Statement", "method", "I", false)
  | 1 => ("PointsToRounds$Statement", "site", "I", false)
  | 2 => ("PointsToRounds$Statement", "kind", "I", false)
  | 3 => ("PointsToRounds$Statement", "p", "I", false)
  | 4 => ("PointsToRounds$Statement", "q", "I", false)
  | 5 => ("PointsToRounds$Statement", "\u0072", "I", false)
  | 6 => ("PointsToRounds$Statement", "s", "I", false)
  | _ => ("PointsToRounds$Statement", "t", "I", false)
def tyG : Nat → FieldType := fun k => match k with
  | 0 => .int
  | 1 => .int
  | 2 => .int
  | 3 => .int
  | 4 => .int
  | 5 => .int
  | 6 => .int
  | _ => .int
theorem nmG : ∀ a, a < 8 → ∀ b, b < 8 → a ≠ b → (TG a).2.1 ≠ (TG b).2.1 := by decide +kernel
theorem tyG_ok : ∀ k, k < 8 → parseFieldDescriptor (TG k).2.2.1 = some (tyG k) := by decide +kernel
set_option maxRecDepth 20000 in
theorem inG : ∀ w ∈ u_ws RG TG 8, w ∈ TB := by
  intro w hw
  obtain ⟨k, hk, rfl⟩ := List.mem_map.mp hw
  have hk := List.mem_range.mp hk
  match k, hk with
  | 0, _ => exact TB1 (List.mem_of_getElem? (i := 59) (by decide +kernel)) rfl
  | 1, _ => exact TB1 (List.mem_of_getElem? (i := 61) (by decide +kernel)) rfl
  | 2, _ => exact TB1 (List.mem_of_getElem? (i := 63) (by decide +kernel)) rfl
  | 3, _ => exact TB1 (List.mem_of_getElem? (i := 65) (by decide +kernel)) rfl
  | 4, _ => exact TB1 (List.mem_of_getElem? (i := 67) (by decide +kernel)) rfl
  | 5, _ => exact TB1 (List.mem_of_getElem? (i := 69) (by decide +kernel)) rfl
  | 6, _ => exact TB1 (List.mem_of_getElem? (i := 71) (by decide +kernel)) rfl
  | 7, _ => exact TB1 (List.mem_of_getElem? (i := 73) (by decide +kernel)) rfl
  | k + 8, h => exact absurd h (by omega)
def RM : String := "PointsToRoundsModel"
def TM : u_T := fun k => match k with
  | 0 => ("PointsToRoundsModel", "classes", "I", false)
  | 1 => ("PointsToRoundsModel", "parents", "[I", true)
  | 2 => ("PointsToRoundsModel", "fields", "I", false)
  | 3 => ("PointsToRoundsModel", "fieldOf", "[I", true)
  | 4 => ("PointsToRoundsModel", "methods", "I", false)
  | 5 => ("PointsToRoundsModel", "methodOf", "[I", true)
  | 6 => ("PointsToRoundsModel", "signatures", "[I", true)
  | 7 => ("PointsToRoundsModel", "statements", "I", false)
  | 8 => ("PointsToRoundsModel", "owner", "[I", true)
  | 9 => ("PointsToRoundsModel", "kinds", "[I", true)
  | 10 => ("PointsToRoundsModel", "pOf", "[I", true)
  | 11 => ("PointsToRoundsModel", "qOf", "[I", true)
  | 12 => ("PointsToRoundsModel", "rOf", "[I", true)
  | 13 => ("PointsToRoundsModel", "sOf", "[I", true)
  | 14 => ("PointsToRoundsModel", "tOf", "[I", true)
  | 15 => ("PointsToRoundsModel", "siteOf", "[I", true)
  | 16 => ("PointsToRoundsModel", "sites", "I", false)
  | 17 => ("PointsToRoundsModel", "siteClass", "[I", true)
  | 18 => ("PointsToRoundsModel", "mode", "I", false)
  | 19 => ("PointsToRoundsModel", "known", "Z", false)
  | 20 => ("PointsToRoundsModel", "nameNow", "[I", true)
  | 21 => ("PointsToRoundsModel", "nameThen", "[I", true)
  | 22 => ("PointsToRoundsModel", "fieldNow", "[I", true)
  | 23 => ("PointsToRoundsModel", "fieldThen", "[I", true)
  | 24 => ("PointsToRoundsModel", "elementNow", "[I", true)
  | 25 => ("PointsToRoundsModel", "elementThen", "[I", true)
  | 26 => ("PointsToRoundsModel", "staticNow", "[I", true)
  | 27 => ("PointsToRoundsModel", "staticThen", "[I", true)
  | 28 => ("PointsToRoundsModel", "reachNow", "[I", true)
  | 29 => ("PointsToRoundsModel", "reachThen", "[I", true)
  | 30 => ("PointsToRoundsModel", "whenOf", "[I", true)
  | 31 => ("PointsToRoundsModel", "last", "I", false)
  | 32 => ("PointsToRoundsModel", "objects", "I", false)
  | 33 => ("PointsToRoundsModel", "objectSite", "[I", true)
  | 34 => ("PointsToRoundsModel", "objectField", "[I", true)
  | 35 => ("PointsToRoundsModel", "objectElement", "[I", true)
  | 36 => ("PointsToRoundsModel", "statics", "[I", true)
  | 37 => ("PointsToRoundsModel", "frames", "I", false)
  | 38 => ("PointsToRoundsModel", "frameMethod", "[I", true)
  | 39 => ("PointsToRoundsModel", "frameContext", "[I", true)
  | 40 => ("PointsToRoundsModel", "frameTo", "[I", true)
  | 41 => ("PointsToRoundsModel", "frameName", "[I", true)
  | 42 => ("PointsToRoundsModel", "metOf", "[I", true)
  | _ => ("PointsToRoundsModel", "calls", "I", false)
def tyM : Nat → FieldType := fun k => match k with
  | 0 => .int
  | 1 => .array .int
  | 2 => .int
  | 3 => .array .int
  | 4 => .int
  | 5 => .array .int
  | 6 => .array .int
  | 7 => .int
  | 8 => .array .int
  | 9 => .array .int
  | 10 => .array .int
  | 11 => .array .int
  | 12 => .array .int
  | 13 => .array .int
  | 14 => .array .int
  | 15 => .array .int
  | 16 => .int
  | 17 => .array .int
  | 18 => .int
  | 19 => .boolean
  | 20 => .array .int
  | 21 => .array .int
  | 22 => .array .int
  | 23 => .array .int
  | 24 => .array .int
  | 25 => .array .int
  | 26 => .array .int
  | 27 => .array .int
  | 28 => .array .int
  | 29 => .array .int
  | 30 => .array .int
  | 31 => .int
  | 32 => .int
  | 33 => .array .int
  | 34 => .array .int
  | 35 => .array .int
  | 36 => .array .int
  | 37 => .int
  | 38 => .array .int
  | 39 => .array .int
  | 40 => .array .int
  | 41 => .array .int
  | 42 => .array .int
  | _ => .int
theorem nmM : ∀ a, a < 44 → ∀ b, b < 44 → a ≠ b → (TM a).2.1 ≠ (TM b).2.1 := by decide +kernel
theorem tyM_ok : ∀ k, k < 44 → parseFieldDescriptor (TM k).2.2.1 = some (tyM k) := by decide +kernel
set_option maxRecDepth 20000 in
theorem inM : ∀ w ∈ u_ws RM TM 44, w ∈ TB := by
  intro w hw
  obtain ⟨k, hk, rfl⟩ := List.mem_map.mp hw
  have hk := List.mem_range.mp hk
  match k, hk with
  | 0, _ => exact TB3 (List.mem_of_getElem? (i := 130) (by decide +kernel)) rfl
  | 1, _ => exact TB3 (List.mem_of_getElem? (i := 132) (by decide +kernel)) rfl
  | 2, _ => exact TB3 (List.mem_of_getElem? (i := 134) (by decide +kernel)) rfl
  | 3, _ => exact TB3 (List.mem_of_getElem? (i := 136) (by decide +kernel)) rfl
  | 4, _ => exact TB3 (List.mem_of_getElem? (i := 138) (by decide +kernel)) rfl
  | 5, _ => exact TB3 (List.mem_of_getElem? (i := 140) (by decide +kernel)) rfl
  | 6, _ => exact TB3 (List.mem_of_getElem? (i := 142) (by decide +kernel)) rfl
  | 7, _ => exact TB3 (List.mem_of_getElem? (i := 144) (by decide +kernel)) rfl
  | 8, _ => exact TB3 (List.mem_of_getElem? (i := 146) (by decide +kernel)) rfl
  | 9, _ => exact TB3 (List.mem_of_getElem? (i := 148) (by decide +kernel)) rfl
  | 10, _ => exact TB3 (List.mem_of_getElem? (i := 150) (by decide +kernel)) rfl
  | 11, _ => exact TB3 (List.mem_of_getElem? (i := 152) (by decide +kernel)) rfl
  | 12, _ => exact TB3 (List.mem_of_getElem? (i := 154) (by decide +kernel)) rfl
  | 13, _ => exact TB3 (List.mem_of_getElem? (i := 156) (by decide +kernel)) rfl
  | 14, _ => exact TB3 (List.mem_of_getElem? (i := 158) (by decide +kernel)) rfl
  | 15, _ => exact TB3 (List.mem_of_getElem? (i := 160) (by decide +kernel)) rfl
  | 16, _ => exact TB3 (List.mem_of_getElem? (i := 162) (by decide +kernel)) rfl
  | 17, _ => exact TB3 (List.mem_of_getElem? (i := 164) (by decide +kernel)) rfl
  | 18, _ => exact TB3 (List.mem_of_getElem? (i := 166) (by decide +kernel)) rfl
  | 19, _ => exact TB3 (List.mem_of_getElem? (i := 168) (by decide +kernel)) rfl
  | 20, _ => exact TB3 (List.mem_of_getElem? (i := 170) (by decide +kernel)) rfl
  | 21, _ => exact TB3 (List.mem_of_getElem? (i := 172) (by decide +kernel)) rfl
  | 22, _ => exact TB3 (List.mem_of_getElem? (i := 174) (by decide +kernel)) rfl
  | 23, _ => exact TB3 (List.mem_of_getElem? (i := 176) (by decide +kernel)) rfl
  | 24, _ => exact TB3 (List.mem_of_getElem? (i := 178) (by decide +kernel)) rfl
  | 25, _ => exact TB3 (List.mem_of_getElem? (i := 180) (by decide +kernel)) rfl
  | 26, _ => exact TB3 (List.mem_of_getElem? (i := 182) (by decide +kernel)) rfl
  | 27, _ => exact TB3 (List.mem_of_getElem? (i := 184) (by decide +kernel)) rfl
  | 28, _ => exact TB3 (List.mem_of_getElem? (i := 186) (by decide +kernel)) rfl
  | 29, _ => exact TB3 (List.mem_of_getElem? (i := 188) (by decide +kernel)) rfl
  | 30, _ => exact TB3 (List.mem_of_getElem? (i := 190) (by decide +kernel)) rfl
  | 31, _ => exact TB3 (List.mem_of_getElem? (i := 192) (by decide +kernel)) rfl
  | 32, _ => exact TB3 (List.mem_of_getElem? (i := 194) (by decide +kernel)) rfl
  | 33, _ => exact TB3 (List.mem_of_getElem? (i := 196) (by decide +kernel)) rfl
  | 34, _ => exact TB3 (List.mem_of_getElem? (i := 198) (by decide +kernel)) rfl
  | 35, _ => exact TB3 (List.mem_of_getElem? (i := 200) (by decide +kernel)) rfl
  | 36, _ => exact TB3 (List.mem_of_getElem? (i := 202) (by decide +kernel)) rfl
  | 37, _ => exact TB3 (List.mem_of_getElem? (i := 204) (by decide +kernel)) rfl
  | 38, _ => exact TB3 (List.mem_of_getElem? (i := 206) (by decide +kernel)) rfl
  | 39, _ => exact TB3 (List.mem_of_getElem? (i := 208) (by decide +kernel)) rfl
  | 40, _ => exact TB3 (List.mem_of_getElem? (i := 210) (by decide +kernel)) rfl
  | 41, _ => exact TB3 (List.mem_of_getElem? (i := 212) (by decide +kernel)) rfl
  | 42, _ => exact TB3 (List.mem_of_getElem? (i := 214) (by decide +kernel)) rfl
  | 43, _ => exact TB3 (List.mem_of_getElem? (i := 216) (by decide +kernel)) rfl
  | k + 44, h => exact absurd h (by omega)
abbrev vwCl : List vw_C := [(RO, TO, 3), (RP, TP, 15), (RS, TS, 9), (RT, TT, 14), (RG, TG, 8), (RM, TM, 44)]
def aLens : List Nat := [0, 0, 0, 0, 8, 8, 8, 32, 32, 8, 20, 10, 600, 1454, 1454, 1200, 30, 270, 4, 60, 10, 10, 10, 60, 0, 0, 8, 8, 10, 10, 60, 60, 60, 60, 60, 60, 60, 60, 20, 1260, 1260, 160, 160, 20, 20, 4, 4, 10, 10, 1200, 30, 240, 30, 4, 10, 10, 10, 60, 60]
def a_n (k : Nat) : Nat := aLens.getD k 0
def oCi : List (Option Nat) := [some 0, some 1, some 2, some 3, none, none, none, none, none, none, none, none, none, none, none, none, none, none, none, none, none, none, none, none, none, some 5, none, none, none, none, none, none, none, none, none, none, none, none, none, none, none, none, none, none, none, none, none, none, none, none, none, none, none, none, none, none, none, none, none]
def o_ci (k : Nat) : Option Nat := if k < 59 then oCi.getD k none else if k < 119 then some 4 else none
def oN : List Nat := [3, 15, 9, 14, 0, 0, 0, 0, 0, 0, 0, 0, 0, 0, 0, 0, 0, 0, 0, 0, 0, 0, 0, 0, 0, 44, 0, 0, 0, 0, 0, 0, 0, 0, 0, 0, 0, 0, 0, 0, 0, 0, 0, 0, 0, 0, 0, 0, 0, 0, 0, 0, 0, 0, 0, 0, 0, 0, 0]
def o_n (k : Nat) : Nat := if k < 59 then oN.getD k 0 else 8
def oR : List (List (Option Nat)) := [[some 1, some 2, some 3], [none, none, none, none, none, some 4, some 5, some 6, some 7, some 8, some 9, some 10, some 24, some 11, some 12], [some 1, some 13, some 14, some 15, none, none, none, none, none], [some 1, some 2, some 16, some 17, some 18, some 19, some 20, some 21, some 22, some 23, none, none, none, none], [], [], [], [], [], [], [], [], [], [], [], [], [], [], [], [], [], [], [], [], [], [none, some 26, none, some 27, none, some 28, some 29, none, some 30, some 31, some 32, some 33, some 34, some 35, some 36, some 37, none, some 38, none, none, some 39, some 40, some 41, some 42, some 43, some 44, some 45, some 46, some 47, some 48, some 49, none, none, some 50, some 51, some 52, some 53, none, some 54, some 55, some 56, some 57, some 58, none], [], [], [], [], [], [], [], [], [], [], [], [], [], [], [], [], [], [], [], [], [], [], [], [], [], [], [], [], [], [], [], [], []]
def o_r (k j : Nat) : Option Nat := (oR.getD k []).getD j none
theorem a_n_pos (k : Nat) (h : 0 < a_n k) : k < 119 ∧ o_ci k = none ∧ ¬ k = 24 := by
  have hk : k < 59 := by
    rcases Nat.lt_or_ge k 59 with q | q
    · exact q
    · have e : a_n k = 0 := by
        unfold a_n
        rw [List.getD_eq_getElem?_getD, List.getElem?_eq_none (by simpa [aLens] using q)]
        rfl
      omega
  have g : ∀ k, k < 59 → 0 < a_n k → k < 119 ∧ o_ci k = none ∧ ¬ k = 24 := by decide +kernel
  exact g k hk h
theorem o_ci_lt {k ci : Nat} (h : o_ci k = some ci) : k < 119 := by
  unfold o_ci at h
  split at h
  · omega
  · split at h
    · assumption
    · cases h
def m_cl (q : Nat × Nat) : Nat := if q.1 = 59 then 59 + q.2 % 60 else q.1
theorem m_cl_st (n : Nat) : m_cl (59, n) = 59 + n % 60 := if_pos rfl
theorem o_ci_st (n : Nat) : o_ci (m_cl (59, n)) = some 4 := by
  have h := Nat.mod_lt n (show 0 < 60 by decide)
  rw [m_cl_st]
  unfold o_ci
  rw [if_neg (by omega), if_pos (by omega)]
theorem o_n_st (n : Nat) : o_n (m_cl (59, n)) = 8 := by
  rw [m_cl_st]
  unfold o_n
  rw [if_neg (by omega)]
theorem o_r_st (n j : Nat) : o_r (m_cl (59, n)) j = none := by
  rw [m_cl_st]
  unfold o_r
  rw [List.getD_eq_getElem?_getD (l := oR), List.getElem?_eq_none (by simp [oR])]
  rfl
def NWl : List (String × Nat × MethodName × String) := [("PointsToRounds$Program", 45, ⟨"PointsToRounds$Statement", "<init>", "()V"⟩, "PointsToRounds"), ("PointsToRounds$Program", 60, ⟨"PointsToRounds", "isName", "(I)Z"⟩, "PointsToRounds"), ("PointsToRounds$Program", 75, ⟨"PointsToRounds", "isStatic", "(I)Z"⟩, "PointsToRounds"), ("PointsToRounds$Program", 98, ⟨"PointsToRounds", "hasBit", "(II)Z"⟩, "PointsToRounds"), ("PointsToRounds$Sets", 70, ⟨"PointsToRounds", "hasBit", "(II)Z"⟩, "PointsToRounds"), ("PointsToRounds$Sets", 35, ⟨"PointsToRounds", "namesOf", "(II)I"⟩, "PointsToRounds"), ("PointsToRounds$Sets", 123, ⟨"PointsToRounds", "slotPlace", "(II)I"⟩, "PointsToRounds"), ("PointsToRounds$Trial", 135, ⟨"PointsToRounds", "hasBit", "(II)Z"⟩, "PointsToRounds"), ("PointsToRounds$Trial", 146, ⟨"PointsToRounds", "slotPlace", "(II)I"⟩, "PointsToRounds"), ("PointsToRounds$Trial", 167, ⟨"PointsToRounds", "namesOf", "(II)I"⟩, "PointsToRounds")]
def NW : List Cond := NWl.map (fun q => Cond.methodLinkNest q.1 q.2.1 q.2.2.1 q.2.2.2)
theorem NW_on : ∀ w ∈ NW, w.onTables = true := by
  intro w hw
  obtain ⟨q, -, rfl⟩ := List.mem_map.mp hw
  rfl
theorem NW_tb : ∀ w ∈ NW, w ∈ tables_1 := by decide +kernel
/-- the table's words of private members across the nest -/
def m_N (s : State) : Prop := ∀ w ∈ NW, va_Nw w s
theorem m_N.warm {s U : State} (hW : s.WarmedH U.vm) (h : m_N s) : m_N U := by
  intro w hw
  obtain ⟨q, hq, rfl⟩ := List.mem_map.mp hw
  exact va_Nw.warmM hW (h _ hw)
/-- arraycopy's words -/
def m_cpw (own : String) (index : Nat) : Prop := Cond.methodLink own index arraycopyName ∈ TB ∧ Cond.native arraycopyName ∈ TB ∧ Cond.static arraycopyName ∈ TB ∧ Cond.initialized "java/lang/System" ∈ TB
abbrev mM : Type := MethodName × ByteArray × Nat × Nat × Option FieldType
abbrev M_O_cls : mM := (⟨"PointsToRounds", "cls", "(I)I"⟩, prog_1_method_2_code, 2, 3, (some .int))
abbrev M_O_field : mM := (⟨"PointsToRounds", "field", "(I)I"⟩, prog_1_method_3_code, 2, 3, (some .int))
abbrev M_O_method : mM := (⟨"PointsToRounds", "method", "(II)I"⟩, prog_1_method_4_code, 3, 3, (some .int))
abbrev M_O_statement : mM := (⟨"PointsToRounds", "statement", "(IIIIIII)I"⟩, prog_1_method_5_code, 8, 3, (some .int))
abbrev M_O_mode : mM := (⟨"PointsToRounds", "mode", "(I)I"⟩, prog_1_method_6_code, 3, 3, (some .int))
abbrev M_O_clear : mM := (⟨"PointsToRounds", "clear", "()I"⟩, prog_1_method_7_code, 2, 3, (some .int))
abbrev M_O_points : mM := (⟨"PointsToRounds", "points", "(III)I"⟩, prog_1_method_8_code, 4, 6, (some .int))
abbrev M_O_inField : mM := (⟨"PointsToRounds", "inField", "(II)I"⟩, prog_1_method_9_code, 3, 6, (some .int))
abbrev M_O_element : mM := (⟨"PointsToRounds", "element", "(I)I"⟩, prog_1_method_10_code, 2, 6, (some .int))
abbrev M_O_inStatic : mM := (⟨"PointsToRounds", "inStatic", "(I)I"⟩, prog_1_method_11_code, 2, 6, (some .int))
abbrev M_O_reached : mM := (⟨"PointsToRounds", "reached", "(I)I"⟩, prog_1_method_12_code, 2, 6, (some .int))
abbrev M_O_may : mM := (⟨"PointsToRounds", "may", "(I)I"⟩, prog_1_method_13_code, 4, 6, (some .int))
abbrev M_O_alias : mM := (⟨"PointsToRounds", "alias", "(IIII)I"⟩, prog_1_method_14_code, 6, 6, (some .int))
abbrev M_O_rounds : mM := (⟨"PointsToRounds", "rounds", "()I"⟩, prog_1_method_15_code, 1, 6, (some .int))
abbrev M_O_when : mM := (⟨"PointsToRounds", "when", "(III)I"⟩, prog_1_method_16_code, 5, 6, (some .int))
abbrev M_O_run : mM := (⟨"PointsToRounds", "run", "(II)I"⟩, prog_1_method_17_code, 3, 7, (some .int))
abbrev M_O_met : mM := (⟨"PointsToRounds", "met", "(II)I"⟩, prog_1_method_18_code, 3, 2, (some .int))
abbrev M_O_ran : mM := (⟨"PointsToRounds", "ran", "(I)I"⟩, prog_1_method_19_code, 2, 0, (some .int))
abbrev M_O_forgetAnswers : mM := (⟨"PointsToRounds", "forgetAnswers", "()V"⟩, prog_1_method_20_code, 1, 2, none)
abbrev M_O_isName : mM := (⟨"PointsToRounds", "isName", "(I)Z"⟩, prog_1_method_21_code, 1, 0, (some .boolean))
abbrev M_O_isStatic : mM := (⟨"PointsToRounds", "isStatic", "(I)Z"⟩, prog_1_method_22_code, 1, 0, (some .boolean))
abbrev M_O_isSignature : mM := (⟨"PointsToRounds", "isSignature", "(I)Z"⟩, prog_1_method_23_code, 1, 0, (some .boolean))
abbrev M_O_hasBit : mM := (⟨"PointsToRounds", "hasBit", "(II)Z"⟩, prog_1_method_24_code, 2, 0, (some .boolean))
abbrev M_O_namesOf : mM := (⟨"PointsToRounds", "namesOf", "(II)I"⟩, prog_1_method_25_code, 2, 0, (some .int))
abbrev M_O_slotPlace : mM := (⟨"PointsToRounds", "slotPlace", "(II)I"⟩, prog_1_method_26_code, 2, 0, (some .int))
abbrev M_M_isClass : mM := (⟨"PointsToRoundsModel", "isClass", "(I)Z"⟩, prog_7_method_2_code, 2, 0, (some .boolean))
abbrev M_M_isField : mM := (⟨"PointsToRoundsModel", "isField", "(I)Z"⟩, prog_7_method_3_code, 2, 0, (some .boolean))
abbrev M_M_isMethod : mM := (⟨"PointsToRoundsModel", "isMethod", "(I)Z"⟩, prog_7_method_4_code, 2, 0, (some .boolean))
abbrev M_M_isName : mM := (⟨"PointsToRoundsModel", "isName", "(I)Z"⟩, prog_7_method_5_code, 1, 0, (some .boolean))
abbrev M_M_isStatic : mM := (⟨"PointsToRoundsModel", "isStatic", "(I)Z"⟩, prog_7_method_6_code, 1, 0, (some .boolean))
abbrev M_M_isUnder : mM := (⟨"PointsToRoundsModel", "isUnder", "(II)Z"⟩, prog_7_method_7_code, 4, 0, (some .boolean))
abbrev M_M_hasField : mM := (⟨"PointsToRoundsModel", "hasField", "(II)Z"⟩, prog_7_method_8_code, 3, 1, (some .boolean))
abbrev M_M_methodWith : mM := (⟨"PointsToRoundsModel", "methodWith", "(II)I"⟩, prog_7_method_9_code, 4, 0, (some .int))
abbrev M_M_found : mM := (⟨"PointsToRoundsModel", "found", "(II)I"⟩, prog_7_method_10_code, 5, 1, (some .int))
abbrev M_M_change : mM := (⟨"PointsToRoundsModel", "change", "()V"⟩, prog_7_method_11_code, 1, 1, none)
abbrev M_M_cls : mM := (⟨"PointsToRoundsModel", "cls", "(I)I"⟩, prog_7_method_12_code, 2, 2, (some .int))
abbrev M_M_field : mM := (⟨"PointsToRoundsModel", "field", "(I)I"⟩, prog_7_method_13_code, 2, 2, (some .int))
abbrev M_M_method : mM := (⟨"PointsToRoundsModel", "method", "(II)I"⟩, prog_7_method_14_code, 3, 2, (some .int))
abbrev M_M_isGood : mM := (⟨"PointsToRoundsModel", "isGood", "(IIIIII)Z"⟩, prog_7_method_15_code, 7, 1, (some .boolean))
abbrev M_M_statement : mM := (⟨"PointsToRoundsModel", "statement", "(IIIIIII)I"⟩, prog_7_method_16_code, 9, 2, (some .int))
abbrev M_M_mode : mM := (⟨"PointsToRoundsModel", "mode", "(I)I"⟩, prog_7_method_17_code, 3, 2, (some .int))
abbrev M_M_clear : mM := (⟨"PointsToRoundsModel", "clear", "()I"⟩, prog_7_method_18_code, 2, 2, (some .int))
abbrev M_M_nameAt : mM := (⟨"PointsToRoundsModel", "nameAt", "(III)I"⟩, prog_7_method_19_code, 3, 0, (some .int))
abbrev M_M_empty : mM := (⟨"PointsToRoundsModel", "empty", "()V"⟩, prog_7_method_20_code, 2, 0, none)
abbrev M_M_copy : mM := (⟨"PointsToRoundsModel", "copy", "()V"⟩, prog_7_method_21_code, 2, 0, none)
abbrev M_M_isSame : mM := (⟨"PointsToRoundsModel", "isSame", "()Z"⟩, prog_7_method_22_code, 3, 0, (some .boolean))
abbrev M_M_bring : mM := (⟨"PointsToRoundsModel", "bring", "(II)V"⟩, prog_7_method_23_code, 7, 3, none)
abbrev M_M_bringEach : mM := (⟨"PointsToRoundsModel", "bringEach", "(IIII)V"⟩, prog_7_method_24_code, 8, 2, none)
abbrev M_M_call : mM := (⟨"PointsToRoundsModel", "call", "(IIII)V"⟩, prog_7_method_25_code, 10, 2, none)
abbrev M_M_swap : mM := (⟨"PointsToRoundsModel", "swap", "()V"⟩, prog_7_method_26_code, 2, 0, none)
abbrev M_M_allOf : mM := (⟨"PointsToRoundsModel", "allOf", "(II)I"⟩, prog_7_method_27_code, 5, 1, (some .int))
abbrev M_M_note : mM := (⟨"PointsToRoundsModel", "note", "(I)V"⟩, prog_7_method_28_code, 7, 2, none)
abbrev M_M_know : mM := (⟨"PointsToRoundsModel", "know", "()V"⟩, prog_7_method_29_code, 4, 4, none)
abbrev M_M_isContext : mM := (⟨"PointsToRoundsModel", "isContext", "(I)Z"⟩, prog_7_method_30_code, 2, 0, (some .boolean))
abbrev M_M_points : mM := (⟨"PointsToRoundsModel", "points", "(III)I"⟩, prog_7_method_31_code, 4, 5, (some .int))
abbrev M_M_isSite : mM := (⟨"PointsToRoundsModel", "isSite", "(I)Z"⟩, prog_7_method_32_code, 2, 0, (some .boolean))
abbrev M_M_inField : mM := (⟨"PointsToRoundsModel", "inField", "(II)I"⟩, prog_7_method_33_code, 3, 5, (some .int))
abbrev M_M_element : mM := (⟨"PointsToRoundsModel", "element", "(I)I"⟩, prog_7_method_34_code, 2, 5, (some .int))
abbrev M_M_inStatic : mM := (⟨"PointsToRoundsModel", "inStatic", "(I)I"⟩, prog_7_method_35_code, 2, 5, (some .int))
abbrev M_M_reached : mM := (⟨"PointsToRoundsModel", "reached", "(I)I"⟩, prog_7_method_36_code, 4, 5, (some .int))
abbrev M_M_may : mM := (⟨"PointsToRoundsModel", "may", "(I)I"⟩, prog_7_method_37_code, 6, 5, (some .int))
abbrev M_M_alias : mM := (⟨"PointsToRoundsModel", "alias", "(IIII)I"⟩, prog_7_method_38_code, 5, 5, (some .int))
abbrev M_M_rounds : mM := (⟨"PointsToRoundsModel", "rounds", "()I"⟩, prog_7_method_39_code, 1, 5, (some .int))
abbrev M_M_when : mM := (⟨"PointsToRoundsModel", "when", "(III)I"⟩, prog_7_method_40_code, 5, 5, (some .int))
abbrev M_M_forgetRun : mM := (⟨"PointsToRoundsModel", "forgetRun", "()V"⟩, prog_7_method_41_code, 2, 0, none)
abbrev M_M_open : mM := (⟨"PointsToRoundsModel", "open", "(III)V"⟩, prog_7_method_42_code, 5, 0, none)
abbrev M_M_statementOf : mM := (⟨"PointsToRoundsModel", "statementOf", "(II)I"⟩, prog_7_method_43_code, 5, 0, (some .int))
abbrev M_M_many : mM := (⟨"PointsToRoundsModel", "many", "(I)I"⟩, prog_7_method_44_code, 4, 0, (some .int))
abbrev M_M_canHave : mM := (⟨"PointsToRoundsModel", "canHave", "(II)Z"⟩, prog_7_method_45_code, 3, 2, (some .boolean))
abbrev M_M_make : mM := (⟨"PointsToRoundsModel", "make", "(II)V"⟩, prog_7_method_46_code, 4, 0, none)
abbrev M_M_enter : mM := (⟨"PointsToRoundsModel", "enter", "(III)V"⟩, prog_7_method_47_code, 7, 2, none)
abbrev M_M_act : mM := (⟨"PointsToRoundsModel", "act", "(I)V"⟩, prog_7_method_48_code, 6, 3, none)
abbrev M_M_leave : mM := (⟨"PointsToRoundsModel", "leave", "()V"⟩, prog_7_method_49_code, 1, 0, none)
abbrev M_M_isIn : mM := (⟨"PointsToRoundsModel", "isIn", "(II)Z"⟩, prog_7_method_50_code, 3, 0, (some .boolean))
abbrev M_M_holds : mM := (⟨"PointsToRoundsModel", "holds", "()Z"⟩, prog_7_method_51_code, 5, 1, (some .boolean))
abbrev M_M_run : mM := (⟨"PointsToRoundsModel", "run", "(II)I"⟩, prog_7_method_52_code, 10, 5, (some .int))
abbrev M_M_met : mM := (⟨"PointsToRoundsModel", "met", "(II)I"⟩, prog_7_method_53_code, 3, 1, (some .int))
abbrev M_M_ran : mM := (⟨"PointsToRoundsModel", "ran", "(I)I"⟩, prog_7_method_54_code, 2, 0, (some .int))
abbrev M_P_hasClass : mM := (⟨"PointsToRounds$Program", "hasClass", "(I)Z"⟩, prog_2_method_2_code, 2, 0, (some .boolean))
abbrev M_P_hasField : mM := (⟨"PointsToRounds$Program", "hasField", "(I)Z"⟩, prog_2_method_3_code, 2, 0, (some .boolean))
abbrev M_P_hasMethod : mM := (⟨"PointsToRounds$Program", "hasMethod", "(I)Z"⟩, prog_2_method_4_code, 2, 0, (some .boolean))
abbrev M_P_hasName : mM := (⟨"PointsToRounds$Program", "hasName", "(II)Z"⟩, prog_2_method_5_code, 3, 1, (some .boolean))
abbrev M_P_hasStatement : mM := (⟨"PointsToRounds$Program", "hasStatement", "(I)Z"⟩, prog_2_method_6_code, 2, 0, (some .boolean))
abbrev M_P_hasSite : mM := (⟨"PointsToRounds$Program", "hasSite", "(I)Z"⟩, prog_2_method_7_code, 2, 0, (some .boolean))
abbrev M_P_hasOperands : mM := (⟨"PointsToRounds$Program", "hasOperands", "(IIIIII)Z"⟩, prog_2_method_8_code, 7, 1, (some .boolean))
abbrev M_P_hasRoomFor : mM := (⟨"PointsToRounds$Program", "hasRoomFor", "(I)Z"⟩, prog_2_method_9_code, 2, 0, (some .boolean))
abbrev M_P_empty : mM := (⟨"PointsToRounds$Program", "empty", "()V"⟩, prog_2_method_10_code, 1, 0, none)
abbrev M_P_addClass : mM := (⟨"PointsToRounds$Program", "addClass", "(I)I"⟩, prog_2_method_11_code, 4, 1, (some .int))
abbrev M_P_addField : mM := (⟨"PointsToRounds$Program", "addField", "(I)I"⟩, prog_2_method_12_code, 3, 0, (some .int))
abbrev M_P_addMethod : mM := (⟨"PointsToRounds$Program", "addMethod", "(II)I"⟩, prog_2_method_13_code, 5, 1, (some .int))
abbrev M_P_findMethod : mM := (⟨"PointsToRounds$Program", "findMethod", "(II)V"⟩, prog_2_method_14_code, 4, 0, none)
abbrev M_P_nextStatement : mM := (⟨"PointsToRounds$Program", "nextStatement", "()LPointsToRounds$Statement;"⟩, prog_2_method_15_code, 1, 0, (some (.object "PointsToRounds$Statement")))
abbrev M_P_addStatement : mM := (⟨"PointsToRounds$Program", "addStatement", "(I)I"⟩, prog_2_method_16_code, 4, 2, (some .int))
abbrev M_P_addSite : mM := (⟨"PointsToRounds$Program", "addSite", "(I)I"⟩, prog_2_method_17_code, 4, 1, (some .int))
abbrev M_P_ownMethod : mM := (⟨"PointsToRounds$Program", "ownMethod", "(II)I"⟩, prog_2_method_18_code, 3, 0, (some .int))
abbrev M_P_methodFound : mM := (⟨"PointsToRounds$Program", "methodFound", "(II)I"⟩, prog_2_method_19_code, 3, 0, (some .int))
abbrev M_P_methodsFound : mM := (⟨"PointsToRounds$Program", "methodsFound", "(II)I"⟩, prog_2_method_20_code, 6, 1, (some .int))
abbrev M_P_sitesWith : mM := (⟨"PointsToRounds$Program", "sitesWith", "(I)I"⟩, prog_2_method_21_code, 2, 0, (some .int))
abbrev M_P_statementOf : mM := (⟨"PointsToRounds$Program", "statementOf", "(II)LPointsToRounds$Statement;"⟩, prog_2_method_22_code, 3, 0, (some (.object "PointsToRounds$Statement")))
abbrev M_S_hasContext : mM := (⟨"PointsToRounds$Sets", "hasContext", "(I)Z"⟩, prog_3_method_2_code, 2, 0, (some .boolean))
abbrev M_S_contextOf : mM := (⟨"PointsToRounds$Sets", "contextOf", "(I)I"⟩, prog_3_method_3_code, 2, 0, (some .int))
abbrev M_S_at : mM := (⟨"PointsToRounds$Sets", "at", "(I)I"⟩, prog_3_method_4_code, 2, 0, (some .int))
abbrev M_S_inAllContexts : mM := (⟨"PointsToRounds$Sets", "inAllContexts", "(II)I"⟩, prog_3_method_5_code, 5, 1, (some .int))
abbrev M_S_firstRound : mM := (⟨"PointsToRounds$Sets", "firstRound", "(III)I"⟩, prog_3_method_6_code, 4, 0, (some .int))
abbrev M_S_settle : mM := (⟨"PointsToRounds$Sets", "settle", "()V"⟩, prog_3_method_7_code, 1, 5, none)
abbrev M_S_doRound : mM := (⟨"PointsToRounds$Sets", "doRound", "()V"⟩, prog_3_method_8_code, 6, 4, none)
abbrev M_S_doStatement : mM := (⟨"PointsToRounds$Sets", "doStatement", "(LPointsToRounds$Statement;I)V"⟩, prog_3_method_9_code, 5, 3, none)
abbrev M_S_addFromSlot : mM := (⟨"PointsToRounds$Sets", "addFromSlot", "(III)V"⟩, prog_3_method_10_code, 6, 2, none)
abbrev M_S_addToSlot : mM := (⟨"PointsToRounds$Sets", "addToSlot", "(III)V"⟩, prog_3_method_11_code, 6, 2, none)
abbrev M_S_doCall : mM := (⟨"PointsToRounds$Sets", "doCall", "(LPointsToRounds$Statement;I)V"⟩, prog_3_method_12_code, 8, 2, none)
abbrev M_S_add : mM := (⟨"PointsToRounds$Sets", "add", "(II)V"⟩, prog_3_method_13_code, 4, 1, none)
abbrev M_S_noteRound : mM := (⟨"PointsToRounds$Sets", "noteRound", "(II)V"⟩, prog_3_method_14_code, 6, 0, none)
abbrev M_G_tell : mM := (⟨"PointsToRounds$Statement", "tell", "(IIIIII)V"⟩, prog_4_method_2_code, 7, 0, none)
abbrev M_T_forget : mM := (⟨"PointsToRounds$Trial", "forget", "()V"⟩, prog_5_method_2_code, 1, 1, none)
abbrev M_T_holdsFor : mM := (⟨"PointsToRounds$Trial", "holdsFor", "(II)Z"⟩, prog_5_method_3_code, 5, 6, (some .boolean))
abbrev M_T_pushFrame : mM := (⟨"PointsToRounds$Trial", "pushFrame", "(III)V"⟩, prog_5_method_4_code, 5, 2, none)
abbrev M_T_doStep : mM := (⟨"PointsToRounds$Trial", "doStep", "(I)V"⟩, prog_5_method_5_code, 6, 5, none)
abbrev M_T_doStatement : mM := (⟨"PointsToRounds$Trial", "doStatement", "(LPointsToRounds$Statement;I)V"⟩, prog_5_method_6_code, 3, 4, none)
abbrev M_T_makeObject : mM := (⟨"PointsToRounds$Trial", "makeObject", "(LPointsToRounds$Statement;I)V"⟩, prog_5_method_7_code, 3, 2, none)
abbrev M_T_castObject : mM := (⟨"PointsToRounds$Trial", "castObject", "(LPointsToRounds$Statement;I)V"⟩, prog_5_method_8_code, 4, 1, none)
abbrev M_T_hasSlot : mM := (⟨"PointsToRounds$Trial", "hasSlot", "(II)Z"⟩, prog_5_method_9_code, 3, 1, (some .boolean))
abbrev M_T_readSlot : mM := (⟨"PointsToRounds$Trial", "readSlot", "(III)V"⟩, prog_5_method_10_code, 4, 2, none)
abbrev M_T_writeSlot : mM := (⟨"PointsToRounds$Trial", "writeSlot", "(III)V"⟩, prog_5_method_11_code, 4, 2, none)
abbrev M_T_enterMethod : mM := (⟨"PointsToRounds$Trial", "enterMethod", "(LPointsToRounds$Statement;I)V"⟩, prog_5_method_12_code, 7, 3, none)
abbrev M_T_lookAt : mM := (⟨"PointsToRounds$Trial", "lookAt", "(II)V"⟩, prog_5_method_13_code, 3, 1, none)
abbrev M_T_lookAtNames : mM := (⟨"PointsToRounds$Trial", "lookAtNames", "()V"⟩, prog_5_method_14_code, 6, 2, none)
abbrev M_I_bitCount : mM := (⟨"java/lang/Integer", "bitCount", "(I)I"⟩, prog_8_method_49_code, 1, 0, (some .int))
abbrev M_A_fill : mM := (⟨"java/util/Arrays", "fill", "([II)V"⟩, prog_10_method_103_code, 4, 0, none)
abbrev M_A_fillR : mM := (⟨"java/util/Arrays", "fill", "([IIII)V"⟩, prog_10_method_104_code, 5, 1, none)
abbrev M_A_rangeCheck : mM := (⟨"java/util/Arrays", "rangeCheck", "(III)V"⟩, prog_10_method_30_code, 3, 0, none)
