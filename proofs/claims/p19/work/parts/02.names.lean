/-! names: by program (wip/tools/names.py) out of the claim's own listing -/
def gzb (w : Cond) : Bool := match w with
  | .fieldLinkNest _ _ _ _ _ _ => true
  | .methodLinkNest _ _ _ _ => true
  | .declares _ => true
  | .castable _ _ => true
  | .arrayOver (.object _) => true
  | .stringRef _ _ _ => true
  | _ => false
def gT : List Cond := lw_tbl.filter goodWord
def gz : List Cond := tables_1.filter gzb
theorem gT_in {w : Cond} (n : Nat) (h : tables_1[n]? = some w) (hg : goodWord w = true) : w ∈ gT := List.mem_filter.mpr ⟨List.mem_append_right _ (List.mem_of_getElem? h), hg⟩
theorem gT_sel {w : Cond} (n : Nat) (h : (k2_sels lw_privs)[n]? = some w) (hg : goodWord w = true) : w ∈ gT := List.mem_filter.mpr ⟨List.mem_append_left _ (List.mem_of_getElem? h), hg⟩
theorem gz_in {w : Cond} (n : Nat) (h : tables_1[n]? = some w) (hg : gzb w = true) : w ∈ gz := List.mem_filter.mpr ⟨List.mem_of_getElem? h, hg⟩
theorem gT_k1 {w : Cond} (j : Nat) (h : tables_1_1[j]? = some w) (hg : goodWord w = true) : w ∈ gT := List.mem_filter.mpr ⟨List.mem_append_right _ (List.mem_append_left _ (List.mem_of_getElem? h)), hg⟩
theorem gz_k1 {w : Cond} (j : Nat) (h : tables_1_1[j]? = some w) (hg : gzb w = true) : w ∈ gz := List.mem_filter.mpr ⟨List.mem_append_left _ (List.mem_of_getElem? h), hg⟩
theorem gT_k2 {w : Cond} (j : Nat) (h : tables_1_2[j]? = some w) (hg : goodWord w = true) : w ∈ gT := List.mem_filter.mpr ⟨List.mem_append_right _ (List.mem_append_right _ (List.mem_append_left _ (List.mem_of_getElem? h))), hg⟩
theorem gz_k2 {w : Cond} (j : Nat) (h : tables_1_2[j]? = some w) (hg : gzb w = true) : w ∈ gz := List.mem_filter.mpr ⟨List.mem_append_right _ (List.mem_append_left _ (List.mem_of_getElem? h)), hg⟩
theorem gT_k3 {w : Cond} (j : Nat) (h : tables_1_3[j]? = some w) (hg : goodWord w = true) : w ∈ gT := List.mem_filter.mpr ⟨List.mem_append_right _ (List.mem_append_right _ (List.mem_append_right _ (List.mem_append_left _ (List.mem_of_getElem? h)))), hg⟩
theorem gz_k3 {w : Cond} (j : Nat) (h : tables_1_3[j]? = some w) (hg : gzb w = true) : w ∈ gz := List.mem_filter.mpr ⟨List.mem_append_right _ (List.mem_append_right _ (List.mem_append_left _ (List.mem_of_getElem? h))), hg⟩
theorem gT_k4 {w : Cond} (j : Nat) (h : tables_1_4[j]? = some w) (hg : goodWord w = true) : w ∈ gT := List.mem_filter.mpr ⟨List.mem_append_right _ (List.mem_append_right _ (List.mem_append_right _ (List.mem_append_right _ (List.mem_append_left _ (List.mem_of_getElem? h))))), hg⟩
theorem gz_k4 {w : Cond} (j : Nat) (h : tables_1_4[j]? = some w) (hg : gzb w = true) : w ∈ gz := List.mem_filter.mpr ⟨List.mem_append_right _ (List.mem_append_right _ (List.mem_append_right _ (List.mem_append_left _ (List.mem_of_getElem? h)))), hg⟩
theorem gT_k5 {w : Cond} (j : Nat) (h : tables_1_5[j]? = some w) (hg : goodWord w = true) : w ∈ gT := List.mem_filter.mpr ⟨List.mem_append_right _ (List.mem_append_right _ (List.mem_append_right _ (List.mem_append_right _ (List.mem_append_right _ (List.mem_append_left _ (List.mem_of_getElem? h)))))), hg⟩
theorem gz_k5 {w : Cond} (j : Nat) (h : tables_1_5[j]? = some w) (hg : gzb w = true) : w ∈ gz := List.mem_filter.mpr ⟨List.mem_append_right _ (List.mem_append_right _ (List.mem_append_right _ (List.mem_append_right _ (List.mem_append_left _ (List.mem_of_getElem? h))))), hg⟩
theorem gT_k6 {w : Cond} (j : Nat) (h : tables_1_6[j]? = some w) (hg : goodWord w = true) : w ∈ gT := List.mem_filter.mpr ⟨List.mem_append_right _ (List.mem_append_right _ (List.mem_append_right _ (List.mem_append_right _ (List.mem_append_right _ (List.mem_append_right _ (List.mem_append_left _ (List.mem_of_getElem? h))))))), hg⟩
theorem gz_k6 {w : Cond} (j : Nat) (h : tables_1_6[j]? = some w) (hg : gzb w = true) : w ∈ gz := List.mem_filter.mpr ⟨List.mem_append_right _ (List.mem_append_right _ (List.mem_append_right _ (List.mem_append_right _ (List.mem_append_right _ (List.mem_append_left _ (List.mem_of_getElem? h)))))), hg⟩
theorem gT_k7 {w : Cond} (j : Nat) (h : tables_1_7[j]? = some w) (hg : goodWord w = true) : w ∈ gT := List.mem_filter.mpr ⟨List.mem_append_right _ (List.mem_append_right _ (List.mem_append_right _ (List.mem_append_right _ (List.mem_append_right _ (List.mem_append_right _ (List.mem_append_right _ (List.mem_of_getElem? h))))))), hg⟩
theorem gz_k7 {w : Cond} (j : Nat) (h : tables_1_7[j]? = some w) (hg : gzb w = true) : w ∈ gz := List.mem_filter.mpr ⟨List.mem_append_right _ (List.mem_append_right _ (List.mem_append_right _ (List.mem_append_right _ (List.mem_append_right _ (List.mem_append_right _ (List.mem_of_getElem? h)))))), hg⟩
theorem gT_good : GoodIn gT gT := fun w h => ⟨h, good_of_word (List.mem_filter.mp h).2⟩
theorem gT_goodc {y : MethodName} {b : ByteArray} {n : Nat} {r : Option FieldType} (h : Cond.code y b n r ∈ gT) : GoodIn gT (Cond.code y b n r :: gT) := fun w hw => by
  rcases List.mem_cons.mp hw with rfl | hw
  · exact gT_good _ h
  · exact gT_good _ hw
def R_N : String := "EffectNodes"
def F_N : u_T := fun k => match k with
  | 0 => ("EffectNodes", "types", "LEffectNodes$Types;", true)
  | 1 => ("EffectNodes", "nodes", "LEffectNodes$Nodes;", true)
  | 2 => ("EffectNodes", "given", "[I", true)
  | 3 => ("EffectNodes", "result", "[I", true)
  | 4 => ("EffectNodes", "checker", "LEffectNodes$Checker;", true)
  | 5 => ("EffectNodes", "code", "LEffectNodes$Code;", true)
  | _ => ("EffectNodes", "machine", "LEffectNodes$Machine;", true)
def t_N : Nat → FieldType := fun k => match k with
  | 0 => .object "EffectNodes$Types"
  | 1 => .object "EffectNodes$Nodes"
  | 2 => .array .int
  | 3 => .array .int
  | 4 => .object "EffectNodes$Checker"
  | 5 => .object "EffectNodes$Code"
  | _ => .object "EffectNodes$Machine"
theorem n_N : ∀ a, a < 7 → ∀ b, b < 7 → a ≠ b → (F_N a).2.1 ≠ (F_N b).2.1 := by decide +kernel
theorem t_N_ok : ∀ k, k < 7 → parseFieldDescriptor (F_N k).2.2.1 = some (t_N k) := by decide +kernel
theorem i_N : ∀ w ∈ u_ws R_N F_N 7, w ∈ gT := fun w h => by
  have h1 : (u_ws R_N F_N 7).all goodWord = true := by decide +kernel
  have h2 : u_ws R_N F_N 7 = ([361, 363, 365, 367, 369, 371, 373] : List Nat).filterMap (fun i => tables_1[i]?) := by decide +kernel
  have h3 := h
  rw [h2] at h3
  obtain ⟨i, -, hi⟩ := List.mem_filterMap.mp h3
  exact List.mem_filter.mpr ⟨List.mem_append_right _ (List.mem_of_getElem? hi), List.all_eq_true.mp h1 w h⟩
def R_Ty : String := "EffectNodes$Types"
def F_Ty : u_T := fun k => match k with
  | 0 => ("EffectNodes$Types", "arguments", "LEffectNodes$Cells;", true)
  | 1 => ("EffectNodes$Types", "results", "LEffectNodes$Cells;", true)
  | 2 => ("EffectNodes$Types", "rows", "LEffectNodes$Cells;", true)
  | 3 => ("EffectNodes$Types", "suiting", "LEffectNodes$Cells;", true)
  | _ => ("EffectNodes$Types", "count", "I", false)
def t_Ty : Nat → FieldType := fun k => match k with
  | 0 => .object "EffectNodes$Cells"
  | 1 => .object "EffectNodes$Cells"
  | 2 => .object "EffectNodes$Cells"
  | 3 => .object "EffectNodes$Cells"
  | _ => .int
theorem n_Ty : ∀ a, a < 5 → ∀ b, b < 5 → a ≠ b → (F_Ty a).2.1 ≠ (F_Ty b).2.1 := by decide +kernel
theorem t_Ty_ok : ∀ k, k < 5 → parseFieldDescriptor (F_Ty k).2.2.1 = some (t_Ty k) := by decide +kernel
theorem i_Ty : ∀ w ∈ u_ws R_Ty F_Ty 5, w ∈ gT := fun w h => by
  have h1 : (u_ws R_Ty F_Ty 5).all goodWord = true := by decide +kernel
  have h2 : u_ws R_Ty F_Ty 5 = ([59, 61, 63, 65, 67] : List Nat).filterMap (fun i => tables_1[i]?) := by decide +kernel
  have h3 := h
  rw [h2] at h3
  obtain ⟨i, -, hi⟩ := List.mem_filterMap.mp h3
  exact List.mem_filter.mpr ⟨List.mem_append_right _ (List.mem_of_getElem? hi), List.all_eq_true.mp h1 w h⟩
def R_Ce : String := "EffectNodes$Cells"
def F_Ce : u_T := fun k => match k with
  | _ => ("EffectNodes$Cells", "cells", "[I", false)
def t_Ce : Nat → FieldType := fun k => match k with
  | _ => .array .int
theorem n_Ce : ∀ a, a < 1 → ∀ b, b < 1 → a ≠ b → (F_Ce a).2.1 ≠ (F_Ce b).2.1 := by decide +kernel
theorem t_Ce_ok : ∀ k, k < 1 → parseFieldDescriptor (F_Ce k).2.2.1 = some (t_Ce k) := by decide +kernel
theorem i_Ce : ∀ w ∈ u_ws R_Ce F_Ce 1, w ∈ gT := fun w h => by
  have h1 : (u_ws R_Ce F_Ce 1).all goodWord = true := by decide +kernel
  have h2 : u_ws R_Ce F_Ce 1 = ([50] : List Nat).filterMap (fun i => tables_1[i]?) := by decide +kernel
  have h3 := h
  rw [h2] at h3
  obtain ⟨i, -, hi⟩ := List.mem_filterMap.mp h3
  exact List.mem_filter.mpr ⟨List.mem_append_right _ (List.mem_of_getElem? hi), List.all_eq_true.mp h1 w h⟩
def R_Ns : String := "EffectNodes$Nodes"
def F_Ns : u_T := fun k => match k with
  | 0 => ("EffectNodes$Nodes", "nodes", "[LEffectNodes$Node;", true)
  | 1 => ("EffectNodes$Nodes", "clauses", "[LEffectNodes$Clause;", true)
  | 2 => ("EffectNodes$Nodes", "blank", "LEffectNodes$Node;", true)
  | 3 => ("EffectNodes$Nodes", "blankClause", "LEffectNodes$Clause;", true)
  | 4 => ("EffectNodes$Nodes", "count", "I", false)
  | 5 => ("EffectNodes$Nodes", "clauseCount", "I", false)
  | _ => ("EffectNodes$Nodes", "firstReady", "I", false)
def t_Ns : Nat → FieldType := fun k => match k with
  | 0 => .array (.object "EffectNodes$Node")
  | 1 => .array (.object "EffectNodes$Clause")
  | 2 => .object "EffectNodes$Node"
  | 3 => .object "EffectNodes$Clause"
  | 4 => .int
  | 5 => .int
  | _ => .int
theorem n_Ns : ∀ a, a < 7 → ∀ b, b < 7 → a ≠ b → (F_Ns a).2.1 ≠ (F_Ns b).2.1 := by decide +kernel
theorem t_Ns_ok : ∀ k, k < 7 → parseFieldDescriptor (F_Ns k).2.2.1 = some (t_Ns k) := by decide +kernel
theorem i_Ns : ∀ w ∈ u_ws R_Ns F_Ns 7, w ∈ gT := fun w h => by
  have h1 : (u_ws R_Ns F_Ns 7).all goodWord = true := by decide +kernel
  have h2 : u_ws R_Ns F_Ns 7 = ([183, 185, 187, 189, 191, 193, 195] : List Nat).filterMap (fun i => tables_1[i]?) := by decide +kernel
  have h3 := h
  rw [h2] at h3
  obtain ⟨i, -, hi⟩ := List.mem_filterMap.mp h3
  exact List.mem_filter.mpr ⟨List.mem_append_right _ (List.mem_of_getElem? hi), List.all_eq_true.mp h1 w h⟩
def R_No : String := "EffectNodes$Node"
def F_No : u_T := fun k => match k with
  | 0 => ("EffectNodes$Node", "kind", "I", true)
  | 1 => ("EffectNodes$Node", "value", "I", false)
  | 2 => ("EffectNodes$Node", "name", "I", false)
  | 3 => ("EffectNodes$Node", "own", "I", false)
  | 4 => ("EffectNodes$Node", "first", "I", false)
  | 5 => ("EffectNodes$Node", "second", "I", false)
  | 6 => ("EffectNodes$Node", "third", "I", false)
  | 7 => ("EffectNodes$Node", "clausesFrom", "I", false)
  | 8 => ("EffectNodes$Node", "clausesTo", "I", false)
  | 9 => ("EffectNodes$Node", "size", "I", false)
  | _ => ("EffectNodes$Node", "levels", "I", false)
def t_No : Nat → FieldType := fun k => match k with
  | 0 => .int
  | 1 => .int
  | 2 => .int
  | 3 => .int
  | 4 => .int
  | 5 => .int
  | 6 => .int
  | 7 => .int
  | 8 => .int
  | 9 => .int
  | _ => .int
theorem n_No : ∀ a, a < 11 → ∀ b, b < 11 → a ≠ b → (F_No a).2.1 ≠ (F_No b).2.1 := by decide +kernel
theorem t_No_ok : ∀ k, k < 11 → parseFieldDescriptor (F_No k).2.2.1 = some (t_No k) := by decide +kernel
theorem i_No : ∀ w ∈ u_ws R_No F_No 11, w ∈ gT := fun w h => by
  have h1 : (u_ws R_No F_No 11).all goodWord = true := by decide +kernel
  have h2 : u_ws R_No F_No 11 = ([126, 128, 130, 132, 134, 136, 138, 140, 142, 144, 146] : List Nat).filterMap (fun i => tables_1[i]?) := by decide +kernel
  have h3 := h
  rw [h2] at h3
  obtain ⟨i, -, hi⟩ := List.mem_filterMap.mp h3
  exact List.mem_filter.mpr ⟨List.mem_append_right _ (List.mem_of_getElem? hi), List.all_eq_true.mp h1 w h⟩
def R_Cl : String := "EffectNodes$Clause"
def F_Cl : u_T := fun k => match k with
  | 0 => ("EffectNodes$Clause", "effect", "I", true)
  | 1 => ("EffectNodes$Clause", "argument", "I", true)
  | 2 => ("EffectNodes$Clause", "continuation", "I", true)
  | _ => ("EffectNodes$Clause", "body", "I", true)
def t_Cl : Nat → FieldType := fun k => match k with
  | 0 => .int
  | 1 => .int
  | 2 => .int
  | _ => .int
theorem n_Cl : ∀ a, a < 4 → ∀ b, b < 4 → a ≠ b → (F_Cl a).2.1 ≠ (F_Cl b).2.1 := by decide +kernel
theorem t_Cl_ok : ∀ k, k < 4 → parseFieldDescriptor (F_Cl k).2.2.1 = some (t_Cl k) := by decide +kernel
theorem i_Cl : ∀ w ∈ u_ws R_Cl F_Cl 4, w ∈ gT := fun w h => by
  have h1 : (u_ws R_Cl F_Cl 4).all goodWord = true := by decide +kernel
  have h2 : u_ws R_Cl F_Cl 4 = ([167, 169, 171, 173] : List Nat).filterMap (fun i => tables_1[i]?) := by decide +kernel
  have h3 := h
  rw [h2] at h3
  obtain ⟨i, -, hi⟩ := List.mem_filterMap.mp h3
  exact List.mem_filter.mpr ⟨List.mem_append_right _ (List.mem_of_getElem? hi), List.all_eq_true.mp h1 w h⟩
def R_Ck : String := "EffectNodes$Checker"
def F_Ck : u_T := fun k => match k with
  | 0 => ("EffectNodes$Checker", "nodes", "LEffectNodes$Nodes;", true)
  | 1 => ("EffectNodes$Checker", "types", "LEffectNodes$Types;", true)
  | 2 => ("EffectNodes$Checker", "given", "[I", true)
  | 3 => ("EffectNodes$Checker", "result", "[I", true)
  | 4 => ("EffectNodes$Checker", "scope", "[I", true)
  | 5 => ("EffectNodes$Checker", "faultKind", "I", false)
  | 6 => ("EffectNodes$Checker", "faultNode", "I", false)
  | _ => ("EffectNodes$Checker", "effects", "I", false)
def t_Ck : Nat → FieldType := fun k => match k with
  | 0 => .object "EffectNodes$Nodes"
  | 1 => .object "EffectNodes$Types"
  | 2 => .array .int
  | 3 => .array .int
  | 4 => .array .int
  | 5 => .int
  | 6 => .int
  | _ => .int
theorem n_Ck : ∀ a, a < 8 → ∀ b, b < 8 → a ≠ b → (F_Ck a).2.1 ≠ (F_Ck b).2.1 := by decide +kernel
theorem t_Ck_ok : ∀ k, k < 8 → parseFieldDescriptor (F_Ck k).2.2.1 = some (t_Ck k) := by decide +kernel
theorem i_Ck : ∀ w ∈ u_ws R_Ck F_Ck 8, w ∈ gT := fun w h => by
  have h1 : (u_ws R_Ck F_Ck 8).all goodWord = true := by decide +kernel
  have h2 : u_ws R_Ck F_Ck 8 = ([215, 217, 219, 221, 223, 225, 227, 229] : List Nat).filterMap (fun i => tables_1[i]?) := by decide +kernel
  have h3 := h
  rw [h2] at h3
  obtain ⟨i, -, hi⟩ := List.mem_filterMap.mp h3
  exact List.mem_filter.mpr ⟨List.mem_append_right _ (List.mem_of_getElem? hi), List.all_eq_true.mp h1 w h⟩
def R_Co : String := "EffectNodes$Code"
def F_Co : u_T := fun k => match k with
  | 0 => ("EffectNodes$Code", "nodes", "LEffectNodes$Nodes;", true)
  | 1 => ("EffectNodes$Code", "rows", "LEffectNodes$Cells;", true)
  | _ => ("EffectNodes$Code", "length", "I", false)
def t_Co : Nat → FieldType := fun k => match k with
  | 0 => .object "EffectNodes$Nodes"
  | 1 => .object "EffectNodes$Cells"
  | _ => .int
theorem n_Co : ∀ a, a < 3 → ∀ b, b < 3 → a ≠ b → (F_Co a).2.1 ≠ (F_Co b).2.1 := by decide +kernel
theorem t_Co_ok : ∀ k, k < 3 → parseFieldDescriptor (F_Co k).2.2.1 = some (t_Co k) := by decide +kernel
theorem i_Co : ∀ w ∈ u_ws R_Co F_Co 3, w ∈ gT := fun w h => by
  have h1 : (u_ws R_Co F_Co 3).all goodWord = true := by decide +kernel
  have h2 : u_ws R_Co F_Co 3 = ([243, 245, 247] : List Nat).filterMap (fun i => tables_1[i]?) := by decide +kernel
  have h3 := h
  rw [h2] at h3
  obtain ⟨i, -, hi⟩ := List.mem_filterMap.mp h3
  exact List.mem_filter.mpr ⟨List.mem_append_right _ (List.mem_of_getElem? hi), List.all_eq_true.mp h1 w h⟩
def R_Ma : String := "EffectNodes$Machine"
def F_Ma : u_T := fun k => match k with
  | 0 => ("EffectNodes$Machine", "code", "LEffectNodes$Code;", true)
  | 1 => ("EffectNodes$Machine", "store", "LEffectNodes$Store;", true)
  | 2 => ("EffectNodes$Machine", "loaded", "Z", false)
  | 3 => ("EffectNodes$Machine", "showsValue", "Z", false)
  | 4 => ("EffectNodes$Machine", "state", "I", false)
  | 5 => ("EffectNodes$Machine", "value", "I", false)
  | 6 => ("EffectNodes$Machine", "fuel", "I", false)
  | 7 => ("EffectNodes$Machine", "thingCount", "I", false)
  | 8 => ("EffectNodes$Machine", "depth", "I", false)
  | 9 => ("EffectNodes$Machine", "unhandled", "I", false)
  | 10 => ("EffectNodes$Machine", "top", "LEffectNodes$Frame;", false)
  | 11 => ("EffectNodes$Machine", "allowed", "I", false)
  | 12 => ("EffectNodes$Machine", "taken", "I", false)
  | _ => ("EffectNodes$Machine", "waits", "Z", false)
def t_Ma : Nat → FieldType := fun k => match k with
  | 0 => .object "EffectNodes$Code"
  | 1 => .object "EffectNodes$Store"
  | 2 => .boolean
  | 3 => .boolean
  | 4 => .int
  | 5 => .int
  | 6 => .int
  | 7 => .int
  | 8 => .int
  | 9 => .int
  | 10 => .object "EffectNodes$Frame"
  | 11 => .int
  | 12 => .int
  | _ => .boolean
theorem n_Ma : ∀ a, a < 14 → ∀ b, b < 14 → a ≠ b → (F_Ma a).2.1 ≠ (F_Ma b).2.1 := by decide +kernel
theorem t_Ma_ok : ∀ k, k < 14 → parseFieldDescriptor (F_Ma k).2.2.1 = some (t_Ma k) := by decide +kernel
theorem i_Ma : ∀ w ∈ u_ws R_Ma F_Ma 14, w ∈ gT := fun w h => by
  have h1 : (u_ws R_Ma F_Ma 14).all goodWord = true := by decide +kernel
  have h2 : u_ws R_Ma F_Ma 14 = ([325, 327, 329, 331, 333, 335, 337, 339, 341, 343, 345, 347, 349, 351] : List Nat).filterMap (fun i => tables_1[i]?) := by decide +kernel
  have h3 := h
  rw [h2] at h3
  obtain ⟨i, -, hi⟩ := List.mem_filterMap.mp h3
  exact List.mem_filter.mpr ⟨List.mem_append_right _ (List.mem_of_getElem? hi), List.all_eq_true.mp h1 w h⟩
def R_St : String := "EffectNodes$Store"
def F_St : u_T := fun k => match k with
  | 0 => ("EffectNodes$Store", "frames", "Ljava/util/ArrayList;", true)
  | 1 => ("EffectNodes$Store", "things", "Ljava/util/ArrayList;", true)
  | 2 => ("EffectNodes$Store", "framesUsed", "I", false)
  | 3 => ("EffectNodes$Store", "thingsUsed", "I", false)
  | _ => ("EffectNodes$Store", "free", "LEffectNodes$Frame;", false)
def t_St : Nat → FieldType := fun k => match k with
  | 0 => .object "java/util/ArrayList"
  | 1 => .object "java/util/ArrayList"
  | 2 => .int
  | 3 => .int
  | _ => .object "EffectNodes$Frame"
theorem n_St : ∀ a, a < 5 → ∀ b, b < 5 → a ≠ b → (F_St a).2.1 ≠ (F_St b).2.1 := by decide +kernel
theorem t_St_ok : ∀ k, k < 5 → parseFieldDescriptor (F_St k).2.2.1 = some (t_St k) := by decide +kernel
theorem i_St : ∀ w ∈ u_ws R_St F_St 5, w ∈ gT := fun w h => by
  have h1 : (u_ws R_St F_St 5).all goodWord = true := by decide +kernel
  have h2 : u_ws R_St F_St 5 = ([293, 295, 297, 299, 301] : List Nat).filterMap (fun i => tables_1[i]?) := by decide +kernel
  have h3 := h
  rw [h2] at h3
  obtain ⟨i, -, hi⟩ := List.mem_filterMap.mp h3
  exact List.mem_filter.mpr ⟨List.mem_append_right _ (List.mem_of_getElem? hi), List.all_eq_true.mp h1 w h⟩
def R_Fr : String := "EffectNodes$Frame"
def F_Fr : u_T := fun k => match k with
  | 0 => ("EffectNodes$Frame", "slots", "[I", true)
  | 1 => ("EffectNodes$Frame", "height", "I", false)
  | 2 => ("EffectNodes$Frame", "row", "I", false)
  | 3 => ("EffectNodes$Frame", "handler", "LEffectNodes$Thing;", false)
  | _ => ("EffectNodes$Frame", "below", "LEffectNodes$Frame;", false)
def t_Fr : Nat → FieldType := fun k => match k with
  | 0 => .array .int
  | 1 => .int
  | 2 => .int
  | 3 => .object "EffectNodes$Thing"
  | _ => .object "EffectNodes$Frame"
theorem n_Fr : ∀ a, a < 5 → ∀ b, b < 5 → a ≠ b → (F_Fr a).2.1 ≠ (F_Fr b).2.1 := by decide +kernel
theorem t_Fr_ok : ∀ k, k < 5 → parseFieldDescriptor (F_Fr k).2.2.1 = some (t_Fr k) := by decide +kernel
theorem i_Fr : ∀ w ∈ u_ws R_Fr F_Fr 5, w ∈ gT := fun w h => by
  have h1 : (u_ws R_Fr F_Fr 5).all goodWord = true := by decide +kernel
  have h2 : u_ws R_Fr F_Fr 5 = ([933, 935, 937, 939, 941] : List Nat).filterMap (fun i => tables_1[i]?) := by decide +kernel
  have h3 := h
  rw [h2] at h3
  obtain ⟨i, -, hi⟩ := List.mem_filterMap.mp h3
  exact List.mem_filter.mpr ⟨List.mem_append_right _ (List.mem_of_getElem? hi), List.all_eq_true.mp h1 w h⟩
def R_Th : String := "EffectNodes$Thing"
def F_Th : u_T := fun k => match k with
  | 0 => ("EffectNodes$Thing", "names", "[I", true)
  | 1 => ("EffectNodes$Thing", "row", "I", false)
  | 2 => ("EffectNodes$Thing", "isContinuation", "Z", false)
  | 3 => ("EffectNodes$Thing", "isGone", "Z", false)
  | 4 => ("EffectNodes$Thing", "upper", "LEffectNodes$Frame;", false)
  | 5 => ("EffectNodes$Thing", "lower", "LEffectNodes$Frame;", false)
  | _ => ("EffectNodes$Thing", "brings", "I", false)
def t_Th : Nat → FieldType := fun k => match k with
  | 0 => .array .int
  | 1 => .int
  | 2 => .boolean
  | 3 => .boolean
  | 4 => .object "EffectNodes$Frame"
  | 5 => .object "EffectNodes$Frame"
  | _ => .int
theorem n_Th : ∀ a, a < 7 → ∀ b, b < 7 → a ≠ b → (F_Th a).2.1 ≠ (F_Th b).2.1 := by decide +kernel
theorem t_Th_ok : ∀ k, k < 7 → parseFieldDescriptor (F_Th k).2.2.1 = some (t_Th k) := by decide +kernel
theorem i_Th : ∀ w ∈ u_ws R_Th F_Th 7, w ∈ gT := fun w h => by
  have h1 : (u_ws R_Th F_Th 7).all goodWord = true := by decide +kernel
  have h2 : u_ws R_Th F_Th 7 = ([1107, 1109, 1111, 1113, 1115, 1117, 1119] : List Nat).filterMap (fun i => tables_1[i]?) := by decide +kernel
  have h3 := h
  rw [h2] at h3
  obtain ⟨i, -, hi⟩ := List.mem_filterMap.mp h3
  exact List.mem_filter.mpr ⟨List.mem_append_right _ (List.mem_of_getElem? hi), List.all_eq_true.mp h1 w h⟩
def R_Mo : String := "EffectNodesModel"
def F_Mo : u_T := fun k => match k with
  | 0 => ("EffectNodesModel", "nodes", "I", false)
  | 1 => ("EffectNodesModel", "clauses", "I", false)
  | 2 => ("EffectNodesModel", "ready", "I", false)
  | 3 => ("EffectNodesModel", "types", "I", false)
  | 4 => ("EffectNodesModel", "thrown", "I", false)
  | 5 => ("EffectNodesModel", "kind", "[I", true)
  | 6 => ("EffectNodesModel", "one", "[I", true)
  | 7 => ("EffectNodesModel", "two", "[I", true)
  | 8 => ("EffectNodesModel", "three", "[I", true)
  | 9 => ("EffectNodesModel", "a", "[I", true)
  | 10 => ("EffectNodesModel", "b", "[I", true)
  | 11 => ("EffectNodesModel", "c", "[I", true)
  | 12 => ("EffectNodesModel", "size", "[I", true)
  | 13 => ("EffectNodesModel", "deep", "[I", true)
  | 14 => ("EffectNodesModel", "clauseFrom", "[I", true)
  | 15 => ("EffectNodesModel", "clauseMany", "[I", true)
  | 16 => ("EffectNodesModel", "clauseEffect", "[I", true)
  | 17 => ("EffectNodesModel", "clauseName", "[I", true)
  | 18 => ("EffectNodesModel", "clauseGoesOn", "[I", true)
  | 19 => ("EffectNodesModel", "clauseExp", "[I", true)
  | 20 => ("EffectNodesModel", "argument", "[I", true)
  | 21 => ("EffectNodesModel", "result", "[I", true)
  | 22 => ("EffectNodesModel", "row", "[I", true)
  | 23 => ("EffectNodesModel", "fit", "[Z", true)
  | 24 => ("EffectNodesModel", "takes", "[I", true)
  | 25 => ("EffectNodesModel", "gives", "[I", true)
  | 26 => ("EffectNodesModel", "checkNode", "[I", true)
  | 27 => ("EffectNodesModel", "checkStage", "[I", true)
  | 28 => ("EffectNodesModel", "checkType", "[I", true)
  | 29 => ("EffectNodesModel", "checkRow", "[I", true)
  | 30 => ("EffectNodesModel", "sees", "[I", true)
  | 31 => ("EffectNodesModel", "checkTop", "I", false)
  | 32 => ("EffectNodesModel", "foundType", "I", false)
  | 33 => ("EffectNodesModel", "foundRow", "I", false)
  | 34 => ("EffectNodesModel", "fault", "I", false)
  | 35 => ("EffectNodesModel", "faultNode", "I", false)
  | 36 => ("EffectNodesModel", "program", "I", false)
  | 37 => ("EffectNodesModel", "programType", "I", false)
  | 38 => ("EffectNodesModel", "programRow", "I", false)
  | 39 => ("EffectNodesModel", "checked", "Z", false)
  | 40 => ("EffectNodesModel", "frameNode", "[I", true)
  | 41 => ("EffectNodesModel", "frameStage", "[I", true)
  | 42 => ("EffectNodesModel", "frameValue", "[J", true)
  | 43 => ("EffectNodesModel", "frameSees", "[J", true)
  | 44 => ("EffectNodesModel", "frames", "I", false)
  | 45 => ("EffectNodesModel", "now", "I", false)
  | 46 => ("EffectNodesModel", "ended", "I", false)
  | 47 => ("EffectNodesModel", "fuel", "I", false)
  | 48 => ("EffectNodesModel", "things", "I", false)
  | 49 => ("EffectNodesModel", "depth", "I", false)
  | 50 => ("EffectNodesModel", "lacking", "I", false)
  | 51 => ("EffectNodesModel", "gave", "Z", false)
  | 52 => ("EffectNodesModel", "value", "J", false)
  | 53 => ("EffectNodesModel", "see", "[J", true)
  | 54 => ("EffectNodesModel", "functionNode", "[I", true)
  | 55 => ("EffectNodesModel", "functionSees", "[J", true)
  | 56 => ("EffectNodesModel", "functions", "I", false)
  | 57 => ("EffectNodesModel", "keptFrom", "[I", true)
  | 58 => ("EffectNodesModel", "keptMany", "[I", true)
  | 59 => ("EffectNodesModel", "keptDepth", "[I", true)
  | 60 => ("EffectNodesModel", "keptGone", "[Z", true)
  | 61 => ("EffectNodesModel", "continuations", "I", false)
  | 62 => ("EffectNodesModel", "kept", "I", false)
  | 63 => ("EffectNodesModel", "keptNode", "[I", true)
  | 64 => ("EffectNodesModel", "keptStage", "[I", true)
  | 65 => ("EffectNodesModel", "keptValue", "[J", true)
  | _ => ("EffectNodesModel", "keptSees", "[J", true)
def t_Mo : Nat → FieldType := fun k => match k with
  | 0 => .int
  | 1 => .int
  | 2 => .int
  | 3 => .int
  | 4 => .int
  | 5 => .array .int
  | 6 => .array .int
  | 7 => .array .int
  | 8 => .array .int
  | 9 => .array .int
  | 10 => .array .int
  | 11 => .array .int
  | 12 => .array .int
  | 13 => .array .int
  | 14 => .array .int
  | 15 => .array .int
  | 16 => .array .int
  | 17 => .array .int
  | 18 => .array .int
  | 19 => .array .int
  | 20 => .array .int
  | 21 => .array .int
  | 22 => .array .int
  | 23 => .array .boolean
  | 24 => .array .int
  | 25 => .array .int
  | 26 => .array .int
  | 27 => .array .int
  | 28 => .array .int
  | 29 => .array .int
  | 30 => .array .int
  | 31 => .int
  | 32 => .int
  | 33 => .int
  | 34 => .int
  | 35 => .int
  | 36 => .int
  | 37 => .int
  | 38 => .int
  | 39 => .boolean
  | 40 => .array .int
  | 41 => .array .int
  | 42 => .array .long
  | 43 => .array .long
  | 44 => .int
  | 45 => .int
  | 46 => .int
  | 47 => .int
  | 48 => .int
  | 49 => .int
  | 50 => .int
  | 51 => .boolean
  | 52 => .long
  | 53 => .array .long
  | 54 => .array .int
  | 55 => .array .long
  | 56 => .int
  | 57 => .array .int
  | 58 => .array .int
  | 59 => .array .int
  | 60 => .array .boolean
  | 61 => .int
  | 62 => .int
  | 63 => .array .int
  | 64 => .array .int
  | 65 => .array .long
  | _ => .array .long
theorem n_Mo : ∀ a, a < 67 → ∀ b, b < 67 → a ≠ b → (F_Mo a).2.1 ≠ (F_Mo b).2.1 := by decide +kernel
theorem t_Mo_ok : ∀ k, k < 67 → parseFieldDescriptor (F_Mo k).2.2.1 = some (t_Mo k) := by decide +kernel
theorem i_Mo : ∀ w ∈ u_ws R_Mo F_Mo 67, w ∈ gT := fun w h => by
  have h1 : (u_ws R_Mo F_Mo 67).all goodWord = true := by decide +kernel
  have h2 : u_ws R_Mo F_Mo 67 = ([1272, 1274, 1276, 1278, 1280, 1282, 1284, 1286, 1288, 1290, 1292, 1294, 1296, 1298, 1300, 1302, 1304, 1306, 1308, 1310, 1312, 1314, 1316, 1318, 1320, 1322, 1324, 1326, 1328, 1330, 1332, 1334, 1336, 1338, 1340, 1342, 1344, 1346, 1348, 1350, 1352, 1354, 1356, 1358, 1360, 1362, 1364, 1366, 1368, 1370, 1372, 1374, 1376, 1378, 1380, 1382, 1384, 1386, 1388, 1390, 1392, 1394, 1396, 1398, 1400, 1402, 1404] : List Nat).filterMap (fun i => tables_1[i]?) := by decide +kernel
  have h3 := h
  rw [h2] at h3
  obtain ⟨i, -, hi⟩ := List.mem_filterMap.mp h3
  exact List.mem_filter.mpr ⟨List.mem_append_right _ (List.mem_of_getElem? hi), List.all_eq_true.mp h1 w h⟩
def R_AL : String := "java/util/ArrayList"
def F_AL : u_T := fun k => match k with
  | 0 => ("java/util/ArrayList", "elementData", "[Ljava/lang/Object;", false)
  | 1 => ("java/util/ArrayList", "size", "I", false)
  | _ => ("java/util/AbstractList", "modCount", "I", false)
def t_AL : Nat → FieldType := fun k => match k with
  | 0 => .array (.object "java/lang/Object")
  | 1 => .int
  | _ => .int
theorem n_AL : ∀ a, a < 3 → ∀ b, b < 3 → a ≠ b → (F_AL a).2.1 ≠ (F_AL b).2.1 := by decide +kernel
theorem t_AL_ok : ∀ k, k < 3 → parseFieldDescriptor (F_AL k).2.2.1 = some (t_AL k) := by decide +kernel
theorem i_AL : ∀ w ∈ u_ws R_AL F_AL 3, w ∈ gT := fun w h => by
  have h1 : (u_ws R_AL F_AL 3).all goodWord = true := by decide +kernel
  have h2 : u_ws R_AL F_AL 3 = ([281, 283, 285] : List Nat).filterMap (fun i => tables_1[i]?) := by decide +kernel
  have h3 := h
  rw [h2] at h3
  obtain ⟨i, -, hi⟩ := List.mem_filterMap.mp h3
  exact List.mem_filter.mpr ⟨List.mem_append_right _ (List.mem_of_getElem? hi), List.all_eq_true.mp h1 w h⟩
abbrev gcl : List vw_C := [(R_N, F_N, 7), (R_Ty, F_Ty, 5), (R_Ce, F_Ce, 1), (R_Ns, F_Ns, 7), (R_No, F_No, 11), (R_Cl, F_Cl, 4), (R_Ck, F_Ck, 8), (R_Co, F_Co, 3), (R_Ma, F_Ma, 14), (R_St, F_St, 5), (R_Fr, F_Fr, 5), (R_Th, F_Th, 7), (R_Mo, F_Mo, 67), (R_AL, F_AL, 3)]
def y_N_init : MethodName := ⟨R_N, "<init>", "()V"⟩
abbrev c_N_init : ByteArray := prog_1_method_1_code
def y_N_clear : MethodName := ⟨R_N, "clear", "()V"⟩
abbrev c_N_clear : ByteArray := prog_1_method_2_code
def y_N_function : MethodName := ⟨R_N, "function", "(III)I"⟩
abbrev c_N_function : ByteArray := prog_1_method_3_code
def y_N_effect : MethodName := ⟨R_N, "effect", "(III)V"⟩
abbrev c_N_effect : ByteArray := prog_1_method_4_code
def y_N_atom : MethodName := ⟨R_N, "atom", "(II)I"⟩
abbrev c_N_atom : ByteArray := prog_1_method_5_code
def y_N_let : MethodName := ⟨R_N, "let", "(III)I"⟩
abbrev c_N_let : ByteArray := prog_1_method_6_code
def y_N_rec : MethodName := ⟨R_N, "rec", "(IIIII)I"⟩
abbrev c_N_rec : ByteArray := prog_1_method_7_code
def y_N_choice : MethodName := ⟨R_N, "choice", "(III)I"⟩
abbrev c_N_choice : ByteArray := prog_1_method_8_code
def y_N_fn : MethodName := ⟨R_N, "fn", "(III)I"⟩
abbrev c_N_fn : ByteArray := prog_1_method_9_code
def y_N_clause : MethodName := ⟨R_N, "clause", "(IIII)I"⟩
abbrev c_N_clause : ByteArray := prog_1_method_10_code
def y_N_handle : MethodName := ⟨R_N, "handle", "(IIII)I"⟩
abbrev c_N_handle : ByteArray := prog_1_method_11_code
def y_N_two : MethodName := ⟨R_N, "two", "(III)I"⟩
abbrev c_N_two : ByteArray := prog_1_method_12_code
def y_N_call : MethodName := ⟨R_N, "call", "(II)I"⟩
abbrev c_N_call : ByteArray := prog_1_method_13_code
def y_N_perform : MethodName := ⟨R_N, "perform", "(II)I"⟩
abbrev c_N_perform : ByteArray := prog_1_method_14_code
def y_N_check : MethodName := ⟨R_N, "check", "(I)I"⟩
abbrev c_N_check : ByteArray := prog_1_method_15_code
def y_N_fault : MethodName := ⟨R_N, "fault", "(I)I"⟩
abbrev c_N_fault : ByteArray := prog_1_method_16_code
def y_N_type : MethodName := ⟨R_N, "type", "(II)I"⟩
abbrev c_N_type : ByteArray := prog_1_method_17_code
def y_N_fits : MethodName := ⟨R_N, "fits", "(II)Z"⟩
abbrev c_N_fits : ByteArray := prog_1_method_18_code
def y_N_start : MethodName := ⟨R_N, "start", "()V"⟩
abbrev c_N_start : ByteArray := prog_1_method_19_code
def y_N_run : MethodName := ⟨R_N, "run", "(I)I"⟩
abbrev c_N_run : ByteArray := prog_1_method_20_code
def y_N_state : MethodName := ⟨R_N, "state", "(I)I"⟩
abbrev c_N_state : ByteArray := prog_1_method_21_code
def y_N_needType : MethodName := ⟨R_N, "needType", "(I)V"⟩
abbrev c_N_needType : ByteArray := prog_1_method_22_code
def y_N_needNode : MethodName := ⟨R_N, "needNode", "(I)V"⟩
abbrev c_N_needNode : ByteArray := prog_1_method_23_code
def y_N_needRoom : MethodName := ⟨R_N, "needRoom", "()V"⟩
abbrev c_N_needRoom : ByteArray := prog_1_method_24_code
def y_N_needRow : MethodName := ⟨R_N, "needRow", "(I)V"⟩
abbrev c_N_needRow : ByteArray := prog_1_method_25_code
def y_N_needName : MethodName := ⟨R_N, "needName", "(I)V"⟩
abbrev c_N_needName : ByteArray := prog_1_method_26_code
def y_N_needEffect : MethodName := ⟨R_N, "needEffect", "(I)V"⟩
abbrev c_N_needEffect : ByteArray := prog_1_method_27_code
def y_N_isWithin : MethodName := ⟨R_N, "isWithin", "(II)Z"⟩
abbrev c_N_isWithin : ByteArray := prog_1_method_28_code
def y_Mo_init : MethodName := ⟨R_Mo, "<init>", "()V"⟩
abbrev c_Mo_init : ByteArray := prog_14_method_1_code
def y_Mo_thrown : MethodName := ⟨R_Mo, "thrown", "()I"⟩
abbrev c_Mo_thrown : ByteArray := prog_14_method_2_code
def y_Mo_clear : MethodName := ⟨R_Mo, "clear", "()V"⟩
abbrev c_Mo_clear : ByteArray := prog_14_method_3_code
def y_Mo_isType : MethodName := ⟨R_Mo, "isType", "(I)Z"⟩
abbrev c_Mo_isType : ByteArray := prog_14_method_4_code
def y_Mo_typeOf : MethodName := ⟨R_Mo, "typeOf", "(III)I"⟩
abbrev c_Mo_typeOf : ByteArray := prog_14_method_5_code
def y_Mo_looksFit : MethodName := ⟨R_Mo, "looksFit", "(II)Z"⟩
abbrev c_Mo_looksFit : ByteArray := prog_14_method_6_code
def y_Mo_function : MethodName := ⟨R_Mo, "function", "(III)I"⟩
abbrev c_Mo_function : ByteArray := prog_14_method_7_code
def y_Mo_isEffect : MethodName := ⟨R_Mo, "isEffect", "(I)Z"⟩
abbrev c_Mo_isEffect : ByteArray := prog_14_method_8_code
def y_Mo_effect : MethodName := ⟨R_Mo, "effect", "(III)V"⟩
abbrev c_Mo_effect : ByteArray := prog_14_method_9_code
def y_Mo_type : MethodName := ⟨R_Mo, "type", "(II)I"⟩
abbrev c_Mo_type : ByteArray := prog_14_method_10_code
def y_Mo_fits : MethodName := ⟨R_Mo, "fits", "(II)Z"⟩
abbrev c_Mo_fits : ByteArray := prog_14_method_11_code
def y_Mo_isNode : MethodName := ⟨R_Mo, "isNode", "(I)Z"⟩
abbrev c_Mo_isNode : ByteArray := prog_14_method_12_code
def y_Mo_isName : MethodName := ⟨R_Mo, "isName", "(I)Z"⟩
abbrev c_Mo_isName : ByteArray := prog_14_method_13_code
def y_Mo_add : MethodName := ⟨R_Mo, "add", "(IZIII)I"⟩
abbrev c_Mo_add : ByteArray := prog_14_method_14_code
def y_Mo_counts : MethodName := ⟨R_Mo, "counts", "(II)V"⟩
abbrev c_Mo_counts : ByteArray := prog_14_method_15_code
def y_Mo_atom : MethodName := ⟨R_Mo, "atom", "(II)I"⟩
abbrev c_Mo_atom : ByteArray := prog_14_method_16_code
def y_Mo_let : MethodName := ⟨R_Mo, "let", "(III)I"⟩
abbrev c_Mo_let : ByteArray := prog_14_method_17_code
def y_Mo_rec : MethodName := ⟨R_Mo, "rec", "(IIIII)I"⟩
abbrev c_Mo_rec : ByteArray := prog_14_method_18_code
def y_Mo_choice : MethodName := ⟨R_Mo, "choice", "(III)I"⟩
abbrev c_Mo_choice : ByteArray := prog_14_method_19_code
def y_Mo_fn : MethodName := ⟨R_Mo, "fn", "(III)I"⟩
abbrev c_Mo_fn : ByteArray := prog_14_method_20_code
def y_Mo_clause : MethodName := ⟨R_Mo, "clause", "(IIII)I"⟩
abbrev c_Mo_clause : ByteArray := prog_14_method_21_code
def y_Mo_handle : MethodName := ⟨R_Mo, "handle", "(IIII)I"⟩
abbrev c_Mo_handle : ByteArray := prog_14_method_22_code
def y_Mo_two : MethodName := ⟨R_Mo, "two", "(III)I"⟩
abbrev c_Mo_two : ByteArray := prog_14_method_23_code
def y_Mo_call : MethodName := ⟨R_Mo, "call", "(II)I"⟩
abbrev c_Mo_call : ByteArray := prog_14_method_24_code
def y_Mo_perform : MethodName := ⟨R_Mo, "perform", "(II)I"⟩
abbrev c_Mo_perform : ByteArray := prog_14_method_25_code
def y_Mo_wrong : MethodName := ⟨R_Mo, "wrong", "(II)V"⟩
abbrev c_Mo_wrong : ByteArray := prog_14_method_26_code
def y_Mo_into : MethodName := ⟨R_Mo, "into", "(I)V"⟩
abbrev c_Mo_into : ByteArray := prog_14_method_27_code
def y_Mo_intoWith : MethodName := ⟨R_Mo, "intoWith", "(III)V"⟩
abbrev c_Mo_intoWith : ByteArray := prog_14_method_28_code
def y_Mo_ends : MethodName := ⟨R_Mo, "ends", "(II)V"⟩
abbrev c_Mo_ends : ByteArray := prog_14_method_29_code
def y_Mo_checkRec : MethodName := ⟨R_Mo, "checkRec", "(III)V"⟩
abbrev c_Mo_checkRec : ByteArray := prog_14_method_30_code
def y_Mo_checkIf : MethodName := ⟨R_Mo, "checkIf", "(III)V"⟩
abbrev c_Mo_checkIf : ByteArray := prog_14_method_31_code
def y_Mo_checkTwo : MethodName := ⟨R_Mo, "checkTwo", "(III)V"⟩
abbrev c_Mo_checkTwo : ByteArray := prog_14_method_32_code
def y_Mo_checkCall : MethodName := ⟨R_Mo, "checkCall", "(III)V"⟩
abbrev c_Mo_checkCall : ByteArray := prog_14_method_33_code
def y_Mo_checkPerform : MethodName := ⟨R_Mo, "checkPerform", "(II)V"⟩
abbrev c_Mo_checkPerform : ByteArray := prog_14_method_34_code
def y_Mo_unhandled : MethodName := ⟨R_Mo, "unhandled", "(II)I"⟩
abbrev c_Mo_unhandled : ByteArray := prog_14_method_35_code
def y_Mo_checkHandle : MethodName := ⟨R_Mo, "checkHandle", "(III)V"⟩
abbrev c_Mo_checkHandle : ByteArray := prog_14_method_36_code
def y_Mo_beginClause : MethodName := ⟨R_Mo, "beginClause", "(III)V"⟩
abbrev c_Mo_beginClause : ByteArray := prog_14_method_37_code
def y_Mo_checkAtom : MethodName := ⟨R_Mo, "checkAtom", "(II)V"⟩
abbrev c_Mo_checkAtom : ByteArray := prog_14_method_38_code
def y_Mo_checkStep : MethodName := ⟨R_Mo, "checkStep", "()V"⟩
abbrev c_Mo_checkStep : ByteArray := prog_14_method_39_code
def y_Mo_check : MethodName := ⟨R_Mo, "check", "(I)I"⟩
abbrev c_Mo_check : ByteArray := prog_14_method_40_code
def y_Mo_fault : MethodName := ⟨R_Mo, "fault", "(I)I"⟩
abbrev c_Mo_fault : ByteArray := prog_14_method_41_code
def y_Mo_begin : MethodName := ⟨R_Mo, "begin", "()V"⟩
abbrev c_Mo_begin : ByteArray := prog_14_method_42_code
def y_Mo_start : MethodName := ⟨R_Mo, "start", "()V"⟩
abbrev c_Mo_start : ByteArray := prog_14_method_43_code
def y_Mo_push : MethodName := ⟨R_Mo, "push", "(I)V"⟩
abbrev c_Mo_push : ByteArray := prog_14_method_44_code
def y_Mo_seeAgain : MethodName := ⟨R_Mo, "seeAgain", "(I)V"⟩
abbrev c_Mo_seeAgain : ByteArray := prog_14_method_45_code
def y_Mo_give : MethodName := ⟨R_Mo, "give", "(J)V"⟩
abbrev c_Mo_give : ByteArray := prog_14_method_46_code
def y_Mo_work : MethodName := ⟨R_Mo, "work", "(I)V"⟩
abbrev c_Mo_work : ByteArray := prog_14_method_47_code
def y_Mo_makes : MethodName := ⟨R_Mo, "makes", "(I)Z"⟩
abbrev c_Mo_makes : ByteArray := prog_14_method_48_code
def y_Mo_workNode : MethodName := ⟨R_Mo, "workNode", "()V"⟩
abbrev c_Mo_workNode : ByteArray := prog_14_method_49_code
def y_Mo_reckoned : MethodName := ⟨R_Mo, "reckoned", "(III)I"⟩
abbrev c_Mo_reckoned : ByteArray := prog_14_method_50_code
def y_Mo_workMarked : MethodName := ⟨R_Mo, "workMarked", "(I)V"⟩
abbrev c_Mo_workMarked : ByteArray := prog_14_method_51_code
def y_Mo_callFunction : MethodName := ⟨R_Mo, "callFunction", "(I)V"⟩
abbrev c_Mo_callFunction : ByteArray := prog_14_method_52_code
def y_Mo_goOn : MethodName := ⟨R_Mo, "goOn", "(I)V"⟩
abbrev c_Mo_goOn : ByteArray := prog_14_method_53_code
def y_Mo_clauseOf : MethodName := ⟨R_Mo, "clauseOf", "(II)I"⟩
abbrev c_Mo_clauseOf : ByteArray := prog_14_method_54_code
def y_Mo_counted : MethodName := ⟨R_Mo, "counted", "(I)Z"⟩
abbrev c_Mo_counted : ByteArray := prog_14_method_55_code
def y_Mo_performs : MethodName := ⟨R_Mo, "performs", "(I)V"⟩
abbrev c_Mo_performs : ByteArray := prog_14_method_56_code
def y_Mo_keep : MethodName := ⟨R_Mo, "keep", "(III)V"⟩
abbrev c_Mo_keep : ByteArray := prog_14_method_57_code
def y_Mo_comes : MethodName := ⟨R_Mo, "comes", "(I)Z"⟩
abbrev c_Mo_comes : ByteArray := prog_14_method_58_code
def y_Mo_goesBehind : MethodName := ⟨R_Mo, "goesBehind", "(II)V"⟩
abbrev c_Mo_goesBehind : ByteArray := prog_14_method_59_code
def y_Mo_run : MethodName := ⟨R_Mo, "run", "(I)I"⟩
abbrev c_Mo_run : ByteArray := prog_14_method_60_code
def y_Mo_state : MethodName := ⟨R_Mo, "state", "(I)I"⟩
abbrev c_Mo_state : ByteArray := prog_14_method_61_code
def y_Ce_init : MethodName := ⟨R_Ce, "<init>", "()V"⟩
abbrev c_Ce_init : ByteArray := prog_2_method_1_code
def y_Ce_at : MethodName := ⟨R_Ce, "at", "(I)I"⟩
abbrev c_Ce_at : ByteArray := prog_2_method_2_code
def y_Ce_put : MethodName := ⟨R_Ce, "put", "(II)V"⟩
abbrev c_Ce_put : ByteArray := prog_2_method_3_code
def y_Ck_init : MethodName := ⟨R_Ck, "<init>", "(LEffectNodes$Nodes;LEffectNodes$Types;[I[I)V"⟩
abbrev c_Ck_init : ByteArray := prog_3_method_1_code
def y_Ck_forget : MethodName := ⟨R_Ck, "forget", "()V"⟩
abbrev c_Ck_forget : ByteArray := prog_3_method_2_code
def y_Ck_examine : MethodName := ⟨R_Ck, "examine", "(I)I"⟩
abbrev c_Ck_examine : ByteArray := prog_3_method_3_code
def y_Ck_seenAs : MethodName := ⟨R_Ck, "seenAs", "(II)I"⟩
abbrev c_Ck_seenAs : ByteArray := prog_3_method_4_code
def y_Ck_typeIn : MethodName := ⟨R_Ck, "typeIn", "(I)I"⟩
abbrev c_Ck_typeIn : ByteArray := prog_3_method_5_code
def y_Ck_effectsIn : MethodName := ⟨R_Ck, "effectsIn", "(I)I"⟩
abbrev c_Ck_effectsIn : ByteArray := prog_3_method_6_code
def y_Ck_blame : MethodName := ⟨R_Ck, "blame", "(II)I"⟩
abbrev c_Ck_blame : ByteArray := prog_3_method_7_code
def y_Ck_rename : MethodName := ⟨R_Ck, "rename", "(II)I"⟩
abbrev c_Ck_rename : ByteArray := prog_3_method_8_code
def y_Ck_look : MethodName := ⟨R_Ck, "look", "(II)I"⟩
abbrev c_Ck_look : ByteArray := prog_3_method_9_code
def y_Ck_lookName : MethodName := ⟨R_Ck, "lookName", "(LEffectNodes$Node;I)I"⟩
abbrev c_Ck_lookName : ByteArray := prog_3_method_10_code
def y_Ck_lookLet : MethodName := ⟨R_Ck, "lookLet", "(LEffectNodes$Node;I)I"⟩
abbrev c_Ck_lookLet : ByteArray := prog_3_method_11_code
def y_Ck_lookRec : MethodName := ⟨R_Ck, "lookRec", "(LEffectNodes$Node;I)I"⟩
abbrev c_Ck_lookRec : ByteArray := prog_3_method_12_code
def y_Ck_bodyKeepsTo : MethodName := ⟨R_Ck, "bodyKeepsTo", "(III)Z"⟩
abbrev c_Ck_bodyKeepsTo : ByteArray := prog_3_method_13_code
def y_Ck_lookChoice : MethodName := ⟨R_Ck, "lookChoice", "(LEffectNodes$Node;I)I"⟩
abbrev c_Ck_lookChoice : ByteArray := prog_3_method_14_code
def y_Ck_lookFn : MethodName := ⟨R_Ck, "lookFn", "(LEffectNodes$Node;I)I"⟩
abbrev c_Ck_lookFn : ByteArray := prog_3_method_15_code
def y_Ck_lookTwo : MethodName := ⟨R_Ck, "lookTwo", "(LEffectNodes$Node;I)I"⟩
abbrev c_Ck_lookTwo : ByteArray := prog_3_method_16_code
def y_Ck_lookCall : MethodName := ⟨R_Ck, "lookCall", "(LEffectNodes$Node;I)I"⟩
abbrev c_Ck_lookCall : ByteArray := prog_3_method_17_code
def y_Ck_lookPerform : MethodName := ⟨R_Ck, "lookPerform", "(LEffectNodes$Node;I)I"⟩
abbrev c_Ck_lookPerform : ByteArray := prog_3_method_18_code
def y_Ck_lookHandle : MethodName := ⟨R_Ck, "lookHandle", "(LEffectNodes$Node;I)I"⟩
abbrev c_Ck_lookHandle : ByteArray := prog_3_method_19_code
def y_Ck_clauseKeepsTo : MethodName := ⟨R_Ck, "clauseKeepsTo", "(LEffectNodes$Clause;III)Z"⟩
abbrev c_Ck_clauseKeepsTo : ByteArray := prog_3_method_20_code
def y_Cl_init : MethodName := ⟨R_Cl, "<init>", "(IIII)V"⟩
abbrev c_Cl_init : ByteArray := prog_4_method_1_code
def y_Co_init : MethodName := ⟨R_Co, "<init>", "(LEffectNodes$Nodes;)V"⟩
abbrev c_Co_init : ByteArray := prog_5_method_1_code
def y_Co_operation : MethodName := ⟨R_Co, "operation", "(I)I"⟩
abbrev c_Co_operation : ByteArray := prog_5_method_2_code
def y_Co_field : MethodName := ⟨R_Co, "field", "(II)I"⟩
abbrev c_Co_field : ByteArray := prog_5_method_3_code
def y_Co_compile : MethodName := ⟨R_Co, "compile", "(I)V"⟩
abbrev c_Co_compile : ByteArray := prog_5_method_4_code
def y_Co_caseOf : MethodName := ⟨R_Co, "caseOf", "(LEffectNodes$Thing;I)I"⟩
abbrev c_Co_caseOf : ByteArray := prog_5_method_5_code
def y_Co_add : MethodName := ⟨R_Co, "add", "(II)I"⟩
abbrev c_Co_add : ByteArray := prog_5_method_6_code
def y_Co_fill : MethodName := ⟨R_Co, "fill", "(III)V"⟩
abbrev c_Co_fill : ByteArray := prog_5_method_7_code
def y_Co_write : MethodName := ⟨R_Co, "write", "(II)V"⟩
abbrev c_Co_write : ByteArray := prog_5_method_8_code
def y_Co_writeScope : MethodName := ⟨R_Co, "writeScope", "(III)V"⟩
abbrev c_Co_writeScope : ByteArray := prog_5_method_9_code
def y_Co_writeBody : MethodName := ⟨R_Co, "writeBody", "(II)V"⟩
abbrev c_Co_writeBody : ByteArray := prog_5_method_10_code
def y_Co_writeFunction : MethodName := ⟨R_Co, "writeFunction", "(LEffectNodes$Node;I)V"⟩
abbrev c_Co_writeFunction : ByteArray := prog_5_method_11_code
def y_Co_writeChoice : MethodName := ⟨R_Co, "writeChoice", "(LEffectNodes$Node;I)V"⟩
abbrev c_Co_writeChoice : ByteArray := prog_5_method_12_code
def y_Co_writeHandle : MethodName := ⟨R_Co, "writeHandle", "(LEffectNodes$Node;I)V"⟩
abbrev c_Co_writeHandle : ByteArray := prog_5_method_13_code
def y_Fr_init : MethodName := ⟨R_Fr, "<init>", "()V"⟩
abbrev c_Fr_init : ByteArray := prog_6_method_1_code
def y_Fr_open : MethodName := ⟨R_Fr, "open", "(LEffectNodes$Thing;I)V"⟩
abbrev c_Fr_open : ByteArray := prog_6_method_2_code
def y_Fr_keepNames : MethodName := ⟨R_Fr, "keepNames", "(LEffectNodes$Thing;)V"⟩
abbrev c_Fr_keepNames : ByteArray := prog_6_method_3_code
def y_Fr_valueOf : MethodName := ⟨R_Fr, "valueOf", "(I)I"⟩
abbrev c_Fr_valueOf : ByteArray := prog_6_method_4_code
def y_Fr_give : MethodName := ⟨R_Fr, "give", "(II)V"⟩
abbrev c_Fr_give : ByteArray := prog_6_method_5_code
def y_Fr_push : MethodName := ⟨R_Fr, "push", "(I)V"⟩
abbrev c_Fr_push : ByteArray := prog_6_method_6_code
def y_Fr_pop : MethodName := ⟨R_Fr, "pop", "()I"⟩
abbrev c_Fr_pop : ByteArray := prog_6_method_7_code
def y_Ma_init : MethodName := ⟨R_Ma, "<init>", "(LEffectNodes$Code;)V"⟩
abbrev c_Ma_init : ByteArray := prog_7_method_1_code
def y_Ma_unload : MethodName := ⟨R_Ma, "unload", "()V"⟩
abbrev c_Ma_unload : ByteArray := prog_7_method_2_code
def y_Ma_load : MethodName := ⟨R_Ma, "load", "(Z)V"⟩
abbrev c_Ma_load : ByteArray := prog_7_method_3_code
def y_Ma_begin : MethodName := ⟨R_Ma, "begin", "()V"⟩
abbrev c_Ma_begin : ByteArray := prog_7_method_4_code
def y_Ma_goOnFor : MethodName := ⟨R_Ma, "goOnFor", "(I)I"⟩
abbrev c_Ma_goOnFor : ByteArray := prog_7_method_5_code
def y_Ma_reset : MethodName := ⟨R_Ma, "reset", "()V"⟩
abbrev c_Ma_reset : ByteArray := prog_7_method_6_code
def y_Ma_work : MethodName := ⟨R_Ma, "work", "(LEffectNodes$Frame;I)V"⟩
abbrev c_Ma_work : ByteArray := prog_7_method_7_code
def y_Ma_bind : MethodName := ⟨R_Ma, "bind", "(LEffectNodes$Frame;I)V"⟩
abbrev c_Ma_bind : ByteArray := prog_7_method_8_code
def y_Ma_unbind : MethodName := ⟨R_Ma, "unbind", "(LEffectNodes$Frame;I)V"⟩
abbrev c_Ma_unbind : ByteArray := prog_7_method_9_code
def y_Ma_combine : MethodName := ⟨R_Ma, "combine", "(LEffectNodes$Frame;I)V"⟩
abbrev c_Ma_combine : ByteArray := prog_7_method_10_code
def y_Ma_isFull : MethodName := ⟨R_Ma, "isFull", "(I)Z"⟩
abbrev c_Ma_isFull : ByteArray := prog_7_method_11_code
def y_Ma_isDeep : MethodName := ⟨R_Ma, "isDeep", "(I)Z"⟩
abbrev c_Ma_isDeep : ByteArray := prog_7_method_12_code
def y_Ma_takesFuel : MethodName := ⟨R_Ma, "takesFuel", "(LEffectNodes$Frame;I)Z"⟩
abbrev c_Ma_takesFuel : ByteArray := prog_7_method_13_code
def y_Ma_close : MethodName := ⟨R_Ma, "close", "(LEffectNodes$Frame;I)V"⟩
abbrev c_Ma_close : ByteArray := prog_7_method_14_code
def y_Ma_install : MethodName := ⟨R_Ma, "install", "(LEffectNodes$Frame;I)V"⟩
abbrev c_Ma_install : ByteArray := prog_7_method_15_code
def y_Ma_enter : MethodName := ⟨R_Ma, "enter", "(LEffectNodes$Frame;LEffectNodes$Thing;I)V"⟩
abbrev c_Ma_enter : ByteArray := prog_7_method_16_code
def y_Ma_endBody : MethodName := ⟨R_Ma, "endBody", "(LEffectNodes$Frame;)V"⟩
abbrev c_Ma_endBody : ByteArray := prog_7_method_17_code
def y_Ma_apply : MethodName := ⟨R_Ma, "apply", "(LEffectNodes$Frame;I)V"⟩
abbrev c_Ma_apply : ByteArray := prog_7_method_18_code
def y_Ma_resume : MethodName := ⟨R_Ma, "resume", "(LEffectNodes$Frame;LEffectNodes$Thing;I)V"⟩
abbrev c_Ma_resume : ByteArray := prog_7_method_19_code
def y_Ma_raise : MethodName := ⟨R_Ma, "raise", "(LEffectNodes$Frame;II)V"⟩
abbrev c_Ma_raise : ByteArray := prog_7_method_20_code
def y_Ma_holdFrames : MethodName := ⟨R_Ma, "holdFrames", "(LEffectNodes$Frame;I)I"⟩
abbrev c_Ma_holdFrames : ByteArray := prog_7_method_21_code
def y_Ma_end : MethodName := ⟨R_Ma, "end", "(LEffectNodes$Frame;)V"⟩
abbrev c_Ma_end : ByteArray := prog_7_method_22_code
def y_No_init : MethodName := ⟨R_No, "<init>", "(I)V"⟩
abbrev c_No_init : ByteArray := prog_8_method_1_code
def y_Ns_init : MethodName := ⟨R_Ns, "<init>", "()V"⟩
abbrev c_Ns_init : ByteArray := prog_9_method_1_code
def y_Ns_dropAll : MethodName := ⟨R_Ns, "dropAll", "()V"⟩
abbrev c_Ns_dropAll : ByteArray := prog_9_method_2_code
def y_Ns_has : MethodName := ⟨R_Ns, "has", "(I)Z"⟩
abbrev c_Ns_has : ByteArray := prog_9_method_3_code
def y_Ns_hasRoom : MethodName := ⟨R_Ns, "hasRoom", "()Z"⟩
abbrev c_Ns_hasRoom : ByteArray := prog_9_method_4_code
def y_Ns_hasRoomForClause : MethodName := ⟨R_Ns, "hasRoomForClause", "()Z"⟩
abbrev c_Ns_hasRoomForClause : ByteArray := prog_9_method_5_code
def y_Ns_at : MethodName := ⟨R_Ns, "at", "(I)LEffectNodes$Node;"⟩
abbrev c_Ns_at : ByteArray := prog_9_method_6_code
def y_Ns_clauseAt : MethodName := ⟨R_Ns, "clauseAt", "(I)LEffectNodes$Clause;"⟩
abbrev c_Ns_clauseAt : ByteArray := prog_9_method_7_code
def y_Ns_makeReady : MethodName := ⟨R_Ns, "makeReady", "(LEffectNodes$Clause;)I"⟩
abbrev c_Ns_makeReady : ByteArray := prog_9_method_8_code
def y_Ns_giveReadyClauses : MethodName := ⟨R_Ns, "giveReadyClauses", "(LEffectNodes$Node;)V"⟩
abbrev c_Ns_giveReadyClauses : ByteArray := prog_9_method_9_code
def y_Ns_add : MethodName := ⟨R_Ns, "add", "(LEffectNodes$Node;)I"⟩
abbrev c_Ns_add : ByteArray := prog_9_method_10_code
def y_Ns_measure : MethodName := ⟨R_Ns, "measure", "(LEffectNodes$Node;I)V"⟩
abbrev c_Ns_measure : ByteArray := prog_9_method_11_code
def y_St_init : MethodName := ⟨R_St, "<init>", "()V"⟩
abbrev c_St_init : ByteArray := prog_10_method_1_code
def y_St_reset : MethodName := ⟨R_St, "reset", "()V"⟩
abbrev c_St_reset : ByteArray := prog_10_method_2_code
def y_St_takeFrame : MethodName := ⟨R_St, "takeFrame", "()LEffectNodes$Frame;"⟩
abbrev c_St_takeFrame : ByteArray := prog_10_method_3_code
def y_St_giveBack : MethodName := ⟨R_St, "giveBack", "(LEffectNodes$Frame;)V"⟩
abbrev c_St_giveBack : ByteArray := prog_10_method_4_code
def y_St_takeThing : MethodName := ⟨R_St, "takeThing", "()I"⟩
abbrev c_St_takeThing : ByteArray := prog_10_method_5_code
def y_St_thingAt : MethodName := ⟨R_St, "thingAt", "(I)LEffectNodes$Thing;"⟩
abbrev c_St_thingAt : ByteArray := prog_10_method_6_code
def y_Th_init : MethodName := ⟨R_Th, "<init>", "()V"⟩
abbrev c_Th_init : ByteArray := prog_11_method_1_code
def y_Th_make : MethodName := ⟨R_Th, "make", "(I)V"⟩
abbrev c_Th_make : ByteArray := prog_11_method_2_code
def y_Th_hold : MethodName := ⟨R_Th, "hold", "(LEffectNodes$Frame;LEffectNodes$Frame;I)V"⟩
abbrev c_Th_hold : ByteArray := prog_11_method_3_code
def y_Th_give : MethodName := ⟨R_Th, "give", "(II)V"⟩
abbrev c_Th_give : ByteArray := prog_11_method_4_code
def y_Ty_init : MethodName := ⟨R_Ty, "<init>", "()V"⟩
abbrev c_Ty_init : ByteArray := prog_12_method_1_code
def y_Ty_isType : MethodName := ⟨R_Ty, "isType", "(I)Z"⟩
abbrev c_Ty_isType : ByteArray := prog_12_method_2_code
def y_Ty_isFunction : MethodName := ⟨R_Ty, "isFunction", "(I)Z"⟩
abbrev c_Ty_isFunction : ByteArray := prog_12_method_3_code
def y_Ty_functions : MethodName := ⟨R_Ty, "functions", "()I"⟩
abbrev c_Ty_functions : ByteArray := prog_12_method_4_code
def y_Ty_argumentOf : MethodName := ⟨R_Ty, "argumentOf", "(I)I"⟩
abbrev c_Ty_argumentOf : ByteArray := prog_12_method_5_code
def y_Ty_resultOf : MethodName := ⟨R_Ty, "resultOf", "(I)I"⟩
abbrev c_Ty_resultOf : ByteArray := prog_12_method_6_code
def y_Ty_rowOf : MethodName := ⟨R_Ty, "rowOf", "(I)I"⟩
abbrev c_Ty_rowOf : ByteArray := prog_12_method_7_code
def y_Ty_dropBack : MethodName := ⟨R_Ty, "dropBack", "(I)V"⟩
abbrev c_Ty_dropBack : ByteArray := prog_12_method_8_code
def y_Ty_find : MethodName := ⟨R_Ty, "find", "(III)I"⟩
abbrev c_Ty_find : ByteArray := prog_12_method_9_code
def y_Ty_numberOf : MethodName := ⟨R_Ty, "numberOf", "(III)I"⟩
abbrev c_Ty_numberOf : ByteArray := prog_12_method_10_code
def y_Ty_suits : MethodName := ⟨R_Ty, "suits", "(II)Z"⟩
abbrev c_Ty_suits : ByteArray := prog_12_method_11_code
def y_Ty_partsSuit : MethodName := ⟨R_Ty, "partsSuit", "(II)Z"⟩
abbrev c_Ty_partsSuit : ByteArray := prog_12_method_12_code
def y_Ty_write : MethodName := ⟨R_Ty, "write", "(IIZ)V"⟩
abbrev c_Ty_write : ByteArray := prog_12_method_13_code
def y_L_function : MethodName := ⟨"EffectNodesLaw", "function", "(LEffectNodes;III[J)I"⟩
abbrev c_L_function : ByteArray := method_3_code
def y_L_effect : MethodName := ⟨"EffectNodesLaw", "effect", "(LEffectNodes;III)I"⟩
abbrev c_L_effect : ByteArray := method_4_code
def y_L_atom : MethodName := ⟨"EffectNodesLaw", "atom", "(LEffectNodes;II[J)I"⟩
abbrev c_L_atom : ByteArray := method_5_code
def y_L_let : MethodName := ⟨"EffectNodesLaw", "let", "(LEffectNodes;III[J)I"⟩
abbrev c_L_let : ByteArray := method_6_code
def y_L_rec : MethodName := ⟨"EffectNodesLaw", "rec", "(LEffectNodes;IIIII[J)I"⟩
abbrev c_L_rec : ByteArray := method_7_code
def y_L_choice : MethodName := ⟨"EffectNodesLaw", "choice", "(LEffectNodes;III[J)I"⟩
abbrev c_L_choice : ByteArray := method_8_code
def y_L_fn : MethodName := ⟨"EffectNodesLaw", "fn", "(LEffectNodes;III[J)I"⟩
abbrev c_L_fn : ByteArray := method_9_code
def y_L_clause : MethodName := ⟨"EffectNodesLaw", "clause", "(LEffectNodes;IIII[J)I"⟩
abbrev c_L_clause : ByteArray := method_10_code
def y_L_handle : MethodName := ⟨"EffectNodesLaw", "handle", "(LEffectNodes;IIII[J)I"⟩
abbrev c_L_handle : ByteArray := method_11_code
def y_L_two : MethodName := ⟨"EffectNodesLaw", "two", "(LEffectNodes;III[J)I"⟩
abbrev c_L_two : ByteArray := method_12_code
def y_L_call : MethodName := ⟨"EffectNodesLaw", "call", "(LEffectNodes;II[J)I"⟩
abbrev c_L_call : ByteArray := method_13_code
def y_L_perform : MethodName := ⟨"EffectNodesLaw", "perform", "(LEffectNodes;II[J)I"⟩
abbrev c_L_perform : ByteArray := method_14_code
def y_L_check : MethodName := ⟨"EffectNodesLaw", "check", "(LEffectNodes;I[J)I"⟩
abbrev c_L_check : ByteArray := method_15_code
def y_L_start : MethodName := ⟨"EffectNodesLaw", "start", "(LEffectNodes;)I"⟩
abbrev c_L_start : ByteArray := method_16_code
def y_L_run : MethodName := ⟨"EffectNodesLaw", "run", "(LEffectNodes;I[J)I"⟩
abbrev c_L_run : ByteArray := method_17_code
def y_Ob_init : MethodName := ⟨"java/lang/Object", "<init>", "()V"⟩
abbrev c_Ob_init : ByteArray := object_method_1_code
def y_AL_init : MethodName := ⟨R_AL, "<init>", "()V"⟩
abbrev c_AL_init : ByteArray := prog_29_method_2_code
def y_AbL_init : MethodName := ⟨"java/util/AbstractList", "<init>", "()V"⟩
abbrev c_AbL_init : ByteArray := prog_28_method_1_code
def y_AbC_init : MethodName := ⟨"java/util/AbstractCollection", "<init>", "()V"⟩
abbrev c_AbC_init : ByteArray := prog_27_method_1_code
def y_Ar_fill : MethodName := ⟨"java/util/Arrays", "fill", "([II)V"⟩
abbrev c_Ar_fill : ByteArray := prog_30_method_103_code
def y_Tw_init : MethodName := ⟨"java/lang/Throwable", "<init>", "()V"⟩
abbrev c_Tw_init : ByteArray := prog_26_method_1_code
def y_Tw_fillInStackTrace : MethodName := ⟨"java/lang/Throwable", "fillInStackTrace", "()Ljava/lang/Throwable;"⟩
abbrev c_Tw_fillInStackTrace : ByteArray := prog_26_method_18_code
def y_Ix_init : MethodName := ⟨"java/lang/IndexOutOfBoundsException", "<init>", "(Ljava/lang/String;)V"⟩
abbrev c_Ix_init : ByteArray := prog_20_method_2_code
def y_Rx_init : MethodName := ⟨"java/lang/RuntimeException", "<init>", "(Ljava/lang/String;)V"⟩
abbrev c_Rx_init : ByteArray := prog_23_method_2_code
def y_Ex_init : MethodName := ⟨"java/lang/Exception", "<init>", "(Ljava/lang/String;)V"⟩
abbrev c_Ex_init : ByteArray := prog_17_method_2_code
def y_Tw_init2 : MethodName := ⟨"java/lang/Throwable", "<init>", "(Ljava/lang/String;)V"⟩
abbrev c_Tw_init2 : ByteArray := prog_26_method_2_code
def y_Sx_init : MethodName := ⟨"java/lang/IllegalStateException", "<init>", "(Ljava/lang/String;)V"⟩
abbrev c_Sx_init : ByteArray := prog_19_method_2_code
def y_Mt_max : MethodName := ⟨"java/lang/Math", "max", "(II)I"⟩
abbrev c_Mt_max : ByteArray := prog_22_method_65_code
def y_Ar_copyOf : MethodName := ⟨"java/util/Arrays", "copyOf", "([II)[I"⟩
abbrev c_Ar_copyOf : ByteArray := prog_30_method_123_code
def y_Mt_min : MethodName := ⟨"java/lang/Math", "min", "(II)I"⟩
abbrev c_Mt_min : ByteArray := prog_22_method_69_code
def y_Ax_init : MethodName := ⟨"java/lang/IllegalArgumentException", "<init>", "(Ljava/lang/String;)V"⟩
abbrev c_Ax_init : ByteArray := prog_18_method_2_code
def y_AL_size : MethodName := ⟨R_AL, "size", "()I"⟩
abbrev c_AL_size : ByteArray := prog_29_method_8_code
def y_AL_add : MethodName := ⟨R_AL, "add", "(Ljava/lang/Object;)Z"⟩
abbrev c_AL_add : ByteArray := prog_29_method_25_code
def y_AL_add2 : MethodName := ⟨R_AL, "add", "(Ljava/lang/Object;[Ljava/lang/Object;I)V"⟩
abbrev c_AL_add2 : ByteArray := prog_29_method_24_code
def y_AL_grow : MethodName := ⟨R_AL, "grow", "()[Ljava/lang/Object;"⟩
abbrev c_AL_grow : ByteArray := prog_29_method_7_code
def y_AL_grow2 : MethodName := ⟨R_AL, "grow", "(I)[Ljava/lang/Object;"⟩
abbrev c_AL_grow2 : ByteArray := prog_29_method_6_code
def y_ArraysSupport_newLength : MethodName := ⟨"jdk/internal/util/ArraysSupport", "newLength", "(III)I"⟩
abbrev c_ArraysSupport_newLength : ByteArray := prog_36_method_27_code
def y_ArraysSupport_hugeLength : MethodName := ⟨"jdk/internal/util/ArraysSupport", "hugeLength", "(II)I"⟩
abbrev c_ArraysSupport_hugeLength : ByteArray := prog_36_method_28_code
def y_Ar_copyOf2 : MethodName := ⟨"java/util/Arrays", "copyOf", "([Ljava/lang/Object;I)[Ljava/lang/Object;"⟩
abbrev c_Ar_copyOf2 : ByteArray := prog_30_method_119_code
def y_Ar_copyOf3 : MethodName := ⟨"java/util/Arrays", "copyOf", "([Ljava/lang/Object;ILjava/lang/Class;)[Ljava/lang/Object;"⟩
abbrev c_Ar_copyOf3 : ByteArray := prog_30_method_120_code
def y_AL_get : MethodName := ⟨R_AL, "get", "(I)Ljava/lang/Object;"⟩
abbrev c_AL_get : ByteArray := prog_29_method_20_code
def y_Os_checkIndex : MethodName := ⟨"java/util/Objects", "checkIndex", "(II)I"⟩
abbrev c_Os_checkIndex : ByteArray := prog_33_method_17_code
def y_Preconditions_checkIndex : MethodName := ⟨"jdk/internal/util/Preconditions", "checkIndex", "(IILjava/util/function/BiFunction;)I"⟩
abbrev c_Preconditions_checkIndex : ByteArray := prog_37_method_11_code
def y_AL_elementData : MethodName := ⟨R_AL, "elementData", "(I)Ljava/lang/Object;"⟩
abbrev c_AL_elementData : ByteArray := prog_29_method_18_code
