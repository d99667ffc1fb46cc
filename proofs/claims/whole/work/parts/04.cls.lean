/-! classes, their fields (by program out of the statement's words) -/
def am_fl : Nat → List (String × String × String × Bool)
  | 0 => [("DiffWeaver", "history", "[LDiffWeaver$Version;", true), ("DiffWeaver", "patches", "[LDiffWeaver$Patch;", true), ("DiffWeaver", "reviews", "[LDiffWeaver$Review;", true), ("DiffWeaver", "notedLines", "[I", true), ("DiffWeaver", "book", "LDiffWeaver$LineBook;", true), ("DiffWeaver", "latest", "LDiffWeaver$Comparison;", true), ("DiffWeaver", "pairing", "LDiffWeaver$Comparison;", true), ("DiffWeaver", "meter", "LDiffWeaver$TreeMeter;", true), ("DiffWeaver", "draft", "LDiffWeaver$Draft;", false), ("DiffWeaver", "spare", "LDiffWeaver$Draft;", false), ("DiffWeaver", "hasDraft", "Z", false), ("DiffWeaver", "isCompared", "Z", false), ("DiffWeaver", "versionCount", "I", false), ("DiffWeaver", "patchCount", "I", false), ("DiffWeaver", "reviewCount", "I", false), ("DiffWeaver", "noteCount", "I", false), ("DiffWeaver", "editsMade", "I", false)]
  | 1 => [("DiffWeaver$Comparison", "firstLines", "[J", true), ("DiffWeaver$Comparison", "otherLines", "[J", true), ("DiffWeaver$Comparison", "pairs", "[I", true), ("DiffWeaver$Comparison", "moves", "[I", true), ("DiffWeaver$Comparison", "isFree", "[Z", true), ("DiffWeaver$Comparison", "most", "[[I", true), ("DiffWeaver$Comparison", "firstCount", "I", false), ("DiffWeaver$Comparison", "otherCount", "I", false), ("DiffWeaver$Comparison", "found", "I", false)]
  | 2 => [("DiffWeaver$Conflict", "froms", "[I", true), ("DiffWeaver$Conflict", "tos", "[I", true), ("DiffWeaver$Conflict", "place", "I", false), ("DiffWeaver$Conflict", "isSettled", "Z", false)]
  | 3 => [("DiffWeaver$Draft", "text", "LDiffWeaver$Text;", true), ("DiffWeaver$Draft", "edits", "Ljava/util/ArrayList;", true), ("DiffWeaver$Draft", "clashes", "[LDiffWeaver$Conflict;", true), ("DiffWeaver$Draft", "firstPairing", "LDiffWeaver$Comparison;", true), ("DiffWeaver$Draft", "secondPairing", "LDiffWeaver$Comparison;", true), ("DiffWeaver$Draft", "nothing", "LDiffWeaver$Text;", true), ("DiffWeaver$Draft", "firstText", "LDiffWeaver$Text;", false), ("DiffWeaver$Draft", "secondText", "LDiffWeaver$Text;", false), ("DiffWeaver$Draft", "baseText", "LDiffWeaver$Text;", false), ("DiffWeaver$Draft", "clashCount", "I", false), ("DiffWeaver$Draft", "openCount", "I", false), ("DiffWeaver$Draft", "author", "I", false), ("DiffWeaver$Draft", "first", "I", false), ("DiffWeaver$Draft", "second", "I", false)]
  | 4 => [("DiffWeaver$Edit", "kind", "I", true), ("DiffWeaver$Edit", "target", "I", true), ("DiffWeaver$Edit", "detail", "I", true), ("DiffWeaver$Edit", "line", "J", true), ("DiffWeaver$Edit", "patch", "LDiffWeaver$Patch;", true), ("DiffWeaver$Edit", "before", "LDiffWeaver$Text;", true)]
  | 5 => [("DiffWeaver$Hunk", "place", "I", true), ("DiffWeaver$Hunk", "otherPlace", "I", true), ("DiffWeaver$Hunk", "ahead", "[J", true), ("DiffWeaver$Hunk", "gone", "[J", true), ("DiffWeaver$Hunk", "fresh", "[J", true), ("DiffWeaver$Hunk", "behind", "[J", true)]
  | 6 => [("DiffWeaver$LineBook", "authors", "[I", true), ("DiffWeaver$LineBook", "origins", "[I", true), ("DiffWeaver$LineBook", "count", "I", false)]
  | 7 => [("DiffWeaver$Patch", "hunks", "[LDiffWeaver$Hunk;", true), ("DiffWeaver$Patch", "count", "I", false)]
  | 8 => [("DiffWeaver$Review", "verdicts", "[I", true), ("DiffWeaver$Review", "version", "I", false), ("DiffWeaver$Review", "on", "I", false), ("DiffWeaver$Review", "isLanded", "Z", false)]
  | 9 => [("DiffWeaver$Text", "signs", "[J", true), ("DiffWeaver$Text", "names", "[I", true), ("DiffWeaver$Text", "count", "I", false)]
  | 10 => [("DiffWeaver$TreeMeter", "labels", "[J", true), ("DiffWeaver$TreeMeter", "otherLabels", "[J", true), ("DiffWeaver$TreeMeter", "lefts", "[I", true), ("DiffWeaver$TreeMeter", "otherLefts", "[I", true), ("DiffWeaver$TreeMeter", "treeCosts", "[[I", true), ("DiffWeaver$TreeMeter", "rowCosts", "[[I", true), ("DiffWeaver$TreeMeter", "openDepths", "[I", true), ("DiffWeaver$TreeMeter", "openLabels", "[J", true), ("DiffWeaver$TreeMeter", "openLefts", "[I", true), ("DiffWeaver$TreeMeter", "open", "I", false), ("DiffWeaver$TreeMeter", "counted", "I", false)]
  | 11 => [("DiffWeaver$Version", "text", "LDiffWeaver$Text;", true), ("DiffWeaver$Version", "anew", "LDiffWeaver$Text;", true), ("DiffWeaver$Version", "edits", "Ljava/util/ArrayList;", true), ("DiffWeaver$Version", "author", "I", false), ("DiffWeaver$Version", "first", "I", false), ("DiffWeaver$Version", "second", "I", false), ("DiffWeaver$Version", "below", "J", false)]
  | 12 => [("DiffWeaverModel", "refusal", "I", false), ("DiffWeaverModel", "ids", "I", false), ("DiffWeaverModel", "signs", "[J", true), ("DiffWeaverModel", "authors", "[I", true), ("DiffWeaverModel", "origins", "[I", true), ("DiffWeaverModel", "versions", "I", false), ("DiffWeaverModel", "sizes", "[I", true), ("DiffWeaverModel", "texts", "[I", true), ("DiffWeaverModel", "writers", "[I", true), ("DiffWeaverModel", "firsts", "[I", true), ("DiffWeaverModel", "seconds", "[I", true), ("DiffWeaverModel", "isDraft", "Z", false), ("DiffWeaverModel", "from", "I", false), ("DiffWeaverModel", "with", "I", false), ("DiffWeaverModel", "author", "I", false), ("DiffWeaverModel", "long0", "I", false), ("DiffWeaverModel", "draft", "[I", true), ("DiffWeaverModel", "conflicts", "I", false), ("DiffWeaverModel", "settled", "I", false), ("DiffWeaverModel", "pieceSizes", "[I", true), ("DiffWeaverModel", "pieces", "[I", true), ("DiffWeaverModel", "edits", "I", false), ("DiffWeaverModel", "editLongs", "[I", true), ("DiffWeaverModel", "editSettled", "[I", true), ("DiffWeaverModel", "editRows", "[I", true), ("DiffWeaverModel", "hasCompared", "Z", false), ("DiffWeaverModel", "comparedSize", "I", false), ("DiffWeaverModel", "pairs", "[I", true), ("DiffWeaverModel", "moves", "[I", true), ("DiffWeaverModel", "patches", "I", false), ("DiffWeaverModel", "hunkCount", "[I", true), ("DiffWeaverModel", "places", "[I", true), ("DiffWeaverModel", "otherPlaces", "[I", true), ("DiffWeaverModel", "counts", "[I", true), ("DiffWeaverModel", "parts", "[J", true), ("DiffWeaverModel", "contexts", "[J", true), ("DiffWeaverModel", "notes", "I", false), ("DiffWeaverModel", "noteLines", "[I", true), ("DiffWeaverModel", "reviews", "I", false), ("DiffWeaverModel", "reviewVersions", "[I", true), ("DiffWeaverModel", "reviewOn", "[I", true), ("DiffWeaverModel", "areLanded", "[Z", true), ("DiffWeaverModel", "verdicts", "[I", true), ("DiffWeaverModel", "common", "[I", true), ("DiffWeaverModel", "rows", "[I", true), ("DiffWeaverModel", "paired", "[I", true), ("DiffWeaverModel", "pairedFirst", "[I", true), ("DiffWeaverModel", "trees", "[I", true), ("DiffWeaverModel", "leaves", "[I", true), ("DiffWeaverModel", "above", "[I", true), ("DiffWeaverModel", "apart", "[I", true), ("DiffWeaverModel", "forest", "[I", true), ("DiffWeaverModel", "work", "[I", true), ("DiffWeaverModel", "workLong", "I", false)]
  | 13 => [("java/util/ArrayList", "elementData", "[Ljava/lang/Object;", false), ("java/util/ArrayList", "size", "I", false), ("java/util/AbstractList", "modCount", "I", false)]
  | _ => []
def am_T (ci : Nat) : u_T := fun k => (am_fl ci).getD k ("", "", "", false)
def am_cl : List vw_C := [("DiffWeaver", am_T 0, 17), ("DiffWeaver$Comparison", am_T 1, 9), ("DiffWeaver$Conflict", am_T 2, 4), ("DiffWeaver$Draft", am_T 3, 14), ("DiffWeaver$Edit", am_T 4, 6), ("DiffWeaver$Hunk", am_T 5, 6), ("DiffWeaver$LineBook", am_T 6, 3), ("DiffWeaver$Patch", am_T 7, 2), ("DiffWeaver$Review", am_T 8, 4), ("DiffWeaver$Text", am_T 9, 3), ("DiffWeaver$TreeMeter", am_T 10, 11), ("DiffWeaver$Version", am_T 11, 7), ("DiffWeaverModel", am_T 12, 54), ("java/util/ArrayList", am_T 13, 3)]
def am_n : Nat → Nat
  | 0 => 17
  | 1 => 9
  | 2 => 4
  | 3 => 14
  | 4 => 6
  | 5 => 6
  | 6 => 3
  | 7 => 2
  | 8 => 4
  | 9 => 3
  | 10 => 11
  | 11 => 7
  | 12 => 54
  | 13 => 3
  | _ => 0
def am_C : Nat → String
  | 0 => "DiffWeaver"
  | 1 => "DiffWeaver$Comparison"
  | 2 => "DiffWeaver$Conflict"
  | 3 => "DiffWeaver$Draft"
  | 4 => "DiffWeaver$Edit"
  | 5 => "DiffWeaver$Hunk"
  | 6 => "DiffWeaver$LineBook"
  | 7 => "DiffWeaver$Patch"
  | 8 => "DiffWeaver$Review"
  | 9 => "DiffWeaver$Text"
  | 10 => "DiffWeaver$TreeMeter"
  | 11 => "DiffWeaver$Version"
  | 12 => "DiffWeaverModel"
  | 13 => "java/util/ArrayList"
  | _ => ""
def am_tg : Nat → List Nat
  | 0 => [2, 2, 2, 2, 2, 2, 2, 2, 2, 2, 0, 0, 0, 0, 0, 0, 0]
  | 1 => [2, 2, 2, 2, 2, 2, 0, 0, 0]
  | 2 => [2, 2, 0, 0]
  | 3 => [2, 2, 2, 2, 2, 2, 2, 2, 2, 0, 0, 0, 0, 0]
  | 4 => [0, 0, 0, 1, 2, 2]
  | 5 => [0, 0, 2, 2, 2, 2]
  | 6 => [2, 2, 0]
  | 7 => [2, 0]
  | 8 => [2, 0, 0, 0]
  | 9 => [2, 2, 0]
  | 10 => [2, 2, 2, 2, 2, 2, 2, 2, 2, 0, 0]
  | 11 => [2, 2, 2, 0, 0, 0, 1]
  | 12 => [0, 0, 2, 2, 2, 0, 2, 2, 2, 2, 2, 0, 0, 0, 0, 0, 2, 0, 0, 2, 2, 0, 2, 2, 2, 0, 0, 2, 2, 0, 2, 2, 2, 2, 2, 2, 0, 2, 0, 2, 2, 2, 2, 2, 2, 2, 2, 2, 2, 2, 2, 2, 2, 0]
  | 13 => [2, 0, 0]
  | _ => []
def am_ty (ci k : Nat) : FieldType := match ci with
  | 0 => ([.array (.object "DiffWeaver$Version"), .array (.object "DiffWeaver$Patch"), .array (.object "DiffWeaver$Review"), .array .int, .object "DiffWeaver$LineBook", .object "DiffWeaver$Comparison", .object "DiffWeaver$Comparison", .object "DiffWeaver$TreeMeter", .object "DiffWeaver$Draft", .object "DiffWeaver$Draft", .boolean, .boolean, .int, .int, .int, .int, .int] : List FieldType).getD k .int
  | 1 => ([.array .long, .array .long, .array .int, .array .int, .array .boolean, .array (.array .int), .int, .int, .int] : List FieldType).getD k .int
  | 2 => ([.array .int, .array .int, .int, .boolean] : List FieldType).getD k .int
  | 3 => ([.object "DiffWeaver$Text", .object "java/util/ArrayList", .array (.object "DiffWeaver$Conflict"), .object "DiffWeaver$Comparison", .object "DiffWeaver$Comparison", .object "DiffWeaver$Text", .object "DiffWeaver$Text", .object "DiffWeaver$Text", .object "DiffWeaver$Text", .int, .int, .int, .int, .int] : List FieldType).getD k .int
  | 4 => ([.int, .int, .int, .long, .object "DiffWeaver$Patch", .object "DiffWeaver$Text"] : List FieldType).getD k .int
  | 5 => ([.int, .int, .array .long, .array .long, .array .long, .array .long] : List FieldType).getD k .int
  | 6 => ([.array .int, .array .int, .int] : List FieldType).getD k .int
  | 7 => ([.array (.object "DiffWeaver$Hunk"), .int] : List FieldType).getD k .int
  | 8 => ([.array .int, .int, .int, .boolean] : List FieldType).getD k .int
  | 9 => ([.array .long, .array .int, .int] : List FieldType).getD k .int
  | 10 => ([.array .long, .array .long, .array .int, .array .int, .array (.array .int), .array (.array .int), .array .int, .array .long, .array .int, .int, .int] : List FieldType).getD k .int
  | 11 => ([.object "DiffWeaver$Text", .object "DiffWeaver$Text", .object "java/util/ArrayList", .int, .int, .int, .long] : List FieldType).getD k .int
  | 12 => ([.int, .int, .array .long, .array .int, .array .int, .int, .array .int, .array .int, .array .int, .array .int, .array .int, .boolean, .int, .int, .int, .int, .array .int, .int, .int, .array .int, .array .int, .int, .array .int, .array .int, .array .int, .boolean, .int, .array .int, .array .int, .int, .array .int, .array .int, .array .int, .array .int, .array .long, .array .long, .int, .array .int, .int, .array .int, .array .int, .array .boolean, .array .int, .array .int, .array .int, .array .int, .array .int, .array .int, .array .int, .array .int, .array .int, .array .int, .array .int, .int] : List FieldType).getD k .int
  | 13 => ([.array (.object "java/lang/Object"), .int, .int] : List FieldType).getD k .int
  | _ => .int
def am_ok (w : Cond) : Bool := goodWord w || (match w with | .fieldLinkNest _ _ _ _ _ _ => true | .methodLinkNest _ _ _ _ => true | .castable _ _ => true | .declares _ => true | .arrayOver _ => true | _ => false)
def am_tb : List Cond := lw_tbl.filter am_ok
theorem am_mem {w : Cond} (i : Nat) (h : lw_tbl[i]? = some w) (g : am_ok w = true) : w ∈ am_tb := List.mem_filter.mpr ⟨List.mem_of_getElem? h, g⟩
theorem am_mems {ws : List Cond} (ps : List Nat) (h : ws.map some = ps.map (fun i => lw_tbl[i]?)) (g : ws.all am_ok = true) : ∀ w ∈ ws, w ∈ am_tb := by
  intro w hw
  have h1 : some w ∈ ps.map (fun i => lw_tbl[i]?) := h ▸ List.mem_map_of_mem hw
  obtain ⟨i, -, hi⟩ := List.mem_map.mp h1
  exact am_mem i hi (List.all_eq_true.mp g w hw)
theorem am_w0 : ∀ w ∈ u_ws "DiffWeaver" (am_T 0) 17, w ∈ am_tb := am_mems [436, 438, 440, 442, 444, 446, 448, 450, 452, 454, 456, 458, 460, 462, 464, 466, 468] (by decide +kernel) (by decide +kernel)
theorem am_t0 : ∀ k, k < 17 → parseFieldDescriptor (am_T 0 k).2.2.1 = some (am_ty 0 k) := by decide +kernel
theorem am_e0 : ∀ a, a < 17 → ∀ b, b < 17 → a ≠ b → (am_T 0 a).2.1 ≠ (am_T 0 b).2.1 := by decide +kernel
theorem am_w1 : ∀ w ∈ u_ws "DiffWeaver$Comparison" (am_T 1) 9, w ∈ am_tb := am_mems [159, 161, 163, 165, 167, 169, 171, 173, 175] (by decide +kernel) (by decide +kernel)
theorem am_t1 : ∀ k, k < 9 → parseFieldDescriptor (am_T 1 k).2.2.1 = some (am_ty 1 k) := by decide +kernel
theorem am_e1 : ∀ a, a < 9 → ∀ b, b < 9 → a ≠ b → (am_T 1 a).2.1 ≠ (am_T 1 b).2.1 := by decide +kernel
theorem am_w2 : ∀ w ∈ u_ws "DiffWeaver$Conflict" (am_T 2) 4, w ∈ am_tb := am_mems [286, 288, 290, 292] (by decide +kernel) (by decide +kernel)
theorem am_t2 : ∀ k, k < 4 → parseFieldDescriptor (am_T 2 k).2.2.1 = some (am_ty 2 k) := by decide +kernel
theorem am_e2 : ∀ a, a < 4 → ∀ b, b < 4 → a ≠ b → (am_T 2 a).2.1 ≠ (am_T 2 b).2.1 := by decide +kernel
theorem am_w3 : ∀ w ∈ u_ws "DiffWeaver$Draft" (am_T 3) 14, w ∈ am_tb := am_mems [317, 319, 321, 323, 325, 327, 329, 331, 333, 335, 337, 339, 341, 343] (by decide +kernel) (by decide +kernel)
theorem am_t3 : ∀ k, k < 14 → parseFieldDescriptor (am_T 3 k).2.2.1 = some (am_ty 3 k) := by decide +kernel
theorem am_e3 : ∀ a, a < 14 → ∀ b, b < 14 → a ≠ b → (am_T 3 a).2.1 ≠ (am_T 3 b).2.1 := by decide +kernel
theorem am_w4 : ∀ w ∈ u_ws "DiffWeaver$Edit" (am_T 4) 6, w ∈ am_tb := am_mems [694, 696, 698, 700, 702, 704] (by decide +kernel) (by decide +kernel)
theorem am_t4 : ∀ k, k < 6 → parseFieldDescriptor (am_T 4 k).2.2.1 = some (am_ty 4 k) := by decide +kernel
theorem am_e4 : ∀ a, a < 6 → ∀ b, b < 6 → a ≠ b → (am_T 4 a).2.1 ≠ (am_T 4 b).2.1 := by decide +kernel
theorem am_w5 : ∀ w ∈ u_ws "DiffWeaver$Hunk" (am_T 5) 6, w ∈ am_tb := am_mems [1309, 1311, 1313, 1315, 1317, 1319] (by decide +kernel) (by decide +kernel)
theorem am_t5 : ∀ k, k < 6 → parseFieldDescriptor (am_T 5 k).2.2.1 = some (am_ty 5 k) := by decide +kernel
theorem am_e5 : ∀ a, a < 6 → ∀ b, b < 6 → a ≠ b → (am_T 5 a).2.1 ≠ (am_T 5 b).2.1 := by decide +kernel
theorem am_w6 : ∀ w ∈ u_ws "DiffWeaver$LineBook" (am_T 6) 3, w ∈ am_tb := am_mems [134, 136, 138] (by decide +kernel) (by decide +kernel)
theorem am_t6 : ∀ k, k < 3 → parseFieldDescriptor (am_T 6 k).2.2.1 = some (am_ty 6 k) := by decide +kernel
theorem am_e6 : ∀ a, a < 3 → ∀ b, b < 3 → a ≠ b → (am_T 6 a).2.1 ≠ (am_T 6 b).2.1 := by decide +kernel
theorem am_w7 : ∀ w ∈ u_ws "DiffWeaver$Patch" (am_T 7) 2, w ∈ am_tb := am_mems [393, 395] (by decide +kernel) (by decide +kernel)
theorem am_t7 : ∀ k, k < 2 → parseFieldDescriptor (am_T 7 k).2.2.1 = some (am_ty 7 k) := by decide +kernel
theorem am_e7 : ∀ a, a < 2 → ∀ b, b < 2 → a ≠ b → (am_T 7 a).2.1 ≠ (am_T 7 b).2.1 := by decide +kernel
theorem am_w8 : ∀ w ∈ u_ws "DiffWeaver$Review" (am_T 8) 4, w ∈ am_tb := am_mems [410, 412, 414, 416] (by decide +kernel) (by decide +kernel)
theorem am_t8 : ∀ k, k < 4 → parseFieldDescriptor (am_T 8 k).2.2.1 = some (am_ty 8 k) := by decide +kernel
theorem am_e8 : ∀ a, a < 4 → ∀ b, b < 4 → a ≠ b → (am_T 8 a).2.1 ≠ (am_T 8 b).2.1 := by decide +kernel
theorem am_w9 : ∀ w ∈ u_ws "DiffWeaver$Text" (am_T 9) 3, w ∈ am_tb := am_mems [236, 238, 240] (by decide +kernel) (by decide +kernel)
theorem am_t9 : ∀ k, k < 3 → parseFieldDescriptor (am_T 9 k).2.2.1 = some (am_ty 9 k) := by decide +kernel
theorem am_e9 : ∀ a, a < 3 → ∀ b, b < 3 → a ≠ b → (am_T 9 a).2.1 ≠ (am_T 9 b).2.1 := by decide +kernel
theorem am_w10 : ∀ w ∈ u_ws "DiffWeaver$TreeMeter" (am_T 10) 11, w ∈ am_tb := am_mems [198, 200, 202, 204, 206, 208, 210, 212, 214, 216, 218] (by decide +kernel) (by decide +kernel)
theorem am_t10 : ∀ k, k < 11 → parseFieldDescriptor (am_T 10 k).2.2.1 = some (am_ty 10 k) := by decide +kernel
theorem am_e10 : ∀ a, a < 11 → ∀ b, b < 11 → a ≠ b → (am_T 10 a).2.1 ≠ (am_T 10 b).2.1 := by decide +kernel
theorem am_w11 : ∀ w ∈ u_ws "DiffWeaver$Version" (am_T 11) 7, w ∈ am_tb := am_mems [369, 371, 373, 375, 377, 379, 381] (by decide +kernel) (by decide +kernel)
theorem am_t11 : ∀ k, k < 7 → parseFieldDescriptor (am_T 11 k).2.2.1 = some (am_ty 11 k) := by decide +kernel
theorem am_e11 : ∀ a, a < 7 → ∀ b, b < 7 → a ≠ b → (am_T 11 a).2.1 ≠ (am_T 11 b).2.1 := by decide +kernel
theorem am_w12 : ∀ w ∈ u_ws "DiffWeaverModel" (am_T 12) 54, w ∈ am_tb := am_mems [1527, 1529, 1531, 1533, 1535, 1537, 1539, 1541, 1543, 1545, 1547, 1549, 1551, 1553, 1555, 1557, 1559, 1561, 1563, 1565, 1567, 1569, 1571, 1573, 1575, 1577, 1579, 1581, 1583, 1585, 1587, 1589, 1591, 1593, 1595, 1597, 1599, 1601, 1603, 1605, 1607, 1609, 1611, 1613, 1615, 1617, 1619, 1621, 1623, 1625, 1627, 1629, 1631, 1633] (by decide +kernel) (by decide +kernel)
theorem am_t12 : ∀ k, k < 54 → parseFieldDescriptor (am_T 12 k).2.2.1 = some (am_ty 12 k) := by decide +kernel
theorem am_e12 : ∀ a, a < 54 → ∀ b, b < 54 → a ≠ b → (am_T 12 a).2.1 ≠ (am_T 12 b).2.1 := by decide +kernel
theorem am_w13 : ∀ w ∈ u_ws "java/util/ArrayList" (am_T 13) 3, w ∈ am_tb := am_mems [262, 264, 266] (by decide +kernel) (by decide +kernel)
theorem am_t13 : ∀ k, k < 3 → parseFieldDescriptor (am_T 13 k).2.2.1 = some (am_ty 13 k) := by decide +kernel
theorem am_e13 : ∀ a, a < 3 → ∀ b, b < 3 → a ≠ b → (am_T 13 a).2.1 ≠ (am_T 13 b).2.1 := by decide +kernel
theorem am_ci {ci : Nat} {P : Nat → Prop} (h : ci < 14) (h0 : P 0) (h1 : P 1) (h2 : P 2) (h3 : P 3) (h4 : P 4) (h5 : P 5) (h6 : P 6) (h7 : P 7) (h8 : P 8) (h9 : P 9) (h10 : P 10) (h11 : P 11) (h12 : P 12) (h13 : P 13) : P ci := by
  match ci, h with
  | 0, _ => exact h0
  | 1, _ => exact h1
  | 2, _ => exact h2
  | 3, _ => exact h3
  | 4, _ => exact h4
  | 5, _ => exact h5
  | 6, _ => exact h6
  | 7, _ => exact h7
  | 8, _ => exact h8
  | 9, _ => exact h9
  | 10, _ => exact h10
  | 11, _ => exact h11
  | 12, _ => exact h12
  | 13, _ => exact h13
theorem am_cls {ci : Nat} (h : ci < 14) : am_cl[ci]? = some (am_C ci, am_T ci, am_n ci) := am_ci (P := fun ci => am_cl[ci]? = some (am_C ci, am_T ci, am_n ci)) h rfl rfl rfl rfl rfl rfl rfl rfl rfl rfl rfl rfl rfl rfl
theorem am_win {ci : Nat} (h : ci < 14) : ∀ w ∈ u_ws (am_C ci) (am_T ci) (am_n ci), w ∈ am_tb := am_ci (P := fun ci => ∀ w ∈ u_ws (am_C ci) (am_T ci) (am_n ci), w ∈ am_tb) h am_w0 am_w1 am_w2 am_w3 am_w4 am_w5 am_w6 am_w7 am_w8 am_w9 am_w10 am_w11 am_w12 am_w13
theorem am_tyk {ci : Nat} (h : ci < 14) : ∀ k, k < am_n ci → parseFieldDescriptor (am_T ci k).2.2.1 = some (am_ty ci k) := am_ci (P := fun ci => ∀ k, k < am_n ci → parseFieldDescriptor (am_T ci k).2.2.1 = some (am_ty ci k)) h am_t0 am_t1 am_t2 am_t3 am_t4 am_t5 am_t6 am_t7 am_t8 am_t9 am_t10 am_t11 am_t12 am_t13
theorem am_nek {ci : Nat} (h : ci < 14) : ∀ a, a < am_n ci → ∀ b, b < am_n ci → a ≠ b → (am_T ci a).2.1 ≠ (am_T ci b).2.1 := am_ci (P := fun ci => ∀ a, a < am_n ci → ∀ b, b < am_n ci → a ≠ b → (am_T ci a).2.1 ≠ (am_T ci b).2.1) h am_e0 am_e1 am_e2 am_e3 am_e4 am_e5 am_e6 am_e7 am_e8 am_e9 am_e10 am_e11 am_e12 am_e13
theorem am_g0 : ∀ k, k < 17 → (if (am_tg 0).getD k 2 = 0 then am_ty 0 k = .int ∨ am_ty 0 k = .boolean else if (am_tg 0).getD k 2 = 1 then am_ty 0 k = .long else (am_ty 0 k).isReference = true) := by decide +kernel
theorem am_g1 : ∀ k, k < 9 → (if (am_tg 1).getD k 2 = 0 then am_ty 1 k = .int ∨ am_ty 1 k = .boolean else if (am_tg 1).getD k 2 = 1 then am_ty 1 k = .long else (am_ty 1 k).isReference = true) := by decide +kernel
theorem am_g2 : ∀ k, k < 4 → (if (am_tg 2).getD k 2 = 0 then am_ty 2 k = .int ∨ am_ty 2 k = .boolean else if (am_tg 2).getD k 2 = 1 then am_ty 2 k = .long else (am_ty 2 k).isReference = true) := by decide +kernel
theorem am_g3 : ∀ k, k < 14 → (if (am_tg 3).getD k 2 = 0 then am_ty 3 k = .int ∨ am_ty 3 k = .boolean else if (am_tg 3).getD k 2 = 1 then am_ty 3 k = .long else (am_ty 3 k).isReference = true) := by decide +kernel
theorem am_g4 : ∀ k, k < 6 → (if (am_tg 4).getD k 2 = 0 then am_ty 4 k = .int ∨ am_ty 4 k = .boolean else if (am_tg 4).getD k 2 = 1 then am_ty 4 k = .long else (am_ty 4 k).isReference = true) := by decide +kernel
theorem am_g5 : ∀ k, k < 6 → (if (am_tg 5).getD k 2 = 0 then am_ty 5 k = .int ∨ am_ty 5 k = .boolean else if (am_tg 5).getD k 2 = 1 then am_ty 5 k = .long else (am_ty 5 k).isReference = true) := by decide +kernel
theorem am_g6 : ∀ k, k < 3 → (if (am_tg 6).getD k 2 = 0 then am_ty 6 k = .int ∨ am_ty 6 k = .boolean else if (am_tg 6).getD k 2 = 1 then am_ty 6 k = .long else (am_ty 6 k).isReference = true) := by decide +kernel
theorem am_g7 : ∀ k, k < 2 → (if (am_tg 7).getD k 2 = 0 then am_ty 7 k = .int ∨ am_ty 7 k = .boolean else if (am_tg 7).getD k 2 = 1 then am_ty 7 k = .long else (am_ty 7 k).isReference = true) := by decide +kernel
theorem am_g8 : ∀ k, k < 4 → (if (am_tg 8).getD k 2 = 0 then am_ty 8 k = .int ∨ am_ty 8 k = .boolean else if (am_tg 8).getD k 2 = 1 then am_ty 8 k = .long else (am_ty 8 k).isReference = true) := by decide +kernel
theorem am_g9 : ∀ k, k < 3 → (if (am_tg 9).getD k 2 = 0 then am_ty 9 k = .int ∨ am_ty 9 k = .boolean else if (am_tg 9).getD k 2 = 1 then am_ty 9 k = .long else (am_ty 9 k).isReference = true) := by decide +kernel
theorem am_g10 : ∀ k, k < 11 → (if (am_tg 10).getD k 2 = 0 then am_ty 10 k = .int ∨ am_ty 10 k = .boolean else if (am_tg 10).getD k 2 = 1 then am_ty 10 k = .long else (am_ty 10 k).isReference = true) := by decide +kernel
theorem am_g11 : ∀ k, k < 7 → (if (am_tg 11).getD k 2 = 0 then am_ty 11 k = .int ∨ am_ty 11 k = .boolean else if (am_tg 11).getD k 2 = 1 then am_ty 11 k = .long else (am_ty 11 k).isReference = true) := by decide +kernel
theorem am_g12 : ∀ k, k < 54 → (if (am_tg 12).getD k 2 = 0 then am_ty 12 k = .int ∨ am_ty 12 k = .boolean else if (am_tg 12).getD k 2 = 1 then am_ty 12 k = .long else (am_ty 12 k).isReference = true) := by decide +kernel
theorem am_g13 : ∀ k, k < 3 → (if (am_tg 13).getD k 2 = 0 then am_ty 13 k = .int ∨ am_ty 13 k = .boolean else if (am_tg 13).getD k 2 = 1 then am_ty 13 k = .long else (am_ty 13 k).isReference = true) := by decide +kernel
theorem am_tgk {ci : Nat} (h : ci < 14) : ∀ k, k < am_n ci → (if (am_tg ci).getD k 2 = 0 then am_ty ci k = .int ∨ am_ty ci k = .boolean else if (am_tg ci).getD k 2 = 1 then am_ty ci k = .long else (am_ty ci k).isReference = true) := am_ci (P := fun ci => ∀ k, k < am_n ci → (if (am_tg ci).getD k 2 = 0 then am_ty ci k = .int ∨ am_ty ci k = .boolean else if (am_tg ci).getD k 2 = 1 then am_ty ci k = .long else (am_ty ci k).isReference = true)) h am_g0 am_g1 am_g2 am_g3 am_g4 am_g5 am_g6 am_g7 am_g8 am_g9 am_g10 am_g11 am_g12 am_g13
