section
-- ===== PART A: goes FIRST, ahead of the names: the tables' words, and 'selects' of the private methods out of them =====
/-- a private method of a class that the tables say can be made, by its rows of tables_1 -/
def lw_okq (q : MethodName × Nat) : Prop := (q.1.cls ≠ "java/lang/invoke/MethodHandle" ∧ q.1.cls ≠ "java/lang/invoke/VarHandle") ∧ Cond.instantiable q.1.cls q.2 ∈ tables_1 ∧ Cond.privateMethod q.1 ∈ tables_1 ∧ Cond.instanceMethod q.1 ∈ tables_1
theorem lw_p0 : lw_okq (⟨"BlockSearch$Mapping", "fitsTrial", "(LBlockSearch$Node;)Z"⟩, 3) := ⟨⟨by decide +kernel, by decide +kernel⟩, List.mem_of_getElem? (i := 51) (by decide +kernel), List.mem_of_getElem? (i := 350) (by decide +kernel), List.mem_of_getElem? (i := 351) (by decide +kernel)⟩
theorem lw_p1 : lw_okq (⟨"BlockSearch", "deleteLive", "(I)Z"⟩, 11) := ⟨⟨by decide +kernel, by decide +kernel⟩, List.mem_of_getElem? (i := 15) (by decide +kernel), List.mem_of_getElem? (i := 354) (by decide +kernel), List.mem_of_getElem? (i := 355) (by decide +kernel)⟩
theorem lw_p2 : lw_okq (⟨"BlockSearch$Mapping", "learnFrom", "(LBlockSearch$Node;)V"⟩, 3) := ⟨⟨by decide +kernel, by decide +kernel⟩, List.mem_of_getElem? (i := 51) (by decide +kernel), List.mem_of_getElem? (i := 366) (by decide +kernel), List.mem_of_getElem? (i := 367) (by decide +kernel)⟩
theorem lw_p3 : lw_okq (⟨"BlockSearch", "mergedRow", "(III)LBlockSearch$DocumentRow;"⟩, 11) := ⟨⟨by decide +kernel, by decide +kernel⟩, List.mem_of_getElem? (i := 15) (by decide +kernel), List.mem_of_getElem? (i := 431) (by decide +kernel), List.mem_of_getElem? (i := 432) (by decide +kernel)⟩
theorem lw_p4 : lw_okq (⟨"BlockSearch", "moveDown", "(II)V"⟩, 11) := ⟨⟨by decide +kernel, by decide +kernel⟩, List.mem_of_getElem? (i := 15) (by decide +kernel), List.mem_of_getElem? (i := 435) (by decide +kernel), List.mem_of_getElem? (i := 436) (by decide +kernel)⟩
theorem lw_p5 : lw_okq (⟨"BlockSearch$Scorer", "pointsAt", "(LBlockSearch$Query;I[LBlockSearch$Node;I)I"⟩, 3) := ⟨⟨by decide +kernel, by decide +kernel⟩, List.mem_of_getElem? (i := 165) (by decide +kernel), List.mem_of_getElem? (i := 514) (by decide +kernel), List.mem_of_getElem? (i := 515) (by decide +kernel)⟩
theorem lw_p6 : lw_okq (⟨"BlockSearch$Scorer", "nested", "(LBlockSearch$Query;I[LBlockSearch$Node;I)I"⟩, 3) := ⟨⟨by decide +kernel, by decide +kernel⟩, List.mem_of_getElem? (i := 165) (by decide +kernel), List.mem_of_getElem? (i := 534) (by decide +kernel), List.mem_of_getElem? (i := 535) (by decide +kernel)⟩
theorem lw_p7 : lw_okq (⟨"BlockSearch", "liveInSegments", "()I"⟩, 11) := ⟨⟨by decide +kernel, by decide +kernel⟩, List.mem_of_getElem? (i := 15) (by decide +kernel), List.mem_of_getElem? (i := 584) (by decide +kernel), List.mem_of_getElem? (i := 585) (by decide +kernel)⟩
theorem lw_p8 : lw_okq (⟨"BlockSearch", "deletedInSegments", "()I"⟩, 11) := ⟨⟨by decide +kernel, by decide +kernel⟩, List.mem_of_getElem? (i := 15) (by decide +kernel), List.mem_of_getElem? (i := 588) (by decide +kernel), List.mem_of_getElem? (i := 589) (by decide +kernel)⟩
theorem lw_p9 : lw_okq (⟨"BlockSearch", "segmentFact", "(I)I"⟩, 11) := ⟨⟨by decide +kernel, by decide +kernel⟩, List.mem_of_getElem? (i := 15) (by decide +kernel), List.mem_of_getElem? (i := 592) (by decide +kernel), List.mem_of_getElem? (i := 593) (by decide +kernel)⟩
theorem lw_p10 : lw_okq (⟨"BlockSearchModel", "conflicts", "()Z"⟩, 45) := ⟨⟨by decide +kernel, by decide +kernel⟩, List.mem_of_getElem? (i := 596) (by decide +kernel), List.mem_of_getElem? (i := 769) (by decide +kernel), List.mem_of_getElem? (i := 770) (by decide +kernel)⟩
theorem lw_p11 : lw_okq (⟨"BlockSearchModel", "inBuffer", "()I"⟩, 45) := ⟨⟨by decide +kernel, by decide +kernel⟩, List.mem_of_getElem? (i := 596) (by decide +kernel), List.mem_of_getElem? (i := 773) (by decide +kernel), List.mem_of_getElem? (i := 774) (by decide +kernel)⟩
theorem lw_p12 : lw_okq (⟨"BlockSearchModel", "find", "(I)I"⟩, 45) := ⟨⟨by decide +kernel, by decide +kernel⟩, List.mem_of_getElem? (i := 596) (by decide +kernel), List.mem_of_getElem? (i := 777) (by decide +kernel), List.mem_of_getElem? (i := 778) (by decide +kernel)⟩
theorem lw_p13 : lw_okq (⟨"BlockSearchModel", "lay", "(I)V"⟩, 45) := ⟨⟨by decide +kernel, by decide +kernel⟩, List.mem_of_getElem? (i := 596) (by decide +kernel), List.mem_of_getElem? (i := 781) (by decide +kernel), List.mem_of_getElem? (i := 782) (by decide +kernel)⟩
theorem lw_p14 : lw_okq (⟨"BlockSearchModel", "pathOfNext", "()I"⟩, 45) := ⟨⟨by decide +kernel, by decide +kernel⟩, List.mem_of_getElem? (i := 596) (by decide +kernel), List.mem_of_getElem? (i := 809) (by decide +kernel), List.mem_of_getElem? (i := 810) (by decide +kernel)⟩
theorem lw_p15 : lw_okq (⟨"BlockSearchModel", "isWhole", "()Z"⟩, 45) := ⟨⟨by decide +kernel, by decide +kernel⟩, List.mem_of_getElem? (i := 596) (by decide +kernel), List.mem_of_getElem? (i := 824) (by decide +kernel), List.mem_of_getElem? (i := 825) (by decide +kernel)⟩
def lw_privs_1 : List (MethodName × Nat) := [(⟨"BlockSearch$Mapping", "fitsTrial", "(LBlockSearch$Node;)Z"⟩, 3), (⟨"BlockSearch", "deleteLive", "(I)Z"⟩, 11), (⟨"BlockSearch$Mapping", "learnFrom", "(LBlockSearch$Node;)V"⟩, 3), (⟨"BlockSearch", "mergedRow", "(III)LBlockSearch$DocumentRow;"⟩, 11), (⟨"BlockSearch", "moveDown", "(II)V"⟩, 11), (⟨"BlockSearch$Scorer", "pointsAt", "(LBlockSearch$Query;I[LBlockSearch$Node;I)I"⟩, 3), (⟨"BlockSearch$Scorer", "nested", "(LBlockSearch$Query;I[LBlockSearch$Node;I)I"⟩, 3), (⟨"BlockSearch", "liveInSegments", "()I"⟩, 11), (⟨"BlockSearch", "deletedInSegments", "()I"⟩, 11), (⟨"BlockSearch", "segmentFact", "(I)I"⟩, 11), (⟨"BlockSearchModel", "conflicts", "()Z"⟩, 45), (⟨"BlockSearchModel", "inBuffer", "()I"⟩, 45), (⟨"BlockSearchModel", "find", "(I)I"⟩, 45), (⟨"BlockSearchModel", "lay", "(I)V"⟩, 45), (⟨"BlockSearchModel", "pathOfNext", "()I"⟩, 45), (⟨"BlockSearchModel", "isWhole", "()Z"⟩, 45)]
theorem lw_r1 : ∀ q ∈ lw_privs_1, lw_okq q := List.forall_mem_cons.mpr ⟨lw_p0, List.forall_mem_cons.mpr ⟨lw_p1, List.forall_mem_cons.mpr ⟨lw_p2, List.forall_mem_cons.mpr ⟨lw_p3, List.forall_mem_cons.mpr ⟨lw_p4, List.forall_mem_cons.mpr ⟨lw_p5, List.forall_mem_cons.mpr ⟨lw_p6, List.forall_mem_cons.mpr ⟨lw_p7, List.forall_mem_cons.mpr ⟨lw_p8, List.forall_mem_cons.mpr ⟨lw_p9, List.forall_mem_cons.mpr ⟨lw_p10, List.forall_mem_cons.mpr ⟨lw_p11, List.forall_mem_cons.mpr ⟨lw_p12, List.forall_mem_cons.mpr ⟨lw_p13, List.forall_mem_cons.mpr ⟨lw_p14, List.forall_mem_cons.mpr ⟨lw_p15, fun _ h => absurd h List.not_mem_nil⟩⟩⟩⟩⟩⟩⟩⟩⟩⟩⟩⟩⟩⟩⟩⟩
theorem lw_p16 : lw_okq (⟨"BlockSearchModel", "prepare", "()V"⟩, 45) := ⟨⟨by decide +kernel, by decide +kernel⟩, List.mem_of_getElem? (i := 596) (by decide +kernel), List.mem_of_getElem? (i := 828) (by decide +kernel), List.mem_of_getElem? (i := 829) (by decide +kernel)⟩
theorem lw_p17 : lw_okq (⟨"BlockSearchModel", "times", "(III)I"⟩, 45) := ⟨⟨by decide +kernel, by decide +kernel⟩, List.mem_of_getElem? (i := 596) (by decide +kernel), List.mem_of_getElem? (i := 832) (by decide +kernel), List.mem_of_getElem? (i := 833) (by decide +kernel)⟩
theorem lw_p18 : lw_okq (⟨"BlockSearchModel", "tried", "(I)Z"⟩, 45) := ⟨⟨by decide +kernel, by decide +kernel⟩, List.mem_of_getElem? (i := 596) (by decide +kernel), List.mem_of_getElem? (i := 837) (by decide +kernel), List.mem_of_getElem? (i := 838) (by decide +kernel)⟩
theorem lw_p19 : lw_okq (⟨"BlockSearchModel", "look", "(III)V"⟩, 45) := ⟨⟨by decide +kernel, by decide +kernel⟩, List.mem_of_getElem? (i := 596) (by decide +kernel), List.mem_of_getElem? (i := 841) (by decide +kernel), List.mem_of_getElem? (i := 842) (by decide +kernel)⟩
theorem lw_p20 : lw_okq (⟨"BlockSearchModel", "set", "(IIZI)V"⟩, 45) := ⟨⟨by decide +kernel, by decide +kernel⟩, List.mem_of_getElem? (i := 596) (by decide +kernel), List.mem_of_getElem? (i := 845) (by decide +kernel), List.mem_of_getElem? (i := 846) (by decide +kernel)⟩
theorem lw_p21 : lw_okq (⟨"BlockSearchModel", "nest", "(III)V"⟩, 45) := ⟨⟨by decide +kernel, by decide +kernel⟩, List.mem_of_getElem? (i := 596) (by decide +kernel), List.mem_of_getElem? (i := 849) (by decide +kernel), List.mem_of_getElem? (i := 850) (by decide +kernel)⟩
theorem lw_p22 : lw_okq (⟨"BlockSearchModel", "rootInSnapshot", "(I)I"⟩, 45) := ⟨⟨by decide +kernel, by decide +kernel⟩, List.mem_of_getElem? (i := 596) (by decide +kernel), List.mem_of_getElem? (i := 853) (by decide +kernel), List.mem_of_getElem? (i := 854) (by decide +kernel)⟩
theorem lw_p23 : lw_okq (⟨"BlockSearchModel", "told", "(IIII)I"⟩, 45) := ⟨⟨by decide +kernel, by decide +kernel⟩, List.mem_of_getElem? (i := 596) (by decide +kernel), List.mem_of_getElem? (i := 869) (by decide +kernel), List.mem_of_getElem? (i := 870) (by decide +kernel)⟩
theorem lw_p24 : lw_okq (⟨"BlockSearchModel", "isBelow", "(III)Z"⟩, 45) := ⟨⟨by decide +kernel, by decide +kernel⟩, List.mem_of_getElem? (i := 596) (by decide +kernel), List.mem_of_getElem? (i := 873) (by decide +kernel), List.mem_of_getElem? (i := 874) (by decide +kernel)⟩
theorem lw_p25 : lw_okq (⟨"BlockSearchModel", "inSegment", "(IZ)I"⟩, 45) := ⟨⟨by decide +kernel, by decide +kernel⟩, List.mem_of_getElem? (i := 596) (by decide +kernel), List.mem_of_getElem? (i := 885) (by decide +kernel), List.mem_of_getElem? (i := 886) (by decide +kernel)⟩
theorem lw_p26 : lw_okq (⟨"BlockSearchModel", "counted", "(I)I"⟩, 45) := ⟨⟨by decide +kernel, by decide +kernel⟩, List.mem_of_getElem? (i := 596) (by decide +kernel), List.mem_of_getElem? (i := 889) (by decide +kernel), List.mem_of_getElem? (i := 890) (by decide +kernel)⟩
def lw_privs_2 : List (MethodName × Nat) := [(⟨"BlockSearchModel", "prepare", "()V"⟩, 45), (⟨"BlockSearchModel", "times", "(III)I"⟩, 45), (⟨"BlockSearchModel", "tried", "(I)Z"⟩, 45), (⟨"BlockSearchModel", "look", "(III)V"⟩, 45), (⟨"BlockSearchModel", "set", "(IIZI)V"⟩, 45), (⟨"BlockSearchModel", "nest", "(III)V"⟩, 45), (⟨"BlockSearchModel", "rootInSnapshot", "(I)I"⟩, 45), (⟨"BlockSearchModel", "told", "(IIII)I"⟩, 45), (⟨"BlockSearchModel", "isBelow", "(III)Z"⟩, 45), (⟨"BlockSearchModel", "inSegment", "(IZ)I"⟩, 45), (⟨"BlockSearchModel", "counted", "(I)I"⟩, 45)]
theorem lw_r2 : ∀ q ∈ lw_privs_2, lw_okq q := List.forall_mem_cons.mpr ⟨lw_p16, List.forall_mem_cons.mpr ⟨lw_p17, List.forall_mem_cons.mpr ⟨lw_p18, List.forall_mem_cons.mpr ⟨lw_p19, List.forall_mem_cons.mpr ⟨lw_p20, List.forall_mem_cons.mpr ⟨lw_p21, List.forall_mem_cons.mpr ⟨lw_p22, List.forall_mem_cons.mpr ⟨lw_p23, List.forall_mem_cons.mpr ⟨lw_p24, List.forall_mem_cons.mpr ⟨lw_p25, List.forall_mem_cons.mpr ⟨lw_p26, fun _ h => absurd h List.not_mem_nil⟩⟩⟩⟩⟩⟩⟩⟩⟩⟩⟩
def lw_privs : List (MethodName × Nat) := lw_privs_1 ++ (lw_privs_2)
def lw_tbl : List Cond := k2_sels lw_privs ++ tables_1
theorem lw_privs_ok : ∀ q ∈ lw_privs, lw_okq q := by
  show ∀ q ∈ lw_privs_1 ++ (lw_privs_2), lw_okq q
  exact List.forall_mem_append.mpr ⟨lw_r1, lw_r2⟩

def xBig : List Cond := lw_tbl.filter goodWord
theorem xGood : ∀ w ∈ xBig, (w.onTables && w.keeps) = true ∨ ∃ ty, w = .arrayClass ty := fun w h => good_of_word (List.mem_filter.mp h).2
theorem xm {w : Cond} (i : Nat) (h : lw_tbl[i]? = some w) (g : goodWord w = true) : w ∈ xBig := List.mem_filter.mpr ⟨List.mem_of_getElem? h, g⟩
theorem xmAll {ws : List Cond} (is : List Nat) (h : ws = is.filterMap (fun i => lw_tbl[i]?)) (g : ws.all goodWord = true) : ∀ w ∈ ws, w ∈ xBig := fun w hw => by
  have g1 := List.all_eq_true.mp g w hw
  rw [h] at hw
  obtain ⟨i, -, hi⟩ := List.mem_filterMap.mp hw
  exact List.mem_filter.mpr ⟨List.mem_of_getElem? hi, g1⟩
def R_Hi : String := "BlockSearch$Hits"
def F_Hi : u_T := fun k => match k with
  | 0 => ("BlockSearch$Hits", "rows", "[[I", true)
  | _ => ("BlockSearch$Hits", "size", "I", false)
def t_Hi : Nat → FieldType := fun k => match k with
  | 0 => .array (.array .int)
  | _ => .int
set_option maxRecDepth 100000 in
theorem n_Hi : ∀ a, a < 2 → ∀ b, b < 2 → a ≠ b → (F_Hi a).2.1 ≠ (F_Hi b).2.1 := by decide +kernel
theorem ty_Hi : ∀ k, k < 2 → parseFieldDescriptor (F_Hi k).2.2.1 = some (t_Hi k) := by decide +kernel
set_option maxRecDepth 100000 in
theorem in_Hi : ∀ w ∈ u_ws R_Hi F_Hi 2, w ∈ xBig := xmAll [219, 221] (by decide +kernel) (by decide +kernel)
def R_Mp : String := "BlockSearch$Mapping"
def F_Mp : u_T := fun k => match k with
  | 0 => ("BlockSearch$Mapping", "types", "[[I", true)
  | 1 => ("BlockSearch$Mapping", "setCount", "I", false)
  | _ => ("BlockSearch$Mapping", "trial", "[[I", true)
def t_Mp : Nat → FieldType := fun k => match k with
  | 0 => .array (.array .int)
  | 1 => .int
  | _ => .array (.array .int)
set_option maxRecDepth 100000 in
theorem n_Mp : ∀ a, a < 3 → ∀ b, b < 3 → a ≠ b → (F_Mp a).2.1 ≠ (F_Mp b).2.1 := by decide +kernel
theorem ty_Mp : ∀ k, k < 3 → parseFieldDescriptor (F_Mp k).2.2.1 = some (t_Mp k) := by decide +kernel
set_option maxRecDepth 100000 in
theorem in_Mp : ∀ w ∈ u_ws R_Mp F_Mp 3, w ∈ xBig := xmAll [90, 92, 94] (by decide +kernel) (by decide +kernel)
def R_Nd : String := "BlockSearch$Node"
def F_Nd : u_T := fun k => match k with
  | 0 => ("BlockSearch$Node", "path", "I", true)
  | 1 => ("BlockSearch$Node", "parent", "LBlockSearch$Node;", true)
  | 2 => ("BlockSearch$Node", "least", "I", true)
  | 3 => ("BlockSearch$Node", "place", "I", false)
  | 4 => ("BlockSearch$Node", "types", "[I", true)
  | 5 => ("BlockSearch$Node", "values", "[I", true)
  | _ => ("BlockSearch$Node", "words", "[I", true)
def t_Nd : Nat → FieldType := fun k => match k with
  | 0 => .int
  | 1 => .object "BlockSearch$Node"
  | 2 => .int
  | 3 => .int
  | 4 => .array .int
  | 5 => .array .int
  | _ => .array .int
set_option maxRecDepth 100000 in
theorem n_Nd : ∀ a, a < 7 → ∀ b, b < 7 → a ≠ b → (F_Nd a).2.1 ≠ (F_Nd b).2.1 := by decide +kernel
theorem ty_Nd : ∀ k, k < 7 → parseFieldDescriptor (F_Nd k).2.2.1 = some (t_Nd k) := by decide +kernel
set_option maxRecDepth 100000 in
theorem in_Nd : ∀ w ∈ u_ws R_Nd F_Nd 7, w ∈ xBig := xmAll [302, 304, 306, 308, 310, 312, 314] (by decide +kernel) (by decide +kernel)
def R_Qu : String := "BlockSearch$Query"
def F_Qu : u_T := fun k => match k with
  | 0 => ("BlockSearch$Query", "kinds", "[I", true)
  | 1 => ("BlockSearch$Query", "firsts", "[I", true)
  | 2 => ("BlockSearch$Query", "seconds", "[I", true)
  | 3 => ("BlockSearch$Query", "paths", "[I", true)
  | 4 => ("BlockSearch$Query", "size", "I", false)
  | 5 => ("BlockSearch$Query", "awaited", "[I", true)
  | _ => ("BlockSearch$Query", "toCome", "I", false)
def t_Qu : Nat → FieldType := fun k => match k with
  | 0 => .array .int
  | 1 => .array .int
  | 2 => .array .int
  | 3 => .array .int
  | 4 => .int
  | 5 => .array .int
  | _ => .int
set_option maxRecDepth 100000 in
theorem n_Qu : ∀ a, a < 7 → ∀ b, b < 7 → a ≠ b → (F_Qu a).2.1 ≠ (F_Qu b).2.1 := by decide +kernel
theorem ty_Qu : ∀ k, k < 7 → parseFieldDescriptor (F_Qu k).2.2.1 = some (t_Qu k) := by decide +kernel
set_option maxRecDepth 100000 in
theorem in_Qu : ∀ w ∈ u_ws R_Qu F_Qu 7, w ∈ xBig := xmAll [176, 178, 180, 182, 184, 186, 188] (by decide +kernel) (by decide +kernel)
def R_Sn : String := "BlockSearch$Snapshot"
def F_Sn : u_T := fun k => match k with
  | 0 => ("BlockSearch$Snapshot", "taken", "Z", false)
  | 1 => ("BlockSearch$Snapshot", "size", "I", false)
  | 2 => ("BlockSearch$Snapshot", "documents", "[LBlockSearch$Document;", true)
  | 3 => ("BlockSearch$Snapshot", "live", "[Z", true)
  | 4 => ("BlockSearch$Snapshot", "segments", "[I", true)
  | _ => ("BlockSearch$Snapshot", "roots", "[I", true)
def t_Sn : Nat → FieldType := fun k => match k with
  | 0 => .boolean
  | 1 => .int
  | 2 => .array (.object "BlockSearch$Document")
  | 3 => .array .boolean
  | 4 => .array .int
  | _ => .array .int
set_option maxRecDepth 100000 in
theorem n_Sn : ∀ a, a < 6 → ∀ b, b < 6 → a ≠ b → (F_Sn a).2.1 ≠ (F_Sn b).2.1 := by decide +kernel
theorem ty_Sn : ∀ k, k < 6 → parseFieldDescriptor (F_Sn k).2.2.1 = some (t_Sn k) := by decide +kernel
set_option maxRecDepth 100000 in
theorem in_Sn : ∀ w ∈ u_ws R_Sn F_Sn 6, w ∈ xBig := xmAll [142, 144, 146, 148, 150, 152] (by decide +kernel) (by decide +kernel)
def R_Do : String := "BlockSearch$Document"
def F_Do : u_T := fun k => match k with
  | 0 => ("BlockSearch$Document", "id", "I", true)
  | 1 => ("BlockSearch$Document", "nodes", "[LBlockSearch$Node;", true)
  | _ => ("BlockSearch$Document", "live", "Z", false)
def t_Do : Nat → FieldType := fun k => match k with
  | 0 => .int
  | 1 => .array (.object "BlockSearch$Node")
  | _ => .boolean
set_option maxRecDepth 100000 in
theorem n_Do : ∀ a, a < 3 → ∀ b, b < 3 → a ≠ b → (F_Do a).2.1 ≠ (F_Do b).2.1 := by decide +kernel
theorem ty_Do : ∀ k, k < 3 → parseFieldDescriptor (F_Do k).2.2.1 = some (t_Do k) := by decide +kernel
set_option maxRecDepth 100000 in
theorem in_Do : ∀ w ∈ u_ws R_Do F_Do 3, w ∈ xBig := xmAll [416, 418, 420] (by decide +kernel) (by decide +kernel)
def R_Dr : String := "BlockSearch$Draft"
def F_Dr : u_T := fun k => match k with
  | 0 => ("BlockSearch$Draft", "closed", "[LBlockSearch$Node;", true)
  | 1 => ("BlockSearch$Draft", "closedCount", "I", false)
  | 2 => ("BlockSearch$Draft", "openedCount", "I", false)
  | _ => ("BlockSearch$Draft", "current", "LBlockSearch$Node;", false)
def t_Dr : Nat → FieldType := fun k => match k with
  | 0 => .array (.object "BlockSearch$Node")
  | 1 => .int
  | 2 => .int
  | _ => .object "BlockSearch$Node"
set_option maxRecDepth 100000 in
theorem n_Dr : ∀ a, a < 4 → ∀ b, b < 4 → a ≠ b → (F_Dr a).2.1 ≠ (F_Dr b).2.1 := by decide +kernel
theorem ty_Dr : ∀ k, k < 4 → parseFieldDescriptor (F_Dr k).2.2.1 = some (t_Dr k) := by decide +kernel
set_option maxRecDepth 100000 in
theorem in_Dr : ∀ w ∈ u_ws R_Dr F_Dr 4, w ∈ xBig := xmAll [68, 70, 72, 74] (by decide +kernel) (by decide +kernel)
def R_Sc : String := "BlockSearch$Scorer"
def F_Sc : u_T := fun k => match k with
  | 0 => ("BlockSearch$Scorer", "weights", "[I", true)
  | 1 => ("BlockSearch$Scorer", "otherParts", "[I", true)
  | _ => ("BlockSearch$Scorer", "table", "[[I", true)
def t_Sc : Nat → FieldType := fun k => match k with
  | 0 => .array .int
  | 1 => .array .int
  | _ => .array (.array .int)
set_option maxRecDepth 100000 in
theorem n_Sc : ∀ a, a < 3 → ∀ b, b < 3 → a ≠ b → (F_Sc a).2.1 ≠ (F_Sc b).2.1 := by decide +kernel
theorem ty_Sc : ∀ k, k < 3 → parseFieldDescriptor (F_Sc k).2.2.1 = some (t_Sc k) := by decide +kernel
set_option maxRecDepth 100000 in
theorem in_Sc : ∀ w ∈ u_ws R_Sc F_Sc 3, w ∈ xBig := xmAll [201, 203, 205] (by decide +kernel) (by decide +kernel)
def R_Rw : String := "BlockSearch$DocumentRow"
def F_Rw : u_T := fun k => match k with
  | 0 => ("BlockSearch$DocumentRow", "documents", "[LBlockSearch$Document;", true)
  | 1 => ("BlockSearch$DocumentRow", "size", "I", false)
  | _ => ("BlockSearch$DocumentRow", "objects", "I", false)
def t_Rw : Nat → FieldType := fun k => match k with
  | 0 => .array (.object "BlockSearch$Document")
  | 1 => .int
  | _ => .int
set_option maxRecDepth 100000 in
theorem n_Rw : ∀ a, a < 3 → ∀ b, b < 3 → a ≠ b → (F_Rw a).2.1 ≠ (F_Rw b).2.1 := by decide +kernel
theorem ty_Rw : ∀ k, k < 3 → parseFieldDescriptor (F_Rw k).2.2.1 = some (t_Rw k) := by decide +kernel
set_option maxRecDepth 100000 in
theorem in_Rw : ∀ w ∈ u_ws R_Rw F_Rw 3, w ∈ xBig := xmAll [112, 114, 116] (by decide +kernel) (by decide +kernel)
def R_B : String := "BlockSearch"
def F_B : u_T := fun k => match k with
  | 0 => ("BlockSearch", "draft", "LBlockSearch$Draft;", true)
  | 1 => ("BlockSearch", "mapping", "LBlockSearch$Mapping;", true)
  | 2 => ("BlockSearch", "buffer", "LBlockSearch$DocumentRow;", true)
  | 3 => ("BlockSearch", "segments", "[LBlockSearch$DocumentRow;", true)
  | 4 => ("BlockSearch", "snapshot", "LBlockSearch$Snapshot;", true)
  | 5 => ("BlockSearch", "query", "LBlockSearch$Query;", true)
  | 6 => ("BlockSearch", "scorer", "LBlockSearch$Scorer;", true)
  | 7 => ("BlockSearch", "hits", "LBlockSearch$Hits;", true)
  | 8 => ("BlockSearch", "segmentCount", "I", false)
  | 9 => ("BlockSearch", "addedCount", "I", false)
  | _ => ("BlockSearch", "leftOutCount", "I", false)
def t_B : Nat → FieldType := fun k => match k with
  | 0 => .object "BlockSearch$Draft"
  | 1 => .object "BlockSearch$Mapping"
  | 2 => .object "BlockSearch$DocumentRow"
  | 3 => .array (.object "BlockSearch$DocumentRow")
  | 4 => .object "BlockSearch$Snapshot"
  | 5 => .object "BlockSearch$Query"
  | 6 => .object "BlockSearch$Scorer"
  | 7 => .object "BlockSearch$Hits"
  | 8 => .int
  | 9 => .int
  | _ => .int
set_option maxRecDepth 100000 in
theorem n_B : ∀ a, a < 11 → ∀ b, b < 11 → a ≠ b → (F_B a).2.1 ≠ (F_B b).2.1 := by decide +kernel
theorem ty_B : ∀ k, k < 11 → parseFieldDescriptor (F_B k).2.2.1 = some (t_B k) := by decide +kernel
set_option maxRecDepth 100000 in
theorem in_B : ∀ w ∈ u_ws R_B F_B 11, w ∈ xBig := xmAll [235, 237, 239, 241, 243, 245, 247, 249, 251, 253, 255] (by decide +kernel) (by decide +kernel)
def R_M : String := "BlockSearchModel"
def F_M : u_T := fun k => match k with
  | 0 => ("BlockSearchModel", "dPath", "[I", true)
  | 1 => ("BlockSearchModel", "dParent", "[I", true)
  | 2 => ("BlockSearchModel", "dPlace", "[I", true)
  | 3 => ("BlockSearchModel", "dType", "[I", true)
  | 4 => ("BlockSearchModel", "dValue", "[I", true)
  | 5 => ("BlockSearchModel", "dWords", "[J", true)
  | 6 => ("BlockSearchModel", "drafted", "I", false)
  | 7 => ("BlockSearchModel", "closed", "I", false)
  | 8 => ("BlockSearchModel", "open", "I", false)
  | 9 => ("BlockSearchModel", "mapping", "[I", true)
  | 10 => ("BlockSearchModel", "typesSet", "I", false)
  | 11 => ("BlockSearchModel", "from", "[I", true)
  | 12 => ("BlockSearchModel", "size", "[I", true)
  | 13 => ("BlockSearchModel", "id", "[I", true)
  | 14 => ("BlockSearchModel", "segment", "[I", true)
  | 15 => ("BlockSearchModel", "snapSegment", "[I", true)
  | 16 => ("BlockSearchModel", "live", "[Z", true)
  | 17 => ("BlockSearchModel", "snapLive", "[Z", true)
  | 18 => ("BlockSearchModel", "documents", "I", false)
  | 19 => ("BlockSearchModel", "segments", "I", false)
  | 20 => ("BlockSearchModel", "leftOut", "I", false)
  | 21 => ("BlockSearchModel", "snapped", "Z", false)
  | 22 => ("BlockSearchModel", "path", "[I", true)
  | 23 => ("BlockSearchModel", "parent", "[I", true)
  | 24 => ("BlockSearchModel", "type", "[I", true)
  | 25 => ("BlockSearchModel", "value", "[I", true)
  | 26 => ("BlockSearchModel", "words", "[J", true)
  | 27 => ("BlockSearchModel", "objects", "I", false)
  | 28 => ("BlockSearchModel", "kind", "[I", true)
  | 29 => ("BlockSearchModel", "one", "[I", true)
  | 30 => ("BlockSearchModel", "two", "[I", true)
  | 31 => ("BlockSearchModel", "at", "[I", true)
  | 32 => ("BlockSearchModel", "behind", "[I", true)
  | 33 => ("BlockSearchModel", "open2", "[I", true)
  | 34 => ("BlockSearchModel", "all", "[I", true)
  | 35 => ("BlockSearchModel", "having", "[I", true)
  | 36 => ("BlockSearchModel", "tokens", "I", false)
  | 37 => ("BlockSearchModel", "wanted", "I", false)
  | 38 => ("BlockSearchModel", "holds", "[Z", true)
  | 39 => ("BlockSearchModel", "scores", "[I", true)
  | 40 => ("BlockSearchModel", "hitDocument", "[I", true)
  | 41 => ("BlockSearchModel", "hitScore", "[I", true)
  | 42 => ("BlockSearchModel", "hitSegment", "[I", true)
  | 43 => ("BlockSearchModel", "hitRoot", "[I", true)
  | _ => ("BlockSearchModel", "hits", "I", false)
def t_M : Nat → FieldType := fun k => match k with
  | 0 => .array .int
  | 1 => .array .int
  | 2 => .array .int
  | 3 => .array .int
  | 4 => .array .int
  | 5 => .array .long
  | 6 => .int
  | 7 => .int
  | 8 => .int
  | 9 => .array .int
  | 10 => .int
  | 11 => .array .int
  | 12 => .array .int
  | 13 => .array .int
  | 14 => .array .int
  | 15 => .array .int
  | 16 => .array .boolean
  | 17 => .array .boolean
  | 18 => .int
  | 19 => .int
  | 20 => .int
  | 21 => .boolean
  | 22 => .array .int
  | 23 => .array .int
  | 24 => .array .int
  | 25 => .array .int
  | 26 => .array .long
  | 27 => .int
  | 28 => .array .int
  | 29 => .array .int
  | 30 => .array .int
  | 31 => .array .int
  | 32 => .array .int
  | 33 => .array .int
  | 34 => .array .int
  | 35 => .array .int
  | 36 => .int
  | 37 => .int
  | 38 => .array .boolean
  | 39 => .array .int
  | 40 => .array .int
  | 41 => .array .int
  | 42 => .array .int
  | 43 => .array .int
  | _ => .int
set_option maxRecDepth 100000 in
theorem n_M : ∀ a, a < 45 → ∀ b, b < 45 → a ≠ b → (F_M a).2.1 ≠ (F_M b).2.1 := by decide +kernel
theorem ty_M : ∀ k, k < 45 → parseFieldDescriptor (F_M k).2.2.1 = some (t_M k) := by decide +kernel
set_option maxRecDepth 100000 in
theorem in_M : ∀ w ∈ u_ws R_M F_M 45, w ∈ xBig := xmAll [673, 675, 677, 679, 681, 683, 685, 687, 689, 691, 693, 695, 697, 699, 701, 703, 705, 707, 709, 711, 713, 715, 717, 719, 721, 723, 725, 727, 729, 731, 733, 735, 737, 739, 741, 743, 745, 747, 749, 751, 753, 755, 757, 759, 761] (by decide +kernel) (by decide +kernel)
abbrev classes : List vw_C := [(R_Hi, F_Hi, 2), (R_Mp, F_Mp, 3), (R_Nd, F_Nd, 7), (R_Qu, F_Qu, 7), (R_Sn, F_Sn, 6), (R_Do, F_Do, 3), (R_Dr, F_Dr, 4), (R_Sc, F_Sc, 3), (R_Rw, F_Rw, 3), (R_B, F_B, 11), (R_M, F_M, 45)]
theorem cl_Hi : classes[0]? = some (R_Hi, F_Hi, 2) := rfl
theorem cl_Mp : classes[1]? = some (R_Mp, F_Mp, 3) := rfl
theorem cl_Nd : classes[2]? = some (R_Nd, F_Nd, 7) := rfl
theorem cl_Qu : classes[3]? = some (R_Qu, F_Qu, 7) := rfl
theorem cl_Sn : classes[4]? = some (R_Sn, F_Sn, 6) := rfl
theorem cl_Do : classes[5]? = some (R_Do, F_Do, 3) := rfl
theorem cl_Dr : classes[6]? = some (R_Dr, F_Dr, 4) := rfl
theorem cl_Sc : classes[7]? = some (R_Sc, F_Sc, 3) := rfl
theorem cl_Rw : classes[8]? = some (R_Rw, F_Rw, 3) := rfl
theorem cl_B : classes[9]? = some (R_B, F_B, 11) := rfl
theorem cl_M : classes[10]? = some (R_M, F_M, 45) := rfl
abbrev xtysL (dA : Nat → ClassId) : List (ClassId × FieldType) := [(dA 0, .int), (dA 1, .boolean), (dA 2, .array .int), (dA 3, .object "BlockSearch$Node"), (dA 4, .object "BlockSearch$Document"), (dA 5, .object "BlockSearch$DocumentRow"), (dA 6, .long)]
def xNestF : List (String × Nat × String × String × String × String) := [("BlockSearch$Draft", 28, "BlockSearch", "PARENT", "[I", "BlockSearch")]
def xNestM : List (String × Nat × MethodName × String) := [("BlockSearch", 9, ⟨"BlockSearch$Draft", "<init>", "()V"⟩, "BlockSearch"), ("BlockSearch", 18, ⟨"BlockSearch$Mapping", "<init>", "()V"⟩, "BlockSearch"), ("BlockSearch", 38, ⟨"BlockSearch$Snapshot", "<init>", "()V"⟩, "BlockSearch"), ("BlockSearch", 45, ⟨"BlockSearch$Query", "<init>", "()V"⟩, "BlockSearch"), ("BlockSearch", 52, ⟨"BlockSearch$Scorer", "<init>", "()V"⟩, "BlockSearch"), ("BlockSearch", 59, ⟨"BlockSearch$Hits", "<init>", "()V"⟩, "BlockSearch")]
def xOver : List String := ["BlockSearch$Node", "BlockSearch$Document", "BlockSearch$DocumentRow"]
abbrev b_B_init : ByteArray := prog_1_method_1_code
abbrev y_B_init : MethodName := ⟨"BlockSearch", "<init>", "()V"⟩
abbrev b_B_open : ByteArray := prog_1_method_2_code
abbrev y_B_open : MethodName := ⟨"BlockSearch", "open", "(I)I"⟩
abbrev b_B_number : ByteArray := prog_1_method_3_code
abbrev y_B_number : MethodName := ⟨"BlockSearch", "number", "(II)Z"⟩
abbrev b_B_word : ByteArray := prog_1_method_4_code
abbrev y_B_word : MethodName := ⟨"BlockSearch", "word", "(II)I"⟩
abbrev b_B_close : ByteArray := prog_1_method_5_code
abbrev y_B_close : MethodName := ⟨"BlockSearch", "close", "()I"⟩
abbrev b_B_wipe : ByteArray := prog_1_method_6_code
abbrev y_B_wipe : MethodName := ⟨"BlockSearch", "wipe", "()I"⟩
abbrev b_B_add : ByteArray := prog_1_method_7_code
abbrev y_B_add : MethodName := ⟨"BlockSearch", "add", "(I)I"⟩
abbrev b_B_remove : ByteArray := prog_1_method_8_code
abbrev y_B_remove : MethodName := ⟨"BlockSearch", "remove", "(I)Z"⟩
abbrev b_B_flush : ByteArray := prog_1_method_9_code
abbrev y_B_flush : MethodName := ⟨"BlockSearch", "flush", "()I"⟩
abbrev b_B_merge : ByteArray := prog_1_method_10_code
abbrev y_B_merge : MethodName := ⟨"BlockSearch", "merge", "(II)I"⟩
abbrev b_B_refresh : ByteArray := prog_1_method_11_code
abbrev y_B_refresh : MethodName := ⟨"BlockSearch", "refresh", "()I"⟩
abbrev b_B_token : ByteArray := prog_1_method_12_code
abbrev y_B_token : MethodName := ⟨"BlockSearch", "token", "(III)I"⟩
abbrev b_B_clear : ByteArray := prog_1_method_13_code
abbrev y_B_clear : MethodName := ⟨"BlockSearch", "clear", "()I"⟩
abbrev b_B_search : ByteArray := prog_1_method_14_code
abbrev y_B_search : MethodName := ⟨"BlockSearch", "search", "()I"⟩
abbrev b_B_hit : ByteArray := prog_1_method_15_code
abbrev y_B_hit : MethodName := ⟨"BlockSearch", "hit", "(II)I"⟩
abbrev b_B_score : ByteArray := prog_1_method_16_code
abbrev y_B_score : MethodName := ⟨"BlockSearch", "score", "(I)I"⟩
abbrev b_B_object : ByteArray := prog_1_method_17_code
abbrev y_B_object : MethodName := ⟨"BlockSearch", "object", "(III)I"⟩
abbrev b_B_type : ByteArray := prog_1_method_18_code
abbrev y_B_type : MethodName := ⟨"BlockSearch", "type", "(II)I"⟩
abbrev b_B_count : ByteArray := prog_1_method_19_code
abbrev y_B_count : MethodName := ⟨"BlockSearch", "count", "(I)I"⟩
abbrev b_B_segmentFact : ByteArray := prog_1_method_20_code
abbrev y_B_segmentFact : MethodName := ⟨"BlockSearch", "segmentFact", "(I)I"⟩
abbrev b_B_liveInSegments : ByteArray := prog_1_method_21_code
abbrev y_B_liveInSegments : MethodName := ⟨"BlockSearch", "liveInSegments", "()I"⟩
abbrev b_B_deletedInSegments : ByteArray := prog_1_method_22_code
abbrev y_B_deletedInSegments : MethodName := ⟨"BlockSearch", "deletedInSegments", "()I"⟩
abbrev b_B_deleteLive : ByteArray := prog_1_method_23_code
abbrev y_B_deleteLive : MethodName := ⟨"BlockSearch", "deleteLive", "(I)Z"⟩
abbrev b_B_mergedRow : ByteArray := prog_1_method_24_code
abbrev y_B_mergedRow : MethodName := ⟨"BlockSearch", "mergedRow", "(III)LBlockSearch$DocumentRow;"⟩
abbrev b_B_moveDown : ByteArray := prog_1_method_25_code
abbrev y_B_moveDown : MethodName := ⟨"BlockSearch", "moveDown", "(II)V"⟩
abbrev b_B_isPath : ByteArray := prog_1_method_26_code
abbrev y_B_isPath : MethodName := ⟨"BlockSearch", "isPath", "(I)Z"⟩
abbrev b_B_isField : ByteArray := prog_1_method_27_code
abbrev y_B_isField : MethodName := ⟨"BlockSearch", "isField", "(I)Z"⟩
abbrev b_B_isNumber : ByteArray := prog_1_method_28_code
abbrev y_B_isNumber : MethodName := ⟨"BlockSearch", "isNumber", "(I)Z"⟩
abbrev b_B_isWord : ByteArray := prog_1_method_29_code
abbrev y_B_isWord : MethodName := ⟨"BlockSearch", "isWord", "(I)Z"⟩
abbrev b_B_isId : ByteArray := prog_1_method_30_code
abbrev y_B_isId : MethodName := ⟨"BlockSearch", "isId", "(I)Z"⟩
abbrev b_B_isToken : ByteArray := prog_1_method_31_code
abbrev y_B_isToken : MethodName := ⟨"BlockSearch", "isToken", "(III)Z"⟩
abbrev b_M_init : ByteArray := prog_12_method_1_code
abbrev y_M_init : MethodName := ⟨"BlockSearchModel", "<init>", "()V"⟩
abbrev b_M_in : ByteArray := prog_12_method_2_code
abbrev y_M_in : MethodName := ⟨"BlockSearchModel", "in", "(III)Z"⟩
abbrev b_M_parentOf : ByteArray := prog_12_method_3_code
abbrev y_M_parentOf : MethodName := ⟨"BlockSearchModel", "parentOf", "(I)I"⟩
abbrev b_M_open : ByteArray := prog_12_method_4_code
abbrev y_M_open : MethodName := ⟨"BlockSearchModel", "open", "(I)I"⟩
abbrev b_M_number : ByteArray := prog_12_method_5_code
abbrev y_M_number : MethodName := ⟨"BlockSearchModel", "number", "(II)Z"⟩
abbrev b_M_word : ByteArray := prog_12_method_6_code
abbrev y_M_word : MethodName := ⟨"BlockSearchModel", "word", "(II)I"⟩
abbrev b_M_close : ByteArray := prog_12_method_7_code
abbrev y_M_close : MethodName := ⟨"BlockSearchModel", "close", "()I"⟩
abbrev b_M_wipe : ByteArray := prog_12_method_8_code
abbrev y_M_wipe : MethodName := ⟨"BlockSearchModel", "wipe", "()I"⟩
abbrev b_M_inBuffer : ByteArray := prog_12_method_9_code
abbrev y_M_inBuffer : MethodName := ⟨"BlockSearchModel", "inBuffer", "()I"⟩
abbrev b_M_conflicts : ByteArray := prog_12_method_10_code
abbrev y_M_conflicts : MethodName := ⟨"BlockSearchModel", "conflicts", "()Z"⟩
abbrev b_M_find : ByteArray := prog_12_method_11_code
abbrev y_M_find : MethodName := ⟨"BlockSearchModel", "find", "(I)I"⟩
abbrev b_M_lay : ByteArray := prog_12_method_12_code
abbrev y_M_lay : MethodName := ⟨"BlockSearchModel", "lay", "(I)V"⟩
abbrev b_M_add : ByteArray := prog_12_method_13_code
abbrev y_M_add : MethodName := ⟨"BlockSearchModel", "add", "(I)I"⟩
abbrev b_M_remove : ByteArray := prog_12_method_14_code
abbrev y_M_remove : MethodName := ⟨"BlockSearchModel", "remove", "(I)Z"⟩
abbrev b_M_flush : ByteArray := prog_12_method_15_code
abbrev y_M_flush : MethodName := ⟨"BlockSearchModel", "flush", "()I"⟩
abbrev b_M_merge : ByteArray := prog_12_method_16_code
abbrev y_M_merge : MethodName := ⟨"BlockSearchModel", "merge", "(II)I"⟩
abbrev b_M_refresh : ByteArray := prog_12_method_17_code
abbrev y_M_refresh : MethodName := ⟨"BlockSearchModel", "refresh", "()I"⟩
abbrev b_M_parts : ByteArray := prog_12_method_18_code
abbrev y_M_parts : MethodName := ⟨"BlockSearchModel", "parts", "(I)I"⟩
abbrev b_M_isToken : ByteArray := prog_12_method_19_code
abbrev y_M_isToken : MethodName := ⟨"BlockSearchModel", "isToken", "(III)Z"⟩
abbrev b_M_pathOfNext : ByteArray := prog_12_method_20_code
abbrev y_M_pathOfNext : MethodName := ⟨"BlockSearchModel", "pathOfNext", "()I"⟩
abbrev b_M_token : ByteArray := prog_12_method_21_code
abbrev y_M_token : MethodName := ⟨"BlockSearchModel", "token", "(III)I"⟩
abbrev b_M_clear : ByteArray := prog_12_method_22_code
abbrev y_M_clear : MethodName := ⟨"BlockSearchModel", "clear", "()I"⟩
abbrev b_M_isWhole : ByteArray := prog_12_method_23_code
abbrev y_M_isWhole : MethodName := ⟨"BlockSearchModel", "isWhole", "()Z"⟩
abbrev b_M_times : ByteArray := prog_12_method_24_code
abbrev y_M_times : MethodName := ⟨"BlockSearchModel", "times", "(III)I"⟩
abbrev b_M_prepare : ByteArray := prog_12_method_25_code
abbrev y_M_prepare : MethodName := ⟨"BlockSearchModel", "prepare", "()V"⟩
abbrev b_M_set : ByteArray := prog_12_method_26_code
abbrev y_M_set : MethodName := ⟨"BlockSearchModel", "set", "(IIZI)V"⟩
abbrev b_M_nest : ByteArray := prog_12_method_27_code
abbrev y_M_nest : MethodName := ⟨"BlockSearchModel", "nest", "(III)V"⟩
abbrev b_M_look : ByteArray := prog_12_method_28_code
abbrev y_M_look : MethodName := ⟨"BlockSearchModel", "look", "(III)V"⟩
abbrev b_M_tried : ByteArray := prog_12_method_29_code
abbrev y_M_tried : MethodName := ⟨"BlockSearchModel", "tried", "(I)Z"⟩
abbrev b_M_rootInSnapshot : ByteArray := prog_12_method_30_code
abbrev y_M_rootInSnapshot : MethodName := ⟨"BlockSearchModel", "rootInSnapshot", "(I)I"⟩
abbrev b_M_search : ByteArray := prog_12_method_31_code
abbrev y_M_search : MethodName := ⟨"BlockSearchModel", "search", "()I"⟩
abbrev b_M_hit : ByteArray := prog_12_method_32_code
abbrev y_M_hit : MethodName := ⟨"BlockSearchModel", "hit", "(II)I"⟩
abbrev b_M_score : ByteArray := prog_12_method_33_code
abbrev y_M_score : MethodName := ⟨"BlockSearchModel", "score", "(I)I"⟩
abbrev b_M_object : ByteArray := prog_12_method_34_code
abbrev y_M_object : MethodName := ⟨"BlockSearchModel", "object", "(III)I"⟩
abbrev b_M_isBelow : ByteArray := prog_12_method_35_code
abbrev y_M_isBelow : MethodName := ⟨"BlockSearchModel", "isBelow", "(III)Z"⟩
abbrev b_M_told : ByteArray := prog_12_method_36_code
abbrev y_M_told : MethodName := ⟨"BlockSearchModel", "told", "(IIII)I"⟩
abbrev b_M_type : ByteArray := prog_12_method_37_code
abbrev y_M_type : MethodName := ⟨"BlockSearchModel", "type", "(II)I"⟩
abbrev b_M_inSegment : ByteArray := prog_12_method_38_code
abbrev y_M_inSegment : MethodName := ⟨"BlockSearchModel", "inSegment", "(IZ)I"⟩
abbrev b_M_counted : ByteArray := prog_12_method_39_code
abbrev y_M_counted : MethodName := ⟨"BlockSearchModel", "counted", "(I)I"⟩
abbrev b_M_count : ByteArray := prog_12_method_40_code
abbrev y_M_count : MethodName := ⟨"BlockSearchModel", "count", "(I)I"⟩
abbrev b_Do_init : ByteArray := prog_2_method_1_code
abbrev y_Do_init : MethodName := ⟨"BlockSearch$Document", "<init>", "(ILBlockSearch$Draft;)V"⟩
abbrev b_Do_factOf : ByteArray := prog_2_method_2_code
abbrev y_Do_factOf : MethodName := ⟨"BlockSearch$Document", "factOf", "(III)I"⟩
abbrev b_Rw_init : ByteArray := prog_3_method_1_code
abbrev y_Rw_init : MethodName := ⟨"BlockSearch$DocumentRow", "<init>", "(I)V"⟩
abbrev b_Rw_append : ByteArray := prog_3_method_2_code
abbrev y_Rw_append : MethodName := ⟨"BlockSearch$DocumentRow", "append", "(LBlockSearch$Document;)V"⟩
abbrev b_Rw_appendLive : ByteArray := prog_3_method_3_code
abbrev y_Rw_appendLive : MethodName := ⟨"BlockSearch$DocumentRow", "appendLive", "(LBlockSearch$DocumentRow;)V"⟩
abbrev b_Rw_drop : ByteArray := prog_3_method_4_code
abbrev y_Rw_drop : MethodName := ⟨"BlockSearch$DocumentRow", "drop", "()V"⟩
abbrev b_Rw_liveCount : ByteArray := prog_3_method_5_code
abbrev y_Rw_liveCount : MethodName := ⟨"BlockSearch$DocumentRow", "liveCount", "()I"⟩
abbrev b_Rw_deletedCount : ByteArray := prog_3_method_6_code
abbrev y_Rw_deletedCount : MethodName := ⟨"BlockSearch$DocumentRow", "deletedCount", "()I"⟩
abbrev b_Rw_liveWith : ByteArray := prog_3_method_7_code
abbrev y_Rw_liveWith : MethodName := ⟨"BlockSearch$DocumentRow", "liveWith", "(I)LBlockSearch$Document;"⟩
abbrev b_Rw_factOf : ByteArray := prog_3_method_8_code
abbrev y_Rw_factOf : MethodName := ⟨"BlockSearch$DocumentRow", "factOf", "(II)I"⟩
abbrev b_Dr_init : ByteArray := prog_4_method_1_code
abbrev y_Dr_init : MethodName := ⟨"BlockSearch$Draft", "<init>", "()V"⟩
abbrev b_Dr_isComplete : ByteArray := prog_4_method_2_code
abbrev y_Dr_isComplete : MethodName := ⟨"BlockSearch$Draft", "isComplete", "()Z"⟩
abbrev b_Dr_takesPath : ByteArray := prog_4_method_3_code
abbrev y_Dr_takesPath : MethodName := ⟨"BlockSearch$Draft", "takesPath", "(I)Z"⟩
abbrev b_Dr_begin : ByteArray := prog_4_method_4_code
abbrev y_Dr_begin : MethodName := ⟨"BlockSearch$Draft", "begin", "(I)V"⟩
abbrev b_Dr_end : ByteArray := prog_4_method_5_code
abbrev y_Dr_end : MethodName := ⟨"BlockSearch$Draft", "end", "()V"⟩
abbrev b_Dr_drop : ByteArray := prog_4_method_6_code
abbrev y_Dr_drop : MethodName := ⟨"BlockSearch$Draft", "drop", "()V"⟩
abbrev b_Hi_init : ByteArray := prog_5_method_1_code
abbrev y_Hi_init : MethodName := ⟨"BlockSearch$Hits", "<init>", "()V"⟩
abbrev b_Hi_drop : ByteArray := prog_5_method_2_code
abbrev y_Hi_drop : MethodName := ⟨"BlockSearch$Hits", "drop", "()V"⟩
abbrev b_Hi_insert : ByteArray := prog_5_method_3_code
abbrev y_Hi_insert : MethodName := ⟨"BlockSearch$Hits", "insert", "(LBlockSearch$Snapshot;II)V"⟩
abbrev b_Mp_init : ByteArray := prog_6_method_1_code
abbrev y_Mp_init : MethodName := ⟨"BlockSearch$Mapping", "<init>", "()V"⟩
abbrev b_Mp_fits : ByteArray := prog_6_method_2_code
abbrev y_Mp_fits : MethodName := ⟨"BlockSearch$Mapping", "fits", "(LBlockSearch$Draft;)Z"⟩
abbrev b_Mp_fitsTrial : ByteArray := prog_6_method_3_code
abbrev y_Mp_fitsTrial : MethodName := ⟨"BlockSearch$Mapping", "fitsTrial", "(LBlockSearch$Node;)Z"⟩
abbrev b_Mp_learn : ByteArray := prog_6_method_4_code
abbrev y_Mp_learn : MethodName := ⟨"BlockSearch$Mapping", "learn", "(LBlockSearch$Draft;)V"⟩
abbrev b_Mp_learnFrom : ByteArray := prog_6_method_5_code
abbrev y_Mp_learnFrom : MethodName := ⟨"BlockSearch$Mapping", "learnFrom", "(LBlockSearch$Node;)V"⟩
abbrev b_Nd_init : ByteArray := prog_7_method_1_code
abbrev y_Nd_init : MethodName := ⟨"BlockSearch$Node", "<init>", "(ILBlockSearch$Node;I)V"⟩
abbrev b_Nd_putNumber : ByteArray := prog_7_method_2_code
abbrev y_Nd_putNumber : MethodName := ⟨"BlockSearch$Node", "putNumber", "(II)V"⟩
abbrev b_Nd_putWord : ByteArray := prog_7_method_3_code
abbrev y_Nd_putWord : MethodName := ⟨"BlockSearch$Node", "putWord", "(II)V"⟩
abbrev b_Nd_timesOf : ByteArray := prog_7_method_4_code
abbrev y_Nd_timesOf : MethodName := ⟨"BlockSearch$Node", "timesOf", "(II)I"⟩
abbrev b_Nd_hasNumberWithin : ByteArray := prog_7_method_5_code
abbrev y_Nd_hasNumberWithin : MethodName := ⟨"BlockSearch$Node", "hasNumberWithin", "(III)Z"⟩
abbrev b_Nd_fieldFact : ByteArray := prog_7_method_6_code
abbrev y_Nd_fieldFact : MethodName := ⟨"BlockSearch$Node", "fieldFact", "(I)I"⟩
abbrev b_Qu_init : ByteArray := prog_8_method_1_code
abbrev y_Qu_init : MethodName := ⟨"BlockSearch$Query", "<init>", "()V"⟩
abbrev b_Qu_isComplete : ByteArray := prog_8_method_2_code
abbrev y_Qu_isComplete : MethodName := ⟨"BlockSearch$Query", "isComplete", "()Z"⟩
abbrev b_Qu_nextPath : ByteArray := prog_8_method_3_code
abbrev y_Qu_nextPath : MethodName := ⟨"BlockSearch$Query", "nextPath", "()I"⟩
abbrev b_Qu_append : ByteArray := prog_8_method_4_code
abbrev y_Qu_append : MethodName := ⟨"BlockSearch$Query", "append", "(III)V"⟩
abbrev b_Qu_drop : ByteArray := prog_8_method_5_code
abbrev y_Qu_drop : MethodName := ⟨"BlockSearch$Query", "drop", "()V"⟩
abbrev b_Qu_behind : ByteArray := prog_8_method_6_code
abbrev y_Qu_behind : MethodName := ⟨"BlockSearch$Query", "behind", "(I)I"⟩
abbrev b_Qu_partsOf : ByteArray := prog_8_method_7_code
abbrev y_Qu_partsOf : MethodName := ⟨"BlockSearch$Query", "partsOf", "(I)I"⟩
abbrev b_Sc_init : ByteArray := prog_9_method_1_code
abbrev y_Sc_init : MethodName := ⟨"BlockSearch$Scorer", "<init>", "()V"⟩
abbrev b_Sc_prepare : ByteArray := prog_9_method_2_code
abbrev y_Sc_prepare : MethodName := ⟨"BlockSearch$Scorer", "prepare", "(LBlockSearch$Query;LBlockSearch$Snapshot;)V"⟩
abbrev b_Sc_weightOf : ByteArray := prog_9_method_3_code
abbrev y_Sc_weightOf : MethodName := ⟨"BlockSearch$Scorer", "weightOf", "(LBlockSearch$Query;ILBlockSearch$Snapshot;)I"⟩
abbrev b_Sc_pointsOf : ByteArray := prog_9_method_4_code
abbrev y_Sc_pointsOf : MethodName := ⟨"BlockSearch$Scorer", "pointsOf", "(LBlockSearch$Query;LBlockSearch$Document;)I"⟩
abbrev b_Sc_pointsAt : ByteArray := prog_9_method_5_code
abbrev y_Sc_pointsAt : MethodName := ⟨"BlockSearch$Scorer", "pointsAt", "(LBlockSearch$Query;I[LBlockSearch$Node;I)I"⟩
abbrev b_Sc_weighed : ByteArray := prog_9_method_6_code
abbrev y_Sc_weighed : MethodName := ⟨"BlockSearch$Scorer", "weighed", "(II)I"⟩
abbrev b_Sc_oneIf : ByteArray := prog_9_method_7_code
abbrev y_Sc_oneIf : MethodName := ⟨"BlockSearch$Scorer", "oneIf", "(Z)I"⟩
abbrev b_Sc_sumOfBoth : ByteArray := prog_9_method_8_code
abbrev y_Sc_sumOfBoth : MethodName := ⟨"BlockSearch$Scorer", "sumOfBoth", "(II)I"⟩
abbrev b_Sc_sumOfEither : ByteArray := prog_9_method_9_code
abbrev y_Sc_sumOfEither : MethodName := ⟨"BlockSearch$Scorer", "sumOfEither", "(II)I"⟩
abbrev b_Sc_nested : ByteArray := prog_9_method_10_code
abbrev y_Sc_nested : MethodName := ⟨"BlockSearch$Scorer", "nested", "(LBlockSearch$Query;I[LBlockSearch$Node;I)I"⟩
abbrev b_Sn_init : ByteArray := prog_10_method_1_code
abbrev y_Sn_init : MethodName := ⟨"BlockSearch$Snapshot", "<init>", "()V"⟩
abbrev b_Sn_begin : ByteArray := prog_10_method_2_code
abbrev y_Sn_begin : MethodName := ⟨"BlockSearch$Snapshot", "begin", "()V"⟩
abbrev b_Sn_takeIn : ByteArray := prog_10_method_3_code
abbrev y_Sn_takeIn : MethodName := ⟨"BlockSearch$Snapshot", "takeIn", "(ILBlockSearch$DocumentRow;)V"⟩
abbrev b_Sn_liveCount : ByteArray := prog_10_method_4_code
abbrev y_Sn_liveCount : MethodName := ⟨"BlockSearch$Snapshot", "liveCount", "()I"⟩
abbrev b_Sn_liveWith : ByteArray := prog_10_method_5_code
abbrev y_Sn_liveWith : MethodName := ⟨"BlockSearch$Snapshot", "liveWith", "(I)LBlockSearch$Document;"⟩
end
section
theorem k_0 : (Cond.initialized "BlockSearchLaw") ∈ xBig := xm 27 (by decide +kernel) (by decide +kernel)
theorem k_1 : (Cond.initialized "BlockSearch") ∈ xBig := xm 28 (by decide +kernel) (by decide +kernel)
theorem k_2 : (Cond.initialized "BlockSearch$Draft") ∈ xBig := xm 29 (by decide +kernel) (by decide +kernel)
theorem k_3 : (Cond.initialized "BlockSearch$Mapping") ∈ xBig := xm 30 (by decide +kernel) (by decide +kernel)
theorem k_4 : (Cond.initialized "BlockSearch$DocumentRow") ∈ xBig := xm 31 (by decide +kernel) (by decide +kernel)
theorem k_5 : (Cond.initialized "BlockSearch$Snapshot") ∈ xBig := xm 32 (by decide +kernel) (by decide +kernel)
theorem k_6 : (Cond.initialized "BlockSearch$Query") ∈ xBig := xm 33 (by decide +kernel) (by decide +kernel)
theorem k_7 : (Cond.initialized "BlockSearch$Scorer") ∈ xBig := xm 34 (by decide +kernel) (by decide +kernel)
theorem k_8 : (Cond.initialized "BlockSearch$Hits") ∈ xBig := xm 35 (by decide +kernel) (by decide +kernel)
theorem k_9 : (Cond.initialized "BlockSearchModel") ∈ xBig := xm 36 (by decide +kernel) (by decide +kernel)
theorem k_10 : (Cond.initialized "BlockSearch$Node") ∈ xBig := xm 37 (by decide +kernel) (by decide +kernel)
theorem k_11 : (Cond.initialized "java/lang/System") ∈ xBig := xm 38 (by decide +kernel) (by decide +kernel)
theorem k_12 : (Cond.initialized "BlockSearch$Document") ∈ xBig := xm 39 (by decide +kernel) (by decide +kernel)
theorem k_13 : (Cond.initialized "java/lang/Math") ∈ xBig := xm 40 (by decide +kernel) (by decide +kernel)
theorem k_14 : (Cond.classLink "BlockSearchLaw" 7 "BlockSearch") ∈ xBig := xm 41 (by decide +kernel) (by decide +kernel)
theorem k_15 : (Cond.instantiable "BlockSearch" 11) ∈ xBig := xm 42 (by decide +kernel) (by decide +kernel)
theorem k_16 : (Cond.methodLink "BlockSearchLaw" 9 ⟨"BlockSearch", "<init>", "()V"⟩) ∈ xBig := xm 43 (by decide +kernel) (by decide +kernel)
theorem k_17 : (Cond.instanceMethod ⟨"BlockSearch", "<init>", "()V"⟩) ∈ xBig := xm 44 (by decide +kernel) (by decide +kernel)
theorem k_18 : (Cond.code ⟨"BlockSearch", "<init>", "()V"⟩ prog_1_method_1_code 1 none) ∈ xBig := xm 45 (by decide +kernel) (by decide +kernel)
theorem k_19 : (Cond.methodLink "BlockSearch" 1 ⟨"java/lang/Object", "<init>", "()V"⟩) ∈ xBig := xm 46 (by decide +kernel) (by decide +kernel)
theorem k_20 : (Cond.instanceMethod ⟨"java/lang/Object", "<init>", "()V"⟩) ∈ xBig := xm 47 (by decide +kernel) (by decide +kernel)
theorem k_21 : (Cond.code ⟨"java/lang/Object", "<init>", "()V"⟩ object_method_1_code 1 none) ∈ xBig := xm 48 (by decide +kernel) (by decide +kernel)
theorem k_22 : (Cond.classLink "BlockSearch" 7 "BlockSearch$Draft") ∈ xBig := xm 49 (by decide +kernel) (by decide +kernel)
theorem k_23 : (Cond.instantiable "BlockSearch$Draft" 4) ∈ xBig := xm 50 (by decide +kernel) (by decide +kernel)
theorem k_25 : (Cond.instanceMethod ⟨"BlockSearch$Draft", "<init>", "()V"⟩) ∈ xBig := xm 52 (by decide +kernel) (by decide +kernel)
theorem k_26 : (Cond.code ⟨"BlockSearch$Draft", "<init>", "()V"⟩ prog_4_method_1_code 1 none) ∈ xBig := xm 53 (by decide +kernel) (by decide +kernel)
theorem k_27 : (Cond.methodLink "BlockSearch$Draft" 3 ⟨"java/lang/Object", "<init>", "()V"⟩) ∈ xBig := xm 54 (by decide +kernel) (by decide +kernel)
theorem k_28 : (Cond.classLink "BlockSearch$Draft" 9 "BlockSearch$Node") ∈ xBig := xm 55 (by decide +kernel) (by decide +kernel)
theorem k_30 : (Cond.fieldLink "BlockSearch$Draft" 11 "BlockSearch$Draft" "closed" "[LBlockSearch$Node;") ∈ xBig := xm 57 (by decide +kernel) (by decide +kernel)
theorem k_31 : (Cond.fieldLink "BlockSearch$Document" 30 "BlockSearch$Draft" "closed" "[LBlockSearch$Node;") ∈ xBig := xm 58 (by decide +kernel) (by decide +kernel)
theorem k_32 : (Cond.fieldLink "BlockSearch$Mapping" 34 "BlockSearch$Draft" "closed" "[LBlockSearch$Node;") ∈ xBig := xm 59 (by decide +kernel) (by decide +kernel)
theorem k_33 : (Cond.fieldLink "BlockSearch$Draft" 17 "BlockSearch$Draft" "closedCount" "I") ∈ xBig := xm 60 (by decide +kernel) (by decide +kernel)
theorem k_34 : (Cond.fieldLink "BlockSearch$Document" 19 "BlockSearch$Draft" "closedCount" "I") ∈ xBig := xm 61 (by decide +kernel) (by decide +kernel)
theorem k_35 : (Cond.fieldLink "BlockSearch$Mapping" 29 "BlockSearch$Draft" "closedCount" "I") ∈ xBig := xm 62 (by decide +kernel) (by decide +kernel)
theorem k_36 : (Cond.fieldLink "BlockSearch" 119 "BlockSearch$Draft" "closedCount" "I") ∈ xBig := xm 63 (by decide +kernel) (by decide +kernel)
theorem k_37 : (Cond.fieldLink "BlockSearch$Draft" 21 "BlockSearch$Draft" "openedCount" "I") ∈ xBig := xm 64 (by decide +kernel) (by decide +kernel)
theorem k_38 : (Cond.fieldLink "BlockSearch" 81 "BlockSearch$Draft" "openedCount" "I") ∈ xBig := xm 65 (by decide +kernel) (by decide +kernel)
theorem k_39 : (Cond.fieldLink "BlockSearch$Draft" 24 "BlockSearch$Draft" "current" "LBlockSearch$Node;") ∈ xBig := xm 66 (by decide +kernel) (by decide +kernel)
theorem k_40 : (Cond.fieldLink "BlockSearch" 93 "BlockSearch$Draft" "current" "LBlockSearch$Node;") ∈ xBig := xm 67 (by decide +kernel) (by decide +kernel)
theorem k_50 : (Cond.classLink "BlockSearch" 16 "BlockSearch$Mapping") ∈ xBig := xm 77 (by decide +kernel) (by decide +kernel)
theorem k_51 : (Cond.instantiable "BlockSearch$Mapping" 3) ∈ xBig := xm 78 (by decide +kernel) (by decide +kernel)
theorem k_53 : (Cond.instanceMethod ⟨"BlockSearch$Mapping", "<init>", "()V"⟩) ∈ xBig := xm 80 (by decide +kernel) (by decide +kernel)
theorem k_54 : (Cond.code ⟨"BlockSearch$Mapping", "<init>", "()V"⟩ prog_6_method_1_code 1 none) ∈ xBig := xm 81 (by decide +kernel) (by decide +kernel)
theorem k_55 : (Cond.methodLink "BlockSearch$Mapping" 3 ⟨"java/lang/Object", "<init>", "()V"⟩) ∈ xBig := xm 82 (by decide +kernel) (by decide +kernel)
theorem k_56 : (Cond.classLink "BlockSearch$Mapping" 9 "[[I") ∈ xBig := xm 83 (by decide +kernel) (by decide +kernel)
theorem k_58 : (Cond.fieldLink "BlockSearch$Mapping" 11 "BlockSearch$Mapping" "types" "[[I") ∈ xBig := xm 85 (by decide +kernel) (by decide +kernel)
theorem k_59 : (Cond.fieldLink "BlockSearch" 241 "BlockSearch$Mapping" "types" "[[I") ∈ xBig := xm 86 (by decide +kernel) (by decide +kernel)
theorem k_60 : (Cond.fieldLink "BlockSearch$Mapping" 16 "BlockSearch$Mapping" "setCount" "I") ∈ xBig := xm 87 (by decide +kernel) (by decide +kernel)
theorem k_61 : (Cond.fieldLink "BlockSearch" 249 "BlockSearch$Mapping" "setCount" "I") ∈ xBig := xm 88 (by decide +kernel) (by decide +kernel)
theorem k_62 : (Cond.fieldLink "BlockSearch$Mapping" 20 "BlockSearch$Mapping" "trial" "[[I") ∈ xBig := xm 89 (by decide +kernel) (by decide +kernel)
theorem k_70 : (Cond.arrayClass FieldType.int) ∈ xBig := xm 97 (by decide +kernel) (by decide +kernel)
theorem k_71 : (Cond.classLink "BlockSearch" 23 "BlockSearch$DocumentRow") ∈ xBig := xm 98 (by decide +kernel) (by decide +kernel)
theorem k_72 : (Cond.instantiable "BlockSearch$DocumentRow" 3) ∈ xBig := xm 99 (by decide +kernel) (by decide +kernel)
theorem k_73 : (Cond.methodLink "BlockSearch" 25 ⟨"BlockSearch$DocumentRow", "<init>", "(I)V"⟩) ∈ xBig := xm 100 (by decide +kernel) (by decide +kernel)
theorem k_74 : (Cond.instanceMethod ⟨"BlockSearch$DocumentRow", "<init>", "(I)V"⟩) ∈ xBig := xm 101 (by decide +kernel) (by decide +kernel)
theorem k_75 : (Cond.code ⟨"BlockSearch$DocumentRow", "<init>", "(I)V"⟩ prog_3_method_1_code 2 none) ∈ xBig := xm 102 (by decide +kernel) (by decide +kernel)
theorem k_76 : (Cond.methodLink "BlockSearch$DocumentRow" 3 ⟨"java/lang/Object", "<init>", "()V"⟩) ∈ xBig := xm 103 (by decide +kernel) (by decide +kernel)
theorem k_77 : (Cond.classLink "BlockSearch$DocumentRow" 18 "BlockSearch$Document") ∈ xBig := xm 104 (by decide +kernel) (by decide +kernel)
theorem k_79 : (Cond.fieldLink "BlockSearch$DocumentRow" 20 "BlockSearch$DocumentRow" "documents" "[LBlockSearch$Document;") ∈ xBig := xm 106 (by decide +kernel) (by decide +kernel)
theorem k_80 : (Cond.fieldLink "BlockSearch$Snapshot" 39 "BlockSearch$DocumentRow" "documents" "[LBlockSearch$Document;") ∈ xBig := xm 107 (by decide +kernel) (by decide +kernel)
theorem k_81 : (Cond.fieldLink "BlockSearch$DocumentRow" 9 "BlockSearch$DocumentRow" "size" "I") ∈ xBig := xm 108 (by decide +kernel) (by decide +kernel)
theorem k_82 : (Cond.fieldLink "BlockSearch$Snapshot" 36 "BlockSearch$DocumentRow" "size" "I") ∈ xBig := xm 109 (by decide +kernel) (by decide +kernel)
theorem k_83 : (Cond.fieldLink "BlockSearch$DocumentRow" 15 "BlockSearch$DocumentRow" "objects" "I") ∈ xBig := xm 110 (by decide +kernel) (by decide +kernel)
theorem k_84 : (Cond.fieldLink "BlockSearch" 136 "BlockSearch$DocumentRow" "objects" "I") ∈ xBig := xm 111 (by decide +kernel) (by decide +kernel)
theorem k_93 : (Cond.classLink "BlockSearch" 36 "BlockSearch$Snapshot") ∈ xBig := xm 120 (by decide +kernel) (by decide +kernel)
theorem k_94 : (Cond.instantiable "BlockSearch$Snapshot" 6) ∈ xBig := xm 121 (by decide +kernel) (by decide +kernel)
theorem k_96 : (Cond.instanceMethod ⟨"BlockSearch$Snapshot", "<init>", "()V"⟩) ∈ xBig := xm 123 (by decide +kernel) (by decide +kernel)
theorem k_97 : (Cond.code ⟨"BlockSearch$Snapshot", "<init>", "()V"⟩ prog_10_method_1_code 1 none) ∈ xBig := xm 124 (by decide +kernel) (by decide +kernel)
theorem k_98 : (Cond.methodLink "BlockSearch$Snapshot" 3 ⟨"java/lang/Object", "<init>", "()V"⟩) ∈ xBig := xm 125 (by decide +kernel) (by decide +kernel)
theorem k_99 : (Cond.classLink "BlockSearch$Snapshot" 19 "BlockSearch$Document") ∈ xBig := xm 126 (by decide +kernel) (by decide +kernel)
theorem k_100 : (Cond.fieldLink "BlockSearch$Snapshot" 9 "BlockSearch$Snapshot" "taken" "Z") ∈ xBig := xm 127 (by decide +kernel) (by decide +kernel)
theorem k_101 : (Cond.fieldLink "BlockSearch" 202 "BlockSearch$Snapshot" "taken" "Z") ∈ xBig := xm 128 (by decide +kernel) (by decide +kernel)
theorem k_102 : (Cond.fieldLink "BlockSearch$Snapshot" 15 "BlockSearch$Snapshot" "size" "I") ∈ xBig := xm 129 (by decide +kernel) (by decide +kernel)
theorem k_103 : (Cond.fieldLink "BlockSearch$Scorer" 40 "BlockSearch$Snapshot" "size" "I") ∈ xBig := xm 130 (by decide +kernel) (by decide +kernel)
theorem k_104 : (Cond.fieldLink "BlockSearch" 211 "BlockSearch$Snapshot" "size" "I") ∈ xBig := xm 131 (by decide +kernel) (by decide +kernel)
theorem k_105 : (Cond.fieldLink "BlockSearch$Snapshot" 21 "BlockSearch$Snapshot" "documents" "[LBlockSearch$Document;") ∈ xBig := xm 132 (by decide +kernel) (by decide +kernel)
theorem k_106 : (Cond.fieldLink "BlockSearch$Scorer" 43 "BlockSearch$Snapshot" "documents" "[LBlockSearch$Document;") ∈ xBig := xm 133 (by decide +kernel) (by decide +kernel)
theorem k_107 : (Cond.fieldLink "BlockSearch$Hits" 20 "BlockSearch$Snapshot" "documents" "[LBlockSearch$Document;") ∈ xBig := xm 134 (by decide +kernel) (by decide +kernel)
theorem k_108 : (Cond.fieldLink "BlockSearch" 216 "BlockSearch$Snapshot" "documents" "[LBlockSearch$Document;") ∈ xBig := xm 135 (by decide +kernel) (by decide +kernel)
theorem k_109 : (Cond.fieldLink "BlockSearch$Snapshot" 25 "BlockSearch$Snapshot" "live" "[Z") ∈ xBig := xm 136 (by decide +kernel) (by decide +kernel)
theorem k_110 : (Cond.fieldLink "BlockSearch" 212 "BlockSearch$Snapshot" "live" "[Z") ∈ xBig := xm 137 (by decide +kernel) (by decide +kernel)
theorem k_111 : (Cond.fieldLink "BlockSearch$Snapshot" 29 "BlockSearch$Snapshot" "segments" "[I") ∈ xBig := xm 138 (by decide +kernel) (by decide +kernel)
theorem k_112 : (Cond.fieldLink "BlockSearch$Hits" 31 "BlockSearch$Snapshot" "segments" "[I") ∈ xBig := xm 139 (by decide +kernel) (by decide +kernel)
theorem k_113 : (Cond.fieldLink "BlockSearch$Snapshot" 33 "BlockSearch$Snapshot" "roots" "[I") ∈ xBig := xm 140 (by decide +kernel) (by decide +kernel)
theorem k_114 : (Cond.fieldLink "BlockSearch$Hits" 35 "BlockSearch$Snapshot" "roots" "[I") ∈ xBig := xm 141 (by decide +kernel) (by decide +kernel)
theorem k_128 : (Cond.arrayClass FieldType.boolean) ∈ xBig := xm 155 (by decide +kernel) (by decide +kernel)
theorem k_129 : (Cond.classLink "BlockSearch" 43 "BlockSearch$Query") ∈ xBig := xm 156 (by decide +kernel) (by decide +kernel)
theorem k_130 : (Cond.instantiable "BlockSearch$Query" 7) ∈ xBig := xm 157 (by decide +kernel) (by decide +kernel)
theorem k_132 : (Cond.instanceMethod ⟨"BlockSearch$Query", "<init>", "()V"⟩) ∈ xBig := xm 159 (by decide +kernel) (by decide +kernel)
theorem k_133 : (Cond.code ⟨"BlockSearch$Query", "<init>", "()V"⟩ prog_8_method_1_code 1 none) ∈ xBig := xm 160 (by decide +kernel) (by decide +kernel)
theorem k_134 : (Cond.methodLink "BlockSearch$Query" 3 ⟨"java/lang/Object", "<init>", "()V"⟩) ∈ xBig := xm 161 (by decide +kernel) (by decide +kernel)
theorem k_135 : (Cond.fieldLink "BlockSearch$Query" 9 "BlockSearch$Query" "kinds" "[I") ∈ xBig := xm 162 (by decide +kernel) (by decide +kernel)
theorem k_136 : (Cond.fieldLink "BlockSearch$Scorer" 29 "BlockSearch$Query" "kinds" "[I") ∈ xBig := xm 163 (by decide +kernel) (by decide +kernel)
theorem k_137 : (Cond.fieldLink "BlockSearch$Query" 15 "BlockSearch$Query" "firsts" "[I") ∈ xBig := xm 164 (by decide +kernel) (by decide +kernel)
theorem k_138 : (Cond.fieldLink "BlockSearch$Scorer" 61 "BlockSearch$Query" "firsts" "[I") ∈ xBig := xm 165 (by decide +kernel) (by decide +kernel)
theorem k_139 : (Cond.fieldLink "BlockSearch$Query" 18 "BlockSearch$Query" "seconds" "[I") ∈ xBig := xm 166 (by decide +kernel) (by decide +kernel)
theorem k_140 : (Cond.fieldLink "BlockSearch$Scorer" 64 "BlockSearch$Query" "seconds" "[I") ∈ xBig := xm 167 (by decide +kernel) (by decide +kernel)
theorem k_141 : (Cond.fieldLink "BlockSearch$Query" 21 "BlockSearch$Query" "paths" "[I") ∈ xBig := xm 168 (by decide +kernel) (by decide +kernel)
theorem k_142 : (Cond.fieldLink "BlockSearch$Scorer" 58 "BlockSearch$Query" "paths" "[I") ∈ xBig := xm 169 (by decide +kernel) (by decide +kernel)
theorem k_143 : (Cond.fieldLink "BlockSearch$Query" 24 "BlockSearch$Query" "size" "I") ∈ xBig := xm 170 (by decide +kernel) (by decide +kernel)
theorem k_144 : (Cond.fieldLink "BlockSearch$Scorer" 23 "BlockSearch$Query" "size" "I") ∈ xBig := xm 171 (by decide +kernel) (by decide +kernel)
theorem k_145 : (Cond.fieldLink "BlockSearch" 192 "BlockSearch$Query" "size" "I") ∈ xBig := xm 172 (by decide +kernel) (by decide +kernel)
theorem k_146 : (Cond.fieldLink "BlockSearch$Query" 28 "BlockSearch$Query" "awaited" "[I") ∈ xBig := xm 173 (by decide +kernel) (by decide +kernel)
theorem k_147 : (Cond.fieldLink "BlockSearch$Query" 31 "BlockSearch$Query" "toCome" "I") ∈ xBig := xm 174 (by decide +kernel) (by decide +kernel)
theorem k_148 : (Cond.fieldLink "BlockSearch" 198 "BlockSearch$Query" "toCome" "I") ∈ xBig := xm 175 (by decide +kernel) (by decide +kernel)
theorem k_164 : (Cond.classLink "BlockSearch" 50 "BlockSearch$Scorer") ∈ xBig := xm 191 (by decide +kernel) (by decide +kernel)
theorem k_165 : (Cond.instantiable "BlockSearch$Scorer" 3) ∈ xBig := xm 192 (by decide +kernel) (by decide +kernel)
theorem k_167 : (Cond.instanceMethod ⟨"BlockSearch$Scorer", "<init>", "()V"⟩) ∈ xBig := xm 194 (by decide +kernel) (by decide +kernel)
theorem k_168 : (Cond.code ⟨"BlockSearch$Scorer", "<init>", "()V"⟩ prog_9_method_1_code 1 none) ∈ xBig := xm 195 (by decide +kernel) (by decide +kernel)
theorem k_169 : (Cond.methodLink "BlockSearch$Scorer" 3 ⟨"java/lang/Object", "<init>", "()V"⟩) ∈ xBig := xm 196 (by decide +kernel) (by decide +kernel)
theorem k_170 : (Cond.classLink "BlockSearch$Scorer" 18 "[[I") ∈ xBig := xm 197 (by decide +kernel) (by decide +kernel)
theorem k_171 : (Cond.fieldLink "BlockSearch$Scorer" 9 "BlockSearch$Scorer" "weights" "[I") ∈ xBig := xm 198 (by decide +kernel) (by decide +kernel)
theorem k_172 : (Cond.fieldLink "BlockSearch$Scorer" 15 "BlockSearch$Scorer" "otherParts" "[I") ∈ xBig := xm 199 (by decide +kernel) (by decide +kernel)
theorem k_173 : (Cond.fieldLink "BlockSearch$Scorer" 20 "BlockSearch$Scorer" "table" "[[I") ∈ xBig := xm 200 (by decide +kernel) (by decide +kernel)
theorem k_181 : (Cond.classLink "BlockSearch" 57 "BlockSearch$Hits") ∈ xBig := xm 208 (by decide +kernel) (by decide +kernel)
theorem k_182 : (Cond.instantiable "BlockSearch$Hits" 2) ∈ xBig := xm 209 (by decide +kernel) (by decide +kernel)
theorem k_184 : (Cond.instanceMethod ⟨"BlockSearch$Hits", "<init>", "()V"⟩) ∈ xBig := xm 211 (by decide +kernel) (by decide +kernel)
theorem k_185 : (Cond.code ⟨"BlockSearch$Hits", "<init>", "()V"⟩ prog_5_method_1_code 1 none) ∈ xBig := xm 212 (by decide +kernel) (by decide +kernel)
theorem k_186 : (Cond.methodLink "BlockSearch$Hits" 3 ⟨"java/lang/Object", "<init>", "()V"⟩) ∈ xBig := xm 213 (by decide +kernel) (by decide +kernel)
theorem k_187 : (Cond.classLink "BlockSearch$Hits" 9 "[[I") ∈ xBig := xm 214 (by decide +kernel) (by decide +kernel)
theorem k_188 : (Cond.fieldLink "BlockSearch$Hits" 11 "BlockSearch$Hits" "rows" "[[I") ∈ xBig := xm 215 (by decide +kernel) (by decide +kernel)
theorem k_189 : (Cond.fieldLink "BlockSearch" 229 "BlockSearch$Hits" "rows" "[[I") ∈ xBig := xm 216 (by decide +kernel) (by decide +kernel)
theorem k_190 : (Cond.fieldLink "BlockSearch$Hits" 16 "BlockSearch$Hits" "size" "I") ∈ xBig := xm 217 (by decide +kernel) (by decide +kernel)
theorem k_191 : (Cond.fieldLink "BlockSearch" 228 "BlockSearch$Hits" "size" "I") ∈ xBig := xm 218 (by decide +kernel) (by decide +kernel)
theorem k_197 : (Cond.fieldLink "BlockSearch" 10 "BlockSearch" "draft" "LBlockSearch$Draft;") ∈ xBig := xm 224 (by decide +kernel) (by decide +kernel)
theorem k_198 : (Cond.fieldLink "BlockSearch" 19 "BlockSearch" "mapping" "LBlockSearch$Mapping;") ∈ xBig := xm 225 (by decide +kernel) (by decide +kernel)
theorem k_199 : (Cond.fieldLink "BlockSearch" 28 "BlockSearch" "buffer" "LBlockSearch$DocumentRow;") ∈ xBig := xm 226 (by decide +kernel) (by decide +kernel)
theorem k_200 : (Cond.fieldLink "BlockSearch" 32 "BlockSearch" "segments" "[LBlockSearch$DocumentRow;") ∈ xBig := xm 227 (by decide +kernel) (by decide +kernel)
theorem k_201 : (Cond.fieldLink "BlockSearch" 39 "BlockSearch" "snapshot" "LBlockSearch$Snapshot;") ∈ xBig := xm 228 (by decide +kernel) (by decide +kernel)
theorem k_202 : (Cond.fieldLink "BlockSearch" 46 "BlockSearch" "query" "LBlockSearch$Query;") ∈ xBig := xm 229 (by decide +kernel) (by decide +kernel)
theorem k_203 : (Cond.fieldLink "BlockSearch" 53 "BlockSearch" "scorer" "LBlockSearch$Scorer;") ∈ xBig := xm 230 (by decide +kernel) (by decide +kernel)
theorem k_204 : (Cond.fieldLink "BlockSearch" 60 "BlockSearch" "hits" "LBlockSearch$Hits;") ∈ xBig := xm 231 (by decide +kernel) (by decide +kernel)
theorem k_205 : (Cond.fieldLink "BlockSearch" 64 "BlockSearch" "segmentCount" "I") ∈ xBig := xm 232 (by decide +kernel) (by decide +kernel)
theorem k_206 : (Cond.fieldLink "BlockSearch" 68 "BlockSearch" "addedCount" "I") ∈ xBig := xm 233 (by decide +kernel) (by decide +kernel)
theorem k_207 : (Cond.fieldLink "BlockSearch" 71 "BlockSearch" "leftOutCount" "I") ∈ xBig := xm 234 (by decide +kernel) (by decide +kernel)
theorem k_231 : (Cond.methodLink "BlockSearchLaw" 13 ⟨"BlockSearch", "open", "(I)I"⟩) ∈ xBig := xm 258 (by decide +kernel) (by decide +kernel)
theorem k_232 : (Cond.instanceMethod ⟨"BlockSearch", "open", "(I)I"⟩) ∈ xBig := xm 259 (by decide +kernel) (by decide +kernel)
theorem k_233 : (Cond.selects "BlockSearch" ⟨"BlockSearch", "open", "(I)I"⟩ ⟨"BlockSearch", "open", "(I)I"⟩) ∈ xBig := xm 260 (by decide +kernel) (by decide +kernel)
theorem k_234 : (Cond.code ⟨"BlockSearch", "open", "(I)I"⟩ prog_1_method_2_code 2 (some FieldType.int)) ∈ xBig := xm 261 (by decide +kernel) (by decide +kernel)
theorem k_235 : (Cond.methodLink "BlockSearch" 74 ⟨"BlockSearch", "isPath", "(I)Z"⟩) ∈ xBig := xm 262 (by decide +kernel) (by decide +kernel)
theorem k_236 : (Cond.static ⟨"BlockSearch", "isPath", "(I)Z"⟩) ∈ xBig := xm 263 (by decide +kernel) (by decide +kernel)
theorem k_237 : (Cond.code ⟨"BlockSearch", "isPath", "(I)Z"⟩ prog_1_method_26_code 1 (some FieldType.boolean)) ∈ xBig := xm 264 (by decide +kernel) (by decide +kernel)
theorem k_238 : (Cond.methodLink "BlockSearch" 78 ⟨"BlockSearch$Draft", "takesPath", "(I)Z"⟩) ∈ xBig := xm 265 (by decide +kernel) (by decide +kernel)
theorem k_239 : (Cond.instanceMethod ⟨"BlockSearch$Draft", "takesPath", "(I)Z"⟩) ∈ xBig := xm 266 (by decide +kernel) (by decide +kernel)
theorem k_240 : (Cond.selects "BlockSearch$Draft" ⟨"BlockSearch$Draft", "takesPath", "(I)Z"⟩ ⟨"BlockSearch$Draft", "takesPath", "(I)Z"⟩) ∈ xBig := xm 267 (by decide +kernel) (by decide +kernel)
theorem k_241 : (Cond.code ⟨"BlockSearch$Draft", "takesPath", "(I)Z"⟩ prog_4_method_3_code 2 (some FieldType.boolean)) ∈ xBig := xm 268 (by decide +kernel) (by decide +kernel)
theorem k_244 : (Cond.methodLink "BlockSearch" 84 ⟨"BlockSearch$Draft", "begin", "(I)V"⟩) ∈ xBig := xm 271 (by decide +kernel) (by decide +kernel)
theorem k_245 : (Cond.instanceMethod ⟨"BlockSearch$Draft", "begin", "(I)V"⟩) ∈ xBig := xm 272 (by decide +kernel) (by decide +kernel)
theorem k_246 : (Cond.selects "BlockSearch$Draft" ⟨"BlockSearch$Draft", "begin", "(I)V"⟩ ⟨"BlockSearch$Draft", "begin", "(I)V"⟩) ∈ xBig := xm 273 (by decide +kernel) (by decide +kernel)
theorem k_247 : (Cond.code ⟨"BlockSearch$Draft", "begin", "(I)V"⟩ prog_4_method_4_code 2 none) ∈ xBig := xm 274 (by decide +kernel) (by decide +kernel)
theorem k_248 : (Cond.instantiable "BlockSearch$Node" 7) ∈ xBig := xm 275 (by decide +kernel) (by decide +kernel)
theorem k_249 : (Cond.methodLink "BlockSearch$Draft" 35 ⟨"BlockSearch$Node", "<init>", "(ILBlockSearch$Node;I)V"⟩) ∈ xBig := xm 276 (by decide +kernel) (by decide +kernel)
theorem k_250 : (Cond.instanceMethod ⟨"BlockSearch$Node", "<init>", "(ILBlockSearch$Node;I)V"⟩) ∈ xBig := xm 277 (by decide +kernel) (by decide +kernel)
theorem k_251 : (Cond.code ⟨"BlockSearch$Node", "<init>", "(ILBlockSearch$Node;I)V"⟩ prog_7_method_1_code 4 none) ∈ xBig := xm 278 (by decide +kernel) (by decide +kernel)
theorem k_252 : (Cond.methodLink "BlockSearch$Node" 3 ⟨"java/lang/Object", "<init>", "()V"⟩) ∈ xBig := xm 279 (by decide +kernel) (by decide +kernel)
theorem k_253 : (Cond.fieldLink "BlockSearch$Node" 25 "BlockSearch$Node" "path" "I") ∈ xBig := xm 280 (by decide +kernel) (by decide +kernel)
theorem k_254 : (Cond.fieldLink "BlockSearch$Document" 33 "BlockSearch$Node" "path" "I") ∈ xBig := xm 281 (by decide +kernel) (by decide +kernel)
theorem k_255 : (Cond.fieldLink "BlockSearch$Mapping" 42 "BlockSearch$Node" "path" "I") ∈ xBig := xm 282 (by decide +kernel) (by decide +kernel)
theorem k_256 : (Cond.fieldLink "BlockSearch$Draft" 32 "BlockSearch$Node" "path" "I") ∈ xBig := xm 283 (by decide +kernel) (by decide +kernel)
theorem k_257 : (Cond.fieldLink "BlockSearch$Scorer" 53 "BlockSearch$Node" "path" "I") ∈ xBig := xm 284 (by decide +kernel) (by decide +kernel)
theorem k_258 : (Cond.fieldLink "BlockSearch$Node" 28 "BlockSearch$Node" "parent" "LBlockSearch$Node;") ∈ xBig := xm 285 (by decide +kernel) (by decide +kernel)
theorem k_259 : (Cond.fieldLink "BlockSearch$Document" 36 "BlockSearch$Node" "parent" "LBlockSearch$Node;") ∈ xBig := xm 286 (by decide +kernel) (by decide +kernel)
theorem k_260 : (Cond.fieldLink "BlockSearch$Draft" 41 "BlockSearch$Node" "parent" "LBlockSearch$Node;") ∈ xBig := xm 287 (by decide +kernel) (by decide +kernel)
theorem k_261 : (Cond.fieldLink "BlockSearch$Scorer" 101 "BlockSearch$Node" "parent" "LBlockSearch$Node;") ∈ xBig := xm 288 (by decide +kernel) (by decide +kernel)
theorem k_262 : (Cond.fieldLink "BlockSearch$Node" 32 "BlockSearch$Node" "least" "I") ∈ xBig := xm 289 (by decide +kernel) (by decide +kernel)
theorem k_263 : (Cond.fieldLink "BlockSearch$Document" 43 "BlockSearch$Node" "least" "I") ∈ xBig := xm 290 (by decide +kernel) (by decide +kernel)
theorem k_264 : (Cond.fieldLink "BlockSearch$Scorer" 98 "BlockSearch$Node" "least" "I") ∈ xBig := xm 291 (by decide +kernel) (by decide +kernel)
theorem k_265 : (Cond.fieldLink "BlockSearch$Node" 9 "BlockSearch$Node" "place" "I") ∈ xBig := xm 292 (by decide +kernel) (by decide +kernel)
theorem k_266 : (Cond.fieldLink "BlockSearch$Document" 40 "BlockSearch$Node" "place" "I") ∈ xBig := xm 293 (by decide +kernel) (by decide +kernel)
theorem k_267 : (Cond.fieldLink "BlockSearch$Draft" 38 "BlockSearch$Node" "place" "I") ∈ xBig := xm 294 (by decide +kernel) (by decide +kernel)
theorem k_268 : (Cond.fieldLink "BlockSearch$Node" 15 "BlockSearch$Node" "types" "[I") ∈ xBig := xm 295 (by decide +kernel) (by decide +kernel)
theorem k_269 : (Cond.fieldLink "BlockSearch$Mapping" 47 "BlockSearch$Node" "types" "[I") ∈ xBig := xm 296 (by decide +kernel) (by decide +kernel)
theorem k_270 : (Cond.fieldLink "BlockSearch" 106 "BlockSearch$Node" "types" "[I") ∈ xBig := xm 297 (by decide +kernel) (by decide +kernel)
theorem k_271 : (Cond.fieldLink "BlockSearch$Scorer" 86 "BlockSearch$Node" "types" "[I") ∈ xBig := xm 298 (by decide +kernel) (by decide +kernel)
theorem k_272 : (Cond.fieldLink "BlockSearch$Node" 19 "BlockSearch$Node" "values" "[I") ∈ xBig := xm 299 (by decide +kernel) (by decide +kernel)
theorem k_273 : (Cond.fieldLink "BlockSearch" 110 "BlockSearch$Node" "values" "[I") ∈ xBig := xm 300 (by decide +kernel) (by decide +kernel)
theorem k_274 : (Cond.fieldLink "BlockSearch$Node" 22 "BlockSearch$Node" "words" "[I") ∈ xBig := xm 301 (by decide +kernel) (by decide +kernel)
theorem k_290 : (Cond.methodLink "BlockSearchLaw" 18 ⟨"BlockSearch", "number", "(II)Z"⟩) ∈ xBig := xm 317 (by decide +kernel) (by decide +kernel)
theorem k_291 : (Cond.instanceMethod ⟨"BlockSearch", "number", "(II)Z"⟩) ∈ xBig := xm 318 (by decide +kernel) (by decide +kernel)
theorem k_292 : (Cond.selects "BlockSearch" ⟨"BlockSearch", "number", "(II)Z"⟩ ⟨"BlockSearch", "number", "(II)Z"⟩) ∈ xBig := xm 319 (by decide +kernel) (by decide +kernel)
theorem k_293 : (Cond.code ⟨"BlockSearch", "number", "(II)Z"⟩ prog_1_method_3_code 3 (some FieldType.boolean)) ∈ xBig := xm 320 (by decide +kernel) (by decide +kernel)
theorem k_294 : (Cond.methodLink "BlockSearch" 87 ⟨"BlockSearch", "isField", "(I)Z"⟩) ∈ xBig := xm 321 (by decide +kernel) (by decide +kernel)
theorem k_295 : (Cond.static ⟨"BlockSearch", "isField", "(I)Z"⟩) ∈ xBig := xm 322 (by decide +kernel) (by decide +kernel)
theorem k_296 : (Cond.code ⟨"BlockSearch", "isField", "(I)Z"⟩ prog_1_method_27_code 1 (some FieldType.boolean)) ∈ xBig := xm 323 (by decide +kernel) (by decide +kernel)
theorem k_297 : (Cond.methodLink "BlockSearch" 90 ⟨"BlockSearch", "isNumber", "(I)Z"⟩) ∈ xBig := xm 324 (by decide +kernel) (by decide +kernel)
theorem k_298 : (Cond.static ⟨"BlockSearch", "isNumber", "(I)Z"⟩) ∈ xBig := xm 325 (by decide +kernel) (by decide +kernel)
theorem k_299 : (Cond.code ⟨"BlockSearch", "isNumber", "(I)Z"⟩ prog_1_method_28_code 1 (some FieldType.boolean)) ∈ xBig := xm 326 (by decide +kernel) (by decide +kernel)
theorem k_300 : (Cond.methodLink "BlockSearch" 97 ⟨"BlockSearch$Node", "putNumber", "(II)V"⟩) ∈ xBig := xm 327 (by decide +kernel) (by decide +kernel)
theorem k_301 : (Cond.instanceMethod ⟨"BlockSearch$Node", "putNumber", "(II)V"⟩) ∈ xBig := xm 328 (by decide +kernel) (by decide +kernel)
theorem k_302 : (Cond.selects "BlockSearch$Node" ⟨"BlockSearch$Node", "putNumber", "(II)V"⟩ ⟨"BlockSearch$Node", "putNumber", "(II)V"⟩) ∈ xBig := xm 329 (by decide +kernel) (by decide +kernel)
theorem k_303 : (Cond.code ⟨"BlockSearch$Node", "putNumber", "(II)V"⟩ prog_7_method_2_code 3 none) ∈ xBig := xm 330 (by decide +kernel) (by decide +kernel)
theorem k_304 : (Cond.methodLink "BlockSearchLaw" 23 ⟨"BlockSearch", "word", "(II)I"⟩) ∈ xBig := xm 331 (by decide +kernel) (by decide +kernel)
theorem k_305 : (Cond.instanceMethod ⟨"BlockSearch", "word", "(II)I"⟩) ∈ xBig := xm 332 (by decide +kernel) (by decide +kernel)
theorem k_306 : (Cond.selects "BlockSearch" ⟨"BlockSearch", "word", "(II)I"⟩ ⟨"BlockSearch", "word", "(II)I"⟩) ∈ xBig := xm 333 (by decide +kernel) (by decide +kernel)
theorem k_307 : (Cond.code ⟨"BlockSearch", "word", "(II)I"⟩ prog_1_method_4_code 4 (some FieldType.int)) ∈ xBig := xm 334 (by decide +kernel) (by decide +kernel)
theorem k_308 : (Cond.methodLink "BlockSearch" 103 ⟨"BlockSearch", "isWord", "(I)Z"⟩) ∈ xBig := xm 335 (by decide +kernel) (by decide +kernel)
theorem k_309 : (Cond.static ⟨"BlockSearch", "isWord", "(I)Z"⟩) ∈ xBig := xm 336 (by decide +kernel) (by decide +kernel)
theorem k_310 : (Cond.code ⟨"BlockSearch", "isWord", "(I)Z"⟩ prog_1_method_29_code 1 (some FieldType.boolean)) ∈ xBig := xm 337 (by decide +kernel) (by decide +kernel)
theorem k_311 : (Cond.methodLink "BlockSearch" 113 ⟨"BlockSearch$Node", "putWord", "(II)V"⟩) ∈ xBig := xm 338 (by decide +kernel) (by decide +kernel)
theorem k_312 : (Cond.instanceMethod ⟨"BlockSearch$Node", "putWord", "(II)V"⟩) ∈ xBig := xm 339 (by decide +kernel) (by decide +kernel)
theorem k_313 : (Cond.selects "BlockSearch$Node" ⟨"BlockSearch$Node", "putWord", "(II)V"⟩ ⟨"BlockSearch$Node", "putWord", "(II)V"⟩) ∈ xBig := xm 340 (by decide +kernel) (by decide +kernel)
theorem k_314 : (Cond.code ⟨"BlockSearch$Node", "putWord", "(II)V"⟩ prog_7_method_3_code 3 none) ∈ xBig := xm 341 (by decide +kernel) (by decide +kernel)
theorem k_315 : (Cond.methodLink "BlockSearchLaw" 28 ⟨"BlockSearch", "close", "()I"⟩) ∈ xBig := xm 342 (by decide +kernel) (by decide +kernel)
theorem k_316 : (Cond.instanceMethod ⟨"BlockSearch", "close", "()I"⟩) ∈ xBig := xm 343 (by decide +kernel) (by decide +kernel)
theorem k_317 : (Cond.selects "BlockSearch" ⟨"BlockSearch", "close", "()I"⟩ ⟨"BlockSearch", "close", "()I"⟩) ∈ xBig := xm 344 (by decide +kernel) (by decide +kernel)
theorem k_318 : (Cond.code ⟨"BlockSearch", "close", "()I"⟩ prog_1_method_5_code 1 (some FieldType.int)) ∈ xBig := xm 345 (by decide +kernel) (by decide +kernel)
theorem k_319 : (Cond.methodLink "BlockSearch" 116 ⟨"BlockSearch$Draft", "end", "()V"⟩) ∈ xBig := xm 346 (by decide +kernel) (by decide +kernel)
theorem k_320 : (Cond.instanceMethod ⟨"BlockSearch$Draft", "end", "()V"⟩) ∈ xBig := xm 347 (by decide +kernel) (by decide +kernel)
theorem k_321 : (Cond.selects "BlockSearch$Draft" ⟨"BlockSearch$Draft", "end", "()V"⟩ ⟨"BlockSearch$Draft", "end", "()V"⟩) ∈ xBig := xm 348 (by decide +kernel) (by decide +kernel)
theorem k_322 : (Cond.code ⟨"BlockSearch$Draft", "end", "()V"⟩ prog_4_method_5_code 1 none) ∈ xBig := xm 349 (by decide +kernel) (by decide +kernel)
theorem k_323 : (Cond.methodLink "BlockSearchLaw" 33 ⟨"BlockSearch", "wipe", "()I"⟩) ∈ xBig := xm 350 (by decide +kernel) (by decide +kernel)
theorem k_324 : (Cond.instanceMethod ⟨"BlockSearch", "wipe", "()I"⟩) ∈ xBig := xm 351 (by decide +kernel) (by decide +kernel)
theorem k_325 : (Cond.selects "BlockSearch" ⟨"BlockSearch", "wipe", "()I"⟩ ⟨"BlockSearch", "wipe", "()I"⟩) ∈ xBig := xm 352 (by decide +kernel) (by decide +kernel)
theorem k_326 : (Cond.code ⟨"BlockSearch", "wipe", "()I"⟩ prog_1_method_6_code 2 (some FieldType.int)) ∈ xBig := xm 353 (by decide +kernel) (by decide +kernel)
theorem k_327 : (Cond.methodLink "BlockSearch" 122 ⟨"BlockSearch$Draft", "drop", "()V"⟩) ∈ xBig := xm 354 (by decide +kernel) (by decide +kernel)
theorem k_328 : (Cond.instanceMethod ⟨"BlockSearch$Draft", "drop", "()V"⟩) ∈ xBig := xm 355 (by decide +kernel) (by decide +kernel)
theorem k_329 : (Cond.selects "BlockSearch$Draft" ⟨"BlockSearch$Draft", "drop", "()V"⟩ ⟨"BlockSearch$Draft", "drop", "()V"⟩) ∈ xBig := xm 356 (by decide +kernel) (by decide +kernel)
theorem k_330 : (Cond.code ⟨"BlockSearch$Draft", "drop", "()V"⟩ prog_4_method_6_code 1 none) ∈ xBig := xm 357 (by decide +kernel) (by decide +kernel)
theorem k_331 : (Cond.methodLink "BlockSearchLaw" 37 ⟨"BlockSearch", "add", "(I)I"⟩) ∈ xBig := xm 358 (by decide +kernel) (by decide +kernel)
theorem k_332 : (Cond.instanceMethod ⟨"BlockSearch", "add", "(I)I"⟩) ∈ xBig := xm 359 (by decide +kernel) (by decide +kernel)
theorem k_333 : (Cond.selects "BlockSearch" ⟨"BlockSearch", "add", "(I)I"⟩ ⟨"BlockSearch", "add", "(I)I"⟩) ∈ xBig := xm 360 (by decide +kernel) (by decide +kernel)
theorem k_334 : (Cond.code ⟨"BlockSearch", "add", "(I)I"⟩ prog_1_method_7_code 2 (some FieldType.int)) ∈ xBig := xm 361 (by decide +kernel) (by decide +kernel)
theorem k_335 : (Cond.methodLink "BlockSearch" 125 ⟨"BlockSearch", "isId", "(I)Z"⟩) ∈ xBig := xm 362 (by decide +kernel) (by decide +kernel)
theorem k_336 : (Cond.static ⟨"BlockSearch", "isId", "(I)Z"⟩) ∈ xBig := xm 363 (by decide +kernel) (by decide +kernel)
theorem k_337 : (Cond.code ⟨"BlockSearch", "isId", "(I)Z"⟩ prog_1_method_30_code 1 (some FieldType.boolean)) ∈ xBig := xm 364 (by decide +kernel) (by decide +kernel)
theorem k_338 : (Cond.methodLink "BlockSearch" 128 ⟨"BlockSearch$Draft", "isComplete", "()Z"⟩) ∈ xBig := xm 365 (by decide +kernel) (by decide +kernel)
theorem k_339 : (Cond.instanceMethod ⟨"BlockSearch$Draft", "isComplete", "()Z"⟩) ∈ xBig := xm 366 (by decide +kernel) (by decide +kernel)
theorem k_340 : (Cond.selects "BlockSearch$Draft" ⟨"BlockSearch$Draft", "isComplete", "()Z"⟩ ⟨"BlockSearch$Draft", "isComplete", "()Z"⟩) ∈ xBig := xm 367 (by decide +kernel) (by decide +kernel)
theorem k_341 : (Cond.code ⟨"BlockSearch$Draft", "isComplete", "()Z"⟩ prog_4_method_2_code 1 (some FieldType.boolean)) ∈ xBig := xm 368 (by decide +kernel) (by decide +kernel)
theorem k_342 : (Cond.methodLink "BlockSearch" 132 ⟨"BlockSearch$Mapping", "fits", "(LBlockSearch$Draft;)Z"⟩) ∈ xBig := xm 369 (by decide +kernel) (by decide +kernel)
theorem k_343 : (Cond.instanceMethod ⟨"BlockSearch$Mapping", "fits", "(LBlockSearch$Draft;)Z"⟩) ∈ xBig := xm 370 (by decide +kernel) (by decide +kernel)
theorem k_344 : (Cond.selects "BlockSearch$Mapping" ⟨"BlockSearch$Mapping", "fits", "(LBlockSearch$Draft;)Z"⟩ ⟨"BlockSearch$Mapping", "fits", "(LBlockSearch$Draft;)Z"⟩) ∈ xBig := xm 371 (by decide +kernel) (by decide +kernel)
theorem k_345 : (Cond.code ⟨"BlockSearch$Mapping", "fits", "(LBlockSearch$Draft;)Z"⟩ prog_6_method_2_code 3 (some FieldType.boolean)) ∈ xBig := xm 372 (by decide +kernel) (by decide +kernel)
theorem k_346 : (Cond.methodLink "BlockSearch$Mapping" 23 ⟨"java/lang/System", "arraycopy", "(Ljava/lang/Object;ILjava/lang/Object;II)V"⟩) ∈ xBig := xm 373 (by decide +kernel) (by decide +kernel)
theorem k_347 : (Cond.static ⟨"java/lang/System", "arraycopy", "(Ljava/lang/Object;ILjava/lang/Object;II)V"⟩) ∈ xBig := xm 374 (by decide +kernel) (by decide +kernel)
theorem k_348 : (Cond.native ⟨"java/lang/System", "arraycopy", "(Ljava/lang/Object;ILjava/lang/Object;II)V"⟩) ∈ xBig := xm 375 (by decide +kernel) (by decide +kernel)
theorem k_349 : (Cond.methodLink "BlockSearch$Mapping" 38 ⟨"BlockSearch$Mapping", "fitsTrial", "(LBlockSearch$Node;)Z"⟩) ∈ xBig := xm 376 (by decide +kernel) (by decide +kernel)
theorem k_351 : (Cond.instanceMethod ⟨"BlockSearch$Mapping", "fitsTrial", "(LBlockSearch$Node;)Z"⟩) ∈ xBig := xm 378 (by decide +kernel) (by decide +kernel)
theorem k_352 : (Cond.code ⟨"BlockSearch$Mapping", "fitsTrial", "(LBlockSearch$Node;)Z"⟩ prog_6_method_3_code 5 (some FieldType.boolean)) ∈ xBig := xm 379 (by decide +kernel) (by decide +kernel)
theorem k_353 : (Cond.methodLink "BlockSearch" 139 ⟨"BlockSearch", "deleteLive", "(I)Z"⟩) ∈ xBig := xm 380 (by decide +kernel) (by decide +kernel)
theorem k_355 : (Cond.instanceMethod ⟨"BlockSearch", "deleteLive", "(I)Z"⟩) ∈ xBig := xm 382 (by decide +kernel) (by decide +kernel)
theorem k_356 : (Cond.code ⟨"BlockSearch", "deleteLive", "(I)Z"⟩ prog_1_method_23_code 4 (some FieldType.boolean)) ∈ xBig := xm 383 (by decide +kernel) (by decide +kernel)
theorem k_357 : (Cond.methodLink "BlockSearch" 256 ⟨"BlockSearch$DocumentRow", "liveWith", "(I)LBlockSearch$Document;"⟩) ∈ xBig := xm 384 (by decide +kernel) (by decide +kernel)
theorem k_358 : (Cond.instanceMethod ⟨"BlockSearch$DocumentRow", "liveWith", "(I)LBlockSearch$Document;"⟩) ∈ xBig := xm 385 (by decide +kernel) (by decide +kernel)
theorem k_359 : (Cond.selects "BlockSearch$DocumentRow" ⟨"BlockSearch$DocumentRow", "liveWith", "(I)LBlockSearch$Document;"⟩ ⟨"BlockSearch$DocumentRow", "liveWith", "(I)LBlockSearch$Document;"⟩) ∈ xBig := xm 386 (by decide +kernel) (by decide +kernel)
theorem k_360 : (Cond.code ⟨"BlockSearch$DocumentRow", "liveWith", "(I)LBlockSearch$Document;"⟩ prog_3_method_7_code 3 (some (FieldType.object "BlockSearch$Document"))) ∈ xBig := xm 387 (by decide +kernel) (by decide +kernel)
theorem k_361 : (Cond.methodLink "BlockSearch" 142 ⟨"BlockSearch$Mapping", "learn", "(LBlockSearch$Draft;)V"⟩) ∈ xBig := xm 388 (by decide +kernel) (by decide +kernel)
theorem k_362 : (Cond.instanceMethod ⟨"BlockSearch$Mapping", "learn", "(LBlockSearch$Draft;)V"⟩) ∈ xBig := xm 389 (by decide +kernel) (by decide +kernel)
theorem k_363 : (Cond.selects "BlockSearch$Mapping" ⟨"BlockSearch$Mapping", "learn", "(LBlockSearch$Draft;)V"⟩ ⟨"BlockSearch$Mapping", "learn", "(LBlockSearch$Draft;)V"⟩) ∈ xBig := xm 390 (by decide +kernel) (by decide +kernel)
theorem k_364 : (Cond.code ⟨"BlockSearch$Mapping", "learn", "(LBlockSearch$Draft;)V"⟩ prog_6_method_4_code 3 none) ∈ xBig := xm 391 (by decide +kernel) (by decide +kernel)
theorem k_365 : (Cond.methodLink "BlockSearch$Mapping" 50 ⟨"BlockSearch$Mapping", "learnFrom", "(LBlockSearch$Node;)V"⟩) ∈ xBig := xm 392 (by decide +kernel) (by decide +kernel)
theorem k_367 : (Cond.instanceMethod ⟨"BlockSearch$Mapping", "learnFrom", "(LBlockSearch$Node;)V"⟩) ∈ xBig := xm 394 (by decide +kernel) (by decide +kernel)
theorem k_368 : (Cond.code ⟨"BlockSearch$Mapping", "learnFrom", "(LBlockSearch$Node;)V"⟩ prog_6_method_5_code 4 none) ∈ xBig := xm 395 (by decide +kernel) (by decide +kernel)
theorem k_369 : (Cond.classLink "BlockSearch" 146 "BlockSearch$Document") ∈ xBig := xm 396 (by decide +kernel) (by decide +kernel)
theorem k_370 : (Cond.instantiable "BlockSearch$Document" 3) ∈ xBig := xm 397 (by decide +kernel) (by decide +kernel)
theorem k_371 : (Cond.methodLink "BlockSearch" 148 ⟨"BlockSearch$Document", "<init>", "(ILBlockSearch$Draft;)V"⟩) ∈ xBig := xm 398 (by decide +kernel) (by decide +kernel)
theorem k_372 : (Cond.instanceMethod ⟨"BlockSearch$Document", "<init>", "(ILBlockSearch$Draft;)V"⟩) ∈ xBig := xm 399 (by decide +kernel) (by decide +kernel)
theorem k_373 : (Cond.code ⟨"BlockSearch$Document", "<init>", "(ILBlockSearch$Draft;)V"⟩ prog_2_method_1_code 4 none) ∈ xBig := xm 400 (by decide +kernel) (by decide +kernel)
theorem k_374 : (Cond.methodLink "BlockSearch$Document" 3 ⟨"java/lang/Object", "<init>", "()V"⟩) ∈ xBig := xm 401 (by decide +kernel) (by decide +kernel)
theorem k_375 : (Cond.classLink "BlockSearch$Document" 24 "BlockSearch$Node") ∈ xBig := xm 402 (by decide +kernel) (by decide +kernel)
theorem k_376 : (Cond.fieldLink "BlockSearch$Document" 15 "BlockSearch$Document" "id" "I") ∈ xBig := xm 403 (by decide +kernel) (by decide +kernel)
theorem k_377 : (Cond.fieldLink "BlockSearch$Hits" 26 "BlockSearch$Document" "id" "I") ∈ xBig := xm 404 (by decide +kernel) (by decide +kernel)
theorem k_378 : (Cond.fieldLink "BlockSearch$Snapshot" 46 "BlockSearch$Document" "id" "I") ∈ xBig := xm 405 (by decide +kernel) (by decide +kernel)
theorem k_379 : (Cond.fieldLink "BlockSearch$DocumentRow" 40 "BlockSearch$Document" "id" "I") ∈ xBig := xm 406 (by decide +kernel) (by decide +kernel)
theorem k_380 : (Cond.fieldLink "BlockSearch$Document" 26 "BlockSearch$Document" "nodes" "[LBlockSearch$Node;") ∈ xBig := xm 407 (by decide +kernel) (by decide +kernel)
theorem k_381 : (Cond.fieldLink "BlockSearch$DocumentRow" 24 "BlockSearch$Document" "nodes" "[LBlockSearch$Node;") ∈ xBig := xm 408 (by decide +kernel) (by decide +kernel)
theorem k_382 : (Cond.fieldLink "BlockSearch$Scorer" 47 "BlockSearch$Document" "nodes" "[LBlockSearch$Node;") ∈ xBig := xm 409 (by decide +kernel) (by decide +kernel)
theorem k_383 : (Cond.fieldLink "BlockSearch$Snapshot" 40 "BlockSearch$Document" "nodes" "[LBlockSearch$Node;") ∈ xBig := xm 410 (by decide +kernel) (by decide +kernel)
theorem k_384 : (Cond.fieldLink "BlockSearch$Hits" 38 "BlockSearch$Document" "nodes" "[LBlockSearch$Node;") ∈ xBig := xm 411 (by decide +kernel) (by decide +kernel)
theorem k_385 : (Cond.fieldLink "BlockSearch$Document" 9 "BlockSearch$Document" "live" "Z") ∈ xBig := xm 412 (by decide +kernel) (by decide +kernel)
theorem k_386 : (Cond.fieldLink "BlockSearch$DocumentRow" 28 "BlockSearch$Document" "live" "Z") ∈ xBig := xm 413 (by decide +kernel) (by decide +kernel)
theorem k_387 : (Cond.fieldLink "BlockSearch$Snapshot" 44 "BlockSearch$Document" "live" "Z") ∈ xBig := xm 414 (by decide +kernel) (by decide +kernel)
theorem k_388 : (Cond.fieldLink "BlockSearch" 257 "BlockSearch$Document" "live" "Z") ∈ xBig := xm 415 (by decide +kernel) (by decide +kernel)
theorem k_396 : (Cond.methodLink "BlockSearch" 151 ⟨"BlockSearch$DocumentRow", "append", "(LBlockSearch$Document;)V"⟩) ∈ xBig := xm 423 (by decide +kernel) (by decide +kernel)
theorem k_397 : (Cond.instanceMethod ⟨"BlockSearch$DocumentRow", "append", "(LBlockSearch$Document;)V"⟩) ∈ xBig := xm 424 (by decide +kernel) (by decide +kernel)
theorem k_398 : (Cond.selects "BlockSearch$DocumentRow" ⟨"BlockSearch$DocumentRow", "append", "(LBlockSearch$Document;)V"⟩ ⟨"BlockSearch$DocumentRow", "append", "(LBlockSearch$Document;)V"⟩) ∈ xBig := xm 425 (by decide +kernel) (by decide +kernel)
theorem k_399 : (Cond.code ⟨"BlockSearch$DocumentRow", "append", "(LBlockSearch$Document;)V"⟩ prog_3_method_2_code 2 none) ∈ xBig := xm 426 (by decide +kernel) (by decide +kernel)
theorem k_400 : (Cond.methodLink "BlockSearchLaw" 41 ⟨"BlockSearch", "remove", "(I)Z"⟩) ∈ xBig := xm 427 (by decide +kernel) (by decide +kernel)
theorem k_401 : (Cond.instanceMethod ⟨"BlockSearch", "remove", "(I)Z"⟩) ∈ xBig := xm 428 (by decide +kernel) (by decide +kernel)
theorem k_402 : (Cond.selects "BlockSearch" ⟨"BlockSearch", "remove", "(I)Z"⟩ ⟨"BlockSearch", "remove", "(I)Z"⟩) ∈ xBig := xm 429 (by decide +kernel) (by decide +kernel)
theorem k_403 : (Cond.code ⟨"BlockSearch", "remove", "(I)Z"⟩ prog_1_method_8_code 2 (some FieldType.boolean)) ∈ xBig := xm 430 (by decide +kernel) (by decide +kernel)
theorem k_404 : (Cond.methodLink "BlockSearchLaw" 46 ⟨"BlockSearch", "flush", "()I"⟩) ∈ xBig := xm 431 (by decide +kernel) (by decide +kernel)
theorem k_405 : (Cond.instanceMethod ⟨"BlockSearch", "flush", "()I"⟩) ∈ xBig := xm 432 (by decide +kernel) (by decide +kernel)
theorem k_406 : (Cond.selects "BlockSearch" ⟨"BlockSearch", "flush", "()I"⟩ ⟨"BlockSearch", "flush", "()I"⟩) ∈ xBig := xm 433 (by decide +kernel) (by decide +kernel)
theorem k_407 : (Cond.code ⟨"BlockSearch", "flush", "()I"⟩ prog_1_method_9_code 4 (some FieldType.int)) ∈ xBig := xm 434 (by decide +kernel) (by decide +kernel)
theorem k_408 : (Cond.methodLink "BlockSearch" 155 ⟨"BlockSearch$DocumentRow", "liveCount", "()I"⟩) ∈ xBig := xm 435 (by decide +kernel) (by decide +kernel)
theorem k_409 : (Cond.instanceMethod ⟨"BlockSearch$DocumentRow", "liveCount", "()I"⟩) ∈ xBig := xm 436 (by decide +kernel) (by decide +kernel)
theorem k_410 : (Cond.selects "BlockSearch$DocumentRow" ⟨"BlockSearch$DocumentRow", "liveCount", "()I"⟩ ⟨"BlockSearch$DocumentRow", "liveCount", "()I"⟩) ∈ xBig := xm 437 (by decide +kernel) (by decide +kernel)
theorem k_411 : (Cond.code ⟨"BlockSearch$DocumentRow", "liveCount", "()I"⟩ prog_3_method_5_code 3 (some FieldType.int)) ∈ xBig := xm 438 (by decide +kernel) (by decide +kernel)
theorem k_412 : (Cond.methodLink "BlockSearch" 159 ⟨"BlockSearch$DocumentRow", "appendLive", "(LBlockSearch$DocumentRow;)V"⟩) ∈ xBig := xm 439 (by decide +kernel) (by decide +kernel)
theorem k_413 : (Cond.instanceMethod ⟨"BlockSearch$DocumentRow", "appendLive", "(LBlockSearch$DocumentRow;)V"⟩) ∈ xBig := xm 440 (by decide +kernel) (by decide +kernel)
theorem k_414 : (Cond.selects "BlockSearch$DocumentRow" ⟨"BlockSearch$DocumentRow", "appendLive", "(LBlockSearch$DocumentRow;)V"⟩ ⟨"BlockSearch$DocumentRow", "appendLive", "(LBlockSearch$DocumentRow;)V"⟩) ∈ xBig := xm 441 (by decide +kernel) (by decide +kernel)
theorem k_415 : (Cond.code ⟨"BlockSearch$DocumentRow", "appendLive", "(LBlockSearch$DocumentRow;)V"⟩ prog_3_method_3_code 3 none) ∈ xBig := xm 442 (by decide +kernel) (by decide +kernel)
theorem k_416 : (Cond.methodLink "BlockSearch$DocumentRow" 32 ⟨"BlockSearch$DocumentRow", "append", "(LBlockSearch$Document;)V"⟩) ∈ xBig := xm 443 (by decide +kernel) (by decide +kernel)
theorem k_417 : (Cond.methodLink "BlockSearch" 163 ⟨"BlockSearch$DocumentRow", "drop", "()V"⟩) ∈ xBig := xm 444 (by decide +kernel) (by decide +kernel)
theorem k_418 : (Cond.instanceMethod ⟨"BlockSearch$DocumentRow", "drop", "()V"⟩) ∈ xBig := xm 445 (by decide +kernel) (by decide +kernel)
theorem k_419 : (Cond.selects "BlockSearch$DocumentRow" ⟨"BlockSearch$DocumentRow", "drop", "()V"⟩ ⟨"BlockSearch$DocumentRow", "drop", "()V"⟩) ∈ xBig := xm 446 (by decide +kernel) (by decide +kernel)
theorem k_420 : (Cond.code ⟨"BlockSearch$DocumentRow", "drop", "()V"⟩ prog_3_method_4_code 1 none) ∈ xBig := xm 447 (by decide +kernel) (by decide +kernel)
theorem k_421 : (Cond.methodLink "BlockSearchLaw" 50 ⟨"BlockSearch", "merge", "(II)I"⟩) ∈ xBig := xm 448 (by decide +kernel) (by decide +kernel)
theorem k_422 : (Cond.instanceMethod ⟨"BlockSearch", "merge", "(II)I"⟩) ∈ xBig := xm 449 (by decide +kernel) (by decide +kernel)
theorem k_423 : (Cond.selects "BlockSearch" ⟨"BlockSearch", "merge", "(II)I"⟩ ⟨"BlockSearch", "merge", "(II)I"⟩) ∈ xBig := xm 450 (by decide +kernel) (by decide +kernel)
theorem k_424 : (Cond.code ⟨"BlockSearch", "merge", "(II)I"⟩ prog_1_method_10_code 6 (some FieldType.int)) ∈ xBig := xm 451 (by decide +kernel) (by decide +kernel)
theorem k_425 : (Cond.methodLink "BlockSearch" 164 ⟨"BlockSearch$DocumentRow", "deletedCount", "()I"⟩) ∈ xBig := xm 452 (by decide +kernel) (by decide +kernel)
theorem k_426 : (Cond.instanceMethod ⟨"BlockSearch$DocumentRow", "deletedCount", "()I"⟩) ∈ xBig := xm 453 (by decide +kernel) (by decide +kernel)
theorem k_427 : (Cond.selects "BlockSearch$DocumentRow" ⟨"BlockSearch$DocumentRow", "deletedCount", "()I"⟩ ⟨"BlockSearch$DocumentRow", "deletedCount", "()I"⟩) ∈ xBig := xm 454 (by decide +kernel) (by decide +kernel)
theorem k_428 : (Cond.code ⟨"BlockSearch$DocumentRow", "deletedCount", "()I"⟩ prog_3_method_6_code 1 (some FieldType.int)) ∈ xBig := xm 455 (by decide +kernel) (by decide +kernel)
theorem k_429 : (Cond.methodLink "BlockSearch$DocumentRow" 36 ⟨"BlockSearch$DocumentRow", "liveCount", "()I"⟩) ∈ xBig := xm 456 (by decide +kernel) (by decide +kernel)
theorem k_430 : (Cond.methodLink "BlockSearch" 167 ⟨"BlockSearch", "mergedRow", "(III)LBlockSearch$DocumentRow;"⟩) ∈ xBig := xm 457 (by decide +kernel) (by decide +kernel)
theorem k_432 : (Cond.instanceMethod ⟨"BlockSearch", "mergedRow", "(III)LBlockSearch$DocumentRow;"⟩) ∈ xBig := xm 459 (by decide +kernel) (by decide +kernel)
theorem k_433 : (Cond.code ⟨"BlockSearch", "mergedRow", "(III)LBlockSearch$DocumentRow;"⟩ prog_1_method_24_code 6 (some (FieldType.object "BlockSearch$DocumentRow"))) ∈ xBig := xm 460 (by decide +kernel) (by decide +kernel)
theorem k_434 : (Cond.methodLink "BlockSearch" 171 ⟨"BlockSearch", "moveDown", "(II)V"⟩) ∈ xBig := xm 461 (by decide +kernel) (by decide +kernel)
theorem k_436 : (Cond.instanceMethod ⟨"BlockSearch", "moveDown", "(II)V"⟩) ∈ xBig := xm 463 (by decide +kernel) (by decide +kernel)
theorem k_437 : (Cond.code ⟨"BlockSearch", "moveDown", "(II)V"⟩ prog_1_method_25_code 4 none) ∈ xBig := xm 464 (by decide +kernel) (by decide +kernel)
theorem k_438 : (Cond.methodLink "BlockSearchLaw" 54 ⟨"BlockSearch", "refresh", "()I"⟩) ∈ xBig := xm 465 (by decide +kernel) (by decide +kernel)
theorem k_439 : (Cond.instanceMethod ⟨"BlockSearch", "refresh", "()I"⟩) ∈ xBig := xm 466 (by decide +kernel) (by decide +kernel)
theorem k_440 : (Cond.selects "BlockSearch" ⟨"BlockSearch", "refresh", "()I"⟩ ⟨"BlockSearch", "refresh", "()I"⟩) ∈ xBig := xm 467 (by decide +kernel) (by decide +kernel)
theorem k_441 : (Cond.code ⟨"BlockSearch", "refresh", "()I"⟩ prog_1_method_11_code 2 (some FieldType.int)) ∈ xBig := xm 468 (by decide +kernel) (by decide +kernel)
theorem k_442 : (Cond.methodLink "BlockSearch" 174 ⟨"BlockSearch$Snapshot", "begin", "()V"⟩) ∈ xBig := xm 469 (by decide +kernel) (by decide +kernel)
theorem k_443 : (Cond.instanceMethod ⟨"BlockSearch$Snapshot", "begin", "()V"⟩) ∈ xBig := xm 470 (by decide +kernel) (by decide +kernel)
theorem k_444 : (Cond.selects "BlockSearch$Snapshot" ⟨"BlockSearch$Snapshot", "begin", "()V"⟩ ⟨"BlockSearch$Snapshot", "begin", "()V"⟩) ∈ xBig := xm 471 (by decide +kernel) (by decide +kernel)
theorem k_445 : (Cond.code ⟨"BlockSearch$Snapshot", "begin", "()V"⟩ prog_10_method_2_code 1 none) ∈ xBig := xm 472 (by decide +kernel) (by decide +kernel)
theorem k_446 : (Cond.methodLink "BlockSearch" 176 ⟨"BlockSearch$Snapshot", "takeIn", "(ILBlockSearch$DocumentRow;)V"⟩) ∈ xBig := xm 473 (by decide +kernel) (by decide +kernel)
theorem k_447 : (Cond.instanceMethod ⟨"BlockSearch$Snapshot", "takeIn", "(ILBlockSearch$DocumentRow;)V"⟩) ∈ xBig := xm 474 (by decide +kernel) (by decide +kernel)
theorem k_448 : (Cond.selects "BlockSearch$Snapshot" ⟨"BlockSearch$Snapshot", "takeIn", "(ILBlockSearch$DocumentRow;)V"⟩ ⟨"BlockSearch$Snapshot", "takeIn", "(ILBlockSearch$DocumentRow;)V"⟩) ∈ xBig := xm 475 (by decide +kernel) (by decide +kernel)
theorem k_449 : (Cond.code ⟨"BlockSearch$Snapshot", "takeIn", "(ILBlockSearch$DocumentRow;)V"⟩ prog_10_method_3_code 6 none) ∈ xBig := xm 476 (by decide +kernel) (by decide +kernel)
theorem k_450 : (Cond.methodLink "BlockSearch" 180 ⟨"BlockSearch$Snapshot", "liveCount", "()I"⟩) ∈ xBig := xm 477 (by decide +kernel) (by decide +kernel)
theorem k_451 : (Cond.instanceMethod ⟨"BlockSearch$Snapshot", "liveCount", "()I"⟩) ∈ xBig := xm 478 (by decide +kernel) (by decide +kernel)
theorem k_452 : (Cond.selects "BlockSearch$Snapshot" ⟨"BlockSearch$Snapshot", "liveCount", "()I"⟩ ⟨"BlockSearch$Snapshot", "liveCount", "()I"⟩) ∈ xBig := xm 479 (by decide +kernel) (by decide +kernel)
theorem k_453 : (Cond.code ⟨"BlockSearch$Snapshot", "liveCount", "()I"⟩ prog_10_method_4_code 3 (some FieldType.int)) ∈ xBig := xm 480 (by decide +kernel) (by decide +kernel)
theorem k_454 : (Cond.methodLink "BlockSearchLaw" 58 ⟨"BlockSearch", "token", "(III)I"⟩) ∈ xBig := xm 481 (by decide +kernel) (by decide +kernel)
theorem k_455 : (Cond.instanceMethod ⟨"BlockSearch", "token", "(III)I"⟩) ∈ xBig := xm 482 (by decide +kernel) (by decide +kernel)
theorem k_456 : (Cond.selects "BlockSearch" ⟨"BlockSearch", "token", "(III)I"⟩ ⟨"BlockSearch", "token", "(III)I"⟩) ∈ xBig := xm 483 (by decide +kernel) (by decide +kernel)
theorem k_457 : (Cond.code ⟨"BlockSearch", "token", "(III)I"⟩ prog_1_method_12_code 4 (some FieldType.int)) ∈ xBig := xm 484 (by decide +kernel) (by decide +kernel)
theorem k_458 : (Cond.methodLink "BlockSearch" 181 ⟨"BlockSearch", "isToken", "(III)Z"⟩) ∈ xBig := xm 485 (by decide +kernel) (by decide +kernel)
theorem k_459 : (Cond.static ⟨"BlockSearch", "isToken", "(III)Z"⟩) ∈ xBig := xm 486 (by decide +kernel) (by decide +kernel)
theorem k_460 : (Cond.code ⟨"BlockSearch", "isToken", "(III)Z"⟩ prog_1_method_31_code 3 (some FieldType.boolean)) ∈ xBig := xm 487 (by decide +kernel) (by decide +kernel)
theorem k_461 : (Cond.methodLink "BlockSearch" 185 ⟨"BlockSearch$Query", "isComplete", "()Z"⟩) ∈ xBig := xm 488 (by decide +kernel) (by decide +kernel)
theorem k_462 : (Cond.instanceMethod ⟨"BlockSearch$Query", "isComplete", "()Z"⟩) ∈ xBig := xm 489 (by decide +kernel) (by decide +kernel)
theorem k_463 : (Cond.selects "BlockSearch$Query" ⟨"BlockSearch$Query", "isComplete", "()Z"⟩ ⟨"BlockSearch$Query", "isComplete", "()Z"⟩) ∈ xBig := xm 490 (by decide +kernel) (by decide +kernel)
theorem k_464 : (Cond.code ⟨"BlockSearch$Query", "isComplete", "()Z"⟩ prog_8_method_2_code 1 (some FieldType.boolean)) ∈ xBig := xm 491 (by decide +kernel) (by decide +kernel)
theorem k_465 : (Cond.fieldLink "BlockSearch" 186 "BlockSearch" "PARENT" "[I") ∈ xBig := xm 492 (by decide +kernel) (by decide +kernel)
theorem k_466 : (Cond.methodLink "BlockSearch" 189 ⟨"BlockSearch$Query", "nextPath", "()I"⟩) ∈ xBig := xm 493 (by decide +kernel) (by decide +kernel)
theorem k_467 : (Cond.instanceMethod ⟨"BlockSearch$Query", "nextPath", "()I"⟩) ∈ xBig := xm 494 (by decide +kernel) (by decide +kernel)
theorem k_468 : (Cond.selects "BlockSearch$Query" ⟨"BlockSearch$Query", "nextPath", "()I"⟩ ⟨"BlockSearch$Query", "nextPath", "()I"⟩) ∈ xBig := xm 495 (by decide +kernel) (by decide +kernel)
theorem k_469 : (Cond.code ⟨"BlockSearch$Query", "nextPath", "()I"⟩ prog_8_method_3_code 1 (some FieldType.int)) ∈ xBig := xm 496 (by decide +kernel) (by decide +kernel)
theorem k_470 : (Cond.methodLink "BlockSearch" 195 ⟨"BlockSearch$Query", "append", "(III)V"⟩) ∈ xBig := xm 497 (by decide +kernel) (by decide +kernel)
theorem k_471 : (Cond.instanceMethod ⟨"BlockSearch$Query", "append", "(III)V"⟩) ∈ xBig := xm 498 (by decide +kernel) (by decide +kernel)
theorem k_472 : (Cond.selects "BlockSearch$Query" ⟨"BlockSearch$Query", "append", "(III)V"⟩ ⟨"BlockSearch$Query", "append", "(III)V"⟩) ∈ xBig := xm 499 (by decide +kernel) (by decide +kernel)
theorem k_473 : (Cond.code ⟨"BlockSearch$Query", "append", "(III)V"⟩ prog_8_method_4_code 7 none) ∈ xBig := xm 500 (by decide +kernel) (by decide +kernel)
theorem k_474 : (Cond.methodLink "BlockSearch$Query" 34 ⟨"BlockSearch$Query", "nextPath", "()I"⟩) ∈ xBig := xm 501 (by decide +kernel) (by decide +kernel)
theorem k_475 : (Cond.methodLink "BlockSearch$Query" 38 ⟨"BlockSearch$Query", "partsOf", "(I)I"⟩) ∈ xBig := xm 502 (by decide +kernel) (by decide +kernel)
theorem k_476 : (Cond.static ⟨"BlockSearch$Query", "partsOf", "(I)I"⟩) ∈ xBig := xm 503 (by decide +kernel) (by decide +kernel)
theorem k_477 : (Cond.code ⟨"BlockSearch$Query", "partsOf", "(I)I"⟩ prog_8_method_7_code 1 (some FieldType.int)) ∈ xBig := xm 504 (by decide +kernel) (by decide +kernel)
theorem k_478 : (Cond.methodLink "BlockSearchLaw" 63 ⟨"BlockSearch", "clear", "()I"⟩) ∈ xBig := xm 505 (by decide +kernel) (by decide +kernel)
theorem k_479 : (Cond.instanceMethod ⟨"BlockSearch", "clear", "()I"⟩) ∈ xBig := xm 506 (by decide +kernel) (by decide +kernel)
theorem k_480 : (Cond.selects "BlockSearch" ⟨"BlockSearch", "clear", "()I"⟩ ⟨"BlockSearch", "clear", "()I"⟩) ∈ xBig := xm 507 (by decide +kernel) (by decide +kernel)
theorem k_481 : (Cond.code ⟨"BlockSearch", "clear", "()I"⟩ prog_1_method_13_code 2 (some FieldType.int)) ∈ xBig := xm 508 (by decide +kernel) (by decide +kernel)
theorem k_482 : (Cond.methodLink "BlockSearch" 201 ⟨"BlockSearch$Query", "drop", "()V"⟩) ∈ xBig := xm 509 (by decide +kernel) (by decide +kernel)
theorem k_483 : (Cond.instanceMethod ⟨"BlockSearch$Query", "drop", "()V"⟩) ∈ xBig := xm 510 (by decide +kernel) (by decide +kernel)
theorem k_484 : (Cond.selects "BlockSearch$Query" ⟨"BlockSearch$Query", "drop", "()V"⟩ ⟨"BlockSearch$Query", "drop", "()V"⟩) ∈ xBig := xm 511 (by decide +kernel) (by decide +kernel)
theorem k_485 : (Cond.code ⟨"BlockSearch$Query", "drop", "()V"⟩ prog_8_method_5_code 1 none) ∈ xBig := xm 512 (by decide +kernel) (by decide +kernel)
theorem k_486 : (Cond.methodLink "BlockSearchLaw" 67 ⟨"BlockSearch", "search", "()I"⟩) ∈ xBig := xm 513 (by decide +kernel) (by decide +kernel)
theorem k_487 : (Cond.instanceMethod ⟨"BlockSearch", "search", "()I"⟩) ∈ xBig := xm 514 (by decide +kernel) (by decide +kernel)
theorem k_488 : (Cond.selects "BlockSearch" ⟨"BlockSearch", "search", "()I"⟩ ⟨"BlockSearch", "search", "()I"⟩) ∈ xBig := xm 515 (by decide +kernel) (by decide +kernel)
theorem k_489 : (Cond.code ⟨"BlockSearch", "search", "()I"⟩ prog_1_method_14_code 3 (some FieldType.int)) ∈ xBig := xm 516 (by decide +kernel) (by decide +kernel)
theorem k_490 : (Cond.methodLink "BlockSearch" 206 ⟨"BlockSearch$Scorer", "prepare", "(LBlockSearch$Query;LBlockSearch$Snapshot;)V"⟩) ∈ xBig := xm 517 (by decide +kernel) (by decide +kernel)
theorem k_491 : (Cond.instanceMethod ⟨"BlockSearch$Scorer", "prepare", "(LBlockSearch$Query;LBlockSearch$Snapshot;)V"⟩) ∈ xBig := xm 518 (by decide +kernel) (by decide +kernel)
theorem k_492 : (Cond.selects "BlockSearch$Scorer" ⟨"BlockSearch$Scorer", "prepare", "(LBlockSearch$Query;LBlockSearch$Snapshot;)V"⟩ ⟨"BlockSearch$Scorer", "prepare", "(LBlockSearch$Query;LBlockSearch$Snapshot;)V"⟩) ∈ xBig := xm 519 (by decide +kernel) (by decide +kernel)
theorem k_493 : (Cond.code ⟨"BlockSearch$Scorer", "prepare", "(LBlockSearch$Query;LBlockSearch$Snapshot;)V"⟩ prog_9_method_2_code 5 none) ∈ xBig := xm 520 (by decide +kernel) (by decide +kernel)
theorem k_494 : (Cond.methodLink "BlockSearch$Scorer" 32 ⟨"BlockSearch$Scorer", "weightOf", "(LBlockSearch$Query;ILBlockSearch$Snapshot;)I"⟩) ∈ xBig := xm 521 (by decide +kernel) (by decide +kernel)
theorem k_495 : (Cond.static ⟨"BlockSearch$Scorer", "weightOf", "(LBlockSearch$Query;ILBlockSearch$Snapshot;)I"⟩) ∈ xBig := xm 522 (by decide +kernel) (by decide +kernel)
theorem k_496 : (Cond.code ⟨"BlockSearch$Scorer", "weightOf", "(LBlockSearch$Query;ILBlockSearch$Snapshot;)I"⟩ prog_9_method_3_code 10 (some FieldType.int)) ∈ xBig := xm 523 (by decide +kernel) (by decide +kernel)
theorem k_497 : (Cond.methodLink "BlockSearch$Scorer" 67 ⟨"BlockSearch$Node", "timesOf", "(II)I"⟩) ∈ xBig := xm 524 (by decide +kernel) (by decide +kernel)
theorem k_498 : (Cond.instanceMethod ⟨"BlockSearch$Node", "timesOf", "(II)I"⟩) ∈ xBig := xm 525 (by decide +kernel) (by decide +kernel)
theorem k_499 : (Cond.selects "BlockSearch$Node" ⟨"BlockSearch$Node", "timesOf", "(II)I"⟩ ⟨"BlockSearch$Node", "timesOf", "(II)I"⟩) ∈ xBig := xm 526 (by decide +kernel) (by decide +kernel)
theorem k_500 : (Cond.code ⟨"BlockSearch$Node", "timesOf", "(II)I"⟩ prog_7_method_4_code 5 (some FieldType.int)) ∈ xBig := xm 527 (by decide +kernel) (by decide +kernel)
theorem k_501 : (Cond.methodLink "BlockSearch$Scorer" 36 ⟨"BlockSearch$Query", "behind", "(I)I"⟩) ∈ xBig := xm 528 (by decide +kernel) (by decide +kernel)
theorem k_502 : (Cond.instanceMethod ⟨"BlockSearch$Query", "behind", "(I)I"⟩) ∈ xBig := xm 529 (by decide +kernel) (by decide +kernel)
theorem k_503 : (Cond.selects "BlockSearch$Query" ⟨"BlockSearch$Query", "behind", "(I)I"⟩ ⟨"BlockSearch$Query", "behind", "(I)I"⟩) ∈ xBig := xm 530 (by decide +kernel) (by decide +kernel)
theorem k_504 : (Cond.code ⟨"BlockSearch$Query", "behind", "(I)I"⟩ prog_8_method_6_code 4 (some FieldType.int)) ∈ xBig := xm 531 (by decide +kernel) (by decide +kernel)
theorem k_505 : (Cond.methodLink "BlockSearch" 210 ⟨"BlockSearch$Hits", "drop", "()V"⟩) ∈ xBig := xm 532 (by decide +kernel) (by decide +kernel)
theorem k_506 : (Cond.instanceMethod ⟨"BlockSearch$Hits", "drop", "()V"⟩) ∈ xBig := xm 533 (by decide +kernel) (by decide +kernel)
theorem k_507 : (Cond.selects "BlockSearch$Hits" ⟨"BlockSearch$Hits", "drop", "()V"⟩ ⟨"BlockSearch$Hits", "drop", "()V"⟩) ∈ xBig := xm 534 (by decide +kernel) (by decide +kernel)
theorem k_508 : (Cond.code ⟨"BlockSearch$Hits", "drop", "()V"⟩ prog_5_method_2_code 1 none) ∈ xBig := xm 535 (by decide +kernel) (by decide +kernel)
theorem k_509 : (Cond.methodLink "BlockSearch" 220 ⟨"BlockSearch$Scorer", "pointsOf", "(LBlockSearch$Query;LBlockSearch$Document;)I"⟩) ∈ xBig := xm 536 (by decide +kernel) (by decide +kernel)
theorem k_510 : (Cond.instanceMethod ⟨"BlockSearch$Scorer", "pointsOf", "(LBlockSearch$Query;LBlockSearch$Document;)I"⟩) ∈ xBig := xm 537 (by decide +kernel) (by decide +kernel)
theorem k_511 : (Cond.selects "BlockSearch$Scorer" ⟨"BlockSearch$Scorer", "pointsOf", "(LBlockSearch$Query;LBlockSearch$Document;)I"⟩ ⟨"BlockSearch$Scorer", "pointsOf", "(LBlockSearch$Query;LBlockSearch$Document;)I"⟩) ∈ xBig := xm 538 (by decide +kernel) (by decide +kernel)
theorem k_512 : (Cond.code ⟨"BlockSearch$Scorer", "pointsOf", "(LBlockSearch$Query;LBlockSearch$Document;)I"⟩ prog_9_method_4_code 6 (some FieldType.int)) ∈ xBig := xm 539 (by decide +kernel) (by decide +kernel)
theorem k_513 : (Cond.methodLink "BlockSearch$Scorer" 71 ⟨"BlockSearch$Scorer", "pointsAt", "(LBlockSearch$Query;I[LBlockSearch$Node;I)I"⟩) ∈ xBig := xm 540 (by decide +kernel) (by decide +kernel)
theorem k_515 : (Cond.instanceMethod ⟨"BlockSearch$Scorer", "pointsAt", "(LBlockSearch$Query;I[LBlockSearch$Node;I)I"⟩) ∈ xBig := xm 542 (by decide +kernel) (by decide +kernel)
theorem k_516 : (Cond.code ⟨"BlockSearch$Scorer", "pointsAt", "(LBlockSearch$Query;I[LBlockSearch$Node;I)I"⟩ prog_9_method_5_code 7 (some FieldType.int)) ∈ xBig := xm 543 (by decide +kernel) (by decide +kernel)
theorem k_517 : (Cond.methodLink "BlockSearch$Scorer" 75 ⟨"BlockSearch$Scorer", "weighed", "(II)I"⟩) ∈ xBig := xm 544 (by decide +kernel) (by decide +kernel)
theorem k_518 : (Cond.static ⟨"BlockSearch$Scorer", "weighed", "(II)I"⟩) ∈ xBig := xm 545 (by decide +kernel) (by decide +kernel)
theorem k_519 : (Cond.code ⟨"BlockSearch$Scorer", "weighed", "(II)I"⟩ prog_9_method_6_code 2 (some FieldType.int)) ∈ xBig := xm 546 (by decide +kernel) (by decide +kernel)
theorem k_520 : (Cond.methodLink "BlockSearch$Scorer" 78 ⟨"BlockSearch$Node", "hasNumberWithin", "(III)Z"⟩) ∈ xBig := xm 547 (by decide +kernel) (by decide +kernel)
theorem k_521 : (Cond.instanceMethod ⟨"BlockSearch$Node", "hasNumberWithin", "(III)Z"⟩) ∈ xBig := xm 548 (by decide +kernel) (by decide +kernel)
theorem k_522 : (Cond.selects "BlockSearch$Node" ⟨"BlockSearch$Node", "hasNumberWithin", "(III)Z"⟩ ⟨"BlockSearch$Node", "hasNumberWithin", "(III)Z"⟩) ∈ xBig := xm 549 (by decide +kernel) (by decide +kernel)
theorem k_523 : (Cond.code ⟨"BlockSearch$Node", "hasNumberWithin", "(III)Z"⟩ prog_7_method_5_code 4 (some FieldType.boolean)) ∈ xBig := xm 550 (by decide +kernel) (by decide +kernel)
theorem k_524 : (Cond.methodLink "BlockSearch$Scorer" 82 ⟨"BlockSearch$Scorer", "oneIf", "(Z)I"⟩) ∈ xBig := xm 551 (by decide +kernel) (by decide +kernel)
theorem k_525 : (Cond.static ⟨"BlockSearch$Scorer", "oneIf", "(Z)I"⟩) ∈ xBig := xm 552 (by decide +kernel) (by decide +kernel)
theorem k_526 : (Cond.code ⟨"BlockSearch$Scorer", "oneIf", "(Z)I"⟩ prog_9_method_7_code 1 (some FieldType.int)) ∈ xBig := xm 553 (by decide +kernel) (by decide +kernel)
theorem k_527 : (Cond.methodLink "BlockSearch$Scorer" 89 ⟨"BlockSearch$Scorer", "sumOfBoth", "(II)I"⟩) ∈ xBig := xm 554 (by decide +kernel) (by decide +kernel)
theorem k_528 : (Cond.static ⟨"BlockSearch$Scorer", "sumOfBoth", "(II)I"⟩) ∈ xBig := xm 555 (by decide +kernel) (by decide +kernel)
theorem k_529 : (Cond.code ⟨"BlockSearch$Scorer", "sumOfBoth", "(II)I"⟩ prog_9_method_8_code 2 (some FieldType.int)) ∈ xBig := xm 556 (by decide +kernel) (by decide +kernel)
theorem k_530 : (Cond.methodLink "BlockSearch$Scorer" 92 ⟨"BlockSearch$Scorer", "sumOfEither", "(II)I"⟩) ∈ xBig := xm 557 (by decide +kernel) (by decide +kernel)
theorem k_531 : (Cond.static ⟨"BlockSearch$Scorer", "sumOfEither", "(II)I"⟩) ∈ xBig := xm 558 (by decide +kernel) (by decide +kernel)
theorem k_532 : (Cond.code ⟨"BlockSearch$Scorer", "sumOfEither", "(II)I"⟩ prog_9_method_9_code 2 (some FieldType.int)) ∈ xBig := xm 559 (by decide +kernel) (by decide +kernel)
theorem k_533 : (Cond.methodLink "BlockSearch$Scorer" 95 ⟨"BlockSearch$Scorer", "nested", "(LBlockSearch$Query;I[LBlockSearch$Node;I)I"⟩) ∈ xBig := xm 560 (by decide +kernel) (by decide +kernel)
theorem k_535 : (Cond.instanceMethod ⟨"BlockSearch$Scorer", "nested", "(LBlockSearch$Query;I[LBlockSearch$Node;I)I"⟩) ∈ xBig := xm 562 (by decide +kernel) (by decide +kernel)
theorem k_536 : (Cond.code ⟨"BlockSearch$Scorer", "nested", "(LBlockSearch$Query;I[LBlockSearch$Node;I)I"⟩ prog_9_method_10_code 12 (some FieldType.int)) ∈ xBig := xm 563 (by decide +kernel) (by decide +kernel)
theorem k_537 : (Cond.methodLink "BlockSearch$Scorer" 105 ⟨"java/lang/Math", "min", "(II)I"⟩) ∈ xBig := xm 564 (by decide +kernel) (by decide +kernel)
theorem k_538 : (Cond.static ⟨"java/lang/Math", "min", "(II)I"⟩) ∈ xBig := xm 565 (by decide +kernel) (by decide +kernel)
theorem k_539 : (Cond.code ⟨"java/lang/Math", "min", "(II)I"⟩ prog_13_method_69_code 2 (some FieldType.int)) ∈ xBig := xm 566 (by decide +kernel) (by decide +kernel)
theorem k_540 : (Cond.methodLink "BlockSearch$Scorer" 110 ⟨"java/lang/Math", "max", "(II)I"⟩) ∈ xBig := xm 567 (by decide +kernel) (by decide +kernel)
theorem k_541 : (Cond.static ⟨"java/lang/Math", "max", "(II)I"⟩) ∈ xBig := xm 568 (by decide +kernel) (by decide +kernel)
theorem k_542 : (Cond.code ⟨"java/lang/Math", "max", "(II)I"⟩ prog_13_method_65_code 2 (some FieldType.int)) ∈ xBig := xm 569 (by decide +kernel) (by decide +kernel)
theorem k_543 : (Cond.methodLink "BlockSearch" 224 ⟨"BlockSearch$Hits", "insert", "(LBlockSearch$Snapshot;II)V"⟩) ∈ xBig := xm 570 (by decide +kernel) (by decide +kernel)
theorem k_544 : (Cond.instanceMethod ⟨"BlockSearch$Hits", "insert", "(LBlockSearch$Snapshot;II)V"⟩) ∈ xBig := xm 571 (by decide +kernel) (by decide +kernel)
theorem k_545 : (Cond.selects "BlockSearch$Hits" ⟨"BlockSearch$Hits", "insert", "(LBlockSearch$Snapshot;II)V"⟩ ⟨"BlockSearch$Hits", "insert", "(LBlockSearch$Snapshot;II)V"⟩) ∈ xBig := xm 572 (by decide +kernel) (by decide +kernel)
theorem k_546 : (Cond.code ⟨"BlockSearch$Hits", "insert", "(LBlockSearch$Snapshot;II)V"⟩ prog_5_method_3_code 6 none) ∈ xBig := xm 573 (by decide +kernel) (by decide +kernel)
theorem k_547 : (Cond.methodLink "BlockSearchLaw" 71 ⟨"BlockSearch", "hit", "(II)I"⟩) ∈ xBig := xm 574 (by decide +kernel) (by decide +kernel)
theorem k_548 : (Cond.instanceMethod ⟨"BlockSearch", "hit", "(II)I"⟩) ∈ xBig := xm 575 (by decide +kernel) (by decide +kernel)
theorem k_549 : (Cond.selects "BlockSearch" ⟨"BlockSearch", "hit", "(II)I"⟩ ⟨"BlockSearch", "hit", "(II)I"⟩) ∈ xBig := xm 576 (by decide +kernel) (by decide +kernel)
theorem k_550 : (Cond.code ⟨"BlockSearch", "hit", "(II)I"⟩ prog_1_method_15_code 3 (some FieldType.int)) ∈ xBig := xm 577 (by decide +kernel) (by decide +kernel)
theorem k_551 : (Cond.methodLink "BlockSearchLaw" 75 ⟨"BlockSearch", "score", "(I)I"⟩) ∈ xBig := xm 578 (by decide +kernel) (by decide +kernel)
theorem k_552 : (Cond.instanceMethod ⟨"BlockSearch", "score", "(I)I"⟩) ∈ xBig := xm 579 (by decide +kernel) (by decide +kernel)
theorem k_553 : (Cond.selects "BlockSearch" ⟨"BlockSearch", "score", "(I)I"⟩ ⟨"BlockSearch", "score", "(I)I"⟩) ∈ xBig := xm 580 (by decide +kernel) (by decide +kernel)
theorem k_554 : (Cond.code ⟨"BlockSearch", "score", "(I)I"⟩ prog_1_method_16_code 4 (some FieldType.int)) ∈ xBig := xm 581 (by decide +kernel) (by decide +kernel)
theorem k_555 : (Cond.methodLink "BlockSearch" 233 ⟨"BlockSearch$Snapshot", "liveWith", "(I)LBlockSearch$Document;"⟩) ∈ xBig := xm 582 (by decide +kernel) (by decide +kernel)
theorem k_556 : (Cond.instanceMethod ⟨"BlockSearch$Snapshot", "liveWith", "(I)LBlockSearch$Document;"⟩) ∈ xBig := xm 583 (by decide +kernel) (by decide +kernel)
theorem k_557 : (Cond.selects "BlockSearch$Snapshot" ⟨"BlockSearch$Snapshot", "liveWith", "(I)LBlockSearch$Document;"⟩ ⟨"BlockSearch$Snapshot", "liveWith", "(I)LBlockSearch$Document;"⟩) ∈ xBig := xm 584 (by decide +kernel) (by decide +kernel)
theorem k_558 : (Cond.code ⟨"BlockSearch$Snapshot", "liveWith", "(I)LBlockSearch$Document;"⟩ prog_10_method_5_code 3 (some (FieldType.object "BlockSearch$Document"))) ∈ xBig := xm 585 (by decide +kernel) (by decide +kernel)
theorem k_559 : (Cond.methodLink "BlockSearchLaw" 79 ⟨"BlockSearch", "object", "(III)I"⟩) ∈ xBig := xm 586 (by decide +kernel) (by decide +kernel)
theorem k_560 : (Cond.instanceMethod ⟨"BlockSearch", "object", "(III)I"⟩) ∈ xBig := xm 587 (by decide +kernel) (by decide +kernel)
theorem k_561 : (Cond.selects "BlockSearch" ⟨"BlockSearch", "object", "(III)I"⟩ ⟨"BlockSearch", "object", "(III)I"⟩) ∈ xBig := xm 588 (by decide +kernel) (by decide +kernel)
theorem k_562 : (Cond.code ⟨"BlockSearch", "object", "(III)I"⟩ prog_1_method_17_code 5 (some FieldType.int)) ∈ xBig := xm 589 (by decide +kernel) (by decide +kernel)
theorem k_563 : (Cond.methodLink "BlockSearch" 237 ⟨"BlockSearch$DocumentRow", "factOf", "(II)I"⟩) ∈ xBig := xm 590 (by decide +kernel) (by decide +kernel)
theorem k_564 : (Cond.instanceMethod ⟨"BlockSearch$DocumentRow", "factOf", "(II)I"⟩) ∈ xBig := xm 591 (by decide +kernel) (by decide +kernel)
theorem k_565 : (Cond.selects "BlockSearch$DocumentRow" ⟨"BlockSearch$DocumentRow", "factOf", "(II)I"⟩ ⟨"BlockSearch$DocumentRow", "factOf", "(II)I"⟩) ∈ xBig := xm 592 (by decide +kernel) (by decide +kernel)
theorem k_566 : (Cond.code ⟨"BlockSearch$DocumentRow", "factOf", "(II)I"⟩ prog_3_method_8_code 6 (some FieldType.int)) ∈ xBig := xm 593 (by decide +kernel) (by decide +kernel)
theorem k_567 : (Cond.methodLink "BlockSearch$DocumentRow" 43 ⟨"BlockSearch$Document", "factOf", "(III)I"⟩) ∈ xBig := xm 594 (by decide +kernel) (by decide +kernel)
theorem k_568 : (Cond.instanceMethod ⟨"BlockSearch$Document", "factOf", "(III)I"⟩) ∈ xBig := xm 595 (by decide +kernel) (by decide +kernel)
theorem k_569 : (Cond.selects "BlockSearch$Document" ⟨"BlockSearch$Document", "factOf", "(III)I"⟩ ⟨"BlockSearch$Document", "factOf", "(III)I"⟩) ∈ xBig := xm 596 (by decide +kernel) (by decide +kernel)
theorem k_570 : (Cond.code ⟨"BlockSearch$Document", "factOf", "(III)I"⟩ prog_2_method_2_code 5 (some FieldType.int)) ∈ xBig := xm 597 (by decide +kernel) (by decide +kernel)
theorem k_571 : (Cond.methodLink "BlockSearch$Document" 46 ⟨"BlockSearch$Node", "fieldFact", "(I)I"⟩) ∈ xBig := xm 598 (by decide +kernel) (by decide +kernel)
theorem k_572 : (Cond.instanceMethod ⟨"BlockSearch$Node", "fieldFact", "(I)I"⟩) ∈ xBig := xm 599 (by decide +kernel) (by decide +kernel)
theorem k_573 : (Cond.selects "BlockSearch$Node" ⟨"BlockSearch$Node", "fieldFact", "(I)I"⟩ ⟨"BlockSearch$Node", "fieldFact", "(I)I"⟩) ∈ xBig := xm 600 (by decide +kernel) (by decide +kernel)
theorem k_574 : (Cond.code ⟨"BlockSearch$Node", "fieldFact", "(I)I"⟩ prog_7_method_6_code 2 (some FieldType.int)) ∈ xBig := xm 601 (by decide +kernel) (by decide +kernel)
theorem k_575 : (Cond.methodLink "BlockSearchLaw" 83 ⟨"BlockSearch", "type", "(II)I"⟩) ∈ xBig := xm 602 (by decide +kernel) (by decide +kernel)
theorem k_576 : (Cond.instanceMethod ⟨"BlockSearch", "type", "(II)I"⟩) ∈ xBig := xm 603 (by decide +kernel) (by decide +kernel)
theorem k_577 : (Cond.selects "BlockSearch" ⟨"BlockSearch", "type", "(II)I"⟩ ⟨"BlockSearch", "type", "(II)I"⟩) ∈ xBig := xm 604 (by decide +kernel) (by decide +kernel)
theorem k_578 : (Cond.code ⟨"BlockSearch", "type", "(II)I"⟩ prog_1_method_18_code 3 (some FieldType.int)) ∈ xBig := xm 605 (by decide +kernel) (by decide +kernel)
theorem k_579 : (Cond.methodLink "BlockSearchLaw" 87 ⟨"BlockSearch", "count", "(I)I"⟩) ∈ xBig := xm 606 (by decide +kernel) (by decide +kernel)
theorem k_580 : (Cond.instanceMethod ⟨"BlockSearch", "count", "(I)I"⟩) ∈ xBig := xm 607 (by decide +kernel) (by decide +kernel)
theorem k_581 : (Cond.selects "BlockSearch" ⟨"BlockSearch", "count", "(I)I"⟩ ⟨"BlockSearch", "count", "(I)I"⟩) ∈ xBig := xm 608 (by decide +kernel) (by decide +kernel)
theorem k_582 : (Cond.code ⟨"BlockSearch", "count", "(I)I"⟩ prog_1_method_19_code 2 (some FieldType.int)) ∈ xBig := xm 609 (by decide +kernel) (by decide +kernel)
theorem k_583 : (Cond.methodLink "BlockSearch" 243 ⟨"BlockSearch", "liveInSegments", "()I"⟩) ∈ xBig := xm 610 (by decide +kernel) (by decide +kernel)
theorem k_585 : (Cond.instanceMethod ⟨"BlockSearch", "liveInSegments", "()I"⟩) ∈ xBig := xm 612 (by decide +kernel) (by decide +kernel)
theorem k_586 : (Cond.code ⟨"BlockSearch", "liveInSegments", "()I"⟩ prog_1_method_21_code 3 (some FieldType.int)) ∈ xBig := xm 613 (by decide +kernel) (by decide +kernel)
theorem k_587 : (Cond.methodLink "BlockSearch" 246 ⟨"BlockSearch", "deletedInSegments", "()I"⟩) ∈ xBig := xm 614 (by decide +kernel) (by decide +kernel)
theorem k_589 : (Cond.instanceMethod ⟨"BlockSearch", "deletedInSegments", "()I"⟩) ∈ xBig := xm 616 (by decide +kernel) (by decide +kernel)
theorem k_590 : (Cond.code ⟨"BlockSearch", "deletedInSegments", "()I"⟩ prog_1_method_22_code 3 (some FieldType.int)) ∈ xBig := xm 617 (by decide +kernel) (by decide +kernel)
theorem k_591 : (Cond.methodLink "BlockSearch" 252 ⟨"BlockSearch", "segmentFact", "(I)I"⟩) ∈ xBig := xm 618 (by decide +kernel) (by decide +kernel)
theorem k_593 : (Cond.instanceMethod ⟨"BlockSearch", "segmentFact", "(I)I"⟩) ∈ xBig := xm 620 (by decide +kernel) (by decide +kernel)
theorem k_594 : (Cond.code ⟨"BlockSearch", "segmentFact", "(I)I"⟩ prog_1_method_20_code 3 (some FieldType.int)) ∈ xBig := xm 621 (by decide +kernel) (by decide +kernel)
theorem k_595 : (Cond.classLink "BlockSearchLaw" 10 "BlockSearchModel") ∈ xBig := xm 622 (by decide +kernel) (by decide +kernel)
theorem k_596 : (Cond.instantiable "BlockSearchModel" 45) ∈ xBig := xm 623 (by decide +kernel) (by decide +kernel)
theorem k_597 : (Cond.methodLink "BlockSearchLaw" 12 ⟨"BlockSearchModel", "<init>", "()V"⟩) ∈ xBig := xm 624 (by decide +kernel) (by decide +kernel)
theorem k_598 : (Cond.instanceMethod ⟨"BlockSearchModel", "<init>", "()V"⟩) ∈ xBig := xm 625 (by decide +kernel) (by decide +kernel)
theorem k_599 : (Cond.code ⟨"BlockSearchModel", "<init>", "()V"⟩ prog_12_method_1_code 1 none) ∈ xBig := xm 626 (by decide +kernel) (by decide +kernel)
theorem k_600 : (Cond.methodLink "BlockSearchModel" 1 ⟨"java/lang/Object", "<init>", "()V"⟩) ∈ xBig := xm 627 (by decide +kernel) (by decide +kernel)
theorem k_601 : (Cond.fieldLink "BlockSearchModel" 7 "BlockSearchModel" "dPath" "[I") ∈ xBig := xm 628 (by decide +kernel) (by decide +kernel)
theorem k_602 : (Cond.fieldLink "BlockSearchModel" 13 "BlockSearchModel" "dParent" "[I") ∈ xBig := xm 629 (by decide +kernel) (by decide +kernel)
theorem k_603 : (Cond.fieldLink "BlockSearchModel" 16 "BlockSearchModel" "dPlace" "[I") ∈ xBig := xm 630 (by decide +kernel) (by decide +kernel)
theorem k_604 : (Cond.fieldLink "BlockSearchModel" 19 "BlockSearchModel" "dType" "[I") ∈ xBig := xm 631 (by decide +kernel) (by decide +kernel)
theorem k_605 : (Cond.fieldLink "BlockSearchModel" 22 "BlockSearchModel" "dValue" "[I") ∈ xBig := xm 632 (by decide +kernel) (by decide +kernel)
theorem k_606 : (Cond.fieldLink "BlockSearchModel" 25 "BlockSearchModel" "dWords" "[J") ∈ xBig := xm 633 (by decide +kernel) (by decide +kernel)
theorem k_607 : (Cond.fieldLink "BlockSearchModel" 122 "BlockSearchModel" "drafted" "I") ∈ xBig := xm 634 (by decide +kernel) (by decide +kernel)
theorem k_608 : (Cond.fieldLink "BlockSearchModel" 129 "BlockSearchModel" "closed" "I") ∈ xBig := xm 635 (by decide +kernel) (by decide +kernel)
theorem k_609 : (Cond.fieldLink "BlockSearchModel" 29 "BlockSearchModel" "open" "I") ∈ xBig := xm 636 (by decide +kernel) (by decide +kernel)
theorem k_610 : (Cond.fieldLink "BlockSearchModel" 33 "BlockSearchModel" "mapping" "[I") ∈ xBig := xm 637 (by decide +kernel) (by decide +kernel)
theorem k_611 : (Cond.fieldLink "BlockSearchModel" 138 "BlockSearchModel" "typesSet" "I") ∈ xBig := xm 638 (by decide +kernel) (by decide +kernel)
theorem k_612 : (Cond.fieldLink "BlockSearchModel" 36 "BlockSearchModel" "from" "[I") ∈ xBig := xm 639 (by decide +kernel) (by decide +kernel)
theorem k_613 : (Cond.fieldLink "BlockSearchModel" 39 "BlockSearchModel" "size" "[I") ∈ xBig := xm 640 (by decide +kernel) (by decide +kernel)
theorem k_614 : (Cond.fieldLink "BlockSearchModel" 42 "BlockSearchModel" "id" "[I") ∈ xBig := xm 641 (by decide +kernel) (by decide +kernel)
theorem k_615 : (Cond.fieldLink "BlockSearchModel" 45 "BlockSearchModel" "segment" "[I") ∈ xBig := xm 642 (by decide +kernel) (by decide +kernel)
theorem k_616 : (Cond.fieldLink "BlockSearchModel" 48 "BlockSearchModel" "snapSegment" "[I") ∈ xBig := xm 643 (by decide +kernel) (by decide +kernel)
theorem k_617 : (Cond.fieldLink "BlockSearchModel" 51 "BlockSearchModel" "live" "[Z") ∈ xBig := xm 644 (by decide +kernel) (by decide +kernel)
theorem k_618 : (Cond.fieldLink "BlockSearchModel" 55 "BlockSearchModel" "snapLive" "[Z") ∈ xBig := xm 645 (by decide +kernel) (by decide +kernel)
theorem k_619 : (Cond.fieldLink "BlockSearchModel" 132 "BlockSearchModel" "documents" "I") ∈ xBig := xm 646 (by decide +kernel) (by decide +kernel)
theorem k_620 : (Cond.fieldLink "BlockSearchModel" 159 "BlockSearchModel" "segments" "I") ∈ xBig := xm 647 (by decide +kernel) (by decide +kernel)
theorem k_621 : (Cond.fieldLink "BlockSearchModel" 162 "BlockSearchModel" "leftOut" "I") ∈ xBig := xm 648 (by decide +kernel) (by decide +kernel)
theorem k_622 : (Cond.fieldLink "BlockSearchModel" 165 "BlockSearchModel" "snapped" "Z") ∈ xBig := xm 649 (by decide +kernel) (by decide +kernel)
theorem k_623 : (Cond.fieldLink "BlockSearchModel" 58 "BlockSearchModel" "path" "[I") ∈ xBig := xm 650 (by decide +kernel) (by decide +kernel)
theorem k_624 : (Cond.fieldLink "BlockSearchModel" 61 "BlockSearchModel" "parent" "[I") ∈ xBig := xm 651 (by decide +kernel) (by decide +kernel)
theorem k_625 : (Cond.fieldLink "BlockSearchModel" 64 "BlockSearchModel" "type" "[I") ∈ xBig := xm 652 (by decide +kernel) (by decide +kernel)
theorem k_626 : (Cond.fieldLink "BlockSearchModel" 67 "BlockSearchModel" "value" "[I") ∈ xBig := xm 653 (by decide +kernel) (by decide +kernel)
theorem k_627 : (Cond.fieldLink "BlockSearchModel" 70 "BlockSearchModel" "words" "[J") ∈ xBig := xm 654 (by decide +kernel) (by decide +kernel)
theorem k_628 : (Cond.fieldLink "BlockSearchModel" 135 "BlockSearchModel" "objects" "I") ∈ xBig := xm 655 (by decide +kernel) (by decide +kernel)
theorem k_629 : (Cond.fieldLink "BlockSearchModel" 73 "BlockSearchModel" "kind" "[I") ∈ xBig := xm 656 (by decide +kernel) (by decide +kernel)
theorem k_630 : (Cond.fieldLink "BlockSearchModel" 76 "BlockSearchModel" "one" "[I") ∈ xBig := xm 657 (by decide +kernel) (by decide +kernel)
theorem k_631 : (Cond.fieldLink "BlockSearchModel" 79 "BlockSearchModel" "two" "[I") ∈ xBig := xm 658 (by decide +kernel) (by decide +kernel)
theorem k_632 : (Cond.fieldLink "BlockSearchModel" 82 "BlockSearchModel" "at" "[I") ∈ xBig := xm 659 (by decide +kernel) (by decide +kernel)
theorem k_633 : (Cond.fieldLink "BlockSearchModel" 85 "BlockSearchModel" "behind" "[I") ∈ xBig := xm 660 (by decide +kernel) (by decide +kernel)
theorem k_634 : (Cond.fieldLink "BlockSearchModel" 88 "BlockSearchModel" "open2" "[I") ∈ xBig := xm 661 (by decide +kernel) (by decide +kernel)
theorem k_635 : (Cond.fieldLink "BlockSearchModel" 91 "BlockSearchModel" "all" "[I") ∈ xBig := xm 662 (by decide +kernel) (by decide +kernel)
theorem k_636 : (Cond.fieldLink "BlockSearchModel" 94 "BlockSearchModel" "having" "[I") ∈ xBig := xm 663 (by decide +kernel) (by decide +kernel)
theorem k_637 : (Cond.fieldLink "BlockSearchModel" 169 "BlockSearchModel" "tokens" "I") ∈ xBig := xm 664 (by decide +kernel) (by decide +kernel)
theorem k_638 : (Cond.fieldLink "BlockSearchModel" 97 "BlockSearchModel" "wanted" "I") ∈ xBig := xm 665 (by decide +kernel) (by decide +kernel)
theorem k_639 : (Cond.fieldLink "BlockSearchModel" 100 "BlockSearchModel" "holds" "[Z") ∈ xBig := xm 666 (by decide +kernel) (by decide +kernel)
theorem k_640 : (Cond.fieldLink "BlockSearchModel" 103 "BlockSearchModel" "scores" "[I") ∈ xBig := xm 667 (by decide +kernel) (by decide +kernel)
theorem k_641 : (Cond.fieldLink "BlockSearchModel" 106 "BlockSearchModel" "hitDocument" "[I") ∈ xBig := xm 668 (by decide +kernel) (by decide +kernel)
theorem k_642 : (Cond.fieldLink "BlockSearchModel" 109 "BlockSearchModel" "hitScore" "[I") ∈ xBig := xm 669 (by decide +kernel) (by decide +kernel)
theorem k_643 : (Cond.fieldLink "BlockSearchModel" 112 "BlockSearchModel" "hitSegment" "[I") ∈ xBig := xm 670 (by decide +kernel) (by decide +kernel)
theorem k_644 : (Cond.fieldLink "BlockSearchModel" 115 "BlockSearchModel" "hitRoot" "[I") ∈ xBig := xm 671 (by decide +kernel) (by decide +kernel)
theorem k_645 : (Cond.fieldLink "BlockSearchModel" 204 "BlockSearchModel" "hits" "I") ∈ xBig := xm 672 (by decide +kernel) (by decide +kernel)
theorem k_737 : (Cond.arrayClass FieldType.long) ∈ xBig := xm 764 (by decide +kernel) (by decide +kernel)
theorem k_738 : (Cond.methodLink "BlockSearchLaw" 17 ⟨"BlockSearchModel", "open", "(I)I"⟩) ∈ xBig := xm 765 (by decide +kernel) (by decide +kernel)
theorem k_739 : (Cond.instanceMethod ⟨"BlockSearchModel", "open", "(I)I"⟩) ∈ xBig := xm 766 (by decide +kernel) (by decide +kernel)
theorem k_740 : (Cond.selects "BlockSearchModel" ⟨"BlockSearchModel", "open", "(I)I"⟩ ⟨"BlockSearchModel", "open", "(I)I"⟩) ∈ xBig := xm 767 (by decide +kernel) (by decide +kernel)
theorem k_741 : (Cond.code ⟨"BlockSearchModel", "open", "(I)I"⟩ prog_12_method_4_code 3 (some FieldType.int)) ∈ xBig := xm 768 (by decide +kernel) (by decide +kernel)
theorem k_742 : (Cond.methodLink "BlockSearchModel" 118 ⟨"BlockSearchModel", "in", "(III)Z"⟩) ∈ xBig := xm 769 (by decide +kernel) (by decide +kernel)
theorem k_743 : (Cond.static ⟨"BlockSearchModel", "in", "(III)Z"⟩) ∈ xBig := xm 770 (by decide +kernel) (by decide +kernel)
theorem k_744 : (Cond.code ⟨"BlockSearchModel", "in", "(III)Z"⟩ prog_12_method_2_code 3 (some FieldType.boolean)) ∈ xBig := xm 771 (by decide +kernel) (by decide +kernel)
theorem k_745 : (Cond.methodLink "BlockSearchModel" 125 ⟨"BlockSearchModel", "parentOf", "(I)I"⟩) ∈ xBig := xm 772 (by decide +kernel) (by decide +kernel)
theorem k_746 : (Cond.static ⟨"BlockSearchModel", "parentOf", "(I)I"⟩) ∈ xBig := xm 773 (by decide +kernel) (by decide +kernel)
theorem k_747 : (Cond.code ⟨"BlockSearchModel", "parentOf", "(I)I"⟩ prog_12_method_3_code 1 (some FieldType.int)) ∈ xBig := xm 774 (by decide +kernel) (by decide +kernel)
theorem k_748 : (Cond.methodLink "BlockSearchLaw" 22 ⟨"BlockSearchModel", "number", "(II)Z"⟩) ∈ xBig := xm 775 (by decide +kernel) (by decide +kernel)
theorem k_749 : (Cond.instanceMethod ⟨"BlockSearchModel", "number", "(II)Z"⟩) ∈ xBig := xm 776 (by decide +kernel) (by decide +kernel)
theorem k_750 : (Cond.selects "BlockSearchModel" ⟨"BlockSearchModel", "number", "(II)Z"⟩ ⟨"BlockSearchModel", "number", "(II)Z"⟩) ∈ xBig := xm 777 (by decide +kernel) (by decide +kernel)
theorem k_751 : (Cond.code ⟨"BlockSearchModel", "number", "(II)Z"⟩ prog_12_method_5_code 3 (some FieldType.boolean)) ∈ xBig := xm 778 (by decide +kernel) (by decide +kernel)
theorem k_752 : (Cond.methodLink "BlockSearchLaw" 27 ⟨"BlockSearchModel", "word", "(II)I"⟩) ∈ xBig := xm 779 (by decide +kernel) (by decide +kernel)
theorem k_753 : (Cond.instanceMethod ⟨"BlockSearchModel", "word", "(II)I"⟩) ∈ xBig := xm 780 (by decide +kernel) (by decide +kernel)
theorem k_754 : (Cond.selects "BlockSearchModel" ⟨"BlockSearchModel", "word", "(II)I"⟩ ⟨"BlockSearchModel", "word", "(II)I"⟩) ∈ xBig := xm 781 (by decide +kernel) (by decide +kernel)
theorem k_755 : (Cond.code ⟨"BlockSearchModel", "word", "(II)I"⟩ prog_12_method_6_code 4 (some FieldType.int)) ∈ xBig := xm 782 (by decide +kernel) (by decide +kernel)
theorem k_756 : (Cond.methodLink "BlockSearchLaw" 32 ⟨"BlockSearchModel", "close", "()I"⟩) ∈ xBig := xm 783 (by decide +kernel) (by decide +kernel)
theorem k_757 : (Cond.instanceMethod ⟨"BlockSearchModel", "close", "()I"⟩) ∈ xBig := xm 784 (by decide +kernel) (by decide +kernel)
theorem k_758 : (Cond.selects "BlockSearchModel" ⟨"BlockSearchModel", "close", "()I"⟩ ⟨"BlockSearchModel", "close", "()I"⟩) ∈ xBig := xm 785 (by decide +kernel) (by decide +kernel)
theorem k_759 : (Cond.code ⟨"BlockSearchModel", "close", "()I"⟩ prog_12_method_7_code 1 (some FieldType.int)) ∈ xBig := xm 786 (by decide +kernel) (by decide +kernel)
theorem k_760 : (Cond.methodLink "BlockSearchLaw" 36 ⟨"BlockSearchModel", "wipe", "()I"⟩) ∈ xBig := xm 787 (by decide +kernel) (by decide +kernel)
theorem k_761 : (Cond.instanceMethod ⟨"BlockSearchModel", "wipe", "()I"⟩) ∈ xBig := xm 788 (by decide +kernel) (by decide +kernel)
theorem k_762 : (Cond.selects "BlockSearchModel" ⟨"BlockSearchModel", "wipe", "()I"⟩ ⟨"BlockSearchModel", "wipe", "()I"⟩) ∈ xBig := xm 789 (by decide +kernel) (by decide +kernel)
theorem k_763 : (Cond.code ⟨"BlockSearchModel", "wipe", "()I"⟩ prog_12_method_8_code 2 (some FieldType.int)) ∈ xBig := xm 790 (by decide +kernel) (by decide +kernel)
theorem k_764 : (Cond.methodLink "BlockSearchLaw" 40 ⟨"BlockSearchModel", "add", "(I)I"⟩) ∈ xBig := xm 791 (by decide +kernel) (by decide +kernel)
theorem k_765 : (Cond.instanceMethod ⟨"BlockSearchModel", "add", "(I)I"⟩) ∈ xBig := xm 792 (by decide +kernel) (by decide +kernel)
theorem k_766 : (Cond.selects "BlockSearchModel" ⟨"BlockSearchModel", "add", "(I)I"⟩ ⟨"BlockSearchModel", "add", "(I)I"⟩) ∈ xBig := xm 793 (by decide +kernel) (by decide +kernel)
theorem k_767 : (Cond.code ⟨"BlockSearchModel", "add", "(I)I"⟩ prog_12_method_13_code 5 (some FieldType.int)) ∈ xBig := xm 794 (by decide +kernel) (by decide +kernel)
theorem k_768 : (Cond.methodLink "BlockSearchModel" 141 ⟨"BlockSearchModel", "conflicts", "()Z"⟩) ∈ xBig := xm 795 (by decide +kernel) (by decide +kernel)
theorem k_770 : (Cond.instanceMethod ⟨"BlockSearchModel", "conflicts", "()Z"⟩) ∈ xBig := xm 797 (by decide +kernel) (by decide +kernel)
theorem k_771 : (Cond.code ⟨"BlockSearchModel", "conflicts", "()Z"⟩ prog_12_method_10_code 6 (some FieldType.boolean)) ∈ xBig := xm 798 (by decide +kernel) (by decide +kernel)
theorem k_772 : (Cond.methodLink "BlockSearchModel" 145 ⟨"BlockSearchModel", "inBuffer", "()I"⟩) ∈ xBig := xm 799 (by decide +kernel) (by decide +kernel)
theorem k_774 : (Cond.instanceMethod ⟨"BlockSearchModel", "inBuffer", "()I"⟩) ∈ xBig := xm 801 (by decide +kernel) (by decide +kernel)
theorem k_775 : (Cond.code ⟨"BlockSearchModel", "inBuffer", "()I"⟩ prog_12_method_9_code 3 (some FieldType.int)) ∈ xBig := xm 802 (by decide +kernel) (by decide +kernel)
theorem k_776 : (Cond.methodLink "BlockSearchModel" 149 ⟨"BlockSearchModel", "find", "(I)I"⟩) ∈ xBig := xm 803 (by decide +kernel) (by decide +kernel)
theorem k_778 : (Cond.instanceMethod ⟨"BlockSearchModel", "find", "(I)I"⟩) ∈ xBig := xm 805 (by decide +kernel) (by decide +kernel)
theorem k_779 : (Cond.code ⟨"BlockSearchModel", "find", "(I)I"⟩ prog_12_method_11_code 3 (some FieldType.int)) ∈ xBig := xm 806 (by decide +kernel) (by decide +kernel)
theorem k_780 : (Cond.methodLink "BlockSearchModel" 152 ⟨"BlockSearchModel", "lay", "(I)V"⟩) ∈ xBig := xm 807 (by decide +kernel) (by decide +kernel)
theorem k_782 : (Cond.instanceMethod ⟨"BlockSearchModel", "lay", "(I)V"⟩) ∈ xBig := xm 809 (by decide +kernel) (by decide +kernel)
theorem k_783 : (Cond.code ⟨"BlockSearchModel", "lay", "(I)V"⟩ prog_12_method_12_code 5 none) ∈ xBig := xm 810 (by decide +kernel) (by decide +kernel)
theorem k_784 : (Cond.methodLink "BlockSearchModel" 156 ⟨"BlockSearchModel", "wipe", "()I"⟩) ∈ xBig := xm 811 (by decide +kernel) (by decide +kernel)
theorem k_785 : (Cond.methodLink "BlockSearchLaw" 45 ⟨"BlockSearchModel", "remove", "(I)Z"⟩) ∈ xBig := xm 812 (by decide +kernel) (by decide +kernel)
theorem k_786 : (Cond.instanceMethod ⟨"BlockSearchModel", "remove", "(I)Z"⟩) ∈ xBig := xm 813 (by decide +kernel) (by decide +kernel)
theorem k_787 : (Cond.selects "BlockSearchModel" ⟨"BlockSearchModel", "remove", "(I)Z"⟩ ⟨"BlockSearchModel", "remove", "(I)Z"⟩) ∈ xBig := xm 814 (by decide +kernel) (by decide +kernel)
theorem k_788 : (Cond.code ⟨"BlockSearchModel", "remove", "(I)Z"⟩ prog_12_method_14_code 3 (some FieldType.boolean)) ∈ xBig := xm 815 (by decide +kernel) (by decide +kernel)
theorem k_789 : (Cond.methodLink "BlockSearchLaw" 49 ⟨"BlockSearchModel", "flush", "()I"⟩) ∈ xBig := xm 816 (by decide +kernel) (by decide +kernel)
theorem k_790 : (Cond.instanceMethod ⟨"BlockSearchModel", "flush", "()I"⟩) ∈ xBig := xm 817 (by decide +kernel) (by decide +kernel)
theorem k_791 : (Cond.selects "BlockSearchModel" ⟨"BlockSearchModel", "flush", "()I"⟩ ⟨"BlockSearchModel", "flush", "()I"⟩) ∈ xBig := xm 818 (by decide +kernel) (by decide +kernel)
theorem k_792 : (Cond.code ⟨"BlockSearchModel", "flush", "()I"⟩ prog_12_method_15_code 3 (some FieldType.int)) ∈ xBig := xm 819 (by decide +kernel) (by decide +kernel)
theorem k_793 : (Cond.methodLink "BlockSearchLaw" 53 ⟨"BlockSearchModel", "merge", "(II)I"⟩) ∈ xBig := xm 820 (by decide +kernel) (by decide +kernel)
theorem k_794 : (Cond.instanceMethod ⟨"BlockSearchModel", "merge", "(II)I"⟩) ∈ xBig := xm 821 (by decide +kernel) (by decide +kernel)
theorem k_795 : (Cond.selects "BlockSearchModel" ⟨"BlockSearchModel", "merge", "(II)I"⟩ ⟨"BlockSearchModel", "merge", "(II)I"⟩) ∈ xBig := xm 822 (by decide +kernel) (by decide +kernel)
theorem k_796 : (Cond.code ⟨"BlockSearchModel", "merge", "(II)I"⟩ prog_12_method_16_code 6 (some FieldType.int)) ∈ xBig := xm 823 (by decide +kernel) (by decide +kernel)
theorem k_797 : (Cond.methodLink "BlockSearchLaw" 57 ⟨"BlockSearchModel", "refresh", "()I"⟩) ∈ xBig := xm 824 (by decide +kernel) (by decide +kernel)
theorem k_798 : (Cond.instanceMethod ⟨"BlockSearchModel", "refresh", "()I"⟩) ∈ xBig := xm 825 (by decide +kernel) (by decide +kernel)
theorem k_799 : (Cond.selects "BlockSearchModel" ⟨"BlockSearchModel", "refresh", "()I"⟩ ⟨"BlockSearchModel", "refresh", "()I"⟩) ∈ xBig := xm 826 (by decide +kernel) (by decide +kernel)
theorem k_800 : (Cond.code ⟨"BlockSearchModel", "refresh", "()I"⟩ prog_12_method_17_code 3 (some FieldType.int)) ∈ xBig := xm 827 (by decide +kernel) (by decide +kernel)
theorem k_801 : (Cond.methodLink "BlockSearchLaw" 62 ⟨"BlockSearchModel", "token", "(III)I"⟩) ∈ xBig := xm 828 (by decide +kernel) (by decide +kernel)
theorem k_802 : (Cond.instanceMethod ⟨"BlockSearchModel", "token", "(III)I"⟩) ∈ xBig := xm 829 (by decide +kernel) (by decide +kernel)
theorem k_803 : (Cond.selects "BlockSearchModel" ⟨"BlockSearchModel", "token", "(III)I"⟩ ⟨"BlockSearchModel", "token", "(III)I"⟩) ∈ xBig := xm 830 (by decide +kernel) (by decide +kernel)
theorem k_804 : (Cond.code ⟨"BlockSearchModel", "token", "(III)I"⟩ prog_12_method_21_code 8 (some FieldType.int)) ∈ xBig := xm 831 (by decide +kernel) (by decide +kernel)
theorem k_805 : (Cond.methodLink "BlockSearchModel" 172 ⟨"BlockSearchModel", "isToken", "(III)Z"⟩) ∈ xBig := xm 832 (by decide +kernel) (by decide +kernel)
theorem k_806 : (Cond.static ⟨"BlockSearchModel", "isToken", "(III)Z"⟩) ∈ xBig := xm 833 (by decide +kernel) (by decide +kernel)
theorem k_807 : (Cond.code ⟨"BlockSearchModel", "isToken", "(III)Z"⟩ prog_12_method_19_code 3 (some FieldType.boolean)) ∈ xBig := xm 834 (by decide +kernel) (by decide +kernel)
theorem k_808 : (Cond.methodLink "BlockSearchModel" 175 ⟨"BlockSearchModel", "pathOfNext", "()I"⟩) ∈ xBig := xm 835 (by decide +kernel) (by decide +kernel)
theorem k_810 : (Cond.instanceMethod ⟨"BlockSearchModel", "pathOfNext", "()I"⟩) ∈ xBig := xm 837 (by decide +kernel) (by decide +kernel)
theorem k_811 : (Cond.code ⟨"BlockSearchModel", "pathOfNext", "()I"⟩ prog_12_method_20_code 2 (some FieldType.int)) ∈ xBig := xm 838 (by decide +kernel) (by decide +kernel)
theorem k_812 : (Cond.methodLink "BlockSearchModel" 178 ⟨"BlockSearchModel", "parts", "(I)I"⟩) ∈ xBig := xm 839 (by decide +kernel) (by decide +kernel)
theorem k_813 : (Cond.static ⟨"BlockSearchModel", "parts", "(I)I"⟩) ∈ xBig := xm 840 (by decide +kernel) (by decide +kernel)
theorem k_814 : (Cond.code ⟨"BlockSearchModel", "parts", "(I)I"⟩ prog_12_method_18_code 1 (some FieldType.int)) ∈ xBig := xm 841 (by decide +kernel) (by decide +kernel)
theorem k_815 : (Cond.methodLink "BlockSearchLaw" 66 ⟨"BlockSearchModel", "clear", "()I"⟩) ∈ xBig := xm 842 (by decide +kernel) (by decide +kernel)
theorem k_816 : (Cond.instanceMethod ⟨"BlockSearchModel", "clear", "()I"⟩) ∈ xBig := xm 843 (by decide +kernel) (by decide +kernel)
theorem k_817 : (Cond.selects "BlockSearchModel" ⟨"BlockSearchModel", "clear", "()I"⟩ ⟨"BlockSearchModel", "clear", "()I"⟩) ∈ xBig := xm 844 (by decide +kernel) (by decide +kernel)
theorem k_818 : (Cond.code ⟨"BlockSearchModel", "clear", "()I"⟩ prog_12_method_22_code 2 (some FieldType.int)) ∈ xBig := xm 845 (by decide +kernel) (by decide +kernel)
theorem k_819 : (Cond.methodLink "BlockSearchLaw" 70 ⟨"BlockSearchModel", "search", "()I"⟩) ∈ xBig := xm 846 (by decide +kernel) (by decide +kernel)
theorem k_820 : (Cond.instanceMethod ⟨"BlockSearchModel", "search", "()I"⟩) ∈ xBig := xm 847 (by decide +kernel) (by decide +kernel)
theorem k_821 : (Cond.selects "BlockSearchModel" ⟨"BlockSearchModel", "search", "()I"⟩ ⟨"BlockSearchModel", "search", "()I"⟩) ∈ xBig := xm 848 (by decide +kernel) (by decide +kernel)
theorem k_822 : (Cond.code ⟨"BlockSearchModel", "search", "()I"⟩ prog_12_method_31_code 6 (some FieldType.int)) ∈ xBig := xm 849 (by decide +kernel) (by decide +kernel)
theorem k_823 : (Cond.methodLink "BlockSearchModel" 198 ⟨"BlockSearchModel", "isWhole", "()Z"⟩) ∈ xBig := xm 850 (by decide +kernel) (by decide +kernel)
theorem k_825 : (Cond.instanceMethod ⟨"BlockSearchModel", "isWhole", "()Z"⟩) ∈ xBig := xm 852 (by decide +kernel) (by decide +kernel)
theorem k_826 : (Cond.code ⟨"BlockSearchModel", "isWhole", "()Z"⟩ prog_12_method_23_code 1 (some FieldType.boolean)) ∈ xBig := xm 853 (by decide +kernel) (by decide +kernel)
theorem k_827 : (Cond.methodLink "BlockSearchModel" 201 ⟨"BlockSearchModel", "prepare", "()V"⟩) ∈ xBig := xm 854 (by decide +kernel) (by decide +kernel)
theorem k_829 : (Cond.instanceMethod ⟨"BlockSearchModel", "prepare", "()V"⟩) ∈ xBig := xm 856 (by decide +kernel) (by decide +kernel)
theorem k_830 : (Cond.code ⟨"BlockSearchModel", "prepare", "()V"⟩ prog_12_method_25_code 5 none) ∈ xBig := xm 857 (by decide +kernel) (by decide +kernel)
theorem k_831 : (Cond.methodLink "BlockSearchModel" 183 ⟨"BlockSearchModel", "times", "(III)I"⟩) ∈ xBig := xm 858 (by decide +kernel) (by decide +kernel)
theorem k_833 : (Cond.instanceMethod ⟨"BlockSearchModel", "times", "(III)I"⟩) ∈ xBig := xm 860 (by decide +kernel) (by decide +kernel)
theorem k_834 : (Cond.code ⟨"BlockSearchModel", "times", "(III)I"⟩ prog_12_method_24_code 6 (some FieldType.int)) ∈ xBig := xm 861 (by decide +kernel) (by decide +kernel)
theorem k_835 : (Cond.constantLong "BlockSearchModel" 181 (31 : Int64)) ∈ xBig := xm 862 (by decide +kernel) (by decide +kernel)
theorem k_836 : (Cond.methodLink "BlockSearchModel" 207 ⟨"BlockSearchModel", "tried", "(I)Z"⟩) ∈ xBig := xm 863 (by decide +kernel) (by decide +kernel)
theorem k_838 : (Cond.instanceMethod ⟨"BlockSearchModel", "tried", "(I)Z"⟩) ∈ xBig := xm 865 (by decide +kernel) (by decide +kernel)
theorem k_839 : (Cond.code ⟨"BlockSearchModel", "tried", "(I)Z"⟩ prog_12_method_29_code 4 (some FieldType.boolean)) ∈ xBig := xm 866 (by decide +kernel) (by decide +kernel)
theorem k_840 : (Cond.methodLink "BlockSearchModel" 195 ⟨"BlockSearchModel", "look", "(III)V"⟩) ∈ xBig := xm 867 (by decide +kernel) (by decide +kernel)
theorem k_842 : (Cond.instanceMethod ⟨"BlockSearchModel", "look", "(III)V"⟩) ∈ xBig := xm 869 (by decide +kernel) (by decide +kernel)
theorem k_843 : (Cond.code ⟨"BlockSearchModel", "look", "(III)V"⟩ prog_12_method_28_code 9 none) ∈ xBig := xm 870 (by decide +kernel) (by decide +kernel)
theorem k_844 : (Cond.methodLink "BlockSearchModel" 187 ⟨"BlockSearchModel", "set", "(IIZI)V"⟩) ∈ xBig := xm 871 (by decide +kernel) (by decide +kernel)
theorem k_846 : (Cond.instanceMethod ⟨"BlockSearchModel", "set", "(IIZI)V"⟩) ∈ xBig := xm 873 (by decide +kernel) (by decide +kernel)
theorem k_847 : (Cond.code ⟨"BlockSearchModel", "set", "(IIZI)V"⟩ prog_12_method_26_code 5 none) ∈ xBig := xm 874 (by decide +kernel) (by decide +kernel)
theorem k_848 : (Cond.methodLink "BlockSearchModel" 191 ⟨"BlockSearchModel", "nest", "(III)V"⟩) ∈ xBig := xm 875 (by decide +kernel) (by decide +kernel)
theorem k_850 : (Cond.instanceMethod ⟨"BlockSearchModel", "nest", "(III)V"⟩) ∈ xBig := xm 877 (by decide +kernel) (by decide +kernel)
theorem k_851 : (Cond.code ⟨"BlockSearchModel", "nest", "(III)V"⟩ prog_12_method_27_code 10 none) ∈ xBig := xm 878 (by decide +kernel) (by decide +kernel)
theorem k_852 : (Cond.methodLink "BlockSearchModel" 211 ⟨"BlockSearchModel", "rootInSnapshot", "(I)I"⟩) ∈ xBig := xm 879 (by decide +kernel) (by decide +kernel)
theorem k_854 : (Cond.instanceMethod ⟨"BlockSearchModel", "rootInSnapshot", "(I)I"⟩) ∈ xBig := xm 881 (by decide +kernel) (by decide +kernel)
theorem k_855 : (Cond.code ⟨"BlockSearchModel", "rootInSnapshot", "(I)I"⟩ prog_12_method_30_code 4 (some FieldType.int)) ∈ xBig := xm 882 (by decide +kernel) (by decide +kernel)
theorem k_856 : (Cond.methodLink "BlockSearchLaw" 74 ⟨"BlockSearchModel", "hit", "(II)I"⟩) ∈ xBig := xm 883 (by decide +kernel) (by decide +kernel)
theorem k_857 : (Cond.instanceMethod ⟨"BlockSearchModel", "hit", "(II)I"⟩) ∈ xBig := xm 884 (by decide +kernel) (by decide +kernel)
theorem k_858 : (Cond.selects "BlockSearchModel" ⟨"BlockSearchModel", "hit", "(II)I"⟩ ⟨"BlockSearchModel", "hit", "(II)I"⟩) ∈ xBig := xm 885 (by decide +kernel) (by decide +kernel)
theorem k_859 : (Cond.code ⟨"BlockSearchModel", "hit", "(II)I"⟩ prog_12_method_32_code 3 (some FieldType.int)) ∈ xBig := xm 886 (by decide +kernel) (by decide +kernel)
theorem k_860 : (Cond.methodLink "BlockSearchLaw" 78 ⟨"BlockSearchModel", "score", "(I)I"⟩) ∈ xBig := xm 887 (by decide +kernel) (by decide +kernel)
theorem k_861 : (Cond.instanceMethod ⟨"BlockSearchModel", "score", "(I)I"⟩) ∈ xBig := xm 888 (by decide +kernel) (by decide +kernel)
theorem k_862 : (Cond.selects "BlockSearchModel" ⟨"BlockSearchModel", "score", "(I)I"⟩ ⟨"BlockSearchModel", "score", "(I)I"⟩) ∈ xBig := xm 889 (by decide +kernel) (by decide +kernel)
theorem k_863 : (Cond.code ⟨"BlockSearchModel", "score", "(I)I"⟩ prog_12_method_33_code 5 (some FieldType.int)) ∈ xBig := xm 890 (by decide +kernel) (by decide +kernel)
theorem k_864 : (Cond.methodLink "BlockSearchLaw" 82 ⟨"BlockSearchModel", "object", "(III)I"⟩) ∈ xBig := xm 891 (by decide +kernel) (by decide +kernel)
theorem k_865 : (Cond.instanceMethod ⟨"BlockSearchModel", "object", "(III)I"⟩) ∈ xBig := xm 892 (by decide +kernel) (by decide +kernel)
theorem k_866 : (Cond.selects "BlockSearchModel" ⟨"BlockSearchModel", "object", "(III)I"⟩ ⟨"BlockSearchModel", "object", "(III)I"⟩) ∈ xBig := xm 893 (by decide +kernel) (by decide +kernel)
theorem k_867 : (Cond.code ⟨"BlockSearchModel", "object", "(III)I"⟩ prog_12_method_34_code 6 (some FieldType.int)) ∈ xBig := xm 894 (by decide +kernel) (by decide +kernel)
theorem k_868 : (Cond.methodLink "BlockSearchModel" 214 ⟨"BlockSearchModel", "told", "(IIII)I"⟩) ∈ xBig := xm 895 (by decide +kernel) (by decide +kernel)
theorem k_870 : (Cond.instanceMethod ⟨"BlockSearchModel", "told", "(IIII)I"⟩) ∈ xBig := xm 897 (by decide +kernel) (by decide +kernel)
theorem k_871 : (Cond.code ⟨"BlockSearchModel", "told", "(IIII)I"⟩ prog_12_method_36_code 8 (some FieldType.int)) ∈ xBig := xm 898 (by decide +kernel) (by decide +kernel)
theorem k_872 : (Cond.methodLink "BlockSearchModel" 218 ⟨"BlockSearchModel", "isBelow", "(III)Z"⟩) ∈ xBig := xm 899 (by decide +kernel) (by decide +kernel)
theorem k_874 : (Cond.instanceMethod ⟨"BlockSearchModel", "isBelow", "(III)Z"⟩) ∈ xBig := xm 901 (by decide +kernel) (by decide +kernel)
theorem k_875 : (Cond.code ⟨"BlockSearchModel", "isBelow", "(III)Z"⟩ prog_12_method_35_code 5 (some FieldType.boolean)) ∈ xBig := xm 902 (by decide +kernel) (by decide +kernel)
theorem k_876 : (Cond.methodLink "BlockSearchLaw" 86 ⟨"BlockSearchModel", "type", "(II)I"⟩) ∈ xBig := xm 903 (by decide +kernel) (by decide +kernel)
theorem k_877 : (Cond.instanceMethod ⟨"BlockSearchModel", "type", "(II)I"⟩) ∈ xBig := xm 904 (by decide +kernel) (by decide +kernel)
theorem k_878 : (Cond.selects "BlockSearchModel" ⟨"BlockSearchModel", "type", "(II)I"⟩ ⟨"BlockSearchModel", "type", "(II)I"⟩) ∈ xBig := xm 905 (by decide +kernel) (by decide +kernel)
theorem k_879 : (Cond.code ⟨"BlockSearchModel", "type", "(II)I"⟩ prog_12_method_37_code 3 (some FieldType.int)) ∈ xBig := xm 906 (by decide +kernel) (by decide +kernel)
theorem k_880 : (Cond.methodLink "BlockSearchLaw" 90 ⟨"BlockSearchModel", "count", "(I)I"⟩) ∈ xBig := xm 907 (by decide +kernel) (by decide +kernel)
theorem k_881 : (Cond.instanceMethod ⟨"BlockSearchModel", "count", "(I)I"⟩) ∈ xBig := xm 908 (by decide +kernel) (by decide +kernel)
theorem k_882 : (Cond.selects "BlockSearchModel" ⟨"BlockSearchModel", "count", "(I)I"⟩ ⟨"BlockSearchModel", "count", "(I)I"⟩) ∈ xBig := xm 909 (by decide +kernel) (by decide +kernel)
theorem k_883 : (Cond.code ⟨"BlockSearchModel", "count", "(I)I"⟩ prog_12_method_40_code 2 (some FieldType.int)) ∈ xBig := xm 910 (by decide +kernel) (by decide +kernel)
theorem k_884 : (Cond.methodLink "BlockSearchModel" 221 ⟨"BlockSearchModel", "inSegment", "(IZ)I"⟩) ∈ xBig := xm 911 (by decide +kernel) (by decide +kernel)
theorem k_886 : (Cond.instanceMethod ⟨"BlockSearchModel", "inSegment", "(IZ)I"⟩) ∈ xBig := xm 913 (by decide +kernel) (by decide +kernel)
theorem k_887 : (Cond.code ⟨"BlockSearchModel", "inSegment", "(IZ)I"⟩ prog_12_method_38_code 5 (some FieldType.int)) ∈ xBig := xm 914 (by decide +kernel) (by decide +kernel)
theorem k_888 : (Cond.methodLink "BlockSearchModel" 225 ⟨"BlockSearchModel", "counted", "(I)I"⟩) ∈ xBig := xm 915 (by decide +kernel) (by decide +kernel)
theorem k_890 : (Cond.instanceMethod ⟨"BlockSearchModel", "counted", "(I)I"⟩) ∈ xBig := xm 917 (by decide +kernel) (by decide +kernel)
theorem k_891 : (Cond.code ⟨"BlockSearchModel", "counted", "(I)I"⟩ prog_12_method_39_code 5 (some FieldType.int)) ∈ xBig := xm 918 (by decide +kernel) (by decide +kernel)
theorem kp_0 : Cond.selects "BlockSearch$Mapping" ⟨"BlockSearch$Mapping", "fitsTrial", "(LBlockSearch$Node;)Z"⟩ ⟨"BlockSearch$Mapping", "fitsTrial", "(LBlockSearch$Node;)Z"⟩ ∈ xBig := xm 0 (by decide +kernel) (by decide +kernel)
theorem kp_1 : Cond.selects "BlockSearch" ⟨"BlockSearch", "deleteLive", "(I)Z"⟩ ⟨"BlockSearch", "deleteLive", "(I)Z"⟩ ∈ xBig := xm 1 (by decide +kernel) (by decide +kernel)
theorem kp_2 : Cond.selects "BlockSearch$Mapping" ⟨"BlockSearch$Mapping", "learnFrom", "(LBlockSearch$Node;)V"⟩ ⟨"BlockSearch$Mapping", "learnFrom", "(LBlockSearch$Node;)V"⟩ ∈ xBig := xm 2 (by decide +kernel) (by decide +kernel)
theorem kp_3 : Cond.selects "BlockSearch" ⟨"BlockSearch", "mergedRow", "(III)LBlockSearch$DocumentRow;"⟩ ⟨"BlockSearch", "mergedRow", "(III)LBlockSearch$DocumentRow;"⟩ ∈ xBig := xm 3 (by decide +kernel) (by decide +kernel)
theorem kp_4 : Cond.selects "BlockSearch" ⟨"BlockSearch", "moveDown", "(II)V"⟩ ⟨"BlockSearch", "moveDown", "(II)V"⟩ ∈ xBig := xm 4 (by decide +kernel) (by decide +kernel)
theorem kp_5 : Cond.selects "BlockSearch$Scorer" ⟨"BlockSearch$Scorer", "pointsAt", "(LBlockSearch$Query;I[LBlockSearch$Node;I)I"⟩ ⟨"BlockSearch$Scorer", "pointsAt", "(LBlockSearch$Query;I[LBlockSearch$Node;I)I"⟩ ∈ xBig := xm 5 (by decide +kernel) (by decide +kernel)
theorem kp_6 : Cond.selects "BlockSearch$Scorer" ⟨"BlockSearch$Scorer", "nested", "(LBlockSearch$Query;I[LBlockSearch$Node;I)I"⟩ ⟨"BlockSearch$Scorer", "nested", "(LBlockSearch$Query;I[LBlockSearch$Node;I)I"⟩ ∈ xBig := xm 6 (by decide +kernel) (by decide +kernel)
theorem kp_7 : Cond.selects "BlockSearch" ⟨"BlockSearch", "liveInSegments", "()I"⟩ ⟨"BlockSearch", "liveInSegments", "()I"⟩ ∈ xBig := xm 7 (by decide +kernel) (by decide +kernel)
theorem kp_8 : Cond.selects "BlockSearch" ⟨"BlockSearch", "deletedInSegments", "()I"⟩ ⟨"BlockSearch", "deletedInSegments", "()I"⟩ ∈ xBig := xm 8 (by decide +kernel) (by decide +kernel)
theorem kp_9 : Cond.selects "BlockSearch" ⟨"BlockSearch", "segmentFact", "(I)I"⟩ ⟨"BlockSearch", "segmentFact", "(I)I"⟩ ∈ xBig := xm 9 (by decide +kernel) (by decide +kernel)
theorem kp_10 : Cond.selects "BlockSearchModel" ⟨"BlockSearchModel", "conflicts", "()Z"⟩ ⟨"BlockSearchModel", "conflicts", "()Z"⟩ ∈ xBig := xm 10 (by decide +kernel) (by decide +kernel)
theorem kp_11 : Cond.selects "BlockSearchModel" ⟨"BlockSearchModel", "inBuffer", "()I"⟩ ⟨"BlockSearchModel", "inBuffer", "()I"⟩ ∈ xBig := xm 11 (by decide +kernel) (by decide +kernel)
theorem kp_12 : Cond.selects "BlockSearchModel" ⟨"BlockSearchModel", "find", "(I)I"⟩ ⟨"BlockSearchModel", "find", "(I)I"⟩ ∈ xBig := xm 12 (by decide +kernel) (by decide +kernel)
theorem kp_13 : Cond.selects "BlockSearchModel" ⟨"BlockSearchModel", "lay", "(I)V"⟩ ⟨"BlockSearchModel", "lay", "(I)V"⟩ ∈ xBig := xm 13 (by decide +kernel) (by decide +kernel)
theorem kp_14 : Cond.selects "BlockSearchModel" ⟨"BlockSearchModel", "pathOfNext", "()I"⟩ ⟨"BlockSearchModel", "pathOfNext", "()I"⟩ ∈ xBig := xm 14 (by decide +kernel) (by decide +kernel)
theorem kp_15 : Cond.selects "BlockSearchModel" ⟨"BlockSearchModel", "isWhole", "()Z"⟩ ⟨"BlockSearchModel", "isWhole", "()Z"⟩ ∈ xBig := xm 15 (by decide +kernel) (by decide +kernel)
theorem kp_16 : Cond.selects "BlockSearchModel" ⟨"BlockSearchModel", "prepare", "()V"⟩ ⟨"BlockSearchModel", "prepare", "()V"⟩ ∈ xBig := xm 16 (by decide +kernel) (by decide +kernel)
theorem kp_17 : Cond.selects "BlockSearchModel" ⟨"BlockSearchModel", "times", "(III)I"⟩ ⟨"BlockSearchModel", "times", "(III)I"⟩ ∈ xBig := xm 17 (by decide +kernel) (by decide +kernel)
theorem kp_18 : Cond.selects "BlockSearchModel" ⟨"BlockSearchModel", "tried", "(I)Z"⟩ ⟨"BlockSearchModel", "tried", "(I)Z"⟩ ∈ xBig := xm 18 (by decide +kernel) (by decide +kernel)
theorem kp_19 : Cond.selects "BlockSearchModel" ⟨"BlockSearchModel", "look", "(III)V"⟩ ⟨"BlockSearchModel", "look", "(III)V"⟩ ∈ xBig := xm 19 (by decide +kernel) (by decide +kernel)
theorem kp_20 : Cond.selects "BlockSearchModel" ⟨"BlockSearchModel", "set", "(IIZI)V"⟩ ⟨"BlockSearchModel", "set", "(IIZI)V"⟩ ∈ xBig := xm 20 (by decide +kernel) (by decide +kernel)
theorem kp_21 : Cond.selects "BlockSearchModel" ⟨"BlockSearchModel", "nest", "(III)V"⟩ ⟨"BlockSearchModel", "nest", "(III)V"⟩ ∈ xBig := xm 21 (by decide +kernel) (by decide +kernel)
theorem kp_22 : Cond.selects "BlockSearchModel" ⟨"BlockSearchModel", "rootInSnapshot", "(I)I"⟩ ⟨"BlockSearchModel", "rootInSnapshot", "(I)I"⟩ ∈ xBig := xm 22 (by decide +kernel) (by decide +kernel)
theorem kp_23 : Cond.selects "BlockSearchModel" ⟨"BlockSearchModel", "told", "(IIII)I"⟩ ⟨"BlockSearchModel", "told", "(IIII)I"⟩ ∈ xBig := xm 23 (by decide +kernel) (by decide +kernel)
theorem kp_24 : Cond.selects "BlockSearchModel" ⟨"BlockSearchModel", "isBelow", "(III)Z"⟩ ⟨"BlockSearchModel", "isBelow", "(III)Z"⟩ ∈ xBig := xm 24 (by decide +kernel) (by decide +kernel)
theorem kp_25 : Cond.selects "BlockSearchModel" ⟨"BlockSearchModel", "inSegment", "(IZ)I"⟩ ⟨"BlockSearchModel", "inSegment", "(IZ)I"⟩ ∈ xBig := xm 25 (by decide +kernel) (by decide +kernel)
theorem kp_26 : Cond.selects "BlockSearchModel" ⟨"BlockSearchModel", "counted", "(I)I"⟩ ⟨"BlockSearchModel", "counted", "(I)I"⟩ ∈ xBig := xm 26 (by decide +kernel) (by decide +kernel)
end
section
/-! An abstract heap: arrays (number of the type, length, contents) and objects (number of the class, fields). A state: the cells of the one who runs, the cells of the others, the next address, cells and slots that are left. -/
abbrev xA : Type := Nat × Nat × ((Nat → Int32) ⊕ ((Nat → Option Nat) ⊕ (Nat → Int64)))
abbrev xC : Type := xA ⊕ (Nat × List Value)
abbrev xM : Type := Nat → Option xC
abbrev xS : Type := xM × xM × Nat × Nat × Nat
def xE (dA : Nat → ClassId) (c : xC) : va_E := match c with
  | .inl (t, n, .inl f) => .inl (dA t, n, .inl f)
  | .inl (t, n, .inr (.inl f)) => .inl (dA t, n, .inr (.inr (.inr (.inr f))))
  | .inl (t, n, .inr (.inr f)) => .inl (dA t, n, .inr (.inl f))
  | .inr o => .inr o
def xRep (D : va_G) (dA : Nat → ClassId) (base : Nat) (G : xS) (H : Heap) : Prop :=
  H.size = G.2.2.1 ∧ (∀ a c, G.1 a = some c → base ≤ a ∧ va_at D classes (a, xE dA c) H) ∧ (∀ a c, G.2.1 a = some c → base ≤ a ∧ va_at D classes (a, xE dA c) H) ∧ (∀ a, G.1 a = none ∨ G.2.1 a = none)
theorem xRep.put {D : va_G} {dA : Nat → ClassId} {base : Nat} {G : xS} {H H1 : Heap} {a : Nat} {c0 c1 : xC} (h : xRep D dA base G H) (h0 : G.1 a = some c0) (h1 : va_at D classes (a, xE dA c1) H1) (hz : H1.size = H.size) (ho : ∀ q : Nat, q ≠ a → H1[q]? = H[q]?) : xRep D dA base (va_up G.1 a (some c1), G.2) H1 := by
  obtain ⟨z, r1, r2, dj⟩ := h
  refine ⟨hz.trans z, fun b c hb => ?_, fun b c hb => ?_, fun b => ?_⟩
  · by_cases e : b = a
    · subst e
      have hb' : va_up G.1 b (some c1) b = some c := hb
      rw [va_up_self] at hb'
      cases hb'
      exact ⟨(r1 _ _ h0).1, h1⟩
    · have hb' : va_up G.1 a (some c1) b = some c := hb
      rw [va_up_ne _ _ e] at hb'
      exact ⟨(r1 b c hb').1, (r1 b c hb').2.kept (ho b e)⟩
  · have e : b ≠ a := by
      intro e
      subst e
      rcases dj b with q | q
      · rw [h0] at q; cases q
      · have hb' : G.2.1 b = some c := hb
        rw [q] at hb'; cases hb'
    exact ⟨(r2 b c hb).1, (r2 b c hb).2.kept (ho b e)⟩
  · by_cases e : b = a
    · subst e
      rcases dj b with q | q
      · rw [h0] at q; cases q
      · exact Or.inr q
    · rcases dj b with q | q
      · exact Or.inl (by show va_up G.1 a (some c1) b = none; rw [va_up_ne _ _ e]; exact q)
      · exact Or.inr q
theorem xRep.new {D : va_G} {dA : Nat → ClassId} {base : Nat} {G : xS} {H H1 : Heap} {c1 : xC} {cb sb : Nat} (h : xRep D dA base G H) (hb : base ≤ H.size) (h1 : va_at D classes (H.size, xE dA c1) H1) (hz : H1.size = H.size + 1) (ho : ∀ q : Nat, q < H.size → H1[q]? = H[q]?) : xRep D dA base (va_up G.1 G.2.2.1 (some c1), G.2.1, G.2.2.1 + 1, cb, sb) H1 := by
  obtain ⟨z, r1, r2, dj⟩ := h
  rw [z] at h1 hz ho hb
  have l1 : ∀ b c, G.1 b = some c → b < G.2.2.1 := fun b c q => by rw [← z]; exact (r1 b c q).2.lt
  have l2 : ∀ b c, G.2.1 b = some c → b < G.2.2.1 := fun b c q => by rw [← z]; exact (r2 b c q).2.lt
  refine ⟨hz, fun b c hq => ?_, fun b c hq => ?_, fun b => ?_⟩
  · by_cases e : b = G.2.2.1
    · subst e
      have hq' : va_up G.1 G.2.2.1 (some c1) G.2.2.1 = some c := hq
      rw [va_up_self] at hq'
      cases hq'
      exact ⟨hb, h1⟩
    · have hq' : va_up G.1 G.2.2.1 (some c1) b = some c := hq
      rw [va_up_ne _ _ e] at hq'
      exact ⟨(r1 b c hq').1, (r1 b c hq').2.kept (ho b (l1 b c hq'))⟩
  · have hq' : G.2.1 b = some c := hq
    exact ⟨(r2 b c hq').1, (r2 b c hq').2.kept (ho b (l2 b c hq'))⟩
  · by_cases e : b = G.2.2.1
    · subst e
      refine Or.inr ?_
      show G.2.1 G.2.2.1 = none
      cases hc : G.2.1 G.2.2.1 with
      | none => rfl
      | some c => exact absurd (l2 _ _ hc) (Nat.lt_irrefl _)
    · rcases dj b with q | q
      · exact Or.inl (by show va_up G.1 G.2.2.1 (some c1) b = none; rw [va_up_ne _ _ e]; exact q)
      · exact Or.inr q
theorem xRep.swap {D : va_G} {dA : Nat → ClassId} {base : Nat} {m0 m1 : xM} {r : Nat × Nat × Nat} {H : Heap} (h : xRep D dA base (m0, m1, r) H) : xRep D dA base (m1, m0, r) H := ⟨h.1, h.2.2.1, h.2.1, fun a => (h.2.2.2 a).symm⟩
theorem xRep.pay {D : va_G} {dA : Nat → ClassId} {base : Nat} {m0 m1 : xM} {nx cb sb cb' sb' : Nat} {H : Heap} (h : xRep D dA base (m0, m1, nx, cb, sb) H) : xRep D dA base (m0, m1, nx, cb', sb') H := h
theorem xRep.pay' {D : va_G} {dA : Nat → ClassId} {base : Nat} {G : xS} {cb sb : Nat} {H : Heap} (h : xRep D dA base G H) : xRep D dA base (G.1, G.2.1, G.2.2.1, cb, sb) H := h
/-! locals, all of them of one word -/
def xL (ls : Array Slot) (nL : Nat) (lv : List (Nat × Value)) : Prop := lv_has ls nL lv ∧ ∀ q ∈ lv, q.2.category = 1
theorem xL.at {ls : Array Slot} {nL : Nat} {lv : List (Nat × Value)} (h : xL ls nL lv) (k : Nat) {i : Nat} {v : Value} (hk : lv[k]? = some (i, v)) : ls[i]? = some (.val v) := lv_at h.1 k hk
theorem xL.sub {ls : Array Slot} {nL : Nat} {lv lv' : List (Nat × Value)} (h : xL ls nL lv) (ks : List Nat) (hl : lv_pick lv ks = lv') : xL ls nL lv' := by
  refine ⟨lv_sub h.1 ks hl, fun q hq => ?_⟩
  rw [← hl] at hq
  obtain ⟨i, -, hi⟩ := List.mem_filterMap.mp hq
  exact h.2 q (List.mem_of_getElem? hi)
theorem xL.store {ls : Array Slot} {nL : Nat} {lv : List (Nat × Value)} {i : Nat} {v : Value} (h : xL ls nL lv) (hi : i < nL) (hc : v.category = 1) : ∃ ls', storeLocals ls i v = some ls' ∧ xL ls' nL ((i, v) :: lv.filter (fun q => !(q.1 == i))) := by
  obtain ⟨ls', h1, h2⟩ := lv_store1 h.1 hi hc
  refine ⟨ls', h1, ?_, ?_⟩
  · have e : lv.filter (fun q => !(q.1 == i) && !(q.1 + 1 == i && q.2.category == 2)) = lv.filter (fun q => !(q.1 == i)) := by
      apply List.filter_congr
      intro q hq
      have := h.2 q hq
      simp [this]
    rw [e] at h2
    exact h2
  · intro q hq
    rcases List.mem_cons.mp hq with rfl | hq
    · exact hc
    · exact h.2 q (List.mem_filter.mp hq).1
theorem x_cat (r : Option Nat) : (va_rf r).category = 1 := by cases r <;> rfl
theorem x_args : ∀ (vs : List Value) (i : Nat), (∀ v ∈ vs, v.category = 1) → ∀ q ∈ lv_args i vs, q.2.category = 1
  | [], _, _, q, hq => by cases hq
  | v :: vs, i, h, q, hq => by
    rcases List.mem_cons.mp hq with rfl | hq
    · exact h v List.mem_cons_self
    · exact x_args vs _ (fun w hw => h w (List.mem_cons_of_mem _ hw)) q hq
/-! programs: what they do to a state, as what must hold before for something to hold behind -/
def xif (c : Prop) (A B : xS → Prop) (G : xS) : Prop := (c → A G) ∧ (¬ c → B G)
def xgI (ci k : Nat) (r : Option Nat) (K : Int32 → xS → Prop) (G : xS) : Prop := ∃ a fs v, r = some a ∧ G.1 a = some (.inr (ci, fs)) ∧ fs[k]? = some (.int v) ∧ K v G
def xgR (ci k : Nat) (r : Option Nat) (K : Option Nat → xS → Prop) (G : xS) : Prop := ∃ a fs v, r = some a ∧ G.1 a = some (.inr (ci, fs)) ∧ fs[k]? = some (va_rf v) ∧ K v G
def xpI (ci k : Nat) (r : Option Nat) (v : Int32) (K : xS → Prop) (G : xS) : Prop := ∃ a fs, r = some a ∧ G.1 a = some (.inr (ci, fs)) ∧ k < fs.length ∧ K (va_up G.1 a (some (.inr (ci, fs.set k (.int v)))), G.2)
def xpZ (ci k : Nat) (r : Option Nat) (v : Int32) (K : xS → Prop) (G : xS) : Prop := ∃ a fs, r = some a ∧ G.1 a = some (.inr (ci, fs)) ∧ k < fs.length ∧ (v = 0 ∨ v = 1) ∧ K (va_up G.1 a (some (.inr (ci, fs.set k (.int v)))), G.2)
def xpR (ci k : Nat) (r : Option Nat) (v : Option Nat) (K : xS → Prop) (G : xS) : Prop := ∃ a fs, r = some a ∧ G.1 a = some (.inr (ci, fs)) ∧ k < fs.length ∧ K (va_up G.1 a (some (.inr (ci, fs.set k (va_rf v)))), G.2)
def xal (t : Nat) (r : Option Nat) (i : Int32) (K : Int32 → xS → Prop) (G : xS) : Prop := ∃ a n f, r = some a ∧ G.1 a = some (.inl (t, n, .inl f)) ∧ vp_in i n ∧ K (f i.toNatClampNeg) G
def xalR (t : Nat) (r : Option Nat) (i : Int32) (K : Option Nat → xS → Prop) (G : xS) : Prop := ∃ a n f, r = some a ∧ G.1 a = some (.inl (t, n, .inr (.inl f))) ∧ vp_in i n ∧ K (f i.toNatClampNeg) G
def xas (t : Nat) (r : Option Nat) (i v : Int32) (K : xS → Prop) (G : xS) : Prop := ∃ a n f, r = some a ∧ G.1 a = some (.inl (t, n, .inl f)) ∧ vp_in i n ∧ K (va_up G.1 a (some (.inl (t, n, .inl (va_up f i.toNatClampNeg v)))), G.2)
def xasZ (t : Nat) (r : Option Nat) (i v : Int32) (K : xS → Prop) (G : xS) : Prop := ∃ a n f, r = some a ∧ G.1 a = some (.inl (t, n, .inl f)) ∧ vp_in i n ∧ (v = 0 ∨ v = 1) ∧ K (va_up G.1 a (some (.inl (t, n, .inl (va_up f i.toNatClampNeg v)))), G.2)
/-- a reference is stored into an array over the class ci -/
def xasR (t ci : Nat) (r : Option Nat) (i : Int32) (v : Option Nat) (K : xS → Prop) (G : xS) : Prop := ∃ a n f, r = some a ∧ G.1 a = some (.inl (t, n, .inr (.inl f))) ∧ vp_in i n ∧ (∀ b, v = some b → ∃ fs, G.1 b = some (.inr (ci, fs))) ∧ K (va_up G.1 a (some (.inl (t, n, .inr (.inl (va_up f i.toNatClampNeg v))))), G.2)
/-- a row of ints is stored into an array of rows -/
def xasG (t t1 : Nat) (r : Option Nat) (i : Int32) (v : Option Nat) (K : xS → Prop) (G : xS) : Prop := ∃ a n f b n1 f1, r = some a ∧ G.1 a = some (.inl (t, n, .inr (.inl f))) ∧ vp_in i n ∧ v = some b ∧ G.1 b = some (.inl (t1, n1, .inl f1)) ∧ K (va_up G.1 a (some (.inl (t, n, .inr (.inl (va_up f i.toNatClampNeg v))))), G.2)
def xlen (t : Nat) (r : Option Nat) (K : Int32 → xS → Prop) (G : xS) : Prop := ∃ a n x, r = some a ∧ G.1 a = some (.inl (t, n, x)) ∧ K (nI n) G
def xnew (ci N : Nat) (fs : List Value) (K : Nat → xS → Prop) (G : xS) : Prop := 1 ≤ G.2.2.2.1 ∧ N ≤ G.2.2.2.2 ∧ K G.2.2.1 (va_up G.1 G.2.2.1 (some (.inr (ci, fs))), G.2.1, G.2.2.1 + 1, G.2.2.2.1 - 1, G.2.2.2.2 - N)
def xnewI (t : Nat) (n : Int32) (K : Nat → xS → Prop) (G : xS) : Prop := ∃ N : Nat, n = nI N ∧ N ≤ 100000 ∧ 1 ≤ G.2.2.2.1 ∧ N ≤ G.2.2.2.2 ∧ K G.2.2.1 (va_up G.1 G.2.2.1 (some (.inl (t, N, .inl (fun _ => 0)))), G.2.1, G.2.2.1 + 1, G.2.2.2.1 - 1, G.2.2.2.2 - N)
def xnewR (t : Nat) (n : Int32) (K : Nat → xS → Prop) (G : xS) : Prop := ∃ N : Nat, n = nI N ∧ N ≤ 100000 ∧ 1 ≤ G.2.2.2.1 ∧ N ≤ G.2.2.2.2 ∧ K G.2.2.1 (va_up G.1 G.2.2.1 (some (.inl (t, N, .inr (.inl (fun _ => none))))), G.2.1, G.2.2.1 + 1, G.2.2.2.1 - 1, G.2.2.2.2 - N)
def xalL (t : Nat) (r : Option Nat) (i : Int32) (K : Int64 → xS → Prop) (G : xS) : Prop := ∃ a n f, r = some a ∧ G.1 a = some (.inl (t, n, .inr (.inr f))) ∧ vp_in i n ∧ K (f i.toNatClampNeg) G
def xasL (t : Nat) (r : Option Nat) (i : Int32) (v : Int64) (K : xS → Prop) (G : xS) : Prop := ∃ a n f, r = some a ∧ G.1 a = some (.inl (t, n, .inr (.inr f))) ∧ vp_in i n ∧ K (va_up G.1 a (some (.inl (t, n, .inr (.inr (va_up f i.toNatClampNeg v))))), G.2)
def xnewL (t : Nat) (n : Int32) (K : Nat → xS → Prop) (G : xS) : Prop := ∃ N : Nat, n = nI N ∧ N ≤ 100000 ∧ 1 ≤ G.2.2.2.1 ∧ N ≤ G.2.2.2.2 ∧ K G.2.2.1 (va_up G.1 G.2.2.1 (some (.inl (t, N, .inr (.inr (fun _ => 0))))), G.2.1, G.2.2.1 + 1, G.2.2.2.1 - 1, G.2.2.2.2 - N)
/-- new int[n][k]: the rows lie behind -/
def xgrid (m : xM) (t t1 nx N K : Nat) : xM := fun a => if a = nx then some (.inl (t, N, .inr (.inl (fun i => if i < N then some (nx + 1 + i) else none)))) else if nx < a ∧ a < nx + 1 + N then some (.inl (t1, K, .inl (fun _ => 0))) else m a
def xnewG (t t1 : Nat) (n k : Int32) (K : Nat → xS → Prop) (G : xS) : Prop := ∃ N M : Nat, n = nI N ∧ k = nI M ∧ N ≤ 1000 ∧ M ≤ 1000 ∧ 1 + N ≤ G.2.2.2.1 ∧ N + N * M ≤ G.2.2.2.2 ∧ K G.2.2.1 (xgrid G.1 t t1 G.2.2.1 N M, G.2.1, G.2.2.1 + (1 + N), G.2.2.2.1 - (1 + N), G.2.2.2.2 - (N + N * M))
def xdiv (x y : Int32) (K : Int32 → xS → Prop) (G : xS) : Prop := ¬ y = 0 ∧ K (x / y) G
def xnn (r : Option Nat) (A : Nat → xS → Prop) (B : xS → Prop) (G : xS) : Prop := (∀ a, r = some a → A a G) ∧ (r = none → B G)
/-- the object that a method is called on -/
def xob (ci : Nat) (r : Option Nat) (K : Nat → xS → Prop) (G : xS) : Prop := ∃ b fs, r = some b ∧ G.1 b = some (.inr (ci, fs)) ∧ K b G
/-- a call: so many cells and slots are given to it, and paid -/
def xcall {ρ : Type} (mc ms : Nat) (P : (ρ → xS → Prop) → xS → Prop) (K : ρ → xS → Prop) (G : xS) : Prop := mc ≤ G.2.2.2.1 ∧ ms ≤ G.2.2.2.2 ∧ P (fun r G' => K r (G'.1, G'.2.1, G'.2.2.1, G.2.2.2.1 - mc, G.2.2.2.2 - ms)) (G.1, G.2.1, G.2.2.1, mc, ms)
/-- a call of the other one's method -/
def xother {ρ : Type} (mc ms : Nat) (P : (ρ → xS → Prop) → xS → Prop) (K : ρ → xS → Prop) (G : xS) : Prop := mc ≤ G.2.2.2.1 ∧ ms ≤ G.2.2.2.2 ∧ P (fun r G' => K r (G'.2.1, G'.1, G'.2.2.1, G.2.2.2.1 - mc, G.2.2.2.2 - ms)) (G.2.1, G.1, G.2.2.1, mc, ms)
def xrz (v : Int32) (K : Int32 → xS → Prop) (G : xS) : Prop := (v = 0 ∨ v = 1) ∧ K v G
def xtab (n : Nat) (f : Nat → Int32) (i : Int32) (K : Int32 → xS → Prop) (G : xS) : Prop := vp_in i n ∧ K (f i.toNatClampNeg) G
def xcpy (t : Nat) (r0 : Option Nat) (sp : Int32) (r1 : Option Nat) (dp n : Int32) (K : xS → Prop) (G : xS) : Prop := ∃ a0 n0 f0 a1 n1 f1, r0 = some a0 ∧ r1 = some a1 ∧ G.1 a0 = some (.inl (t, n0, .inl f0)) ∧ G.1 a1 = some (.inl (t, n1, .inl f1)) ∧ ¬ a0 = a1 ∧ ¬ sp < 0 ∧ ¬ dp < 0 ∧ ¬ n < 0 ∧ sp.toNatClampNeg + n.toNatClampNeg ≤ n0 ∧ dp.toNatClampNeg + n.toNatClampNeg ≤ n1 ∧ K (va_up G.1 a1 (some (.inl (t, n1, .inl (va_cpy f0 f1 sp.toNatClampNeg dp.toNatClampNeg n.toNatClampNeg)))), G.2)

/-- what the tables say of int[][] -/
def xGrid (dA : Nat → ClassId) (U : State) : Prop := (Cond.arrayOver (.array .int)).before #[] U = true ∧ (∃ kA : Class, U.vm.classes[dA 2]? = some kA ∧ kA.kind = .array (dA 0) (.array .int)) ∧ ∃ (k0 : Class) (comp : ClassId), U.vm.classes[dA 0]? = some k0 ∧ k0.kind = .array comp .int
theorem xGrid.to {dA : Nat → ClassId} {s U : State} (h : xGrid dA s) (hW : s.WarmedH U.vm) : xGrid dA U := by
  have hvm := hW.alike
  obtain ⟨ho, ⟨kA, a1, a2⟩, ⟨k0, comp0, b1, b2⟩⟩ := h
  refine ⟨?_, ?_, ?_⟩
  · obtain ⟨comp, c, k, h1, h2, h3, h4, h5⟩ := arrayOverA_spec ho
    obtain ⟨k', hk', he⟩ := hvm.2.2 _ _ h3
    have hi : (U.vm.classes.findIdx? fun (x : Class) => match x.kind with | .array component _ => component == comp | _ => false) = some c := by
      have hb : U.vm.bare = s.vm.bare := by first | exact hvm.bare_eq | exact hvm.bare_eq.symm
      refine (va_idx_bare U.vm comp).symm.trans ?_
      rw [hb]
      exact (va_idx_bare s.vm comp).trans h2
    have hkind : k'.kind = .array comp (.array .int) := by rw [he]; exact h4
    have f1 : U.vm.findClass (FieldType.array .int).toString = some comp := by rw [hvm.findClass]; exact h1
    have f2 : U.vm.findClass ("[" ++ (FieldType.array .int).toString) = some c := by rw [hvm.findClass]; exact h5
    unfold Cond.before Cond.holds
    simp only [Cond.value]
    rw [f1, Option.bind_some]
    refine (congrArg (fun o : Option Nat => (o.bind (fun c => (U.vm.classes[c]?).map fun (k : Class) => match k.kind with | .array _ ty => decide (ty = FieldType.array .int) && decide (U.vm.findClass ("[" ++ (FieldType.array .int).toString) = some c) | _ => false) == some true)) hi).trans ?_
    simp [hk', hkind, f2]
  · obtain ⟨k', hk', he⟩ := hvm.2.2 _ _ a1
    exact ⟨k', hk', by rw [he]; exact a2⟩
  · obtain ⟨k', hk', he⟩ := hvm.2.2 _ _ b1
    exact ⟨k', comp0, hk', by rw [he]; exact b2⟩
/-- the static array PARENT -/
def xPar (j : Nat) : Int32 := if j = 0 then -1 else if j = 2 then 1 else 0
def xStat (base : Nat) (sa : Nat → Nat) (U : State) : Prop := va_Z "BlockSearch" "PARENT" "[I" (.ref (sa 0)) (fun q : Nat => base ≤ q) U U.heap ∧ va_T .int (sa 0) 4 (fun j => .int (xPar j)) (fun q : Nat => base ≤ q) U U.heap
theorem xStat.to {base : Nat} {sa : Nat → Nat} {s U : State} (h : xStat base sa s) (hW : s.WarmedH U.vm) (hq : ∀ q : Nat, q < s.heap.size → ¬ base ≤ q → U.heap[q]? = s.heap[q]?) : xStat base sa U := ⟨(h.1.moved hW.alike).kept hq, (h.2.moved hW.alike).kept hq⟩
def xKn (D : va_G) (dA : Nat → ClassId) (base : Nat) (sa : Nat → Nat) (U : State) : Prop :=
  va_K D classes (xtysL dA) U ∧ (∀ w ∈ xNestF, va_Nw (.fieldLinkNest w.1 w.2.1 w.2.2.1 w.2.2.2.1 w.2.2.2.2.1 w.2.2.2.2.2) U) ∧ (∀ w ∈ xNestM, va_Nw (.methodLinkNest w.1 w.2.1 w.2.2.1 w.2.2.2) U) ∧ (∀ C ∈ xOver, va_AO C U) ∧ xGrid dA U ∧ xStat base sa U
def xFix (p : Program) (R : Room) (s : State) (m : MethodId) (args : Array Value) (meth : Method) (c : Code) (cc : ByteArray) (nL : Nat) (own : String) (D : va_G) (dA : Nat → ClassId) (base : Nat) (sa : Nat → Nat) : Prop :=
  p.tables.exec = Jvm.exec ∧ c.code = cc ∧ c.maxLocals = nL ∧ s.vm.findClass own = some m.cls ∧ (∀ w ∈ xBig, w.before args s = true) ∧ xKn D dA base sa s ∧ meth.locks = false ∧ base ≤ s.heap.size
/-- the machine at pc, with these locals and this stack, over every heap that holds G, comes to Q -/
def xW (p : Program) (l : Launch) (e : Env) (R : Room) (s : State) (m : MethodId) (args : Array Value) (below : List Frame) (meth : Method) (c : Code) (nL : Nat) (Q : State → Prop) (D : va_G) (dA : Nat → ClassId) (base : Nat) (_sa : Nat → Nat) (pc : Nat) (lv : List (Nat × Value)) (st : List Value) (G : xS) : Prop :=
  ∀ (H : Heap) (locs : List Loc) (cells slots : Nat) (ls : Array Slot), xRep D dA base G H → va_S (fun q : Nat => base ≤ q) s.heap H locs → cells + G.2.2.2.1 ≤ R.cells → slots + G.2.2.2.2 ≤ R.slots → xL ls nL lv → W p l e R s m args below meth c H locs cells slots Q (F0 m pc ls st)

section XR
variable {p : Program} {l : Launch} {e : Env} {R : Room} {s : State} {m : MethodId} {args : Array Value} {below : List Frame} {meth : Method} {c : Code} {nL : Nat} {Q : State → Prop} {D : va_G} {dA : Nat → ClassId} {base : Nat} {sa : Nat → Nat} {cc : ByteArray} {own : String} {pc : Nat} {lv lv' : List (Nat × Value)} {st : List Value} {G : xS}
theorem x_sub (ks : List Nat) (hl : lv_pick lv ks = lv') (kk : xW p l e R s m args below meth c nL Q D dA base sa pc lv' st G) : xW p l e R s m args below meth c nL Q D dA base sa pc lv st G := fun H locs cells slots ls hR hS hc hs hL => kk H locs cells slots ls hR hS hc hs (hL.sub ks hl)
theorem x_iconst (F : xFix p R s m args meth c cc nL own D dA base sa) {n : Int} {v : Int32} (hd : decode cc pc = .ok (.iconst n, 1)) (hv : Int32.ofInt n = v) (kk : xW p l e R s m args below meth c nL Q D dA base sa (pc + 1) lv (.int v :: st) G) : xW p l e R s m args below meth c nL Q D dA base sa pc lv st G := by
  intro H locs cells slots ls hR hS hc hs hL
  exact lv_iconst F.1 F.2.1 hd hv (kk H locs cells slots ls hR hS hc hs hL)
theorem x_bipush (F : xFix p R s m args meth c cc nL own D dA base sa) {n : Int} {v : Int32} (hd : decode cc pc = .ok (.bipush n, 2)) (hv : (Int8.ofInt n).toInt32 = v) (kk : xW p l e R s m args below meth c nL Q D dA base sa (pc + 2) lv (.int v :: st) G) : xW p l e R s m args below meth c nL Q D dA base sa pc lv st G := by
  intro H locs cells slots ls hR hS hc hs hL
  exact lv_bipush F.1 F.2.1 hd hv (kk H locs cells slots ls hR hS hc hs hL)
theorem x_sipush (F : xFix p R s m args meth c cc nL own D dA base sa) {n : Int} {v : Int32} (hd : decode cc pc = .ok (.sipush n, 3)) (hv : (Int16.ofInt n).toInt32 = v) (kk : xW p l e R s m args below meth c nL Q D dA base sa (pc + 3) lv (.int v :: st) G) : xW p l e R s m args below meth c nL Q D dA base sa pc lv st G := by
  intro H locs cells slots ls hR hS hc hs hL
  exact lv_sipush F.1 F.2.1 hd hv (kk H locs cells slots ls hR hS hc hs hL)
theorem x_ldc (F : xFix p R s m args meth c cc nL own D dA base sa) {idx : Nat} {v : Int32} (hw : Cond.constant own idx v ∈ xBig) (hd : decode cc pc = .ok (.ldc idx, 2)) (kk : xW p l e R s m args below meth c nL Q D dA base sa (pc + 2) lv (.int v :: st) G) : xW p l e R s m args below meth c nL Q D dA base sa pc lv st G := by
  intro H locs cells slots ls hR hS hc hs hL
  exact lv_ldc F.1 F.2.1 F.2.2.2.1 (F.2.2.2.2.1 _ hw) hd (kk H locs cells slots ls hR hS hc hs hL)
theorem x_null (F : xFix p R s m args meth c cc nL own D dA base sa) (hd : decode cc pc = .ok (.aconst_null, 1)) (kk : xW p l e R s m args below meth c nL Q D dA base sa (pc + 1) lv (va_rf none :: st) G) : xW p l e R s m args below meth c nL Q D dA base sa pc lv st G := by
  intro H locs cells slots ls hR hS hc hs hL
  exact lv_null F.1 F.2.1 hd (kk H locs cells slots ls hR hS hc hs hL)
theorem x_iload_n (F : xFix p R s m args meth c cc nL own D dA base sa) {k : Fin 4} {i : Nat} (j : Nat) {x : Int32} (hd : decode cc pc = .ok (.iload_n k, 1)) (hi : (k : Nat) = i) (hl : lv[j]? = some (i, .int x)) (kk : xW p l e R s m args below meth c nL Q D dA base sa (pc + 1) lv (.int x :: st) G) : xW p l e R s m args below meth c nL Q D dA base sa pc lv st G := by
  intro H locs cells slots ls hR hS hc hs hL
  exact lv_iload_n F.1 F.2.1 hd hi (hL.at j hl) (kk H locs cells slots ls hR hS hc hs hL)
theorem x_iload (F : xFix p R s m args meth c cc nL own D dA base sa) {i : Nat} (j : Nat) {x : Int32} (hd : decode cc pc = .ok (.iload i, 2)) (hl : lv[j]? = some (i, .int x)) (kk : xW p l e R s m args below meth c nL Q D dA base sa (pc + 2) lv (.int x :: st) G) : xW p l e R s m args below meth c nL Q D dA base sa pc lv st G := by
  intro H locs cells slots ls hR hS hc hs hL
  exact lv_iload F.1 F.2.1 hd (hL.at j hl) (kk H locs cells slots ls hR hS hc hs hL)
theorem x_aload_n (F : xFix p R s m args meth c cc nL own D dA base sa) {k : Fin 4} {i : Nat} (j : Nat) {r : Option Nat} (hd : decode cc pc = .ok (.aload_n k, 1)) (hi : (k : Nat) = i) (hl : lv[j]? = some (i, va_rf r)) (kk : xW p l e R s m args below meth c nL Q D dA base sa (pc + 1) lv (va_rf r :: st) G) : xW p l e R s m args below meth c nL Q D dA base sa pc lv st G := by
  intro H locs cells slots ls hR hS hc hs hL
  cases r with
  | none => exact lv_aload_nN F.1 F.2.1 hd hi (hL.at j hl) (kk H locs cells slots ls hR hS hc hs hL)
  | some a => exact lv_aload_n F.1 F.2.1 hd hi (hL.at j hl) (kk H locs cells slots ls hR hS hc hs hL)
theorem x_aload (F : xFix p R s m args meth c cc nL own D dA base sa) {i : Nat} (j : Nat) {r : Option Nat} (hd : decode cc pc = .ok (.aload i, 2)) (hl : lv[j]? = some (i, va_rf r)) (kk : xW p l e R s m args below meth c nL Q D dA base sa (pc + 2) lv (va_rf r :: st) G) : xW p l e R s m args below meth c nL Q D dA base sa pc lv st G := by
  intro H locs cells slots ls hR hS hc hs hL
  cases r with
  | none => exact lv_aloadN F.1 F.2.1 hd (hL.at j hl) (kk H locs cells slots ls hR hS hc hs hL)
  | some a => exact lv_aload F.1 F.2.1 hd (hL.at j hl) (kk H locs cells slots ls hR hS hc hs hL)
theorem xL.sto {ls ls' : Array Slot} {nL : Nat} {lv : List (Nat × Value)} {i : Nat} {v : Value} (h : xL ls nL lv) (hc : v.category = 1) (h2 : lv_has ls' nL ((i, v) :: lv.filter (fun q => !(q.1 == i) && !(q.1 + 1 == i && q.2.category == 2)))) : xL ls' nL ((i, v) :: lv.filter (fun q => !(q.1 == i))) := by
  have e : lv.filter (fun q => !(q.1 == i) && !(q.1 + 1 == i && q.2.category == 2)) = lv.filter (fun q => !(q.1 == i)) := by
    apply List.filter_congr
    intro q hq
    have := h.2 q hq
    simp [this]
  rw [e] at h2
  refine ⟨h2, fun q hq => ?_⟩
  rcases List.mem_cons.mp hq with rfl | hq
  · exact hc
  · exact h.2 q (List.mem_filter.mp hq).1
theorem x_istore_n (F : xFix p R s m args meth c cc nL own D dA base sa) {k : Fin 4} {i : Nat} {x : Int32} (hd : decode cc pc = .ok (.istore_n k, 1)) (hi : (k : Nat) = i) (hn : i < nL) (hl : (i, Value.int x) :: lv.filter (fun q => !(q.1 == i)) = lv') (kk : xW p l e R s m args below meth c nL Q D dA base sa (pc + 1) lv' st G) : xW p l e R s m args below meth c nL Q D dA base sa pc lv (.int x :: st) G := by
  intro H locs cells slots ls hR hS hc hs hL
  subst hl
  exact lv_istore_n F.1 F.2.1 hd hi hL.1 hn rfl (fun ls' h' => kk H locs cells slots ls' hR hS hc hs (hL.sto rfl h'))
theorem x_istore (F : xFix p R s m args meth c cc nL own D dA base sa) {i : Nat} {x : Int32} (hd : decode cc pc = .ok (.istore i, 2)) (hn : i < nL) (hl : (i, Value.int x) :: lv.filter (fun q => !(q.1 == i)) = lv') (kk : xW p l e R s m args below meth c nL Q D dA base sa (pc + 2) lv' st G) : xW p l e R s m args below meth c nL Q D dA base sa pc lv (.int x :: st) G := by
  intro H locs cells slots ls hR hS hc hs hL
  subst hl
  exact lv_istore F.1 F.2.1 hd hL.1 hn rfl (fun ls' h' => kk H locs cells slots ls' hR hS hc hs (hL.sto rfl h'))
theorem x_astore_n (F : xFix p R s m args meth c cc nL own D dA base sa) {k : Fin 4} {i : Nat} {r : Option Nat} (hd : decode cc pc = .ok (.astore_n k, 1)) (hi : (k : Nat) = i) (hn : i < nL) (hl : (i, va_rf r) :: lv.filter (fun q => !(q.1 == i)) = lv') (kk : xW p l e R s m args below meth c nL Q D dA base sa (pc + 1) lv' st G) : xW p l e R s m args below meth c nL Q D dA base sa pc lv (va_rf r :: st) G := by
  intro H locs cells slots ls hR hS hc hs hL
  subst hl
  cases r with
  | none => exact lv_astore_nN F.1 F.2.1 hd hi hL.1 hn rfl (fun ls' h' => kk H locs cells slots ls' hR hS hc hs (hL.sto rfl h'))
  | some a => exact lv_astore_n F.1 F.2.1 hd hi hL.1 hn rfl (fun ls' h' => kk H locs cells slots ls' hR hS hc hs (hL.sto rfl h'))
theorem x_astore (F : xFix p R s m args meth c cc nL own D dA base sa) {i : Nat} {r : Option Nat} (hd : decode cc pc = .ok (.astore i, 2)) (hn : i < nL) (hl : (i, va_rf r) :: lv.filter (fun q => !(q.1 == i)) = lv') (kk : xW p l e R s m args below meth c nL Q D dA base sa (pc + 2) lv' st G) : xW p l e R s m args below meth c nL Q D dA base sa pc lv (va_rf r :: st) G := by
  intro H locs cells slots ls hR hS hc hs hL
  subst hl
  cases r with
  | none => exact lv_astoreN F.1 F.2.1 hd hL.1 hn rfl (fun ls' h' => kk H locs cells slots ls' hR hS hc hs (hL.sto rfl h'))
  | some a => exact lv_astore F.1 F.2.1 hd hL.1 hn rfl (fun ls' h' => kk H locs cells slots ls' hR hS hc hs (hL.sto rfl h'))
theorem x_iinc (F : xFix p R s m args meth c cc nL own D dA base sa) {i : Nat} (k : Nat) {n : Int} {x v : Int32} (hd : decode cc pc = .ok (.iinc i n, 3)) (hk : lv[k]? = some (i, .int x)) (hv : x + Int32.ofInt n = v) (hn : i < nL) (hl : (i, Value.int v) :: lv.filter (fun q => !(q.1 == i)) = lv') (kk : xW p l e R s m args below meth c nL Q D dA base sa (pc + 3) lv' st G) : xW p l e R s m args below meth c nL Q D dA base sa pc lv st G := by
  intro H locs cells slots ls hR hS hc hs hL
  subst hl
  exact lv_iinc F.1 F.2.1 hd hL.1 hk hv hn rfl (fun ls' h' => kk H locs cells slots ls' hR hS hc hs (hL.sto rfl h'))
theorem x_iadd (F : xFix p R s m args meth c cc nL own D dA base sa) {x y : Int32} (hd : decode cc pc = .ok (.iadd, 1)) (kk : xW p l e R s m args below meth c nL Q D dA base sa (pc + 1) lv (.int (x + y) :: st) G) : xW p l e R s m args below meth c nL Q D dA base sa pc lv (.int y :: .int x :: st) G := by
  intro H locs cells slots ls hR hS hc hs hL
  exact lv_iadd F.1 F.2.1 hd (kk H locs cells slots ls hR hS hc hs hL)
theorem x_isub (F : xFix p R s m args meth c cc nL own D dA base sa) {x y : Int32} (hd : decode cc pc = .ok (.isub, 1)) (kk : xW p l e R s m args below meth c nL Q D dA base sa (pc + 1) lv (.int (x - y) :: st) G) : xW p l e R s m args below meth c nL Q D dA base sa pc lv (.int y :: .int x :: st) G := by
  intro H locs cells slots ls hR hS hc hs hL
  exact lv_isub F.1 F.2.1 hd (kk H locs cells slots ls hR hS hc hs hL)
theorem x_imul (F : xFix p R s m args meth c cc nL own D dA base sa) {x y : Int32} (hd : decode cc pc = .ok (.imul, 1)) (kk : xW p l e R s m args below meth c nL Q D dA base sa (pc + 1) lv (.int (x * y) :: st) G) : xW p l e R s m args below meth c nL Q D dA base sa pc lv (.int y :: .int x :: st) G := by
  intro H locs cells slots ls hR hS hc hs hL
  exact lv_imul F.1 F.2.1 hd (kk H locs cells slots ls hR hS hc hs hL)
theorem x_iand (F : xFix p R s m args meth c cc nL own D dA base sa) {x y : Int32} (hd : decode cc pc = .ok (.iand, 1)) (kk : xW p l e R s m args below meth c nL Q D dA base sa (pc + 1) lv (.int (x &&& y) :: st) G) : xW p l e R s m args below meth c nL Q D dA base sa pc lv (.int y :: .int x :: st) G := by
  intro H locs cells slots ls hR hS hc hs hL
  exact lv_iand F.1 F.2.1 hd (kk H locs cells slots ls hR hS hc hs hL)
theorem x_ior (F : xFix p R s m args meth c cc nL own D dA base sa) {x y : Int32} (hd : decode cc pc = .ok (.ior, 1)) (kk : xW p l e R s m args below meth c nL Q D dA base sa (pc + 1) lv (.int (x ||| y) :: st) G) : xW p l e R s m args below meth c nL Q D dA base sa pc lv (.int y :: .int x :: st) G := by
  intro H locs cells slots ls hR hS hc hs hL
  exact lv_ior F.1 F.2.1 hd (kk H locs cells slots ls hR hS hc hs hL)
theorem x_ineg (F : xFix p R s m args meth c cc nL own D dA base sa) {x : Int32} (hd : decode cc pc = .ok (.ineg, 1)) (kk : xW p l e R s m args below meth c nL Q D dA base sa (pc + 1) lv (.int (-x) :: st) G) : xW p l e R s m args below meth c nL Q D dA base sa pc lv (.int x :: st) G := by
  intro H locs cells slots ls hR hS hc hs hL
  exact lv_ineg F.1 F.2.1 hd (kk H locs cells slots ls hR hS hc hs hL)
theorem x_idiv (F : xFix p R s m args meth c cc nL own D dA base sa) {x y : Int32} {K : Int32 → xS → Prop} (hd : decode cc pc = .ok (.idiv, 1)) (h : xdiv x y K G) (kk : K (x / y) G → xW p l e R s m args below meth c nL Q D dA base sa (pc + 1) lv (.int (x / y) :: st) G) : xW p l e R s m args below meth c nL Q D dA base sa pc lv (.int y :: .int x :: st) G := by
  intro H locs cells slots ls hR hS hc hs hL
  exact lv_idiv F.1 F.2.1 hd h.1 (kk h.2 H locs cells slots ls hR hS hc hs hL)
theorem x_dup (F : xFix p R s m args meth c cc nL own D dA base sa) {v : Value} (hv : v.category = 1) (hd : decode cc pc = .ok (.dup, 1)) (kk : xW p l e R s m args below meth c nL Q D dA base sa (pc + 1) lv (v :: v :: st) G) : xW p l e R s m args below meth c nL Q D dA base sa pc lv (v :: st) G := by
  intro H locs cells slots ls hR hS hc hs hL
  exact lv_dup F.1 F.2.1 hd hv (kk H locs cells slots ls hR hS hc hs hL)
theorem x_pop (F : xFix p R s m args meth c cc nL own D dA base sa) {v : Value} (hv : v.category = 1) (hd : decode cc pc = .ok (.pop, 1)) (kk : xW p l e R s m args below meth c nL Q D dA base sa (pc + 1) lv st G) : xW p l e R s m args below meth c nL Q D dA base sa pc lv (v :: st) G := by
  intro H locs cells slots ls hR hS hc hs hL
  exact lv_pop F.1 F.2.1 hd hv (kk H locs cells slots ls hR hS hc hs hL)
theorem x_dup_x1 (F : xFix p R s m args meth c cc nL own D dA base sa) {v u : Value} (hv : v.category = 1) (hu : u.category = 1) (hd : decode cc pc = .ok (.dup_x1, 1)) (kk : xW p l e R s m args below meth c nL Q D dA base sa (pc + 1) lv (v :: u :: v :: st) G) : xW p l e R s m args below meth c nL Q D dA base sa pc lv (v :: u :: st) G := by
  intro H locs cells slots ls hR hS hc hs hL
  exact lv_dup_x1 F.1 F.2.1 hd hv hu (kk H locs cells slots ls hR hS hc hs hL)
theorem x_dup_x2 (F : xFix p R s m args meth c cc nL own D dA base sa) {v u t : Value} (hv : v.category = 1) (hu : u.category = 1) (ht : t.category = 1) (hd : decode cc pc = .ok (.dup_x2, 1)) (kk : xW p l e R s m args below meth c nL Q D dA base sa (pc + 1) lv (v :: u :: t :: v :: st) G) : xW p l e R s m args below meth c nL Q D dA base sa pc lv (v :: u :: t :: st) G := by
  intro H locs cells slots ls hR hS hc hs hL
  exact lv_dup_x2 F.1 F.2.1 hd hv hu ht (kk H locs cells slots ls hR hS hc hs hL)
theorem x_dup2 (F : xFix p R s m args meth c cc nL own D dA base sa) {v u : Value} (hv : v.category = 1) (hu : u.category = 1) (hd : decode cc pc = .ok (.dup2, 1)) (kk : xW p l e R s m args below meth c nL Q D dA base sa (pc + 1) lv (v :: u :: v :: u :: st) G) : xW p l e R s m args below meth c nL Q D dA base sa pc lv (v :: u :: st) G := by
  intro H locs cells slots ls hR hS hc hs hL
  exact lv_dup2_11 F.1 F.2.1 hd hv hu (kk H locs cells slots ls hR hS hc hs hL)
theorem x_if_eq (F : xFix p R s m args meth c cc nL own D dA base sa) {x : Int32} {A B : xS → Prop} {off : Int} {tgt : Nat} (hd : decode cc pc = .ok (.ifCond .eq off, 3)) (ht : (pc : Int) + off = (tgt : Int)) (h : xif (x = 0) A B G) (kt : x = 0 → A G → xW p l e R s m args below meth c nL Q D dA base sa tgt lv st G) (kf : ¬ x = 0 → B G → xW p l e R s m args below meth c nL Q D dA base sa (pc + 3) lv st G) : xW p l e R s m args below meth c nL Q D dA base sa pc lv (.int x :: st) G := by
  intro H locs cells slots ls hR hS hc hs hL
  exact lv_if_eq F.1 F.2.1 hd ht (fun q => kt q (h.1 q) H locs cells slots ls hR hS hc hs hL) (fun q => kf q (h.2 q) H locs cells slots ls hR hS hc hs hL)
theorem x_if_ne (F : xFix p R s m args meth c cc nL own D dA base sa) {x : Int32} {A B : xS → Prop} {off : Int} {tgt : Nat} (hd : decode cc pc = .ok (.ifCond .ne off, 3)) (ht : (pc : Int) + off = (tgt : Int)) (h : xif (x = 0) A B G) (kt : ¬ x = 0 → B G → xW p l e R s m args below meth c nL Q D dA base sa tgt lv st G) (kf : x = 0 → A G → xW p l e R s m args below meth c nL Q D dA base sa (pc + 3) lv st G) : xW p l e R s m args below meth c nL Q D dA base sa pc lv (.int x :: st) G := by
  intro H locs cells slots ls hR hS hc hs hL
  exact lv_if_ne F.1 F.2.1 hd ht (fun q => kt q (h.2 q) H locs cells slots ls hR hS hc hs hL) (fun q => kf q (h.1 q) H locs cells slots ls hR hS hc hs hL)
theorem x_if_lt (F : xFix p R s m args meth c cc nL own D dA base sa) {x : Int32} {A B : xS → Prop} {off : Int} {tgt : Nat} (hd : decode cc pc = .ok (.ifCond .lt off, 3)) (ht : (pc : Int) + off = (tgt : Int)) (h : xif (x < 0) A B G) (kt : x < 0 → A G → xW p l e R s m args below meth c nL Q D dA base sa tgt lv st G) (kf : ¬ x < 0 → B G → xW p l e R s m args below meth c nL Q D dA base sa (pc + 3) lv st G) : xW p l e R s m args below meth c nL Q D dA base sa pc lv (.int x :: st) G := by
  intro H locs cells slots ls hR hS hc hs hL
  exact lv_if_lt F.1 F.2.1 hd ht (fun q => kt q (h.1 q) H locs cells slots ls hR hS hc hs hL) (fun q => kf q (h.2 q) H locs cells slots ls hR hS hc hs hL)
theorem x_if_ge (F : xFix p R s m args meth c cc nL own D dA base sa) {x : Int32} {A B : xS → Prop} {off : Int} {tgt : Nat} (hd : decode cc pc = .ok (.ifCond .ge off, 3)) (ht : (pc : Int) + off = (tgt : Int)) (h : xif (0 ≤ x) A B G) (kt : 0 ≤ x → A G → xW p l e R s m args below meth c nL Q D dA base sa tgt lv st G) (kf : ¬ 0 ≤ x → B G → xW p l e R s m args below meth c nL Q D dA base sa (pc + 3) lv st G) : xW p l e R s m args below meth c nL Q D dA base sa pc lv (.int x :: st) G := by
  intro H locs cells slots ls hR hS hc hs hL
  exact lv_if_ge F.1 F.2.1 hd ht (fun q => kt q (h.1 q) H locs cells slots ls hR hS hc hs hL) (fun q => kf q (h.2 q) H locs cells slots ls hR hS hc hs hL)
theorem x_if_gt (F : xFix p R s m args meth c cc nL own D dA base sa) {x : Int32} {A B : xS → Prop} {off : Int} {tgt : Nat} (hd : decode cc pc = .ok (.ifCond .gt off, 3)) (ht : (pc : Int) + off = (tgt : Int)) (h : xif (0 < x) A B G) (kt : 0 < x → A G → xW p l e R s m args below meth c nL Q D dA base sa tgt lv st G) (kf : ¬ 0 < x → B G → xW p l e R s m args below meth c nL Q D dA base sa (pc + 3) lv st G) : xW p l e R s m args below meth c nL Q D dA base sa pc lv (.int x :: st) G := by
  intro H locs cells slots ls hR hS hc hs hL
  exact lv_if_gt F.1 F.2.1 hd ht (fun q => kt q (h.1 q) H locs cells slots ls hR hS hc hs hL) (fun q => kf q (h.2 q) H locs cells slots ls hR hS hc hs hL)
theorem x_if_le (F : xFix p R s m args meth c cc nL own D dA base sa) {x : Int32} {A B : xS → Prop} {off : Int} {tgt : Nat} (hd : decode cc pc = .ok (.ifCond .le off, 3)) (ht : (pc : Int) + off = (tgt : Int)) (h : xif (x ≤ 0) A B G) (kt : x ≤ 0 → A G → xW p l e R s m args below meth c nL Q D dA base sa tgt lv st G) (kf : ¬ x ≤ 0 → B G → xW p l e R s m args below meth c nL Q D dA base sa (pc + 3) lv st G) : xW p l e R s m args below meth c nL Q D dA base sa pc lv (.int x :: st) G := by
  intro H locs cells slots ls hR hS hc hs hL
  exact lv_if_le F.1 F.2.1 hd ht (fun q => kt q (h.1 q) H locs cells slots ls hR hS hc hs hL) (fun q => kf q (h.2 q) H locs cells slots ls hR hS hc hs hL)
theorem x_icmp_eq (F : xFix p R s m args meth c cc nL own D dA base sa) {x y : Int32} {A B : xS → Prop} {off : Int} {tgt : Nat} (hd : decode cc pc = .ok (.if_icmp .eq off, 3)) (ht : (pc : Int) + off = (tgt : Int)) (h : xif (x = y) A B G) (kt : x = y → A G → xW p l e R s m args below meth c nL Q D dA base sa tgt lv st G) (kf : ¬ x = y → B G → xW p l e R s m args below meth c nL Q D dA base sa (pc + 3) lv st G) : xW p l e R s m args below meth c nL Q D dA base sa pc lv (.int y :: .int x :: st) G := by
  intro H locs cells slots ls hR hS hc hs hL
  exact lv_icmp_eq F.1 F.2.1 hd ht (fun q => kt q (h.1 q) H locs cells slots ls hR hS hc hs hL) (fun q => kf q (h.2 q) H locs cells slots ls hR hS hc hs hL)
theorem x_icmp_ne (F : xFix p R s m args meth c cc nL own D dA base sa) {x y : Int32} {A B : xS → Prop} {off : Int} {tgt : Nat} (hd : decode cc pc = .ok (.if_icmp .ne off, 3)) (ht : (pc : Int) + off = (tgt : Int)) (h : xif (x = y) A B G) (kt : ¬ x = y → B G → xW p l e R s m args below meth c nL Q D dA base sa tgt lv st G) (kf : x = y → A G → xW p l e R s m args below meth c nL Q D dA base sa (pc + 3) lv st G) : xW p l e R s m args below meth c nL Q D dA base sa pc lv (.int y :: .int x :: st) G := by
  intro H locs cells slots ls hR hS hc hs hL
  exact lv_icmp_ne F.1 F.2.1 hd ht (fun q => kt q (h.2 q) H locs cells slots ls hR hS hc hs hL) (fun q => kf q (h.1 q) H locs cells slots ls hR hS hc hs hL)
theorem x_icmp_lt (F : xFix p R s m args meth c cc nL own D dA base sa) {x y : Int32} {A B : xS → Prop} {off : Int} {tgt : Nat} (hd : decode cc pc = .ok (.if_icmp .lt off, 3)) (ht : (pc : Int) + off = (tgt : Int)) (h : xif (x < y) A B G) (kt : x < y → A G → xW p l e R s m args below meth c nL Q D dA base sa tgt lv st G) (kf : ¬ x < y → B G → xW p l e R s m args below meth c nL Q D dA base sa (pc + 3) lv st G) : xW p l e R s m args below meth c nL Q D dA base sa pc lv (.int y :: .int x :: st) G := by
  intro H locs cells slots ls hR hS hc hs hL
  exact lv_icmp_lt F.1 F.2.1 hd ht (fun q => kt q (h.1 q) H locs cells slots ls hR hS hc hs hL) (fun q => kf q (h.2 q) H locs cells slots ls hR hS hc hs hL)
theorem x_icmp_ge (F : xFix p R s m args meth c cc nL own D dA base sa) {x y : Int32} {A B : xS → Prop} {off : Int} {tgt : Nat} (hd : decode cc pc = .ok (.if_icmp .ge off, 3)) (ht : (pc : Int) + off = (tgt : Int)) (h : xif (y ≤ x) A B G) (kt : y ≤ x → A G → xW p l e R s m args below meth c nL Q D dA base sa tgt lv st G) (kf : ¬ y ≤ x → B G → xW p l e R s m args below meth c nL Q D dA base sa (pc + 3) lv st G) : xW p l e R s m args below meth c nL Q D dA base sa pc lv (.int y :: .int x :: st) G := by
  intro H locs cells slots ls hR hS hc hs hL
  exact lv_icmp_ge F.1 F.2.1 hd ht (fun q => kt q (h.1 q) H locs cells slots ls hR hS hc hs hL) (fun q => kf q (h.2 q) H locs cells slots ls hR hS hc hs hL)
theorem x_icmp_gt (F : xFix p R s m args meth c cc nL own D dA base sa) {x y : Int32} {A B : xS → Prop} {off : Int} {tgt : Nat} (hd : decode cc pc = .ok (.if_icmp .gt off, 3)) (ht : (pc : Int) + off = (tgt : Int)) (h : xif (y < x) A B G) (kt : y < x → A G → xW p l e R s m args below meth c nL Q D dA base sa tgt lv st G) (kf : ¬ y < x → B G → xW p l e R s m args below meth c nL Q D dA base sa (pc + 3) lv st G) : xW p l e R s m args below meth c nL Q D dA base sa pc lv (.int y :: .int x :: st) G := by
  intro H locs cells slots ls hR hS hc hs hL
  exact lv_icmp_gt F.1 F.2.1 hd ht (fun q => kt q (h.1 q) H locs cells slots ls hR hS hc hs hL) (fun q => kf q (h.2 q) H locs cells slots ls hR hS hc hs hL)
theorem x_icmp_le (F : xFix p R s m args meth c cc nL own D dA base sa) {x y : Int32} {A B : xS → Prop} {off : Int} {tgt : Nat} (hd : decode cc pc = .ok (.if_icmp .le off, 3)) (ht : (pc : Int) + off = (tgt : Int)) (h : xif (x ≤ y) A B G) (kt : x ≤ y → A G → xW p l e R s m args below meth c nL Q D dA base sa tgt lv st G) (kf : ¬ x ≤ y → B G → xW p l e R s m args below meth c nL Q D dA base sa (pc + 3) lv st G) : xW p l e R s m args below meth c nL Q D dA base sa pc lv (.int y :: .int x :: st) G := by
  intro H locs cells slots ls hR hS hc hs hL
  exact lv_icmp_le F.1 F.2.1 hd ht (fun q => kt q (h.1 q) H locs cells slots ls hR hS hc hs hL) (fun q => kf q (h.2 q) H locs cells slots ls hR hS hc hs hL)
theorem x_acmp_eq (F : xFix p R s m args meth c cc nL own D dA base sa) {rx ry : Option Nat} {A B : xS → Prop} {off : Int} {tgt : Nat} (hd : decode cc pc = .ok (.if_acmp .eq off, 3)) (ht : (pc : Int) + off = (tgt : Int)) (h : xif (rx = ry) A B G) (kt : rx = ry → A G → xW p l e R s m args below meth c nL Q D dA base sa tgt lv st G) (kf : ¬ rx = ry → B G → xW p l e R s m args below meth c nL Q D dA base sa (pc + 3) lv st G) : xW p l e R s m args below meth c nL Q D dA base sa pc lv (va_rf ry :: va_rf rx :: st) G := by
  intro H locs cells slots ls hR hS hc hs hL
  exact lv_acmp_eq F.1 F.2.1 hd ht (fun q => kt q (h.1 q) H locs cells slots ls hR hS hc hs hL) (fun q => kf q (h.2 q) H locs cells slots ls hR hS hc hs hL)
theorem x_acmp_ne (F : xFix p R s m args meth c cc nL own D dA base sa) {rx ry : Option Nat} {A B : xS → Prop} {off : Int} {tgt : Nat} (hd : decode cc pc = .ok (.if_acmp .ne off, 3)) (ht : (pc : Int) + off = (tgt : Int)) (h : xif (rx = ry) A B G) (kt : ¬ rx = ry → B G → xW p l e R s m args below meth c nL Q D dA base sa tgt lv st G) (kf : rx = ry → A G → xW p l e R s m args below meth c nL Q D dA base sa (pc + 3) lv st G) : xW p l e R s m args below meth c nL Q D dA base sa pc lv (va_rf ry :: va_rf rx :: st) G := by
  intro H locs cells slots ls hR hS hc hs hL
  exact lv_acmp_ne F.1 F.2.1 hd ht (fun q => kt q (h.2 q) H locs cells slots ls hR hS hc hs hL) (fun q => kf q (h.1 q) H locs cells slots ls hR hS hc hs hL)
theorem x_ifnull (F : xFix p R s m args meth c cc nL own D dA base sa) {r : Option Nat} {A : Nat → xS → Prop} {B : xS → Prop} {off : Int} {tgt : Nat} (hd : decode cc pc = .ok (.ifnull off, 3)) (ht : (pc : Int) + off = (tgt : Int)) (h : xnn r A B G) (kt : r = none → B G → xW p l e R s m args below meth c nL Q D dA base sa tgt lv st G) (kf : ∀ a, r = some a → A a G → xW p l e R s m args below meth c nL Q D dA base sa (pc + 3) lv st G) : xW p l e R s m args below meth c nL Q D dA base sa pc lv (va_rf r :: st) G := by
  intro H locs cells slots ls hR hS hc hs hL
  cases r with
  | none => exact lv_ifnullN F.1 F.2.1 hd ht (kt rfl (h.2 rfl) H locs cells slots ls hR hS hc hs hL)
  | some a => exact lv_ifnull F.1 F.2.1 hd (kf a rfl (h.1 a rfl) H locs cells slots ls hR hS hc hs hL)
theorem x_ifnonnull (F : xFix p R s m args meth c cc nL own D dA base sa) {r : Option Nat} {A : Nat → xS → Prop} {B : xS → Prop} {off : Int} {tgt : Nat} (hd : decode cc pc = .ok (.ifnonnull off, 3)) (ht : (pc : Int) + off = (tgt : Int)) (h : xnn r A B G) (kt : ∀ a, r = some a → A a G → xW p l e R s m args below meth c nL Q D dA base sa tgt lv st G) (kf : r = none → B G → xW p l e R s m args below meth c nL Q D dA base sa (pc + 3) lv st G) : xW p l e R s m args below meth c nL Q D dA base sa pc lv (va_rf r :: st) G := by
  intro H locs cells slots ls hR hS hc hs hL
  cases r with
  | none => exact lv_ifnonnullN F.1 F.2.1 hd (kf rfl (h.2 rfl) H locs cells slots ls hR hS hc hs hL)
  | some a => exact lv_ifnonnull F.1 F.2.1 hd ht (kt a rfl (h.1 a rfl) H locs cells slots ls hR hS hc hs hL)
theorem x_goto (F : xFix p R s m args meth c cc nL own D dA base sa) {off : Int} {tgt : Nat} (hd : decode cc pc = .ok (.goto off, 3)) (ht : (pc : Int) + off = (tgt : Int)) (kk : xW p l e R s m args below meth c nL Q D dA base sa tgt lv st G) : xW p l e R s m args below meth c nL Q D dA base sa pc lv st G := by
  intro H locs cells slots ls hR hS hc hs hL
  exact lv_goto F.1 F.2.1 hd ht (kk H locs cells slots ls hR hS hc hs hL)
theorem x_tabIn (F : xFix p R s m args meth c cc nL own D dA base sa) {dflt lo hi : Int} {offs : Array Int} {len : Nat} {x k : Int32} {off : Int} {tgt : Nat} (hd : decode cc pc = .ok (.tableswitch dflt lo hi offs, len)) (hx : x = k) (h1 : ¬ k.toInt < lo) (h2 : ¬ hi < k.toInt) (ho : offs[(k.toInt - lo).toNat]? = some off) (ht : (pc : Int) + off = (tgt : Int)) (kk : xW p l e R s m args below meth c nL Q D dA base sa tgt lv st G) : xW p l e R s m args below meth c nL Q D dA base sa pc lv (.int x :: st) G := by
  subst hx
  intro H locs cells slots ls hR hS hc hs hL
  exact lv_tableIn F.1 F.2.1 hd h1 h2 ho ht (kk H locs cells slots ls hR hS hc hs hL)
theorem x_tabOut (F : xFix p R s m args meth c cc nL own D dA base sa) {dflt lo hi : Int} {offs : Array Int} {len : Nat} {x : Int32} {tgt : Nat} (hd : decode cc pc = .ok (.tableswitch dflt lo hi offs, len)) (h : x.toInt < lo ∨ hi < x.toInt) (ht : (pc : Int) + dflt = (tgt : Int)) (kk : xW p l e R s m args below meth c nL Q D dA base sa tgt lv st G) : xW p l e R s m args below meth c nL Q D dA base sa pc lv (.int x :: st) G := by
  intro H locs cells slots ls hR hS hc hs hL
  exact lv_tableOut F.1 F.2.1 hd h ht (kk H locs cells slots ls hR hS hc hs hL)
theorem x_look (F : xFix p R s m args meth c cc nL own D dA base sa) {dflt : Int} {ps : Array (Int × Int)} {len : Nat} {x : Int32} {off : Int} {tgt : Nat} (hd : decode cc pc = .ok (.lookupswitch dflt ps, len)) (hp : (ps.toList.zip (ps.toList.drop 1)).all (fun (a, next) => a.1 < next.1) = true) (ho : Op.lookupswitch.offset ps.toList dflt x.toInt = off) (ht : (pc : Int) + off = (tgt : Int)) (kk : xW p l e R s m args below meth c nL Q D dA base sa tgt lv st G) : xW p l e R s m args below meth c nL Q D dA base sa pc lv (.int x :: st) G := by
  intro H locs cells slots ls hR hS hc hs hL
  exact lv_lookup F.1 F.2.1 hd hp ho ht (kk H locs cells slots ls hR hS hc hs hL)
theorem xRep.one {D : va_G} {dA : Nat → ClassId} {base : Nat} {G : xS} {H : Heap} {a : Nat} {c : xC} (h : xRep D dA base G H) (h0 : G.1 a = some c) : va_P D classes [(a, xE dA c)] H := by
  intro k q hk
  match k, hk with
  | 0, hk => cases hk; exact (h.2.1 a c h0).2
  | k + 1, hk => simp at hk
theorem x_getI (F : xFix p R s m args meth c cc nL own D dA base sa) {ci k idx N : Nat} {C ref : String} {T : u_T} (hcl : classes[ci]? = some (C, T, N)) (hin : ∀ w ∈ u_ws C T N, w ∈ xBig) (hk : k < N) (hw : Cond.fieldLink own idx ref (T k).2.1 (T k).2.2.1 ∈ xBig) (hsm : (T k).1 = ref) {r : Option Nat} {K : Int32 → xS → Prop} (hd : decode cc pc = .ok (.getfield idx, 3)) (h : xgI ci k r K G) (kk : ∀ v, K v G → xW p l e R s m args below meth c nL Q D dA base sa (pc + 3) lv (.int v :: st) G) : xW p l e R s m args below meth c nL Q D dA base sa pc lv (va_rf r :: st) G := by
  intro H locs cells slots ls hR hS hc hs hL
  obtain ⟨a, fs, v, rfl, hG, hv, hK⟩ := h
  exact va_get F.1 F.2.1 F.2.2.2.2.1 hin F.2.2.2.1 F.2.2.2.2.2.1.1 (hR.one hG) 0 rfl hcl k hk (F.2.2.2.2.1 _ hw) (fun x q => by rw [← hsm]; exact q) hv hd (kk v hK H locs cells slots ls hR hS hc hs hL)
theorem x_getR (F : xFix p R s m args meth c cc nL own D dA base sa) {ci k idx N : Nat} {C ref : String} {T : u_T} (hcl : classes[ci]? = some (C, T, N)) (hin : ∀ w ∈ u_ws C T N, w ∈ xBig) (hk : k < N) (hw : Cond.fieldLink own idx ref (T k).2.1 (T k).2.2.1 ∈ xBig) (hsm : (T k).1 = ref) {r : Option Nat} {K : Option Nat → xS → Prop} (hd : decode cc pc = .ok (.getfield idx, 3)) (h : xgR ci k r K G) (kk : ∀ v, K v G → xW p l e R s m args below meth c nL Q D dA base sa (pc + 3) lv (va_rf v :: st) G) : xW p l e R s m args below meth c nL Q D dA base sa pc lv (va_rf r :: st) G := by
  intro H locs cells slots ls hR hS hc hs hL
  obtain ⟨a, fs, v, rfl, hG, hv, hK⟩ := h
  exact va_get F.1 F.2.1 F.2.2.2.2.1 hin F.2.2.2.1 F.2.2.2.2.2.1.1 (hR.one hG) 0 rfl hcl k hk (F.2.2.2.2.1 _ hw) (fun x q => by rw [← hsm]; exact q) hv hd (kk v hK H locs cells slots ls hR hS hc hs hL)
theorem x_putV (F : xFix p R s m args meth c cc nL own D dA base sa) {ci k idx N : Nat} {C ref : String} {T : u_T} (hcl : classes[ci]? = some (C, T, N)) (hin : ∀ w ∈ u_ws C T N, w ∈ xBig) (hk : k < N) (hw : Cond.fieldLink own idx ref (T k).2.1 (T k).2.2.1 ∈ xBig) (hsm : (T k).1 = ref) {ty0 : Nat → FieldType} (hty : ∀ k, k < N → parseFieldDescriptor (T k).2.2.1 = some (ty0 k)) (hnm : ∀ a, a < N → ∀ b, b < N → a ≠ b → (T a).2.1 ≠ (T b).2.1) (hfin : (T k).2.2.2 = false) {a : Nat} {fs : List Value} {v : Value} (hn : narrow (ty0 k) v = v) (hfit : fits (ty0 k) v = true) (hG : G.1 a = some (.inr (ci, fs))) (hl : k < fs.length) (hd : decode cc pc = .ok (.putfield idx, 3)) (kk : xW p l e R s m args below meth c nL Q D dA base sa (pc + 3) lv st (va_up G.1 a (some (.inr (ci, fs.set k v))), G.2)) : xW p l e R s m args below meth c nL Q D dA base sa pc lv (v :: .ref a :: st) G := by
  intro H locs cells slots ls hR hS hc hs hL
  have hP := hR.one hG
  have hts := F.2.2.2.2.1
  have hK := F.2.2.2.2.2.1.1
  have hap := va_apart (own := own) hts hin ty0 hty hnm hK hcl
  obtain ⟨r, h1, cell, q1, q2, q3, q4⟩ := hP 0 _ rfl
  have hr : r = (C, T, N) := Option.some.inj (h1.symm.trans hcl)
  subst hr
  obtain ⟨hSl, hfc, kC, hkC, hkind⟩ := hK.1 ci _ hcl
  obtain ⟨cf, kf, fi, f, hi, hsl⟩ := hSl k hk
  have hlay := hts _ (hin _ (u_in_lay hk))
  unfold u_lay at hlay
  rw [if_neg (by rw [hfin]; decide)] at hlay
  have hst := (u_facts hfc hkC (u_lays hts hin hk) hi).1
  have h6 := u_store hfc hkC hkind hlay hi (hty k hk) hn hfit
  refine W.putK F.1 F.2.1 (f := f) ⟨F.2.2.2.1, F.2.2.2.2.1 _ hw, ⟨_, _, _, by rw [← hsm]; exact hi⟩, hst⟩ (by rw [q2]; exact h6) q1 q3 (by rw [hsl]; exact k2_hasslot (q4 k hk)) rfl rfl hd fun H' e1 e2 e3 => ?_
  rw [hsl] at e1 ⊢
  refine kk H' _ cells slots ls (hR.put hG ?_ e2 e3) (hS.put e2 e3 (hR.2.1 a _ hG).1) hc hs hL
  exact ⟨_, hcl, t_OB.to (V := updV (vp_V fs) k v) ⟨_, e1, q2, q3, t_set q4 hap hk v⟩ (fun j _ => vp_updV_set hl v j)⟩
theorem x_putF (F : xFix p R s m args meth c cc nL own D dA base sa) {ci k idx N : Nat} {C ref : String} {T : u_T} (hcl : classes[ci]? = some (C, T, N)) (hin : ∀ w ∈ u_ws C T N, w ∈ xBig) (hk : k < N) (hw : Cond.fieldLink own idx ref (T k).2.1 (T k).2.2.1 ∈ xBig) (hsm : (T k).1 = ref) {ty0 : Nat → FieldType} (hty : ∀ k, k < N → parseFieldDescriptor (T k).2.2.1 = some (ty0 k)) (hnm : ∀ a, a < N → ∀ b, b < N → a ≠ b → (T a).2.1 ≠ (T b).2.1) (hfin : (T k).2.2.2 = true) (hin2 : meth.name = "<init>") (hdecl : (T k).1 = own) {a : Nat} {fs : List Value} {v : Value} (hn : narrow (ty0 k) v = v) (hfit : fits (ty0 k) v = true) (hG : G.1 a = some (.inr (ci, fs))) (hl : k < fs.length) (hd : decode cc pc = .ok (.putfield idx, 3)) (kk : xW p l e R s m args below meth c nL Q D dA base sa (pc + 3) lv st (va_up G.1 a (some (.inr (ci, fs.set k v))), G.2)) : xW p l e R s m args below meth c nL Q D dA base sa pc lv (v :: .ref a :: st) G := by
  intro H locs cells slots ls hR hS hc hs hL
  have hP := hR.one hG
  have hts := F.2.2.2.2.1
  have hK := F.2.2.2.2.2.1.1
  have hap := va_apart (own := own) hts hin ty0 hty hnm hK hcl
  obtain ⟨r, h1, cell, q1, q2, q3, q4⟩ := hP 0 _ rfl
  have hr : r = (C, T, N) := Option.some.inj (h1.symm.trans hcl)
  subst hr
  obtain ⟨hSl, hfc, kC, hkC, hkind⟩ := hK.1 ci _ hcl
  obtain ⟨cf, kf, fi, f, hi, hsl⟩ := hSl k hk
  have hlay := hts _ (hin _ (u_in_lay hk))
  unfold u_lay at hlay
  rw [if_pos hfin] at hlay
  have hst := (u_facts hfc hkC (u_lays hts hin hk) hi).1
  have hcf : m.cls = cf := by
    obtain ⟨_, _, c', _, _, _, -, -, hf', -, -, -, hown2, -⟩ := Cond.laysFinal_spec hlay
    have e1 : c' = cf := by have := hi.symm.trans hf'; simp at this; exact this.1.symm
    rw [hdecl] at hown2
    rw [← e1]; exact Option.some.inj (F.2.2.2.1.symm.trans hown2)
  have h6 := u_fits hfc hkC hkind (Or.inr hlay) hi (hty k hk) hn hfit
  refine W.putFinK F.1 F.2.1 F.2.2.2.1 (F.2.2.2.2.1 _ hw) (by rw [← hsm]; exact hi) hst hcf hin2 (by rw [q2]; exact h6) q1 q3 (by rw [hsl]; exact k2_hasslot (q4 k hk)) rfl rfl hd fun H' e1 e2 e3 => ?_
  rw [hsl] at e1 ⊢
  refine kk H' _ cells slots ls (hR.put hG ?_ e2 e3) (hS.put e2 e3 (hR.2.1 a _ hG).1) hc hs hL
  exact ⟨_, hcl, t_OB.to (V := updV (vp_V fs) k v) ⟨_, e1, q2, q3, t_set q4 hap hk v⟩ (fun j _ => vp_updV_set hl v j)⟩
theorem x_fitR {ty : FieldType} (h : (∃ n, ty = .object n) ∨ ∃ t, ty = .array t) (r : Option Nat) : narrow ty (va_rf r) = va_rf r ∧ fits ty (va_rf r) = true := by
  rcases h with ⟨n, rfl⟩ | ⟨t, rfl⟩ <;> cases r <;> exact ⟨rfl, rfl⟩
theorem x_fitZ {v : Int32} (h : v = 0 ∨ v = 1) : narrow .boolean (.int v) = .int v ∧ fits .boolean (.int v) = true := by
  rcases h with rfl | rfl <;> exact ⟨by decide, by decide⟩
theorem x_putI (F : xFix p R s m args meth c cc nL own D dA base sa) {ci k idx N : Nat} {C ref : String} {T : u_T} (hcl : classes[ci]? = some (C, T, N)) (hin : ∀ w ∈ u_ws C T N, w ∈ xBig) (hk : k < N) (hw : Cond.fieldLink own idx ref (T k).2.1 (T k).2.2.1 ∈ xBig) (hsm : (T k).1 = ref) {ty0 : Nat → FieldType} (hty : ∀ k, k < N → parseFieldDescriptor (T k).2.2.1 = some (ty0 k)) (hnm : ∀ a, a < N → ∀ b, b < N → a ≠ b → (T a).2.1 ≠ (T b).2.1) (hfin : (T k).2.2.2 = false) (ht : ty0 k = .int) {r : Option Nat} {v : Int32} {K : xS → Prop} (hd : decode cc pc = .ok (.putfield idx, 3)) (h : xpI ci k r v K G) (kk : ∀ G', K G' → xW p l e R s m args below meth c nL Q D dA base sa (pc + 3) lv st G') : xW p l e R s m args below meth c nL Q D dA base sa pc lv (.int v :: va_rf r :: st) G := by
  obtain ⟨a, fs, rfl, hG, hl, hK⟩ := h
  exact x_putV F hcl hin hk hw hsm hty hnm hfin (by rw [ht]; rfl) (by rw [ht]; rfl) hG hl hd (kk _ hK)
theorem x_putZ (F : xFix p R s m args meth c cc nL own D dA base sa) {ci k idx N : Nat} {C ref : String} {T : u_T} (hcl : classes[ci]? = some (C, T, N)) (hin : ∀ w ∈ u_ws C T N, w ∈ xBig) (hk : k < N) (hw : Cond.fieldLink own idx ref (T k).2.1 (T k).2.2.1 ∈ xBig) (hsm : (T k).1 = ref) {ty0 : Nat → FieldType} (hty : ∀ k, k < N → parseFieldDescriptor (T k).2.2.1 = some (ty0 k)) (hnm : ∀ a, a < N → ∀ b, b < N → a ≠ b → (T a).2.1 ≠ (T b).2.1) (hfin : (T k).2.2.2 = false) (ht : ty0 k = .boolean) {r : Option Nat} {v : Int32} {K : xS → Prop} (hd : decode cc pc = .ok (.putfield idx, 3)) (h : xpZ ci k r v K G) (kk : ∀ G', K G' → xW p l e R s m args below meth c nL Q D dA base sa (pc + 3) lv st G') : xW p l e R s m args below meth c nL Q D dA base sa pc lv (.int v :: va_rf r :: st) G := by
  obtain ⟨a, fs, rfl, hG, hl, hz, hK⟩ := h
  exact x_putV F hcl hin hk hw hsm hty hnm hfin (by rw [ht]; exact (x_fitZ hz).1) (by rw [ht]; exact (x_fitZ hz).2) hG hl hd (kk _ hK)
theorem x_putR (F : xFix p R s m args meth c cc nL own D dA base sa) {ci k idx N : Nat} {C ref : String} {T : u_T} (hcl : classes[ci]? = some (C, T, N)) (hin : ∀ w ∈ u_ws C T N, w ∈ xBig) (hk : k < N) (hw : Cond.fieldLink own idx ref (T k).2.1 (T k).2.2.1 ∈ xBig) (hsm : (T k).1 = ref) {ty0 : Nat → FieldType} (hty : ∀ k, k < N → parseFieldDescriptor (T k).2.2.1 = some (ty0 k)) (hnm : ∀ a, a < N → ∀ b, b < N → a ≠ b → (T a).2.1 ≠ (T b).2.1) (hfin : (T k).2.2.2 = false) (ht : (∃ n, ty0 k = .object n) ∨ ∃ t, ty0 k = .array t) {r v : Option Nat} {K : xS → Prop} (hd : decode cc pc = .ok (.putfield idx, 3)) (h : xpR ci k r v K G) (kk : ∀ G', K G' → xW p l e R s m args below meth c nL Q D dA base sa (pc + 3) lv st G') : xW p l e R s m args below meth c nL Q D dA base sa pc lv (va_rf v :: va_rf r :: st) G := by
  obtain ⟨a, fs, rfl, hG, hl, hK⟩ := h
  exact x_putV F hcl hin hk hw hsm hty hnm hfin (x_fitR ht v).1 (x_fitR ht v).2 hG hl hd (kk _ hK)
theorem x_putIF (F : xFix p R s m args meth c cc nL own D dA base sa) {ci k idx N : Nat} {C ref : String} {T : u_T} (hcl : classes[ci]? = some (C, T, N)) (hin : ∀ w ∈ u_ws C T N, w ∈ xBig) (hk : k < N) (hw : Cond.fieldLink own idx ref (T k).2.1 (T k).2.2.1 ∈ xBig) (hsm : (T k).1 = ref) {ty0 : Nat → FieldType} (hty : ∀ k, k < N → parseFieldDescriptor (T k).2.2.1 = some (ty0 k)) (hnm : ∀ a, a < N → ∀ b, b < N → a ≠ b → (T a).2.1 ≠ (T b).2.1) (hfin : (T k).2.2.2 = true) (hin2 : meth.name = "<init>") (hdecl : (T k).1 = own) (ht : ty0 k = .int) {r : Option Nat} {v : Int32} {K : xS → Prop} (hd : decode cc pc = .ok (.putfield idx, 3)) (h : xpI ci k r v K G) (kk : ∀ G', K G' → xW p l e R s m args below meth c nL Q D dA base sa (pc + 3) lv st G') : xW p l e R s m args below meth c nL Q D dA base sa pc lv (.int v :: va_rf r :: st) G := by
  obtain ⟨a, fs, rfl, hG, hl, hK⟩ := h
  exact x_putF F hcl hin hk hw hsm hty hnm hfin hin2 hdecl (by rw [ht]; rfl) (by rw [ht]; rfl) hG hl hd (kk _ hK)
theorem x_putZF (F : xFix p R s m args meth c cc nL own D dA base sa) {ci k idx N : Nat} {C ref : String} {T : u_T} (hcl : classes[ci]? = some (C, T, N)) (hin : ∀ w ∈ u_ws C T N, w ∈ xBig) (hk : k < N) (hw : Cond.fieldLink own idx ref (T k).2.1 (T k).2.2.1 ∈ xBig) (hsm : (T k).1 = ref) {ty0 : Nat → FieldType} (hty : ∀ k, k < N → parseFieldDescriptor (T k).2.2.1 = some (ty0 k)) (hnm : ∀ a, a < N → ∀ b, b < N → a ≠ b → (T a).2.1 ≠ (T b).2.1) (hfin : (T k).2.2.2 = true) (hin2 : meth.name = "<init>") (hdecl : (T k).1 = own) (ht : ty0 k = .boolean) {r : Option Nat} {v : Int32} {K : xS → Prop} (hd : decode cc pc = .ok (.putfield idx, 3)) (h : xpZ ci k r v K G) (kk : ∀ G', K G' → xW p l e R s m args below meth c nL Q D dA base sa (pc + 3) lv st G') : xW p l e R s m args below meth c nL Q D dA base sa pc lv (.int v :: va_rf r :: st) G := by
  obtain ⟨a, fs, rfl, hG, hl, hz, hK⟩ := h
  exact x_putF F hcl hin hk hw hsm hty hnm hfin hin2 hdecl (by rw [ht]; exact (x_fitZ hz).1) (by rw [ht]; exact (x_fitZ hz).2) hG hl hd (kk _ hK)
theorem x_putRF (F : xFix p R s m args meth c cc nL own D dA base sa) {ci k idx N : Nat} {C ref : String} {T : u_T} (hcl : classes[ci]? = some (C, T, N)) (hin : ∀ w ∈ u_ws C T N, w ∈ xBig) (hk : k < N) (hw : Cond.fieldLink own idx ref (T k).2.1 (T k).2.2.1 ∈ xBig) (hsm : (T k).1 = ref) {ty0 : Nat → FieldType} (hty : ∀ k, k < N → parseFieldDescriptor (T k).2.2.1 = some (ty0 k)) (hnm : ∀ a, a < N → ∀ b, b < N → a ≠ b → (T a).2.1 ≠ (T b).2.1) (hfin : (T k).2.2.2 = true) (hin2 : meth.name = "<init>") (hdecl : (T k).1 = own) (ht : (∃ n, ty0 k = .object n) ∨ ∃ t, ty0 k = .array t) {r v : Option Nat} {K : xS → Prop} (hd : decode cc pc = .ok (.putfield idx, 3)) (h : xpR ci k r v K G) (kk : ∀ G', K G' → xW p l e R s m args below meth c nL Q D dA base sa (pc + 3) lv st G') : xW p l e R s m args below meth c nL Q D dA base sa pc lv (va_rf v :: va_rf r :: st) G := by
  obtain ⟨a, fs, rfl, hG, hl, hK⟩ := h
  exact x_putF F hcl hin hk hw hsm hty hnm hfin hin2 hdecl (x_fitR ht v).1 (x_fitR ht v).2 hG hl hd (kk _ hK)
theorem x_iald (F : xFix p R s m args meth c cc nL own D dA base sa) {t : Nat} (ht : (xtysL dA)[t]? = some (dA t, .int)) {r : Option Nat} {i : Int32} {K : Int32 → xS → Prop} (hd : decode cc pc = .ok (.iaload, 1)) (h : xal t r i K G) (kk : ∀ v, K v G → xW p l e R s m args below meth c nL Q D dA base sa (pc + 1) lv (.int v :: st) G) : xW p l e R s m args below meth c nL Q D dA base sa pc lv (.int i :: va_rf r :: st) G := by
  intro H locs cells slots ls hR hS hc hs hL
  obtain ⟨a, n, f, rfl, hG, hi, hK⟩ := h
  have hlt : i.toNatClampNeg < n := Nat.not_le.mp fun q => hi (Or.inr q)
  have ha : H[a]? = some (vp_cell (dA t) (n, .inl f)) := (hR.2.1 a _ hG).2
  exact W.iald (v := .int (f i.toNatClampNeg)) F.1 F.2.1 ha ((F.2.2.2.2.2.1.1.2 t _ ht).1 n (fun j => .int (f j))) (fun q => by cases q) (by show ¬ (i < 0 ∨ (arrV _ _ _).slots.size ≤ _); rw [arrV_size]; exact hi) (by show (arrV _ _ _).slots[_]? = _; rw [arrV_read _ _ hlt]) rfl rfl hd (kk _ hK H locs cells slots ls hR hS hc hs hL)
theorem x_zald (F : xFix p R s m args meth c cc nL own D dA base sa) {t : Nat} (ht : (xtysL dA)[t]? = some (dA t, .boolean)) {r : Option Nat} {i : Int32} {K : Int32 → xS → Prop} (hd : decode cc pc = .ok (.baload, 1)) (h : xal t r i K G) (kk : ∀ v, K v G → xW p l e R s m args below meth c nL Q D dA base sa (pc + 1) lv (.int v :: st) G) : xW p l e R s m args below meth c nL Q D dA base sa pc lv (.int i :: va_rf r :: st) G := by
  intro H locs cells slots ls hR hS hc hs hL
  obtain ⟨a, n, f, rfl, hG, hi, hK⟩ := h
  have hlt : i.toNatClampNeg < n := Nat.not_le.mp fun q => hi (Or.inr q)
  have ha : H[a]? = some (vp_cell (dA t) (n, .inl f)) := (hR.2.1 a _ hG).2
  exact W.zald (v := .int (f i.toNatClampNeg)) F.1 F.2.1 ha ((F.2.2.2.2.2.1.1.2 t _ ht).1 n (fun j => .int (f j))) (fun q => by cases q) (by show ¬ (i < 0 ∨ (arrV _ _ _).slots.size ≤ _); rw [arrV_size]; exact hi) (by show (arrV _ _ _).slots[_]? = _; rw [arrV_read _ _ hlt]) rfl rfl hd (kk _ hK H locs cells slots ls hR hS hc hs hL)
theorem x_aald (F : xFix p R s m args meth c cc nL own D dA base sa) {t : Nat} {ty : FieldType} (ht : (xtysL dA)[t]? = some (dA t, ty)) (hrf : ty.isReference = true) {r : Option Nat} {i : Int32} {K : Option Nat → xS → Prop} (hd : decode cc pc = .ok (.aaload, 1)) (h : xalR t r i K G) (kk : ∀ v, K v G → xW p l e R s m args below meth c nL Q D dA base sa (pc + 1) lv (va_rf v :: st) G) : xW p l e R s m args below meth c nL Q D dA base sa pc lv (.int i :: va_rf r :: st) G := by
  intro H locs cells slots ls hR hS hc hs hL
  obtain ⟨a, n, f, rfl, hG, hi, hK⟩ := h
  have hlt : i.toNatClampNeg < n := Nat.not_le.mp fun q => hi (Or.inr q)
  have ha : H[a]? = some (vp_cell (dA t) (n, .inr (.inr (.inr (.inr f))))) := (hR.2.1 a _ hG).2
  exact W.aald (v := va_rf (f i.toNatClampNeg)) (ty := ty) F.1 F.2.1 ha ((F.2.2.2.2.2.1.1.2 t _ ht).1 n (fun j => va_rf (f j))) hrf (fun q => by cases q) (by show ¬ (i < 0 ∨ (arrV _ _ _).slots.size ≤ _); rw [arrV_size]; exact hi) (by show (arrV _ _ _).slots[_]? = _; rw [arrV_read _ _ hlt]) rfl rfl hd (kk _ hK H locs cells slots ls hR hS hc hs hL)
theorem x_upI (f : Nat → Int32) (k : Nat) (x : Int32) : (fun j => Value.int (va_up f k x j)) = updV (fun j => .int (f j)) k (.int x) := by
  funext q
  by_cases hq : q = k
  · subst hq; simp [updV, va_up]
  · simp [updV, va_up, hq]
theorem x_upR (f : Nat → Option Nat) (k : Nat) (x : Option Nat) : (fun j => va_rf (va_up f k x j)) = updV (fun j => va_rf (f j)) k (va_rf x) := by
  funext q
  by_cases hq : q = k
  · subst hq; simp [updV, va_up]
  · simp [updV, va_up, hq]
theorem x_iast (F : xFix p R s m args meth c cc nL own D dA base sa) {t : Nat} (ht : (xtysL dA)[t]? = some (dA t, .int)) {r : Option Nat} {i v : Int32} {K : xS → Prop} (hd : decode cc pc = .ok (.iastore, 1)) (h : xas t r i v K G) (kk : ∀ G', K G' → xW p l e R s m args below meth c nL Q D dA base sa (pc + 1) lv st G') : xW p l e R s m args below meth c nL Q D dA base sa pc lv (.int v :: .int i :: va_rf r :: st) G := by
  intro H locs cells slots ls hR hS hc hs hL
  obtain ⟨a, n, f, rfl, hG, hi, hK⟩ := h
  have ha : H[a]? = some (vp_cell (dA t) (n, .inl f)) := (hR.2.1 a _ hG).2
  refine W.iast F.1 F.2.1 ha ((F.2.2.2.2.2.1.1.2 t _ ht).1 n (fun j => .int (f j))) (fun q => by cases q) (by show ¬ (i < 0 ∨ (arrV _ _ _).slots.size ≤ _); rw [arrV_size]; exact hi) rfl rfl hd fun H1 e1 z oq => ?_
  refine kk _ hK H1 _ cells slots ls (hR.put hG ?_ z oq) (hS.put z oq (hR.2.1 a _ hG).1) hc hs hL
  show H1[a]? = some (vp_cell _ _)
  rw [e1, vp_cell_i, vp_cell_i, arrV_store, x_upI]
theorem x_zast (F : xFix p R s m args meth c cc nL own D dA base sa) {t : Nat} (ht : (xtysL dA)[t]? = some (dA t, .boolean)) {r : Option Nat} {i v : Int32} {K : xS → Prop} (hd : decode cc pc = .ok (.bastore, 1)) (h : xasZ t r i v K G) (kk : ∀ G', K G' → xW p l e R s m args below meth c nL Q D dA base sa (pc + 1) lv st G') : xW p l e R s m args below meth c nL Q D dA base sa pc lv (.int v :: .int i :: va_rf r :: st) G := by
  intro H locs cells slots ls hR hS hc hs hL
  obtain ⟨a, n, f, rfl, hG, hi, hz, hK⟩ := h
  have ha : H[a]? = some (vp_cell (dA t) (n, .inl f)) := (hR.2.1 a _ hG).2
  refine W.zast F.1 F.2.1 ha ((F.2.2.2.2.2.1.1.2 t _ ht).1 n (fun j => .int (f j))) (fun q => by cases q) (by show ¬ (i < 0 ∨ (arrV _ _ _).slots.size ≤ _); rw [arrV_size]; exact hi) rfl rfl hd fun H1 e1 z oq => ?_
  refine kk _ hK H1 _ cells slots ls (hR.put hG ?_ z oq) (hS.put z oq (hR.2.1 a _ hG).1) hc hs hL
  show H1[a]? = some (vp_cell _ _)
  rw [e1, vp_cell_i, vp_cell_i, arrV_store, x_upI]
  first | rw [(x_fitZ hz).1] | (rcases hz with rfl | rfl <;> rfl)
theorem x_aast (F : xFix p R s m args meth c cc nL own D dA base sa) {t ci : Nat} {q : vw_C} (hcl : classes[ci]? = some q) (ht : (xtysL dA)[t]? = some (dA t, .object q.1)) {r v : Option Nat} {i : Int32} {K : xS → Prop} (hd : decode cc pc = .ok (.aastore, 1)) (h : xasR t ci r i v K G) (kk : ∀ G', K G' → xW p l e R s m args below meth c nL Q D dA base sa (pc + 1) lv st G') : xW p l e R s m args below meth c nL Q D dA base sa pc lv (va_rf v :: .int i :: va_rf r :: st) G := by
  intro H locs cells slots ls hR hS hc hs hL
  obtain ⟨a, n, f, rfl, hG, hi, hb, hK⟩ := h
  have hlt : i.toNatClampNeg < n := Nat.not_le.mp fun q => hi (Or.inr q)
  have h0 : ¬ i < 0 := fun q => hi (Or.inl q)
  have ha : H[a]? = some (vp_cell (dA t) (n, .inr (.inr (.inr (.inr f))))) := (hR.2.1 a _ hG).2
  have hfin : ∀ (H1 : Heap), H1[a]? = some ((vp_cell (dA t) (n, .inr (.inr (.inr (.inr f))))).setSlot i.toNatClampNeg (va_rf v)) → H1[a]? = some (vp_cell (dA t) (n, .inr (.inr (.inr (.inr (va_up f i.toNatClampNeg v)))))) := by
    intro H1 e1
    rw [e1, vp_cell_q, vp_cell_q, arrV_store, x_upR]
  have hKn := F.2.2.2.2.2.1.1
  cases v with
  | none =>
    refine va_WaastN (C := q.1) F.1 F.2.1 ha ((hKn.2 t _ ht).1 n (fun j => va_rf (f j))) (fun h => by cases h) (by show ¬ (i < 0 ∨ (arrV _ _ _).slots.size ≤ _); rw [arrV_size]; exact hi) rfl rfl hd fun H1 e1 z oq => ?_
    exact kk _ hK H1 _ cells slots ls (hR.put hG (hfin H1 e1) z oq) (hS.put z oq (hR.2.1 a _ hG).1) hc hs hL
  | some b =>
    obtain ⟨fs, hGb⟩ := hb b rfl
    obtain ⟨r', hr', cellV, g1, g2, g3, -⟩ := (hR.2.1 b _ hGb).2
    have hcls := (hKn.1 ci q hcl).2
    obtain ⟨kA, comp, k1, k2, k3, -⟩ := (hKn.2 t _ ht).2
    have hcomp : comp = D.1 ci := Option.some.inj (k3.symm.trans hcls.1)
    subst hcomp
    obtain ⟨kC, hkC, -⟩ := hcls.2
    refine W.aast F.1 F.2.1 ha (fun q h => by cases h) (fun h => by cases h) k1 k2 rfl hkC ⟨h0, by show _ < (arrV _ _ _).slots.size; rw [arrV_size]; exact hlt⟩ g1 (fun q h => by rw [g3] at h; cases h) (by rw [g2]; exact hkC) (by rw [g2]; exact va_assign hcls) rfl rfl hd fun H1 e1 z oq => ?_
    exact kk _ hK H1 _ cells slots ls (hR.put hG (hfin H1 e1) z oq) (hS.put z oq (hR.2.1 a _ hG).1) hc hs hL
theorem x_len (F : xFix p R s m args meth c cc nL own D dA base sa) {t : Nat} {ty : FieldType} (ht : (xtysL dA)[t]? = some (dA t, ty)) {r : Option Nat} {K : Int32 → xS → Prop} (hd : decode cc pc = .ok (.arraylength, 1)) (h : xlen t r K G) (kk : ∀ v, K v G → xW p l e R s m args below meth c nL Q D dA base sa (pc + 1) lv (.int v :: st) G) : xW p l e R s m args below meth c nL Q D dA base sa pc lv (va_rf r :: st) G := by
  intro H locs cells slots ls hR hS hc hs hL
  obtain ⟨a, n, x, rfl, hG, hK⟩ := h
  rcases x with f | f | f
  · exact va_alen F.1 F.2.1 F.2.2.2.2.2.1.1 (hR.one hG) 0 t (x := (n, .inl f)) rfl ht rfl hd (kk _ hK H locs cells slots ls hR hS hc hs hL)
  · exact va_alen F.1 F.2.1 F.2.2.2.2.2.1.1 (hR.one hG) 0 t (x := (n, .inr (.inr (.inr (.inr f))))) rfl ht rfl hd (kk _ hK H locs cells slots ls hR hS hc hs hL)
  · exact va_alen F.1 F.2.1 F.2.2.2.2.2.1.1 (hR.one hG) 0 t (x := (n, .inr (.inl f))) rfl ht rfl hd (kk _ hK H locs cells slots ls hR hS hc hs hL)
theorem x_new (F : xFix p R s m args meth c cc nL own D dA base sa) {ci idx N : Nat} {C : String} {T : u_T} {fs : List Value} (hcl : classes[ci]? = some (C, T, N)) (hin : ∀ w ∈ u_ws C T N, w ∈ xBig) {ty : Nat → FieldType} (hty : ∀ k, k < N → parseFieldDescriptor (T k).2.2.1 = some (ty k)) (hw : Cond.classLink own idx C ∈ xBig) (hi : Cond.instantiable C N ∈ xBig) (hini : Cond.initialized C ∈ xBig) (hfs : ∀ j, j < N → defaultValue (ty j) = vp_V fs j) {K : Nat → xS → Prop} (hd : decode cc pc = .ok (.new idx, 3)) (h : xnew ci N fs K G) (kk : ∀ a G', K a G' → xW p l e R s m args below meth c nL Q D dA base sa (pc + 3) lv (va_rf (some a) :: st) G') : xW p l e R s m args below meth c nL Q D dA base sa pc lv st G := by
  intro H locs cells slots ls hR hS hc hs hL
  obtain ⟨h1, h2, hK⟩ := h
  have hKn := F.2.2.2.2.2.1.1.1 ci _ hcl
  have hts := F.2.2.2.2.1
  have hz := hR.1
  refine W.newcK F.1 F.2.1 F.2.2.2.1 (hts _ hw) (hts _ hi) (hts _ hini) rfl hd (by omega) (by omega) hKn.2.1 hz fun H1 kC hkC e1 z1 o1 => ?_
  have hb : base ≤ H.size := Nat.le_trans F.2.2.2.2.2.2.2 hS.1
  rw [← hz] at e1 z1 o1
  refine kk _ _ hK H1 locs (cells + 1) (slots + N) ls (hR.new hb ⟨_, hcl, (u_born ty hts hin hKn hkC e1 hty).to hfs⟩ z1 o1) ⟨Nat.le_trans hS.1 (by omega), fun x q1 q2 => (o1 x (Nat.lt_of_lt_of_le q1 hS.1)).trans (hS.2.1 x q1 q2), hS.2.2⟩ ?_ ?_ hL
  · show cells + 1 + (G.2.2.2.1 - 1) ≤ _; omega
  · show slots + N + (G.2.2.2.2 - N) ≤ _; omega
theorem x_newI (F : xFix p R s m args meth c cc nL own D dA base sa) {t : Nat} (ht : (xtysL dA)[t]? = some (dA t, .int)) (hw : Cond.arrayClass .int ∈ xBig) {n : Int32} {K : Nat → xS → Prop} (hd : decode cc pc = .ok (.newarray .int, 2)) (h : xnewI t n K G) (kk : ∀ a G', K a G' → xW p l e R s m args below meth c nL Q D dA base sa (pc + 2) lv (va_rf (some a) :: st) G') : xW p l e R s m args below meth c nL Q D dA base sa pc lv (.int n :: st) G := by
  intro H locs cells slots ls hR hS hc hs hL
  obtain ⟨N, rfl, hN, h1, h2, hK⟩ := h
  have hz := hR.1
  refine va_newaK (atype := .int) F.1 F.2.1 (F.2.2.2.2.1 _ hw) rfl hd rfl (nI_pos (by omega)) (nI_clamp (by omega)) (by show N * _ ≤ _; simp only [newarray.typeOf, componentBytes]; omega) (by omega) (by omega) hz fun H1 cA e1 z1 o1 hAr hNm => ?_
  have hb : base ≤ H.size := Nat.le_trans F.2.2.2.2.2.2.2 hS.1
  have hcA : cA = dA t := Option.some.inj (hNm.symm.trans (F.2.2.2.2.2.1.1.2 t _ ht).2)
  subst hcA
  rw [← hz] at e1 z1 o1
  refine kk _ _ hK H1 locs (cells + 1) (slots + N) ls (hR.new (c1 := .inl (t, N, .inl (fun _ => 0))) hb e1 z1 o1) ⟨Nat.le_trans hS.1 (by omega), fun x q1 q2 => (o1 x (Nat.lt_of_lt_of_le q1 hS.1)).trans (hS.2.1 x q1 q2), hS.2.2⟩ ?_ ?_ hL
  · show cells + 1 + (G.2.2.2.1 - 1) ≤ _; omega
  · show slots + N + (G.2.2.2.2 - N) ≤ _; omega
theorem x_newZ (F : xFix p R s m args meth c cc nL own D dA base sa) {t : Nat} (ht : (xtysL dA)[t]? = some (dA t, .boolean)) (hw : Cond.arrayClass .boolean ∈ xBig) {n : Int32} {K : Nat → xS → Prop} (hd : decode cc pc = .ok (.newarray .boolean, 2)) (h : xnewI t n K G) (kk : ∀ a G', K a G' → xW p l e R s m args below meth c nL Q D dA base sa (pc + 2) lv (va_rf (some a) :: st) G') : xW p l e R s m args below meth c nL Q D dA base sa pc lv (.int n :: st) G := by
  intro H locs cells slots ls hR hS hc hs hL
  obtain ⟨N, rfl, hN, h1, h2, hK⟩ := h
  have hz := hR.1
  refine va_newaK (atype := .boolean) F.1 F.2.1 (F.2.2.2.2.1 _ hw) rfl hd rfl (nI_pos (by omega)) (nI_clamp (by omega)) (by show N * _ ≤ _; simp only [newarray.typeOf, componentBytes]; omega) (by omega) (by omega) hz fun H1 cA e1 z1 o1 hAr hNm => ?_
  have hb : base ≤ H.size := Nat.le_trans F.2.2.2.2.2.2.2 hS.1
  have hcA : cA = dA t := Option.some.inj (hNm.symm.trans (F.2.2.2.2.2.1.1.2 t _ ht).2)
  subst hcA
  rw [← hz] at e1 z1 o1
  refine kk _ _ hK H1 locs (cells + 1) (slots + N) ls (hR.new (c1 := .inl (t, N, .inl (fun _ => 0))) hb e1 z1 o1) ⟨Nat.le_trans hS.1 (by omega), fun x q1 q2 => (o1 x (Nat.lt_of_lt_of_le q1 hS.1)).trans (hS.2.1 x q1 q2), hS.2.2⟩ ?_ ?_ hL
  · show cells + 1 + (G.2.2.2.1 - 1) ≤ _; omega
  · show slots + N + (G.2.2.2.2 - N) ≤ _; omega
theorem x_newR (F : xFix p R s m args meth c cc nL own D dA base sa) {t idx : Nat} {C : String} (ht : (xtysL dA)[t]? = some (dA t, .object C)) (hw : Cond.classLink own idx C ∈ xBig) (ho : C ∈ xOver) {n : Int32} {K : Nat → xS → Prop} (hd : decode cc pc = .ok (.anewarray idx, 3)) (h : xnewR t n K G) (kk : ∀ a G', K a G' → xW p l e R s m args below meth c nL Q D dA base sa (pc + 3) lv (va_rf (some a) :: st) G') : xW p l e R s m args below meth c nL Q D dA base sa pc lv (.int n :: st) G := by
  intro H locs cells slots ls hR hS hc hs hL
  obtain ⟨N, rfl, hN, h1, h2, hK⟩ := h
  have hz := hR.1
  have hcl : (nI N).toNatClampNeg = N := nI_clamp (by omega)
  refine W.anew F.1 F.2.1 F.2.2.2.1 (F.2.2.2.2.1 _ hw) (va_AO.use (F.2.2.2.2.2.1.2.2.2.1 C ho)) rfl hd rfl (nI_pos (by omega)) (by rw [hcl]; omega) (by omega) (by rw [hcl]; omega) fun cA kA comp f1 f2 f3 f4 => ?_
  rw [hcl]
  have hb : base ≤ H.size := Nat.le_trans F.2.2.2.2.2.2.2 hS.1
  obtain ⟨kA', comp', k1, k2, k3, k4⟩ := (F.2.2.2.2.2.1.1.2 t _ ht).2
  have hcA : cA = dA t := Option.some.inj (f1.symm.trans k4)
  subst hcA
  generalize hH1 : H.push ({ cls := dA t, slots := Array.replicate N .null, vm := .none } : Cell) = H1
  have z1 : H1.size = H.size + 1 := by rw [← hH1, Array.size_push]
  have e1 : H1[H.size]? = some (arrV (dA t) N (fun _ => .null)) := by rw [← hH1, Array.getElem?_push_size, ← arrV_new]
  have o1 : ∀ q : Nat, q < H.size → H1[q]? = H[q]? := fun q hq => by rw [← hH1, Array.getElem?_push, if_neg (Nat.ne_of_lt hq)]
  have K1 := kk _ _ hK H1 locs (cells + 1) (slots + N) ls (hR.new (c1 := .inl (t, N, .inr (.inl (fun _ => none)))) hb e1 z1 o1) ⟨Nat.le_trans hS.1 (by omega), fun x q1 q2 => (o1 x (Nat.lt_of_lt_of_le q1 hS.1)).trans (hS.2.1 x q1 q2), hS.2.2⟩ (by show cells + 1 + (G.2.2.2.1 - 1) ≤ _; omega) (by show slots + N + (G.2.2.2.2 - N) ≤ _; omega) hL
  rw [← hz] at K1
  exact K1
theorem xKn.to {s U : State} (h : xKn D dA base sa s) (hW : s.WarmedH U.vm) (hq : ∀ q : Nat, q < s.heap.size → ¬ base ≤ q → U.heap[q]? = s.heap[q]?) : xKn D dA base sa U :=
  ⟨va_K.moved hW.alike h.1, fun w hw => (h.2.1 w hw).warmF hW, fun w hw => (h.2.2.1 w hw).warmM hW, fun C hC => (h.2.2.2.1 C hC).moved hW.alike, h.2.2.2.2.1.to hW, h.2.2.2.2.2.to hW hq⟩
def xPc (D : va_G) (dA : Nat → ClassId) (base : Nat) (sa : Nat → Nat) (G : xS) (As : List Value) : Array Value → State → Prop := va_Pc As (fun U => xRep D dA base G U.heap ∧ xKn D dA base sa U ∧ base ≤ U.heap.size)
def xQ (D : va_G) (dA : Nat → ClassId) (base : Nat) (Kv : Option Value → xS → Prop) : Array Value → State → Outcome → State → Prop := fun _ s0 oc t => (∃ (v : Option Value) (G' : xS), oc = .returned v ∧ Kv v G' ∧ xRep D dA base G' t.heap) ∧ va_F (fun q : Nat => base ≤ q) s0 t
/-- a method's contract: over every heap that holds G, with these arguments, it returns, and Kv holds of answer and state -/
def xMet (l : Launch) (y : MethodName) (bytes : ByteArray) (maxL : Nat) (ret : Option FieldType) (fr lo : Nat) (D : va_G) (dA : Nat → ClassId) (base : Nat) (sa : Nat → Nat) (As : List Value) (G : xS) (Kv : Option Value → xS → Prop) : Prop :=
  Met l y (Cond.code y bytes maxL ret :: xBig) { frames := fr, cells := G.2.2.2.1, slots := G.2.2.2.2, locals := lo } (xPc D dA base sa G As) (xQ D dA base Kv) G.2.2.2.1 G.2.2.2.2 (fun q : Nat => base ≤ q)
theorem xPc.blind {G : xS} {As : List Value} : FrameBlind (xPc D dA base sa G As) := fun a U g mk q => ⟨q.1, q.2.1, q.2.2.1.to (U := U.calling g mk a) (State.WarmedH.refl U) (fun _ _ _ => rfl), q.2.2.2⟩
def xargs : Nat → List Value → List (Nat × Value)
  | _, [] => []
  | i, v :: vs => (i, v) :: xargs (i + 1) vs
theorem x_lvargs : ∀ (vs : List Value) (i : Nat), (∀ v ∈ vs, v.category = 1) → lv_args i vs = xargs i vs
  | [], _, _ => rfl
  | v :: vs, i, h => by
    have h1 : v.category = 1 := h v List.mem_cons_self
    show (i, v) :: lv_args (if v.category = 2 then i + 2 else i + 1) vs = (i, v) :: xargs (i + 1) vs
    rw [h1, if_neg (by decide), x_lvargs vs (i + 1) (fun w hw => h w (List.mem_cons_of_mem _ hw))]
theorem x_slen : ∀ (vs : List Value), (∀ v ∈ vs, v.category = 1) → (lg_sl vs).length = vs.length
  | [], _ => rfl
  | v :: vs, h => by
    have h1 : v.category = 1 := h v List.mem_cons_self
    have ih := x_slen vs (fun w hw => h w (List.mem_cons_of_mem _ hw))
    simp [lg_sl, h1] at ih ⊢
    first | omega | exact ih
theorem xMet.of {y : MethodName} {bytes : ByteArray} {maxL : Nat} {ret : Option FieldType} {fr lo : Nat} {As : List Value} {Kv : Option Value → xS → Prop} (hy : plainName y.cls = true) (hcat : ∀ v ∈ As, v.category = 1) (hlen : As.length ≤ maxL)
    (body : ∀ (p : Program) (e : Env) (s : State) (m : MethodId) (args : Array Value) (below : List Frame) (meth : Method) (c : Code), xFix p { frames := fr, cells := G.2.2.2.1, slots := G.2.2.2.2, locals := lo } s m args meth c bytes maxL y.cls D dA base sa → meth.sig.returnType = ret → meth.name = y.name →
      xW p l e { frames := fr, cells := G.2.2.2.1, slots := G.2.2.2.2, locals := lo } s m args below meth c maxL (MQ below (xQ D dA base Kv) args s G.2.2.2.1 G.2.2.2.2 (fun q : Nat => base ≤ q)) D dA base sa 0 (xargs 0 As) [] G) : xMet l y bytes maxL ret fr lo D dA base sa As G Kv := by
  refine Met.ofW (cc := bytes) (maxL := maxL) (ret := ret) hy rfl ?_
  intro p e s m args below meth c s₁ B hml hv
  obtain ⟨rfl, hR, hKn, hb⟩ := hv
  have hts := atoms_spec (ws := Cond.code y bytes maxL ret :: xBig) B.pre
  have hown : s.vm.findClass y.cls = some m.cls := findClass_of_methodNamed B.named
  have F : xFix p { frames := fr, cells := G.2.2.2.1, slots := G.2.2.2.2, locals := lo } s m As.toArray meth c bytes maxL y.cls D dA base sa := ⟨B.exec, B.bytes, hml, hown, fun w hw => hts w (List.mem_cons_of_mem _ hw), hKn, B.notSynchronized, hb⟩
  have hl := lv_entry As (n := maxL) (by rw [x_slen As hcat]; exact hlen)
  rw [lg_entry_eq]
  generalize (lg_sl As ++ List.replicate (maxL - (lg_sl As).length) Slot.unset).toArray = ls at hl ⊢
  rw [x_lvargs As 0 hcat] at hl
  refine body p e s m As.toArray below meth c F B.returns (name_of_methodNamed B.named B.method).1 s.heap [] 0 0 ls hR va_S.rf (Nat.le_of_eq (Nat.zero_add _)) (Nat.le_of_eq (Nat.zero_add _)) ⟨hl, fun q hq => ?_⟩
  rw [← x_lvargs As 0 hcat] at hq
  exact x_args As 0 hcat q hq
theorem x_iret (F : xFix p R s m args meth c cc nL own D dA base sa) {Kv : Option Value → xS → Prop} (hq : Q = MQ below (xQ D dA base Kv) args s R.cells R.slots (fun q : Nat => base ≤ q)) (hr : meth.sig.returnType = some .int) {v : Int32} (hd : decode cc pc = .ok (.ireturn, 1)) (h : Kv (some (.int v)) G) : xW p l e R s m args below meth c nL Q D dA base sa pc lv [.int v] G := by
  subst hq
  intro H locs cells slots ls hR hS hc hs hL
  have hlocks := F.2.2.2.2.2.2.1
  exact W.widen (k := R.cells) (n := R.slots) (by omega) (by omega) (W.iret F.1 F.2.1 hr (fun t ht hW => ⟨⟨_, G, rfl, h, by rw [ht]; exact hR⟩, hS.F ht⟩) hS.2.2 hd)
theorem x_zret (F : xFix p R s m args meth c cc nL own D dA base sa) {Kv : Option Value → xS → Prop} {K : Int32 → xS → Prop} (hq : Q = MQ below (xQ D dA base Kv) args s R.cells R.slots (fun q : Nat => base ≤ q)) (hr : meth.sig.returnType = some .boolean) {v : Int32} (hd : decode cc pc = .ok (.ireturn, 1)) (h : xrz v K G) (hk : K v G → Kv (some (.int v)) G) : xW p l e R s m args below meth c nL Q D dA base sa pc lv [.int v] G := by
  subst hq
  intro H locs cells slots ls hR hS hc hs hL
  have hlocks := F.2.2.2.2.2.2.1
  exact W.widen (k := R.cells) (n := R.slots) (by omega) (by omega) (W.zret F.1 F.2.1 hr (x_fitZ h.1).1 (fun t ht hW => ⟨⟨_, G, rfl, hk h.2, by rw [ht]; exact hR⟩, hS.F ht⟩) hS.2.2 hd)
theorem x_aret (F : xFix p R s m args meth c cc nL own D dA base sa) {Kv : Option Value → xS → Prop} (hq : Q = MQ below (xQ D dA base Kv) args s R.cells R.slots (fun q : Nat => base ≤ q)) {rt : FieldType} (hr : meth.sig.returnType = some rt) (hrt : (∃ n, rt = .object n) ∨ ∃ t, rt = .array t) {r : Option Nat} (hd : decode cc pc = .ok (.areturn, 1)) (h : Kv (some (va_rf r)) G) : xW p l e R s m args below meth c nL Q D dA base sa pc lv [va_rf r] G := by
  subst hq
  intro H locs cells slots ls hR hS hc hs hL
  have hlocks := F.2.2.2.2.2.2.1
  exact W.widen (k := R.cells) (n := R.slots) (by omega) (by omega) (W.aret F.1 F.2.1 hr hrt (va_rf_or r) (fun t ht hW => ⟨⟨_, G, rfl, h, by rw [ht]; exact hR⟩, hS.F ht⟩) hS.2.2 hd)
theorem x_vret (F : xFix p R s m args meth c cc nL own D dA base sa) {Kv : Option Value → xS → Prop} (hq : Q = MQ below (xQ D dA base Kv) args s R.cells R.slots (fun q : Nat => base ≤ q)) (hr : meth.sig.returnType = none) (hd : decode cc pc = .ok (.return_, 1)) (h : Kv none G) : xW p l e R s m args below meth c nL Q D dA base sa pc lv [] G := by
  subst hq
  intro H locs cells slots ls hR hS hc hs hL
  have hlocks := F.2.2.2.2.2.2.1
  exact W.widen (k := R.cells) (n := R.slots) (by omega) (by omega) (W.vret F.1 F.2.1 hr (fun t ht hW => ⟨⟨_, G, rfl, h, by rw [ht]; exact hR⟩, hS.F ht⟩) hS.2.2 hd)
theorem x_obj (F : xFix p R s m args meth c cc nL own D dA base sa) {idx : Nat} (hw : Cond.methodLink own idx Lib.objectInit ∈ xBig) (hi : Cond.instanceMethod Lib.objectInit ∈ xBig) (hc0 : Cond.code Lib.objectInit ⟨#[0xb1]⟩ 1 none ∈ xBig) {r : Nat} (hd : decode cc pc = .ok (.invokespecial idx, 3)) (hf : 1 ≤ R.frames) (ho : (st.map fun v => v.category).sum + 12 ≤ R.locals) (kk : xW p l e R s m args below meth c nL Q D dA base sa (pc + 3) lv st G) : xW p l e R s m args below meth c nL Q D dA base sa pc lv (va_rf (some r) :: st) G := by
  intro H locs cells slots ls hR hS hc hs hL
  exact W.objInit F.1 F.2.1 F.2.2.2.1 (F.2.2.2.2.1 _ hw) (F.2.2.2.2.1 _ hi) (F.2.2.2.2.1 _ hc0) rfl (hL.1.1.trans F.2.2.1.symm) rfl hd hf (by show 2 * 0 + _ + 12 ≤ _; omega) (kk H locs cells slots ls hR hS hc hs hL)
/-- behind a call -/
theorem x_run {Kv : Option Value → xS → Prop} {H : Heap} {locs : List Loc} {cells slots mc ms : Nat} {ls : Array Slot} {st0 rest : List Value} {a : Array Value} (hr : va_Run p l e R s m args below meth c H locs cells slots mc ms (F0 m pc ls st0) rest (xQ D dA base Kv a) (fun q : Nat => base ≤ q)) (hS : va_S (fun q : Nat => base ≤ q) s.heap H locs)
    (kk : ∀ (v : Option Value) (G' : xS) (H1 : Heap) (locs1 : List Loc), Kv v G' → xRep D dA base G' H1 → va_S (fun q : Nat => base ≤ q) s.heap H1 locs1 → W p l e R s m args below meth c H1 locs1 (cells + mc) (slots + ms) Q (F0 m (pc + 3) ls (v.toList ++ rest))) : W p l e R s m args below meth c H locs cells slots Q (F0 m pc ls st0) := by
  intro T hT X
  obtain ⟨v, st₀, t, T', L, h0, X', hL, e1, e2, ⟨⟨v', G', hv, hp, hb⟩, hz, hk⟩, st⟩ := hr T hT X
  cases hv
  rw [h0] at hz hk
  obtain ⟨t2, a1, b1⟩ := kk v G' T'.heap (locs ++ L) hp (by rw [e1]; exact hb)
    ⟨Nat.le_trans hS.1 (by rw [e1]; exact hz), fun q h1 h2 => by rw [e1, hk q (Nat.lt_of_lt_of_le h1 hS.1) h2]; exact hS.2.1 q h1 h2, fun q hq => by
      rcases List.mem_append.mp hq with h | h
      · exact hS.2.2 q h
      · exact hL q h⟩ T' rfl X'
  exact ⟨t2, st t2 a1, b1⟩
theorem x_pre (F : xFix p R s m args meth c cc nL own D dA base sa) {H : Heap} {locs : List Loc} {As : List Value} {G' : xS} (hR : xRep D dA base G' H) (hS : va_S (fun q : Nat => base ≤ q) s.heap H locs) : ∀ U : State, U.heap = H → s.WarmedH U.vm → xPc D dA base sa G' As As.toArray U := fun U hU hW =>
  ⟨rfl, by rw [hU]; exact hR, F.2.2.2.2.2.1.to hW (fun q h1 h2 => by rw [hU]; exact hS.2.1 q h1 h2), by rw [hU]; exact Nat.le_trans F.2.2.2.2.2.2.2 hS.1⟩
theorem x_goodAll {y : MethodName} {bytes : ByteArray} {maxL : Nat} {ret : Option FieldType} (h : Cond.code y bytes maxL ret ∈ xBig) : GoodIn xBig (Cond.code y bytes maxL ret :: xBig) := fun w hw => by
  rcases List.mem_cons.mp hw with rfl | hw
  · exact ⟨h, xGood _ h⟩
  · exact ⟨hw, xGood _ hw⟩
theorem x_callS (F : xFix p R s m args meth c cc nL own D dA base sa) {ρ : Type} {enc : ρ → Option Value} {K : ρ → xS → Prop} {P : (ρ → xS → Prop) → xS → Prop} {y : MethodName} {bytes : ByteArray} {maxL : Nat} {ret : Option FieldType} {fr lo mc ms n idx : Nat} {As : List Value} (hdc : Cond.code y bytes maxL ret ∈ xBig) (hini : Cond.initialized y.cls ∈ xBig) (hst : Cond.static y ∈ xBig) (hlk : Cond.methodLink own idx y ∈ xBig) (hy : y.cls ≠ "java/lang/invoke/MethodHandle" ∧ y.cls ≠ "java/lang/invoke/VarHandle" ∧ (parseMethodDescriptor y.desc).map (fun d => d.parameters.length) = some n) (hn : As.length = n) (hR0 : fr + 1 ≤ R.frames ∧ 8 + (maxL + 11) + lo ≤ R.locals) (h8 : (st.map fun v => v.category).sum ≤ 8)
    (hM : ∀ (K' : ρ → xS → Prop) (G' : xS), P K' G' → G'.2.2.2 = (mc, ms) → xMet l y bytes maxL ret fr lo D dA base sa As G' (fun v G2 => ∃ r, v = enc r ∧ K' r G2))
    (hd : decode cc pc = .ok (.invokestatic idx, 3)) (h : xcall mc ms P K G) (kk : ∀ r G', K r G' → xW p l e R s m args below meth c nL Q D dA base sa (pc + 3) lv ((enc r).toList ++ st) G') : xW p l e R s m args below meth c nL Q D dA base sa pc lv (As.reverse ++ st) G := by
  intro H locs cells slots ls hR hS hc hs hL
  obtain ⟨h1, h2, h3⟩ := h
  have hts := F.2.2.2.2.1
  have hm := hM _ _ h3 rfl
  refine x_run (va_runS (As := As) (rest := st) ⟨F.1, F.2.1, F.2.2.1, F.2.2.2.1, hts⟩ hm (⟨callB_of n hts (x_goodAll hdc) rfl rfl rfl (hts _ hini) (hts _ hlk) hy hR0, hts _ hst⟩) ⟨xPc.blind, x_pre F (hR.pay') hS⟩ rfl hn hL.1.1 rfl (lv_room h8) hd ⟨by show cells + mc ≤ _; omega, by show slots + ms ≤ _; omega⟩) hS (fun v G' H1 locs1 hK hR1 hS1 => ?_)
  obtain ⟨r, rfl, hK⟩ := hK
  exact kk r _ hK H1 locs1 (cells + mc) (slots + ms) ls hR1.pay' hS1 (by show cells + mc + (G.2.2.2.1 - mc) ≤ _; omega) (by show slots + ms + (G.2.2.2.2 - ms) ≤ _; omega) hL
theorem x_callV (F : xFix p R s m args meth c cc nL own D dA base sa) {ρ : Type} {enc : ρ → Option Value} {K : ρ → xS → Prop} {P : Nat → (ρ → xS → Prop) → xS → Prop} {y : MethodName} {bytes : ByteArray} {maxL : Nat} {ret : Option FieldType} {fr lo mc ms n idx : Nat} {As : List Value} (hdc : Cond.code y bytes maxL ret ∈ xBig) (hini : Cond.initialized y.cls ∈ xBig) (hst : Cond.instanceMethod y ∈ xBig) (hsel : Cond.selects y.cls y y ∈ xBig) (hlk : Cond.methodLink own idx y ∈ xBig) (hy : y.cls ≠ "java/lang/invoke/MethodHandle" ∧ y.cls ≠ "java/lang/invoke/VarHandle" ∧ (parseMethodDescriptor y.desc).map (fun d => d.parameters.length) = some n) (hn : As.length = n) (hR0 : fr + 1 ≤ R.frames ∧ 8 + (maxL + 11) + lo ≤ R.locals) (h8 : (st.map fun v => v.category).sum ≤ 8) {ci : Nat} {qc : vw_C} (hcl : classes[ci]? = some qc) (hqc : qc.1 = y.cls) {ro : Option Nat}
    (hM : ∀ (b : Nat) (K' : ρ → xS → Prop) (G' : xS), P b K' G' → G'.2.2.2 = (mc, ms) → xMet l y bytes maxL ret fr lo D dA base sa (va_rf (some b) :: As) G' (fun v G2 => ∃ r, v = enc r ∧ K' r G2))
    (hd : decode cc pc = .ok (.invokevirtual idx, 3)) (h : xob ci ro (fun b => xcall mc ms (P b) K) G) (kk : ∀ r G', K r G' → xW p l e R s m args below meth c nL Q D dA base sa (pc + 3) lv ((enc r).toList ++ st) G') : xW p l e R s m args below meth c nL Q D dA base sa pc lv (As.reverse ++ va_rf ro :: st) G := by
  intro H locs cells slots ls hR hS hc hs hL
  obtain ⟨b, fs, rfl, hob, h1, h2, h3⟩ := h
  have hts := F.2.2.2.2.1
  have hm := hM b _ _ h3 rfl
  refine x_run (va_runV (C := y.cls) (b := b) (As := As) (rest := st) ⟨F.1, F.2.1, F.2.2.1, F.2.2.2.1, hts⟩ hm (⟨callB_of n hts (x_goodAll hdc) rfl rfl rfl (hts _ hini) (hts _ hlk) hy hR0, hts _ hst, hts _ hsel⟩) ⟨xPc.blind, by rw [← hqc]; exact va_recv F.2.2.2.2.2.1.1 (hR.one hob) hcl (q0 := 0) rfl, x_pre F (As := va_rf (some b) :: As) (hR.pay') hS⟩ rfl hn hL.1.1 rfl (lv_room h8) hd ⟨by show cells + mc ≤ _; omega, by show slots + ms ≤ _; omega⟩) hS (fun v G' H1 locs1 hK hR1 hS1 => ?_)
  obtain ⟨r, rfl, hK⟩ := hK
  exact kk r _ hK H1 locs1 (cells + mc) (slots + ms) ls hR1.pay' hS1 (by show cells + mc + (G.2.2.2.1 - mc) ≤ _; omega) (by show slots + ms + (G.2.2.2.2 - ms) ≤ _; omega) hL
theorem x_callI (F : xFix p R s m args meth c cc nL own D dA base sa) {ρ : Type} {enc : ρ → Option Value} {K : ρ → xS → Prop} {P : (ρ → xS → Prop) → xS → Prop} {y : MethodName} {bytes : ByteArray} {maxL : Nat} {fr lo mc ms n idx : Nat} {As : List Value} (hdc : Cond.code y bytes maxL none ∈ xBig) (hini : Cond.initialized y.cls ∈ xBig) (hst : Cond.instanceMethod y ∈ xBig) (hy1 : y.name = "<init>") (hlk : Cond.methodLink own idx y ∈ xBig) (hy : y.cls ≠ "java/lang/invoke/MethodHandle" ∧ y.cls ≠ "java/lang/invoke/VarHandle" ∧ (parseMethodDescriptor y.desc).map (fun d => d.parameters.length) = some n) (hn : As.length = n) (hR0 : fr + 1 ≤ R.frames ∧ 8 + (maxL + 11) + lo ≤ R.locals) (h8 : (st.map fun v => v.category).sum ≤ 8) {b : Nat}
    (hM : ∀ (K' : ρ → xS → Prop) (G' : xS), P K' G' → G'.2.2.2 = (mc, ms) → xMet l y bytes maxL none fr lo D dA base sa (va_rf (some b) :: As) G' (fun v G2 => ∃ r, v = enc r ∧ K' r G2))
    (hd : decode cc pc = .ok (.invokespecial idx, 3)) (h : xcall mc ms P K G) (kk : ∀ r G', K r G' → xW p l e R s m args below meth c nL Q D dA base sa (pc + 3) lv ((enc r).toList ++ st) G') : xW p l e R s m args below meth c nL Q D dA base sa pc lv (As.reverse ++ va_rf (some b) :: st) G := by
  intro H locs cells slots ls hR hS hc hs hL
  obtain ⟨h1, h2, h3⟩ := h
  have hts := F.2.2.2.2.1
  have hm := hM _ _ h3 rfl
  refine x_run (va_runI (b := b) (As := As) (rest := st) ⟨F.1, F.2.1, F.2.2.1, F.2.2.2.1, hts⟩ hm (⟨callB_of n hts (x_goodAll hdc) rfl rfl rfl (hts _ hini) (hts _ hlk) hy hR0, hy1, hts _ hst⟩) ⟨xPc.blind, x_pre F (As := va_rf (some b) :: As) (hR.pay') hS⟩ rfl hn hL.1.1 rfl (lv_room h8) hd ⟨by show cells + mc ≤ _; omega, by show slots + ms ≤ _; omega⟩) hS (fun v G' H1 locs1 hK hR1 hS1 => ?_)
  obtain ⟨r, rfl, hK⟩ := hK
  exact kk r _ hK H1 locs1 (cells + mc) (slots + ms) ls hR1.pay' hS1 (by show cells + mc + (G.2.2.2.1 - mc) ≤ _; omega) (by show slots + ms + (G.2.2.2.2 - ms) ≤ _; omega) hL
theorem x_callSN (F : xFix p R s m args meth c cc nL own D dA base sa) {ρ : Type} {enc : ρ → Option Value} {K : ρ → xS → Prop} {P : (ρ → xS → Prop) → xS → Prop} {y : MethodName} {bytes : ByteArray} {maxL : Nat} {ret : Option FieldType} {host : String} {fr lo mc ms n idx : Nat} {As : List Value} (hdc : Cond.code y bytes maxL ret ∈ xBig) (hini : Cond.initialized y.cls ∈ xBig) (hst : Cond.static y ∈ xBig) (hlk : (own, idx, y, host) ∈ xNestM) (hy : y.cls ≠ "java/lang/invoke/MethodHandle" ∧ y.cls ≠ "java/lang/invoke/VarHandle" ∧ (parseMethodDescriptor y.desc).map (fun d => d.parameters.length) = some n) (hn : As.length = n) (hR0 : fr + 1 ≤ R.frames ∧ 8 + (maxL + 11) + lo ≤ R.locals) (h8 : (st.map fun v => v.category).sum ≤ 8)
    (hM : ∀ (K' : ρ → xS → Prop) (G' : xS), P K' G' → G'.2.2.2 = (mc, ms) → xMet l y bytes maxL ret fr lo D dA base sa As G' (fun v G2 => ∃ r, v = enc r ∧ K' r G2))
    (hd : decode cc pc = .ok (.invokestatic idx, 3)) (h : xcall mc ms P K G) (kk : ∀ r G', K r G' → xW p l e R s m args below meth c nL Q D dA base sa (pc + 3) lv ((enc r).toList ++ st) G') : xW p l e R s m args below meth c nL Q D dA base sa pc lv (As.reverse ++ st) G := by
  intro H locs cells slots ls hR hS hc hs hL
  obtain ⟨h1, h2, h3⟩ := h
  have hts := F.2.2.2.2.1
  have hm := hM _ _ h3 rfl
  refine x_run (va_runSN (As := As) (rest := st) ⟨F.1, F.2.1, F.2.2.1, F.2.2.2.1, hts⟩ hm (⟨va_cnB n hts (x_goodAll hdc) rfl rfl rfl (F.2.2.2.2.2.1.2.2.1 _ hlk) (hts _ hini) hy hR0, hts _ hst, trivial⟩) ⟨xPc.blind, x_pre F (hR.pay') hS⟩ rfl hn hL.1.1 rfl (lv_room h8) hd ⟨by show cells + mc ≤ _; omega, by show slots + ms ≤ _; omega⟩) hS (fun v G' H1 locs1 hK hR1 hS1 => ?_)
  obtain ⟨r, rfl, hK⟩ := hK
  exact kk r _ hK H1 locs1 (cells + mc) (slots + ms) ls hR1.pay' hS1 (by show cells + mc + (G.2.2.2.1 - mc) ≤ _; omega) (by show slots + ms + (G.2.2.2.2 - ms) ≤ _; omega) hL
theorem x_callVN (F : xFix p R s m args meth c cc nL own D dA base sa) {ρ : Type} {enc : ρ → Option Value} {K : ρ → xS → Prop} {P : Nat → (ρ → xS → Prop) → xS → Prop} {y : MethodName} {bytes : ByteArray} {maxL : Nat} {ret : Option FieldType} {host : String} {fr lo mc ms n idx : Nat} {As : List Value} (hdc : Cond.code y bytes maxL ret ∈ xBig) (hini : Cond.initialized y.cls ∈ xBig) (hst : Cond.instanceMethod y ∈ xBig) (hsel : Cond.selects y.cls y y ∈ xBig) (hlk : (own, idx, y, host) ∈ xNestM) (hy : y.cls ≠ "java/lang/invoke/MethodHandle" ∧ y.cls ≠ "java/lang/invoke/VarHandle" ∧ (parseMethodDescriptor y.desc).map (fun d => d.parameters.length) = some n) (hn : As.length = n) (hR0 : fr + 1 ≤ R.frames ∧ 8 + (maxL + 11) + lo ≤ R.locals) (h8 : (st.map fun v => v.category).sum ≤ 8) {ci : Nat} {qc : vw_C} (hcl : classes[ci]? = some qc) (hqc : qc.1 = y.cls) {ro : Option Nat}
    (hM : ∀ (b : Nat) (K' : ρ → xS → Prop) (G' : xS), P b K' G' → G'.2.2.2 = (mc, ms) → xMet l y bytes maxL ret fr lo D dA base sa (va_rf (some b) :: As) G' (fun v G2 => ∃ r, v = enc r ∧ K' r G2))
    (hd : decode cc pc = .ok (.invokevirtual idx, 3)) (h : xob ci ro (fun b => xcall mc ms (P b) K) G) (kk : ∀ r G', K r G' → xW p l e R s m args below meth c nL Q D dA base sa (pc + 3) lv ((enc r).toList ++ st) G') : xW p l e R s m args below meth c nL Q D dA base sa pc lv (As.reverse ++ va_rf ro :: st) G := by
  intro H locs cells slots ls hR hS hc hs hL
  obtain ⟨b, fs, rfl, hob, h1, h2, h3⟩ := h
  have hts := F.2.2.2.2.1
  have hm := hM b _ _ h3 rfl
  refine x_run (va_runVN (C := y.cls) (b := b) (As := As) (rest := st) ⟨F.1, F.2.1, F.2.2.1, F.2.2.2.1, hts⟩ hm (⟨va_cnB n hts (x_goodAll hdc) rfl rfl rfl (F.2.2.2.2.2.1.2.2.1 _ hlk) (hts _ hini) hy hR0, hts _ hst, hts _ hsel⟩) ⟨xPc.blind, by rw [← hqc]; exact va_recv F.2.2.2.2.2.1.1 (hR.one hob) hcl (q0 := 0) rfl, x_pre F (As := va_rf (some b) :: As) (hR.pay') hS⟩ rfl hn hL.1.1 rfl (lv_room h8) hd ⟨by show cells + mc ≤ _; omega, by show slots + ms ≤ _; omega⟩) hS (fun v G' H1 locs1 hK hR1 hS1 => ?_)
  obtain ⟨r, rfl, hK⟩ := hK
  exact kk r _ hK H1 locs1 (cells + mc) (slots + ms) ls hR1.pay' hS1 (by show cells + mc + (G.2.2.2.1 - mc) ≤ _; omega) (by show slots + ms + (G.2.2.2.2 - ms) ≤ _; omega) hL
theorem x_callIN (F : xFix p R s m args meth c cc nL own D dA base sa) {ρ : Type} {enc : ρ → Option Value} {K : ρ → xS → Prop} {P : (ρ → xS → Prop) → xS → Prop} {y : MethodName} {bytes : ByteArray} {maxL : Nat} {host : String} {fr lo mc ms n idx : Nat} {As : List Value} (hdc : Cond.code y bytes maxL none ∈ xBig) (hini : Cond.initialized y.cls ∈ xBig) (hst : Cond.instanceMethod y ∈ xBig) (hy1 : y.name = "<init>") (hlk : (own, idx, y, host) ∈ xNestM) (hy : y.cls ≠ "java/lang/invoke/MethodHandle" ∧ y.cls ≠ "java/lang/invoke/VarHandle" ∧ (parseMethodDescriptor y.desc).map (fun d => d.parameters.length) = some n) (hn : As.length = n) (hR0 : fr + 1 ≤ R.frames ∧ 8 + (maxL + 11) + lo ≤ R.locals) (h8 : (st.map fun v => v.category).sum ≤ 8) {b : Nat}
    (hM : ∀ (K' : ρ → xS → Prop) (G' : xS), P K' G' → G'.2.2.2 = (mc, ms) → xMet l y bytes maxL none fr lo D dA base sa (va_rf (some b) :: As) G' (fun v G2 => ∃ r, v = enc r ∧ K' r G2))
    (hd : decode cc pc = .ok (.invokespecial idx, 3)) (h : xcall mc ms P K G) (kk : ∀ r G', K r G' → xW p l e R s m args below meth c nL Q D dA base sa (pc + 3) lv ((enc r).toList ++ st) G') : xW p l e R s m args below meth c nL Q D dA base sa pc lv (As.reverse ++ va_rf (some b) :: st) G := by
  intro H locs cells slots ls hR hS hc hs hL
  obtain ⟨h1, h2, h3⟩ := h
  have hts := F.2.2.2.2.1
  have hm := hM _ _ h3 rfl
  refine x_run (va_runIN (b := b) (As := As) (rest := st) ⟨F.1, F.2.1, F.2.2.1, F.2.2.2.1, hts⟩ hm (⟨va_cnB n hts (x_goodAll hdc) rfl rfl rfl (F.2.2.2.2.2.1.2.2.1 _ hlk) (hts _ hini) hy hR0, hy1, hts _ hst⟩) ⟨xPc.blind, x_pre F (As := va_rf (some b) :: As) (hR.pay') hS⟩ rfl hn hL.1.1 rfl (lv_room h8) hd ⟨by show cells + mc ≤ _; omega, by show slots + ms ≤ _; omega⟩) hS (fun v G' H1 locs1 hK hR1 hS1 => ?_)
  obtain ⟨r, rfl, hK⟩ := hK
  exact kk r _ hK H1 locs1 (cells + mc) (slots + ms) ls hR1.pay' hS1 (by show cells + mc + (G.2.2.2.1 - mc) ≤ _; omega) (by show slots + ms + (G.2.2.2.2 - ms) ≤ _; omega) hL
theorem x_gets (F : xFix p R s m args meth c cc nL own D dA base sa) {idx : Nat} (hw : Cond.fieldLink own idx "BlockSearch" "PARENT" "[I" ∈ xBig) (hd : decode cc pc = .ok (.getstatic idx, 3)) (kk : xW p l e R s m args below meth c nL Q D dA base sa (pc + 3) lv (va_rf (some (sa 0)) :: st) G) : xW p l e R s m args below meth c nL Q D dA base sa pc lv st G := by
  intro H locs cells slots ls hR hS hc hs hL
  exact va_gets F.1 F.2.1 F.2.2.2.2.2.1.2.2.2.2.2.1 hS F.2.2.2.1 (F.2.2.2.2.1 _ hw) (fun x q => q) hd (kk H locs cells slots ls hR hS hc hs hL)
theorem x_getsN (F : xFix p R s m args meth c cc nL own D dA base sa) {idx : Nat} {host : String} (hw : (own, idx, "BlockSearch", "PARENT", "[I", host) ∈ xNestF) (hd : decode cc pc = .ok (.getstatic idx, 3)) (kk : xW p l e R s m args below meth c nL Q D dA base sa (pc + 3) lv (va_rf (some (sa 0)) :: st) G) : xW p l e R s m args below meth c nL Q D dA base sa pc lv st G := by
  intro H locs cells slots ls hR hS hc hs hL
  exact va_getsN F.1 F.2.1 F.2.2.2.2.2.1.2.2.2.2.2.1 hS F.2.2.2.1 (va_Nw.use rfl (F.2.2.2.2.2.1.2.1 _ hw)) (fun x q => q) hd (kk H locs cells slots ls hR hS hc hs hL)
theorem x_tab (F : xFix p R s m args meth c cc nL own D dA base sa) {i : Int32} {K : Int32 → xS → Prop} (hd : decode cc pc = .ok (.iaload, 1)) (h : xtab 4 xPar i K G) (kk : ∀ v, K v G → xW p l e R s m args below meth c nL Q D dA base sa (pc + 1) lv (.int v :: st) G) : xW p l e R s m args below meth c nL Q D dA base sa pc lv (.int i :: va_rf (some (sa 0)) :: st) G := by
  intro H locs cells slots ls hR hS hc hs hL
  exact va_ti F.1 F.2.1 F.2.2.2.2.2.1.2.2.2.2.2.2 hS h.1 rfl hd (kk _ h.2 H locs cells slots ls hR hS hc hs hL)
theorem x_lald (F : xFix p R s m args meth c cc nL own D dA base sa) {t : Nat} (ht : (xtysL dA)[t]? = some (dA t, .long)) {r : Option Nat} {i : Int32} {K : Int64 → xS → Prop} (hd : decode cc pc = .ok (.laload, 1)) (h : xalL t r i K G) (kk : ∀ v, K v G → xW p l e R s m args below meth c nL Q D dA base sa (pc + 1) lv (.long v :: st) G) : xW p l e R s m args below meth c nL Q D dA base sa pc lv (.int i :: va_rf r :: st) G := by
  intro H locs cells slots ls hR hS hc hs hL
  obtain ⟨a, n, f, rfl, hG, hi, hK⟩ := h
  have hlt : i.toNatClampNeg < n := Nat.not_le.mp fun q => hi (Or.inr q)
  have ha : H[a]? = some (vp_cell (dA t) (n, .inr (.inl f))) := (hR.2.1 a _ hG).2
  exact W.lald (v := .long (f i.toNatClampNeg)) F.1 F.2.1 ha ((F.2.2.2.2.2.1.1.2 t _ ht).1 n (fun j => .long (f j))) (fun q => by cases q) (by show ¬ (i < 0 ∨ (arrV _ _ _).slots.size ≤ _); rw [arrV_size]; exact hi) (by show (arrV _ _ _).slots[_]? = _; rw [arrV_read _ _ hlt]) rfl rfl hd (kk _ hK H locs cells slots ls hR hS hc hs hL)
theorem x_upL (f : Nat → Int64) (k : Nat) (x : Int64) : (fun j => Value.long (va_up f k x j)) = updV (fun j => .long (f j)) k (.long x) := by
  funext q
  by_cases hq : q = k
  · subst hq; simp [updV, va_up]
  · simp [updV, va_up, hq]
theorem x_last (F : xFix p R s m args meth c cc nL own D dA base sa) {t : Nat} (ht : (xtysL dA)[t]? = some (dA t, .long)) {r : Option Nat} {i : Int32} {v : Int64} {K : xS → Prop} (hd : decode cc pc = .ok (.lastore, 1)) (h : xasL t r i v K G) (kk : ∀ G', K G' → xW p l e R s m args below meth c nL Q D dA base sa (pc + 1) lv st G') : xW p l e R s m args below meth c nL Q D dA base sa pc lv (.long v :: .int i :: va_rf r :: st) G := by
  intro H locs cells slots ls hR hS hc hs hL
  obtain ⟨a, n, f, rfl, hG, hi, hK⟩ := h
  have ha : H[a]? = some (vp_cell (dA t) (n, .inr (.inl f))) := (hR.2.1 a _ hG).2
  refine W.last F.1 F.2.1 ha ((F.2.2.2.2.2.1.1.2 t _ ht).1 n (fun j => .long (f j))) (fun q => by cases q) (by show ¬ (i < 0 ∨ (arrV _ _ _).slots.size ≤ _); rw [arrV_size]; exact hi) rfl rfl hd fun H1 e1 z oq => ?_
  refine kk _ hK H1 _ cells slots ls (hR.put hG ?_ z oq) (hS.put z oq (hR.2.1 a _ hG).1) hc hs hL
  show H1[a]? = some (vp_cell _ _)
  rw [e1, vp_cell_l, vp_cell_l, arrV_store, x_upL]
theorem x_lconst (F : xFix p R s m args meth c cc nL own D dA base sa) {n : Fin 2} {v : Int64} (hd : decode cc pc = .ok (.lconst n, 1)) (hv : Int64.ofNat (n : Nat) = v) (kk : xW p l e R s m args below meth c nL Q D dA base sa (pc + 1) lv (.long v :: st) G) : xW p l e R s m args below meth c nL Q D dA base sa pc lv st G := by
  intro H locs cells slots ls hR hS hc hs hL
  exact lv_lconst F.1 F.2.1 hd hv (kk H locs cells slots ls hR hS hc hs hL)
theorem x_ldc2 (F : xFix p R s m args meth c cc nL own D dA base sa) {idx : Nat} {v : Int64} (hw : Cond.constantLong own idx v ∈ xBig) (hd : decode cc pc = .ok (.ldc2_w idx, 3)) (kk : xW p l e R s m args below meth c nL Q D dA base sa (pc + 3) lv (.long v :: st) G) : xW p l e R s m args below meth c nL Q D dA base sa pc lv st G := by
  intro H locs cells slots ls hR hS hc hs hL
  exact lv_ldc2 F.1 F.2.1 F.2.2.2.1 (F.2.2.2.2.1 _ hw) hd (kk H locs cells slots ls hR hS hc hs hL)
theorem x_i2l (F : xFix p R s m args meth c cc nL own D dA base sa) {x : Int32} (hd : decode cc pc = .ok (.i2l, 1)) (kk : xW p l e R s m args below meth c nL Q D dA base sa (pc + 1) lv (.long x.toInt64 :: st) G) : xW p l e R s m args below meth c nL Q D dA base sa pc lv (.int x :: st) G := by
  intro H locs cells slots ls hR hS hc hs hL
  exact lv_i2l F.1 F.2.1 hd rfl (kk H locs cells slots ls hR hS hc hs hL)
theorem x_lor (F : xFix p R s m args meth c cc nL own D dA base sa) {x y : Int64} (hd : decode cc pc = .ok (.lor, 1)) (kk : xW p l e R s m args below meth c nL Q D dA base sa (pc + 1) lv (.long (x ||| y) :: st) G) : xW p l e R s m args below meth c nL Q D dA base sa pc lv (.long y :: .long x :: st) G := by
  intro H locs cells slots ls hR hS hc hs hL
  exact lv_lor F.1 F.2.1 hd (kk H locs cells slots ls hR hS hc hs hL)
theorem x_land (F : xFix p R s m args meth c cc nL own D dA base sa) {x y : Int64} (hd : decode cc pc = .ok (.land, 1)) (kk : xW p l e R s m args below meth c nL Q D dA base sa (pc + 1) lv (.long (x &&& y) :: st) G) : xW p l e R s m args below meth c nL Q D dA base sa pc lv (.long y :: .long x :: st) G := by
  intro H locs cells slots ls hR hS hc hs hL
  exact lv_land F.1 F.2.1 hd (kk H locs cells slots ls hR hS hc hs hL)
theorem x_lshl (F : xFix p R s m args meth c cc nL own D dA base sa) {x : Int64} {y : Int32} (hd : decode cc pc = .ok (.lshl, 1)) (kk : xW p l e R s m args below meth c nL Q D dA base sa (pc + 1) lv (.long (x <<< (y.toInt64 &&& 63)) :: st) G) : xW p l e R s m args below meth c nL Q D dA base sa pc lv (.int y :: .long x :: st) G := by
  intro H locs cells slots ls hR hS hc hs hL
  exact lv_lshl F.1 F.2.1 hd rfl (kk H locs cells slots ls hR hS hc hs hL)
theorem x_lshr (F : xFix p R s m args meth c cc nL own D dA base sa) {x : Int64} {y : Int32} (hd : decode cc pc = .ok (.lshr, 1)) (kk : xW p l e R s m args below meth c nL Q D dA base sa (pc + 1) lv (.long (x >>> (y.toInt64 &&& 63)) :: st) G) : xW p l e R s m args below meth c nL Q D dA base sa pc lv (.int y :: .long x :: st) G := by
  intro H locs cells slots ls hR hS hc hs hL
  exact lv_lshr F.1 F.2.1 hd rfl (kk H locs cells slots ls hR hS hc hs hL)
theorem x_mmax (F : xFix p R s m args meth c cc nL own D dA base sa) {idx : Nat} (hw : Cond.methodLink own idx Lib.Math.max.name ∈ xBig) (hst : Cond.static Lib.Math.max.name ∈ xBig) (hini : Cond.initialized "java/lang/Math" ∈ xBig) (hcd : Cond.code Lib.Math.max.name Lib.Math.max.code 2 (some .int) ∈ xBig) (hf : 1 ≤ R.frames) (ho : (st.map fun v => v.category).sum + 13 ≤ R.locals) {x y : Int32} (hd : decode cc pc = .ok (.invokestatic idx, 3)) (kk : xW p l e R s m args below meth c nL Q D dA base sa (pc + 3) lv (.int (if x < y then y else x) :: st) G) : xW p l e R s m args below meth c nL Q D dA base sa pc lv (.int y :: .int x :: st) G := by
  intro H locs cells slots ls hR hS hc hs hL
  have hts := F.2.2.2.2.1
  exact va_mmax F.1 F.2.1 (F.2.2.1.trans hL.1.1.symm) F.2.2.2.1 (hts _ hw) (hts _ hst) (hts _ hini) (hts _ hcd) hf ho (by omega) (by omega) hd (kk H locs cells slots ls hR hS hc hs hL)
theorem x_mmin (F : xFix p R s m args meth c cc nL own D dA base sa) {idx : Nat} (hw : Cond.methodLink own idx Lib.Math.min.name ∈ xBig) (hst : Cond.static Lib.Math.min.name ∈ xBig) (hini : Cond.initialized "java/lang/Math" ∈ xBig) (hcd : Cond.code Lib.Math.min.name Lib.Math.min.code 2 (some .int) ∈ xBig) (hf : 1 ≤ R.frames) (ho : (st.map fun v => v.category).sum + 13 ≤ R.locals) {x y : Int32} (hd : decode cc pc = .ok (.invokestatic idx, 3)) (kk : xW p l e R s m args below meth c nL Q D dA base sa (pc + 3) lv (.int (if y < x then y else x) :: st) G) : xW p l e R s m args below meth c nL Q D dA base sa pc lv (.int y :: .int x :: st) G := by
  intro H locs cells slots ls hR hS hc hs hL
  have hts := F.2.2.2.2.1
  exact va_mmin F.1 F.2.1 (F.2.2.1.trans hL.1.1.symm) F.2.2.2.1 (hts _ hw) (hts _ hst) (hts _ hini) (hts _ hcd) hf ho (by omega) (by omega) hd (kk H locs cells slots ls hR hS hc hs hL)
theorem x_newL (F : xFix p R s m args meth c cc nL own D dA base sa) {t : Nat} (ht : (xtysL dA)[t]? = some (dA t, .long)) (hw : Cond.arrayClass .long ∈ xBig) {n : Int32} {K : Nat → xS → Prop} (hd : decode cc pc = .ok (.newarray .long, 2)) (h : xnewL t n K G) (kk : ∀ a G', K a G' → xW p l e R s m args below meth c nL Q D dA base sa (pc + 2) lv (va_rf (some a) :: st) G') : xW p l e R s m args below meth c nL Q D dA base sa pc lv (.int n :: st) G := by
  intro H locs cells slots ls hR hS hc hs hL
  obtain ⟨N, rfl, hN, h1, h2, hK⟩ := h
  have hz := hR.1
  refine va_newaK (atype := .long) F.1 F.2.1 (F.2.2.2.2.1 _ hw) rfl hd rfl (nI_pos (by omega)) (nI_clamp (by omega)) (by show N * _ ≤ _; simp only [newarray.typeOf, componentBytes]; omega) (by omega) (by omega) hz fun H1 cA e1 z1 o1 hAr hNm => ?_
  have hb : base ≤ H.size := Nat.le_trans F.2.2.2.2.2.2.2 hS.1
  have hcA : cA = dA t := Option.some.inj (hNm.symm.trans (F.2.2.2.2.2.1.1.2 t _ ht).2)
  subst hcA
  rw [← hz] at e1 z1 o1
  refine kk _ _ hK H1 locs (cells + 1) (slots + N) ls (hR.new (c1 := .inl (t, N, .inr (.inr (fun _ => 0)))) hb e1 z1 o1) ⟨Nat.le_trans hS.1 (by omega), fun x q1 q2 => (o1 x (Nat.lt_of_lt_of_le q1 hS.1)).trans (hS.2.1 x q1 q2), hS.2.2⟩ ?_ ?_ hL
  · show cells + 1 + (G.2.2.2.1 - 1) ≤ _; omega
  · show slots + N + (G.2.2.2.2 - N) ≤ _; omega
end XR
end
section
section XR2
variable {p : Program} {l : Launch} {e : Env} {R : Room} {s : State} {m : MethodId} {args : Array Value} {below : List Frame} {meth : Method} {c : Code} {nL : Nat} {Q : State → Prop} {D : va_G} {dA : Nat → ClassId} {base : Nat} {sa : Nat → Nat} {cc : ByteArray} {own : String} {pc : Nat} {lv lv' : List (Nat × Value)} {st : List Value} {G : xS}
theorem x_outer (c : ClassId) (N h0 : Nat) : ∀ i : Nat, Jvm.Free.Multi.outerC c N h0 i = arrV c N (fun j => va_rf (if j < i then some (h0 + 1 + j) else none))
  | 0 => by
    show ({ cls := c, slots := Array.replicate N .null, vm := .none } : Cell) = _
    rw [arrV_new]
    refine congrArg (arrV c N) (funext fun j => ?_)
    simp [va_rf]
  | i + 1 => by
    show (Jvm.Free.Multi.outerC c N h0 i).setSlot i (.ref (h0 + 1 + i)) = _
    rw [x_outer c N h0 i, arrV_store]
    refine congrArg (arrV c N) (funext fun j => ?_)
    by_cases e : j = i
    · subst e
      simp [updV, va_rf]
    · by_cases h : j < i
      · simp [updV, e, h, Nat.lt_succ_of_lt h]
      · simp [updV, e, h, show ¬ j < i + 1 by omega]
theorem x_newG (F : xFix p R s m args meth c cc nL own D dA base sa) {idx : Nat} (hw : Cond.classLink own idx "[[I" ∈ xBig) (hai : Cond.arrayClass .int ∈ xBig) {n k : Int32} {K : Nat → xS → Prop} (hd : decode cc pc = .ok (.multianewarray idx 2, 4)) (h : xnewG 2 0 n k K G) (kk : ∀ a G', K a G' → xW p l e R s m args below meth c nL Q D dA base sa (pc + 4) lv (va_rf (some a) :: st) G') : xW p l e R s m args below meth c nL Q D dA base sa pc lv (.int k :: .int n :: st) G := by
  intro H locs cells slots ls hR hS hc hs hL
  obtain ⟨N, M, rfl, rfl, hN, hM, h1, h2, hK⟩ := h
  intro T hT Xs
  have en : (nI N).toNatClampNeg = N := nI_clamp (by omega)
  have ek : (nI M).toNatClampNeg = M := nI_clamp (by omega)
  have hNM : N * M ≤ 1000 * 1000 := Nat.mul_le_mul hN hM
  obtain ⟨vm₁, cA, comp, -, fA, fC, hO, -, X', step⟩ := Xs.multianewarray2F F.1 (own := own) (index := idx) (ty := .int) F.2.2.2.1 (F.2.2.2.2.1 _ hw) F.2.2.2.2.2.1.2.2.2.2.1.1 (F.2.2.2.2.1 _ hai) (g := F0 m pc ls (.int (nI M) :: .int (nI N) :: st)) rfl (by rw [F.2.1]; exact hd) rfl (nI_pos (by omega)) (nI_pos (by omega)) (by rw [en]; omega) (by rw [ek]; simp only [componentBytes]; omega) (by rw [ek]; omega) rfl rfl (by rw [en]; omega) (by rw [en, ek]; omega)
  rw [en, ek] at X' step
  have hcA : cA = dA 2 := Option.some.inj (fA.symm.trans (F.2.2.2.2.2.1.1.2 2 _ rfl).2)
  have hco : comp = dA 0 := Option.some.inj (fC.symm.trans (F.2.2.2.2.2.1.1.2 0 _ rfl).2)
  subst hcA; subst hco
  generalize hFF : Jvm.Free.Multi.fill (T.setVm vm₁) (dA 2) (dA 0) N M (defaultValue .int) N = FF at X' step
  have hTh : (T.setVm vm₁).heap = H := hT
  obtain ⟨f1, f2, -, -⟩ := Jvm.Free.Multi.fill_facts (T.setVm vm₁) (dA 2) (dA 0) N M (defaultValue .int) N
  rw [hFF, hTh] at f1 f2
  have hold : ∀ x : Nat, x < H.size → FF.heap[x]? = H[x]? := fun x hx => by
    have := Jvm.Free.Multi.fill_old (T.setVm vm₁) (dA 2) (dA 0) N M (defaultValue .int) (a := x) (by rw [hTh]; exact hx) N
    rw [hFF, hTh] at this
    exact this
  have hrow : ∀ j : Nat, j < N → FF.heap[H.size + 1 + j]? = some (vp_cell (dA 0) (M, .inl (fun _ => 0))) := fun j hj => by
    have := Jvm.Free.Multi.fill_inner (T.setVm vm₁) (dA 2) (dA 0) N M (defaultValue .int) N j hj
    rw [hFF, hTh] at this
    rw [this, vp_cell_i, ← arrV_new]
    rfl
  rw [x_outer] at f2
  have hz := hR.1
  have hb : base ≤ H.size := Nat.le_trans F.2.2.2.2.2.2.2 hS.1
  obtain ⟨-, r1, r2, dj⟩ := hR
  have l1 : ∀ b c, G.1 b = some c → b < H.size := fun b c q => (r1 b c q).2.lt
  have l2 : ∀ b c, G.2.1 b = some c → b < H.size := fun b c q => (r2 b c q).2.lt
  have hR1 : xRep D dA base (xgrid G.1 2 0 G.2.2.1 N M, G.2.1, G.2.2.1 + (1 + N), G.2.2.2.1 - (1 + N), G.2.2.2.2 - (N + N * M)) FF.heap := by
    refine ⟨?_, fun b c hq => ?_, fun b c hq => ?_, fun b => ?_⟩
    · show FF.heap.size = G.2.2.1 + (1 + N); rw [f1, hz]; omega
    · have hq' : xgrid G.1 2 0 G.2.2.1 N M b = some c := hq
      unfold xgrid at hq'
      rw [← hz] at hq'
      by_cases e1 : b = H.size
      · rw [if_pos e1] at hq'
        cases hq'
        subst e1
        refine ⟨hb, ?_⟩
        show FF.heap[H.size]? = some (vp_cell _ _)
        rw [f2, vp_cell_q]
      · rw [if_neg e1] at hq'
        by_cases e2 : H.size < b ∧ b < H.size + 1 + N
        · rw [if_pos e2] at hq'
          cases hq'
          refine ⟨by omega, ?_⟩
          have := hrow (b - (H.size + 1)) (by omega)
          rw [show H.size + 1 + (b - (H.size + 1)) = b by omega] at this
          exact this
        · rw [if_neg e2] at hq'
          exact ⟨(r1 b c hq').1, (r1 b c hq').2.kept (hold b (l1 b c hq'))⟩
    · have hq' : G.2.1 b = some c := hq
      exact ⟨(r2 b c hq').1, (r2 b c hq').2.kept (hold b (l2 b c hq'))⟩
    · by_cases e1 : b < H.size
      · rcases dj b with q | q
        · refine Or.inl ?_
          show xgrid G.1 2 0 G.2.2.1 N M b = none
          unfold xgrid
          rw [← hz, if_neg (by omega), if_neg (by omega)]
          exact q
        · exact Or.inr q
      · refine Or.inr ?_
        show G.2.1 b = none
        cases hcb : G.2.1 b with
        | none => rfl
        | some c => exact absurd (l2 _ _ hcb) e1
  obtain ⟨t, a1, b1⟩ := kk _ _ hK FF.heap locs (cells + 1 + N) (slots + N + N * M) ls hR1 ⟨by rw [f1]; have := hS.1; omega, fun x q1 q2 => (hold x (Nat.lt_of_lt_of_le q1 hS.1)).trans (hS.2.1 x q1 q2), hS.2.2⟩ (by show cells + 1 + N + (G.2.2.2.1 - (1 + N)) ≤ _; omega) (by show slots + N + N * M + (G.2.2.2.2 - (N + N * M)) ≤ _; omega) hL FF rfl X'
  refine ⟨t, step t ?_, b1⟩
  have e0 : T.heap.size = G.2.2.1 := by rw [hT]; exact hz
  rw [e0]
  exact a1
theorem x_gast (F : xFix p R s m args meth c cc nL own D dA base sa) {r v : Option Nat} {i : Int32} {K : xS → Prop} (hd : decode cc pc = .ok (.aastore, 1)) (h : xasG 2 0 r i v K G) (kk : ∀ G', K G' → xW p l e R s m args below meth c nL Q D dA base sa (pc + 1) lv st G') : xW p l e R s m args below meth c nL Q D dA base sa pc lv (va_rf v :: .int i :: va_rf r :: st) G := by
  intro H locs cells slots ls hR hS hc hs hL
  obtain ⟨a, n, f, b, n1, f1, rfl, hG, hi, rfl, hGb, hK⟩ := h
  have hlt : i.toNatClampNeg < n := Nat.not_le.mp fun q => hi (Or.inr q)
  have h0 : ¬ i < 0 := fun q => hi (Or.inl q)
  have ha : H[a]? = some (vp_cell (dA 2) (n, .inr (.inr (.inr (.inr f))))) := (hR.2.1 a _ hG).2
  have hbv : H[b]? = some (vp_cell (dA 0) (n1, .inl f1)) := (hR.2.1 b _ hGb).2
  obtain ⟨-, ⟨kA, k1, k2⟩, ⟨k0, comp0, k3, k4⟩⟩ := F.2.2.2.2.2.1.2.2.2.2.1
  have has : s.vm.assignable (dA 0) (dA 0) = true := by
    simp [Vm.assignable, Vm.assignableAux, k3, k4, FieldType.isReference]
  refine W.aast F.1 F.2.1 ha (fun q h => by cases h) (fun h => by cases h) k1 k2 rfl k3 ⟨h0, by show _ < (arrV _ _ _).slots.size; rw [arrV_size]; exact hlt⟩ hbv (fun q h => by cases h) k3 has rfl rfl hd fun H1 e1 z oq => ?_
  refine kk _ hK H1 _ cells slots ls (hR.put hG ?_ z oq) (hS.put z oq (hR.2.1 a _ hG).1) hc hs hL
  show H1[a]? = some (vp_cell _ _)
  rw [e1, vp_cell_q, vp_cell_q, arrV_store, x_upR]
  rfl
theorem x_cpy (F : xFix p R s m args meth c cc nL own D dA base sa) {idx : Nat} (hw : Cond.methodLink own idx arraycopyName ∈ xBig) (hnat : Cond.native arraycopyName ∈ xBig) (hst : Cond.static arraycopyName ∈ xBig) (hini : Cond.initialized "java/lang/System" ∈ xBig) (hf : 1 ≤ R.frames) (ho : (st.map fun v => v.category).sum + (nativeFrameWords "java/lang/System" "arraycopy" 5 + 11) ≤ R.locals) {r0 r1 : Option Nat} {sp dp n : Int32} {K : xS → Prop} (hd : decode cc pc = .ok (.invokestatic idx, 3)) (h : xcpy 0 r0 sp r1 dp n K G) (kk : ∀ G', K G' → xW p l e R s m args below meth c nL Q D dA base sa (pc + 3) lv st G') : xW p l e R s m args below meth c nL Q D dA base sa pc lv (.int n :: .int dp :: va_rf r1 :: .int sp :: va_rf r0 :: st) G := by
  intro H locs cells slots ls hR hS hc hs hL
  obtain ⟨a0, n0, f0, a1, n1, f1, rfl, rfl, hG0, hG1, hne, h1, h2, h3, h4, h5, hK⟩ := h
  have nn : ∀ z : Int32, ¬ z < 0 → z.toInt = (z.toNatClampNeg : Int) := by
    intro z hz
    have hz0 : (0 : Int) ≤ z.toInt := by
      have := Int32.not_lt.mp hz
      simpa using Int32.le_iff_toInt_le.mp this
    show z.toInt = ((z.toInt.toNat : Nat) : Int)
    omega
  intro T hT X
  have hts := F.2.2.2.2.1
  have hKn := F.2.2.2.2.2.1.1
  have hc0 : H[a0]? = some (vp_cell (dA 0) (n0, .inl f0)) := (hR.2.1 a0 _ hG0).2
  have hc1 : H[a1]? = some (vp_cell (dA 0) (n1, .inl f1)) := (hR.2.1 a1 _ hG1).2
  obtain ⟨-, k0, hk0, cm0, hkk0⟩ := (hKn.2 0 _ rfl).1 n0 (fun j => .int (f0 j))
  obtain ⟨-, k1, hk1, cm1, hkk1⟩ := (hKn.2 0 _ rfl).1 n1 (fun j => .int (f1 j))
  obtain ⟨vm', X', step⟩ := X.arraycopy F.1 F.2.2.2.1 (hts _ hw) (hts _ hnat) (hts _ hst) (hts _ hini) (src := a0) (dst := a1) (cs := vp_cell (dA 0) (n0, .inl f0)) (cd := vp_cell (dA 0) (n1, .inl f1)) (srcPos := sp) (destPos := dp) (n := n) (by rw [hT]; exact hc0) (by rw [hT]; exact hc1)
    (fun _ h => by cases h) (fun _ h => by cases h) (fun h => by cases h) (fun h => by cases h) hk0 hk1 hkk0 hkk1 (by simp [refKind]) h1 h2 h3
    (by rw [nn sp h1, nn n h3]; show ¬ _ > ((arrV (dA 0) n0 (fun j => .int (f0 j))).slots.size : Int); rw [arrV_size]; omega)
    (by rw [nn dp h2, nn n h3]; show ¬ _ > ((arrV (dA 0) n1 (fun j => .int (f1 j))).slots.size : Int); rw [arrV_size]; omega)
    (fun vm₁ _ i hi => by
      have e : (vp_cell (dA 0) (n0, .inl f0)).slots.getD (sp.toNatClampNeg + i) .null = .int (f0 (sp.toNatClampNeg + i)) := by
        show (arrV (dA 0) n0 (fun j => .int (f0 j))).slots.getD _ _ = _
        rw [Array.getD_eq_getD_getElem?, arrV_read _ _ (by omega)]
        rfl
      refine ⟨?_, ?_⟩
      · rw [e]
        rfl
      · rw [e]
        exact trivial)
    (g := F0 m pc ls (.int n :: .int dp :: va_rf (some a1) :: .int sp :: va_rf (some a0) :: st)) rfl (hL.1.1.trans F.2.2.1.symm) (rest := st) rfl (by rw [F.2.1]; exact hd) hf (by show 2 * 0 + _ + _ ≤ _; omega)
  have e1 : copied (vp_cell (dA 0) (n0, .inl f0)) (vp_cell (dA 0) (n1, .inl f1)) sp dp n = vp_cell (dA 0) (n1, .inl (va_cpy f0 f1 sp.toNatClampNeg dp.toNatClampNeg n.toNatClampNeg)) := va_copied (fun z => .int z) (dA 0) (dA 0) f0 f1 h4
  rw [e1] at X' step
  have hl : a1 < H.size := (Array.getElem?_eq_some_iff.mp hc1).1
  have hheap : ((T.setVm vm').setCell a1 (vp_cell (dA 0) (n1, .inl (va_cpy f0 f1 sp.toNatClampNeg dp.toNatClampNeg n.toNatClampNeg)))).heap = H.setIfInBounds a1 (vp_cell (dA 0) (n1, .inl (va_cpy f0 f1 sp.toNatClampNeg dp.toNatClampNeg n.toNatClampNeg))) := by rw [← hT]; rfl
  have oq : ∀ q : Nat, q ≠ a1 → (H.setIfInBounds a1 (vp_cell (dA 0) (n1, .inl (va_cpy f0 f1 sp.toNatClampNeg dp.toNatClampNeg n.toNatClampNeg))))[q]? = H[q]? := fun q hq => by simp [Array.getElem?_setIfInBounds, Ne.symm hq]
  obtain ⟨t, q1, b1⟩ := kk _ hK _ _ cells slots ls (hR.put hG1 (show (H.setIfInBounds a1 _)[a1]? = some _ by simp [Array.getElem?_setIfInBounds, hl]; rfl) (by simp) oq) ⟨by simp; exact hS.1, fun q g1 g2 => by
      rw [oq q (fun e => g2 (by rw [e]; exact (hR.2.1 a1 _ hG1).1))]
      exact hS.2.1 q g1 g2, fun q hq => by
      rcases List.mem_append.mp hq with h | h
      · exact hS.2.2 q h
      · obtain ⟨z, -, hz⟩ := List.mem_map.mp h
        rw [← hz]
        exact (hR.2.1 a1 _ hG1).1⟩ hc hs hL _ hheap X'
  exact ⟨t, step t q1, b1⟩
end XR2
end
