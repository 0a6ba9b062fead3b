-- ===== PART A: goes FIRST, ahead of the names: the tables' words, and 'selects' of the private methods out of them =====
/-- a private method of a class that the tables say can be made, by its rows of tables_1 -/
def lw_okq (q : MethodName × Nat) : Prop := (q.1.cls ≠ "java/lang/invoke/MethodHandle" ∧ q.1.cls ≠ "java/lang/invoke/VarHandle") ∧ Cond.instantiable q.1.cls q.2 ∈ tables_1 ∧ Cond.privateMethod q.1 ∈ tables_1 ∧ Cond.instanceMethod q.1 ∈ tables_1
theorem lw_p0 : lw_okq (⟨"BlockSearch$Mapping", "fitsTrial", "(LBlockSearch$Node;)Z"⟩, 3) := ⟨⟨by decide +kernel, by decide +kernel⟩, List.mem_of_getElem? (i := 51) (by decide +kernel), List.mem_of_getElem? (i := 350) (by decide +kernel), List.mem_of_getElem? (i := 351) (by decide +kernel)⟩
theorem lw_p1 : lw_okq (⟨"BlockSearch", "deleteLive", "(I)Z"⟩, 11) := ⟨⟨by decide +kernel, by decide +kernel⟩, List.mem_of_getElem? (i := 15) (by decide +kernel), List.mem_of_getElem? (i := 354) (by decide +kernel), List.mem_of_getElem? (i := 355) (by decide +kernel)⟩
theorem lw_p2 : lw_okq (⟨"BlockSearch$Mapping", "learnFrom", "(LBlockSearch$Node;)V"⟩, 3) := ⟨⟨by decide +kernel, by decide +kernel⟩, List.mem_of_getElem? (i := 51) (by decide +kernel), List.mem_of_getElem? (i := 366) (by decide +kernel), List.mem_of_getElem? (i := 367) (by decide +kernel)⟩
theorem lw_p3 : lw_okq (⟨"BlockSearch", "mergedRow", "(III)LBlockSearch$DocumentRow;"⟩, 11) := ⟨⟨by decide +kernel, by decide +kernel⟩, List.mem_of_getElem? (i := 15) (by decide +kernel), List.mem_of_getElem? (i := 431) (by decide +kernel), List.mem_of_getElem? (i := 432) (by decide +kernel)⟩
theorem lw_p4 : lw_okq (⟨"BlockSearch", "moveDown", "(II)V"⟩, 11) := ⟨⟨by decide +kernel, by decide +kernel⟩, List.mem_of_getElem? (i := 15) (by decide +kernel), List.mem_of_getElem? (i := 435) (by decide +kernel), List.mem_of_getElem? (i := 436) (by decide +kernel)⟩
theorem lw_p5 : lw_okq (⟨"BlockSearch$Scorer", "pointsAt", "(LBlockSearch$Query;I[LBlockSearch$Node;I)I"⟩, 3) := ⟨⟨by decide +kernel, by decide +kernel⟩, List.mem_of_getElem? (i := 165) (by decide +kernel), List.mem_of_getElem? (i := 514) (by decide +kernel), List.mem_of_getElem? (i := 515) (by decide +kernel)⟩
theorem lw_p6 : lw_okq (⟨"BlockSearch$Scorer", "nested", "(LBlockSearch$Query;I[LBlockSearch$Node;I)I"⟩, 3) := ⟨⟨by decide +kernel, by decide +kernel⟩, List.mem_of_getElem? (i := 165) (by decide +kernel), List.mem_of_getElem? (i := 534) (by decide +kernel), List.mem_of_getElem? (i := 535) (by decide +kernel)⟩
theorem lw_p7 : lw_okq (⟨"BlockSearch", "liveInSegments", "()I"⟩, 11) := ⟨⟨by decide +kernel, by decide +kernel⟩, List.mem_of_getElem? (i := 15) (by decide +kernel), List.mem_of_getElem? (i := 584) (by decide +kernel), List.mem_of_getElem? (i := 585) (by decide +kernel)⟩
theorem lw_p8 : lw_okq (⟨"BlockSearch", "deletedInSegments", "()I"⟩, 11) := ⟨⟨by decide +kernel, by decide +kernel⟩, List.mem_of_getElem? (i := 15) (by decide +kernel), List.mem_of_getElem? (i := 588) (by decide +kernel), List.mem_of_getElem? (i := 589) (by decide +kernel)⟩
theorem lw_p9 : lw_okq (⟨"BlockSearch", "segmentFact", "(I)I"⟩, 11) := ⟨⟨by decide +kernel, by decide +kernel⟩, List.mem_of_getElem? (i := 15) (by decide +kernel), List.mem_of_getElem? (i := 592) (by decide +kernel), List.mem_of_getElem? (i := 593) (by decide +kernel)⟩
theorem lw_p10 : lw_okq (⟨"BlockSearchModel", "conflicts", "()Z"⟩, 45) := ⟨⟨by decide +kernel, by decide +kernel⟩, List.mem_of_getElem? (i := 596) (by decide +kernel), List.mem_of_getElem? (i := 769) (by decide +kernel), List.mem_of_getElem? (i := 770) (by decide +kernel)⟩
theorem lw_p11 : lw_okq (⟨"BlockSearchModel", "inBuffer", "()I"⟩, 45) := ⟨⟨by decide +kernel, by decide +kernel⟩, List.mem_of_getElem? (i := 596) (by decide +kernel), List.mem_of_getElem? (i := 773) (by decide +kernel), List.mem_of_getElem? (i := 774) (by decide +kernel)⟩
theorem lw_p12 : lw_okq (⟨"BlockSearchModel", "find", "(I)I"⟩, 45) := ⟨⟨by decide +kernel, by decide +kernel⟩, List.mem_of_getElem? (i := 596) (by decide +kernel), List.mem_of_getElem? (i := 777) (by decide +kernel), List.mem_of_getElem? (i := 778) (by decide +kernel)⟩
theorem lw_p13 : lw_okq (⟨"BlockSearchModel", "lay", "(I)V"⟩, 45) := ⟨⟨by decide +kernel, by decide +kernel⟩, List.mem_of_getElem? (i := 596) (by decide +kernel), List.mem_of_getElem? (i := 781) (by decide +kernel), List.mem_of_getElem? (i := 782) (by decide +kernel)⟩
theorem lw_p14 : lw_okq (⟨"BlockSearchModel", "pathOfNext", "()I"⟩, 45) := ⟨⟨by decide +kernel, by decide +kernel⟩, List.mem_of_getElem? (i := 596) (by decide +kernel), List.mem_of_getElem? (i := 809) (by decide +kernel), List.mem_of_getElem? (i := 810) (by decide +kernel)⟩
theorem lw_p15 : lw_okq (⟨"BlockSearchModel", "isWhole", "()Z"⟩, 45) := ⟨⟨by decide +kernel, by decide +kernel⟩, List.mem_of_getElem? (i := 596) (by decide +kernel), List.mem_of_getElem? (i := 824) (by decide +kernel), List.mem_of_getElem? (i := 825) (by decide +kernel)⟩
def lw_privs_1 : List (MethodName × Nat) := [(⟨"BlockSearch$Mapping", "fitsTrial", "(LBlockSearch$Node;)Z"⟩, 3), (⟨"BlockSearch", "deleteLive", "(I)Z"⟩, 11), (⟨"BlockSearch$Mapping", "learnFrom", "(LBlockSearch$Node;)V"⟩, 3), (⟨"BlockSearch", "mergedRow", "(III)LBlockSearch$DocumentRow;"⟩, 11), (⟨"BlockSearch", "moveDown", "(II)V"⟩, 11), (⟨"BlockSearch$Scorer", "pointsAt", "(LBlockSearch$Query;I[LBlockSearch$Node;I)I"⟩, 3), (⟨"BlockSearch$Scorer", "nested", "(LBlockSearch$Query;I[LBlockSearch$Node;I)I"⟩, 3), (⟨"BlockSearch", "liveInSegments", "()I"⟩, 11), (⟨"BlockSearch", "deletedInSegments", "()I"⟩, 11), (⟨"BlockSearch", "segmentFact", "(I)I"⟩, 11), (⟨"BlockSearchModel", "conflicts", "()Z"⟩, 45), (⟨"BlockSearchModel", "inBuffer", "()I"⟩, 45), (⟨"BlockSearchModel", "find", "(I)I"⟩, 45), (⟨"BlockSearchModel", "lay", "(I)V"⟩, 45), (⟨"BlockSearchModel", "pathOfNext", "()I"⟩, 45), (⟨"BlockSearchModel", "isWhole", "()Z"⟩, 45)]
theorem lw_r1 : ∀ q ∈ lw_privs_1, lw_okq q := List.forall_mem_cons.mpr ⟨lw_p0, List.forall_mem_cons.mpr ⟨lw_p1, List.forall_mem_cons.mpr ⟨lw_p2, List.forall_mem_cons.mpr ⟨lw_p3, List.forall_mem_cons.mpr ⟨lw_p4, List.forall_mem_cons.mpr ⟨lw_p5, List.forall_mem_cons.mpr ⟨lw_p6, List.forall_mem_cons.mpr ⟨lw_p7, List.forall_mem_cons.mpr ⟨lw_p8, List.forall_mem_cons.mpr ⟨lw_p9, List.forall_mem_cons.mpr ⟨lw_p10, List.forall_mem_cons.mpr ⟨lw_p11, List.forall_mem_cons.mpr ⟨lw_p12, List.forall_mem_cons.mpr ⟨lw_p13, List.forall_mem_cons.mpr ⟨lw_p14, List.forall_mem_cons.mpr ⟨lw_p15, fun _ h => absurd h List.not_mem_nil⟩⟩⟩⟩⟩⟩⟩⟩⟩⟩⟩⟩⟩⟩⟩⟩
theorem lw_p16 : lw_okq (⟨"BlockSearchModel", "prepare", "()V"⟩, 45) := ⟨⟨by decide +kernel, by decide +kernel⟩, List.mem_of_getElem? (i := 596) (by decide +kernel), List.mem_of_getElem? (i := 828) (by decide +kernel), List.mem_of_getElem? (i := 829) (by decide +kernel)⟩
theorem lw_p17 : lw_okq (⟨"BlockSearchModel", "times", "(III)I"⟩, 45) := ⟨⟨by decide +kernel, by decide +kernel⟩, List.mem_of_getElem? (i := 596) (by decide +kernel), List.mem_of_getElem? (i := 832) (by decide +kernel), List.mem_of_getElem? (i := 833) (by decide +kernel)⟩
theorem lw_p18 : lw_okq (⟨"BlockSearchModel", "tried", "(I)Z"⟩, 45) := ⟨⟨by decide +kernel, by decide +kernel⟩, List.mem_of_getElem? (i := 596) (by decide +kernel), List.mem_of_getElem? (i := 837) (by decide +kernel), List.mem_of_getElem? (i := 838) (by decide +kernel)⟩
theorem lw_p19 : lw_okq (⟨"BlockSearchModel", "look", "(III)V"⟩, 45) := ⟨⟨by decide +kernel, by decide +kernel⟩, List.mem_of_getElem? (i := 596) (by decide +kernel), List.mem_of_getElem? (i := 841) (by decide +kernel), List.mem_of_getElem? (i := 842) (by decide +kernel)⟩
theorem lw_p20 : lw_okq (⟨"BlockSearchModel", "set", "(IIZI)V"⟩, 45) := ⟨⟨by decide +kernel, by decide +kernel⟩, List.mem_of_getElem? (i := 596) (by decide +kernel), List.mem_of_getElem? (i := 845) (by decide +kernel), List.mem_of_getElem? (i := 846) (by decide +kernel)⟩
theorem lw_p21 : lw_okq (⟨"BlockSearchModel", "nest", "(III)V"⟩, 45) := ⟨⟨by decide +kernel, by decide +kernel⟩, List.mem_of_getElem? (i := 596) (by decide +kernel), List.mem_of_getElem? (i := 849) (by decide +kernel), List.mem_of_getElem? (i := 850) (by decide +kernel)⟩
theorem lw_p22 : lw_okq (⟨"BlockSearchModel", "rootInSnapshot", "(I)I"⟩, 45) := ⟨⟨by decide +kernel, by decide +kernel⟩, List.mem_of_getElem? (i := 596) (by decide +kernel), List.mem_of_getElem? (i := 853) (by decide +kernel), List.mem_of_getElem? (i := 854) (by decide +kernel)⟩
theorem lw_p23 : lw_okq (⟨"BlockSearchModel", "told", "(IIII)I"⟩, 45) := ⟨⟨by decide +kernel, by decide +kernel⟩, List.mem_of_getElem? (i := 596) (by decide +kernel), List.mem_of_getElem? (i := 869) (by decide +kernel), List.mem_of_getElem? (i := 870) (by decide +kernel)⟩
theorem lw_p24 : lw_okq (⟨"BlockSearchModel", "isBelow", "(III)Z"⟩, 45) := ⟨⟨by decide +kernel, by decide +kernel⟩, List.mem_of_getElem? (i := 596) (by decide +kernel), List.mem_of_getElem? (i := 873) (by decide +kernel), List.mem_of_getElem? (i := 874) (by decide +kernel)⟩
theorem lw_p25 : lw_okq (⟨"BlockSearchModel", "inSegment", "(IZ)I"⟩, 45) := ⟨⟨by decide +kernel, by decide +kernel⟩, List.mem_of_getElem? (i := 596) (by decide +kernel), List.mem_of_getElem? (i := 885) (by decide +kernel), List.mem_of_getElem? (i := 886) (by decide +kernel)⟩
theorem lw_p26 : lw_okq (⟨"BlockSearchModel", "counted", "(I)I"⟩, 45) := ⟨⟨by decide +kernel, by decide +kernel⟩, List.mem_of_getElem? (i := 596) (by decide +kernel), List.mem_of_getElem? (i := 889) (by decide +kernel), List.mem_of_getElem? (i := 890) (by decide +kernel)⟩
def lw_privs_2 : List (MethodName × Nat) := [(⟨"BlockSearchModel", "prepare", "()V"⟩, 45), (⟨"BlockSearchModel", "times", "(III)I"⟩, 45), (⟨"BlockSearchModel", "tried", "(I)Z"⟩, 45), (⟨"BlockSearchModel", "look", "(III)V"⟩, 45), (⟨"BlockSearchModel", "set", "(IIZI)V"⟩, 45), (⟨"BlockSearchModel", "nest", "(III)V"⟩, 45), (⟨"BlockSearchModel", "rootInSnapshot", "(I)I"⟩, 45), (⟨"BlockSearchModel", "told", "(IIII)I"⟩, 45), (⟨"BlockSearchModel", "isBelow", "(III)Z"⟩, 45), (⟨"BlockSearchModel", "inSegment", "(IZ)I"⟩, 45), (⟨"BlockSearchModel", "counted", "(I)I"⟩, 45)]
theorem lw_r2 : ∀ q ∈ lw_privs_2, lw_okq q := List.forall_mem_cons.mpr ⟨lw_p16, List.forall_mem_cons.mpr ⟨lw_p17, List.forall_mem_cons.mpr ⟨lw_p18, List.forall_mem_cons.mpr ⟨lw_p19, List.forall_mem_cons.mpr ⟨lw_p20, List.forall_mem_cons.mpr ⟨lw_p21, List.forall_mem_cons.mpr ⟨lw_p22, List.forall_mem_cons.mpr ⟨lw_p23, List.forall_mem_cons.mpr ⟨lw_p24, List.forall_mem_cons.mpr ⟨lw_p25, List.forall_mem_cons.mpr ⟨lw_p26, fun _ h => absurd h List.not_mem_nil⟩⟩⟩⟩⟩⟩⟩⟩⟩⟩⟩
def lw_privs : List (MethodName × Nat) := lw_privs_1 ++ (lw_privs_2)
def lw_tbl : List Cond := k2_sels lw_privs ++ tables_1
theorem lw_privs_ok : ∀ q ∈ lw_privs, lw_okq q := by
  show ∀ q ∈ lw_privs_1 ++ (lw_privs_2), lw_okq q
  exact List.forall_mem_append.mpr ⟨lw_r1, lw_r2⟩

def xBig : List Cond := lw_tbl.filter goodWord
theorem xGood : ∀ w ∈ xBig, (w.onTables && w.keeps) = true ∨ ∃ ty, w = .arrayClass ty := fun w h => good_of_word (List.mem_filter.mp h).2
theorem xm {w : Cond} (i : Nat) (h : lw_tbl[i]? = some w) (g : goodWord w = true) : w ∈ xBig := List.mem_filter.mpr ⟨List.mem_of_getElem? h, g⟩
theorem xmAll {ws : List Cond} (is : List Nat) (h : ws = is.filterMap (fun i => lw_tbl[i]?)) (g : ws.all goodWord = true) : ∀ w ∈ ws, w ∈ xBig := fun w hw => by
  have g1 := List.all_eq_true.mp g w hw
  rw [h] at hw
  obtain ⟨i, -, hi⟩ := List.mem_filterMap.mp hw
  exact List.mem_filter.mpr ⟨List.mem_of_getElem? hi, g1⟩
def R_Hi : String := "BlockSearch$Hits"
def F_Hi : u_T := fun k => match k with
  | 0 => ("BlockSearch$Hits", "rows", "[[I", true)
  | _ => ("BlockSearch$Hits", "size", "I", false)
def t_Hi : Nat → FieldType := fun k => match k with
  | 0 => .array (.array .int)
  | _ => .int
set_option maxRecDepth 100000 in
theorem n_Hi : ∀ a, a < 2 → ∀ b, b < 2 → a ≠ b → (F_Hi a).2.1 ≠ (F_Hi b).2.1 := by decide +kernel
theorem ty_Hi : ∀ k, k < 2 → parseFieldDescriptor (F_Hi k).2.2.1 = some (t_Hi k) := by decide +kernel
set_option maxRecDepth 100000 in
theorem in_Hi : ∀ w ∈ u_ws R_Hi F_Hi 2, w ∈ xBig := xmAll [219, 221] (by decide +kernel) (by decide +kernel)
def R_Mp : String := "BlockSearch$Mapping"
def F_Mp : u_T := fun k => match k with
  | 0 => ("BlockSearch$Mapping", "types", "[[I", true)
  | 1 => ("BlockSearch$Mapping", "setCount", "I", false)
  | _ => ("BlockSearch$Mapping", "trial", "[[I", true)
def t_Mp : Nat → FieldType := fun k => match k with
  | 0 => .array (.array .int)
  | 1 => .int
  | _ => .array (.array .int)
set_option maxRecDepth 100000 in
theorem n_Mp : ∀ a, a < 3 → ∀ b, b < 3 → a ≠ b → (F_Mp a).2.1 ≠ (F_Mp b).2.1 := by decide +kernel
theorem ty_Mp : ∀ k, k < 3 → parseFieldDescriptor (F_Mp k).2.2.1 = some (t_Mp k) := by decide +kernel
set_option maxRecDepth 100000 in
theorem in_Mp : ∀ w ∈ u_ws R_Mp F_Mp 3, w ∈ xBig := xmAll [90, 92, 94] (by decide +kernel) (by decide +kernel)
def R_Nd : String := "BlockSearch$Node"
def F_Nd : u_T := fun k => match k with
  | 0 => ("BlockSearch$Node", "path", "I", true)
  | 1 => ("BlockSearch$Node", "parent", "LBlockSearch$Node;", true)
  | 2 => ("BlockSearch$Node", "least", "I", true)
  | 3 => ("BlockSearch$Node", "place", "I", false)
  | 4 => ("BlockSearch$Node", "types", "[I", true)
  | 5 => ("BlockSearch$Node", "values", "[I", true)
  | _ => ("BlockSearch$Node", "words", "[I", true)
def t_Nd : Nat → FieldType := fun k => match k with
  | 0 => .int
  | 1 => .object "BlockSearch$Node"
  | 2 => .int
  | 3 => .int
  | 4 => .array .int
  | 5 => .array .int
  | _ => .array .int
set_option maxRecDepth 100000 in
theorem n_Nd : ∀ a, a < 7 → ∀ b, b < 7 → a ≠ b → (F_Nd a).2.1 ≠ (F_Nd b).2.1 := by decide +kernel
theorem ty_Nd : ∀ k, k < 7 → parseFieldDescriptor (F_Nd k).2.2.1 = some (t_Nd k) := by decide +kernel
set_option maxRecDepth 100000 in
theorem in_Nd : ∀ w ∈ u_ws R_Nd F_Nd 7, w ∈ xBig := xmAll [302, 304, 306, 308, 310, 312, 314] (by decide +kernel) (by decide +kernel)
def R_Qu : String := "BlockSearch$Query"
def F_Qu : u_T := fun k => match k with
  | 0 => ("BlockSearch$Query", "kinds", "[I", true)
  | 1 => ("BlockSearch$Query", "firsts", "[I", true)
  | 2 => ("BlockSearch$Query", "seconds", "[I", true)
  | 3 => ("BlockSearch$Query", "paths", "[I", true)
  | 4 => ("BlockSearch$Query", "size", "I", false)
  | 5 => ("BlockSearch$Query", "awaited", "[I", true)
  | _ => ("BlockSearch$Query", "toCome", "I", false)
def t_Qu : Nat → FieldType := fun k => match k with
  | 0 => .array .int
  | 1 => .array .int
  | 2 => .array .int
  | 3 => .array .int
  | 4 => .int
  | 5 => .array .int
  | _ => .int
set_option maxRecDepth 100000 in
theorem n_Qu : ∀ a, a < 7 → ∀ b, b < 7 → a ≠ b → (F_Qu a).2.1 ≠ (F_Qu b).2.1 := by decide +kernel
theorem ty_Qu : ∀ k, k < 7 → parseFieldDescriptor (F_Qu k).2.2.1 = some (t_Qu k) := by decide +kernel
set_option maxRecDepth 100000 in
theorem in_Qu : ∀ w ∈ u_ws R_Qu F_Qu 7, w ∈ xBig := xmAll [176, 178, 180, 182, 184, 186, 188] (by decide +kernel) (by decide +kernel)
def R_Sn : String := "BlockSearch$Snapshot"
def F_Sn : u_T := fun k => match k with
  | 0 => ("BlockSearch$Snapshot", "taken", "Z", false)
  | 1 => ("BlockSearch$Snapshot", "size", "I", false)
  | 2 => ("BlockSearch$Snapshot", "documents", "[LBlockSearch$Document;", true)
  | 3 => ("BlockSearch$Snapshot", "live", "[Z", true)
  | 4 => ("BlockSearch$Snapshot", "segments", "[I", true)
  | _ => ("BlockSearch$Snapshot", "roots", "[I", true)
def t_Sn : Nat → FieldType := fun k => match k with
  | 0 => .boolean
  | 1 => .int
  | 2 => .array (.object "BlockSearch$Document")
  | 3 => .array .boolean
  | 4 => .array .int
  | _ => .array .int
set_option maxRecDepth 100000 in
theorem n_Sn : ∀ a, a < 6 → ∀ b, b < 6 → a ≠ b → (F_Sn a).2.1 ≠ (F_Sn b).2.1 := by decide +kernel
theorem ty_Sn : ∀ k, k < 6 → parseFieldDescriptor (F_Sn k).2.2.1 = some (t_Sn k) := by decide +kernel
set_option maxRecDepth 100000 in
theorem in_Sn : ∀ w ∈ u_ws R_Sn F_Sn 6, w ∈ xBig := xmAll [142, 144, 146, 148, 150, 152] (by decide +kernel) (by decide +kernel)
def R_Do : String := "BlockSearch$Document"
def F_Do : u_T := fun k => match k with
  | 0 => ("BlockSearch$Document", "id", "I", true)
  | 1 => ("BlockSearch$Document", "nodes", "[LBlockSearch$Node;", true)
  | _ => ("BlockSearch$Document", "live", "Z", false)
def t_Do : Nat → FieldType := fun k => match k with
  | 0 => .int
  | 1 => .array (.object "BlockSearch$Node")
  | _ => .boolean
set_option maxRecDepth 100000 in
theorem n_Do : ∀ a, a < 3 → ∀ b, b < 3 → a ≠ b → (F_Do a).2.1 ≠ (F_Do b).2.1 := by decide +kernel
theorem ty_Do : ∀ k, k < 3 → parseFieldDescriptor (F_Do k).2.2.1 = some (t_Do k) := by decide +kernel
set_option maxRecDepth 100000 in
theorem in_Do : ∀ w ∈ u_ws R_Do F_Do 3, w ∈ xBig := xmAll [416, 418, 420] (by decide +kernel) (by decide +kernel)
def R_Dr : String := "BlockSearch$Draft"
def F_Dr : u_T := fun k => match k with
  | 0 => ("BlockSearch$Draft", "closed", "[LBlockSearch$Node;", true)
  | 1 => ("BlockSearch$Draft", "closedCount", "I", false)
  | 2 => ("BlockSearch$Draft", "openedCount", "I", false)
  | _ => ("BlockSearch$Draft", "current", "LBlockSearch$Node;", false)
def t_Dr : Nat → FieldType := fun k => match k with
  | 0 => .array (.object "BlockSearch$Node")
  | 1 => .int
  | 2 => .int
  | _ => .object "BlockSearch$Node"
set_option maxRecDepth 100000 in
theorem n_Dr : ∀ a, a < 4 → ∀ b, b < 4 → a ≠ b → (F_Dr a).2.1 ≠ (F_Dr b).2.1 := by decide +kernel
theorem ty_Dr : ∀ k, k < 4 → parseFieldDescriptor (F_Dr k).2.2.1 = some (t_Dr k) := by decide +kernel
set_option maxRecDepth 100000 in
theorem in_Dr : ∀ w ∈ u_ws R_Dr F_Dr 4, w ∈ xBig := xmAll [68, 70, 72, 74] (by decide +kernel) (by decide +kernel)
def R_Sc : String := "BlockSearch$Scorer"
def F_Sc : u_T := fun k => match k with
  | 0 => ("BlockSearch$Scorer", "weights", "[I", true)
  | 1 => ("BlockSearch$Scorer", "otherParts", "[I", true)
  | _ => ("BlockSearch$Scorer", "table", "[[I", true)
def t_Sc : Nat → FieldType := fun k => match k with
  | 0 => .array .int
  | 1 => .array .int
  | _ => .array (.array .int)
set_option maxRecDepth 100000 in
theorem n_Sc : ∀ a, a < 3 → ∀ b, b < 3 → a ≠ b → (F_Sc a).2.1 ≠ (F_Sc b).2.1 := by decide +kernel
theorem ty_Sc : ∀ k, k < 3 → parseFieldDescriptor (F_Sc k).2.2.1 = some (t_Sc k) := by decide +kernel
set_option maxRecDepth 100000 in
theorem in_Sc : ∀ w ∈ u_ws R_Sc F_Sc 3, w ∈ xBig := xmAll [201, 203, 205] (by decide +kernel) (by decide +kernel)
def R_Rw : String := "BlockSearch$DocumentRow"
def F_Rw : u_T := fun k => match k with
  | 0 => ("BlockSearch$DocumentRow", "documents", "[LBlockSearch$Document;", true)
  | 1 => ("BlockSearch$DocumentRow", "size", "I", false)
  | _ => ("BlockSearch$DocumentRow", "objects", "I", false)
def t_Rw : Nat → FieldType := fun k => match k with
  | 0 => .array (.object "BlockSearch$Document")
  | 1 => .int
  | _ => .int
set_option maxRecDepth 100000 in
theorem n_Rw : ∀ a, a < 3 → ∀ b, b < 3 → a ≠ b → (F_Rw a).2.1 ≠ (F_Rw b).2.1 := by decide +kernel
theorem ty_Rw : ∀ k, k < 3 → parseFieldDescriptor (F_Rw k).2.2.1 = some (t_Rw k) := by decide +kernel
set_option maxRecDepth 100000 in
theorem in_Rw : ∀ w ∈ u_ws R_Rw F_Rw 3, w ∈ xBig := xmAll [112, 114, 116] (by decide +kernel) (by decide +kernel)
def R_B : String := "BlockSearch"
def F_B : u_T := fun k => match k with
  | 0 => ("BlockSearch", "draft", "LBlockSearch$Draft;", true)
  | 1 => ("BlockSearch", "mapping", "LBlockSearch$Mapping;", true)
  | 2 => ("BlockSearch", "buffer", "LBlockSearch$DocumentRow;", true)
  | 3 => ("BlockSearch", "segments", "[LBlockSearch$DocumentRow;", true)
  | 4 => ("BlockSearch", "snapshot", "LBlockSearch$Snapshot;", true)
  | 5 => ("BlockSearch", "query", "LBlockSearch$Query;", true)
  | 6 => ("BlockSearch", "scorer", "LBlockSearch$Scorer;", true)
  | 7 => ("BlockSearch", "hits", "LBlockSearch$Hits;", true)
  | 8 => ("BlockSearch", "segmentCount", "I", false)
  | 9 => ("BlockSearch", "addedCount", "I", false)
  | _ => ("BlockSearch", "leftOutCount", "I", false)
def t_B : Nat → FieldType := fun k => match k with
  | 0 => .object "BlockSearch$Draft"
  | 1 => .object "BlockSearch$Mapping"
  | 2 => .object "BlockSearch$DocumentRow"
  | 3 => .array (.object "BlockSearch$DocumentRow")
  | 4 => .object "BlockSearch$Snapshot"
  | 5 => .object "BlockSearch$Query"
  | 6 => .object "BlockSearch$Scorer"
  | 7 => .object "BlockSearch$Hits"
  | 8 => .int
  | 9 => .int
  | _ => .int
set_option maxRecDepth 100000 in
theorem n_B : ∀ a, a < 11 → ∀ b, b < 11 → a ≠ b → (F_B a).2.1 ≠ (F_B b).2.1 := by decide +kernel
theorem ty_B : ∀ k, k < 11 → parseFieldDescriptor (F_B k).2.2.1 = some (t_B k) := by decide +kernel
set_option maxRecDepth 100000 in
theorem in_B : ∀ w ∈ u_ws R_B F_B 11, w ∈ xBig := xmAll [235, 237, 239, 241, 243, 245, 247, 249, 251, 253, 255] (by decide +kernel) (by decide +kernel)
def R_M : String := "BlockSearchModel"
def F_M : u_T := fun k => match k with
  | 0 => ("BlockSearchModel", "dPath", "[I", true)
  | 1 => ("BlockSearchModel", "dParent", "[I", true)
  | 2 => ("BlockSearchModel", "dPlace", "[I", true)
  | 3 => ("BlockSearchModel", "dType", "[I", true)
  | 4 => ("BlockSearchModel", "dValue", "[I", true)
  | 5 => ("BlockSearchModel", "dWords", "[J", true)
  | 6 => ("BlockSearchModel", "drafted", "I", false)
  | 7 => ("BlockSearchModel", "closed", "I", false)
  | 8 => ("BlockSearchModel", "open", "I", false)
  | 9 => ("BlockSearchModel", "mapping", "[I", true)
  | 10 => ("BlockSearchModel", "typesSet", "I", false)
  | 11 => ("BlockSearchModel", "from", "[I", true)
  | 12 => ("BlockSearchModel", "size", "[I", true)
  | 13 => ("BlockSearchModel", "id", "[I", true)
  | 14 => ("BlockSearchModel", "segment", "[I", true)
  | 15 => ("BlockSearchModel", "snapSegment", "[I", true)
  | 16 => ("BlockSearchModel", "live", "[Z", true)
  | 17 => ("BlockSearchModel", "snapLive", "[Z", true)
  | 18 => ("BlockSearchModel", "documents", "I", false)
  | 19 => ("BlockSearchModel", "segments", "I", false)
  | 20 => ("BlockSearchModel", "leftOut", "I", false)
  | 21 => ("BlockSearchModel", "snapped", "Z", false)
  | 22 => ("BlockSearchModel", "path", "[I", true)
  | 23 => ("BlockSearchModel", "parent", "[I", true)
  | 24 => ("BlockSearchModel", "type", "[I", true)
  | 25 => ("BlockSearchModel", "value", "[I", true)
  | 26 => ("BlockSearchModel", "words", "[J", true)
  | 27 => ("BlockSearchModel", "objects", "I", false)
  | 28 => ("BlockSearchModel", "kind", "[I", true)
  | 29 => ("BlockSearchModel", "one", "[I", true)
  | 30 => ("BlockSearchModel", "two", "[I", true)
  | 31 => ("BlockSearchModel", "at", "[I", true)
  | 32 => ("BlockSearchModel", "behind", "[I", true)
  | 33 => ("BlockSearchModel", "open2", "[I", true)
  | 34 => ("BlockSearchModel", "all", "[I", true)
  | 35 => ("BlockSearchModel", "having", "[I", true)
  | 36 => ("BlockSearchModel", "tokens", "I", false)
  | 37 => ("BlockSearchModel", "wanted", "I", false)
  | 38 => ("BlockSearchModel", "holds", "[Z", true)
  | 39 => ("BlockSearchModel", "scores", "[I", true)
  | 40 => ("BlockSearchModel", "hitDocument", "[I", true)
  | 41 => ("BlockSearchModel", "hitScore", "[I", true)
  | 42 => ("BlockSearchModel", "hitSegment", "[I", true)
  | 43 => ("BlockSearchModel", "hitRoot", "[I", true)
  | _ => ("BlockSearchModel", "hits", "I", false)
def t_M : Nat → FieldType := fun k => match k with
  | 0 => .array .int
  | 1 => .array .int
  | 2 => .array .int
  | 3 => .array .int
  | 4 => .array .int
  | 5 => .array .long
  | 6 => .int
  | 7 => .int
  | 8 => .int
  | 9 => .array .int
  | 10 => .int
  | 11 => .array .int
  | 12 => .array .int
  | 13 => .array .int
  | 14 => .array .int
  | 15 => .array .int
  | 16 => .array .boolean
  | 17 => .array .boolean
  | 18 => .int
  | 19 => .int
  | 20 => .int
  | 21 => .boolean
  | 22 => .array .int
  | 23 => .array .int
  | 24 => .array .int
  | 25 => .array .int
  | 26 => .array .long
  | 27 => .int
  | 28 => .array .int
  | 29 => .array .int
  | 30 => .array .int
  | 31 => .array .int
  | 32 => .array .int
  | 33 => .array .int
  | 34 => .array .int
  | 35 => .array .int
  | 36 => .int
  | 37 => .int
  | 38 => .array .boolean
  | 39 => .array .int
  | 40 => .array .int
  | 41 => .array .int
  | 42 => .array .int
  | 43 => .array .int
  | _ => .int
set_option maxRecDepth 100000 in
theorem n_M : ∀ a, a < 45 → ∀ b, b < 45 → a ≠ b → (F_M a).2.1 ≠ (F_M b).2.1 := by decide +kernel
theorem ty_M : ∀ k, k < 45 → parseFieldDescriptor (F_M k).2.2.1 = some (t_M k) := by decide +kernel
set_option maxRecDepth 100000 in
theorem in_M : ∀ w ∈ u_ws R_M F_M 45, w ∈ xBig := xmAll [673, 675, 677, 679, 681, 683, 685, 687, 689, 691, 693, 695, 697, 699, 701, 703, 705, 707, 709, 711, 713, 715, 717, 719, 721, 723, 725, 727, 729, 731, 733, 735, 737, 739, 741, 743, 745, 747, 749, 751, 753, 755, 757, 759, 761] (by decide +kernel) (by decide +kernel)
abbrev classes : List vw_C := [(R_Hi, F_Hi, 2), (R_Mp, F_Mp, 3), (R_Nd, F_Nd, 7), (R_Qu, F_Qu, 7), (R_Sn, F_Sn, 6), (R_Do, F_Do, 3), (R_Dr, F_Dr, 4), (R_Sc, F_Sc, 3), (R_Rw, F_Rw, 3), (R_B, F_B, 11), (R_M, F_M, 45)]
theorem cl_Hi : classes[0]? = some (R_Hi, F_Hi, 2) := rfl
theorem cl_Mp : classes[1]? = some (R_Mp, F_Mp, 3) := rfl
theorem cl_Nd : classes[2]? = some (R_Nd, F_Nd, 7) := rfl
theorem cl_Qu : classes[3]? = some (R_Qu, F_Qu, 7) := rfl
theorem cl_Sn : classes[4]? = some (R_Sn, F_Sn, 6) := rfl
theorem cl_Do : classes[5]? = some (R_Do, F_Do, 3) := rfl
theorem cl_Dr : classes[6]? = some (R_Dr, F_Dr, 4) := rfl
theorem cl_Sc : classes[7]? = some (R_Sc, F_Sc, 3) := rfl
theorem cl_Rw : classes[8]? = some (R_Rw, F_Rw, 3) := rfl
theorem cl_B : classes[9]? = some (R_B, F_B, 11) := rfl
theorem cl_M : classes[10]? = some (R_M, F_M, 45) := rfl
abbrev xtysL (dA : Nat → ClassId) : List (ClassId × FieldType) := [(dA 0, .int), (dA 1, .boolean), (dA 2, .array .int), (dA 3, .object "BlockSearch$Node"), (dA 4, .object "BlockSearch$Document"), (dA 5, .object "BlockSearch$DocumentRow"), (dA 6, .long)]
def xNestF : List (String × Nat × String × String × String × String) := [("BlockSearch$Draft", 28, "BlockSearch", "PARENT", "[I", "BlockSearch")]
def xNestM : List (String × Nat × MethodName × String) := [("BlockSearch", 9, ⟨"BlockSearch$Draft", "<init>", "()V"⟩, "BlockSearch"), ("BlockSearch", 18, ⟨"BlockSearch$Mapping", "<init>", "()V"⟩, "BlockSearch"), ("BlockSearch", 38, ⟨"BlockSearch$Snapshot", "<init>", "()V"⟩, "BlockSearch"), ("BlockSearch", 45, ⟨"BlockSearch$Query", "<init>", "()V"⟩, "BlockSearch"), ("BlockSearch", 52, ⟨"BlockSearch$Scorer", "<init>", "()V"⟩, "BlockSearch"), ("BlockSearch", 59, ⟨"BlockSearch$Hits", "<init>", "()V"⟩, "BlockSearch")]
def xOver : List String := ["BlockSearch$Node", "BlockSearch$Document", "BlockSearch$DocumentRow"]
abbrev b_B_init : ByteArray := prog_1_method_1_code
abbrev y_B_init : MethodName := ⟨"BlockSearch", "<init>", "()V"⟩
abbrev b_B_open : ByteArray := prog_1_method_2_code
abbrev y_B_open : MethodName := ⟨"BlockSearch", "open", "(I)I"⟩
abbrev b_B_number : ByteArray := prog_1_method_3_code
abbrev y_B_number : MethodName := ⟨"BlockSearch", "number", "(II)Z"⟩
abbrev b_B_word : ByteArray := prog_1_method_4_code
abbrev y_B_word : MethodName := ⟨"BlockSearch", "word", "(II)I"⟩
abbrev b_B_close : ByteArray := prog_1_method_5_code
abbrev y_B_close : MethodName := ⟨"BlockSearch", "close", "()I"⟩
abbrev b_B_wipe : ByteArray := prog_1_method_6_code
abbrev y_B_wipe : MethodName := ⟨"BlockSearch", "wipe", "()I"⟩
abbrev b_B_add : ByteArray := prog_1_method_7_code
abbrev y_B_add : MethodName := ⟨"BlockSearch", "add", "(I)I"⟩
abbrev b_B_remove : ByteArray := prog_1_method_8_code
abbrev y_B_remove : MethodName := ⟨"BlockSearch", "remove", "(I)Z"⟩
abbrev b_B_flush : ByteArray := prog_1_method_9_code
abbrev y_B_flush : MethodName := ⟨"BlockSearch", "flush", "()I"⟩
abbrev b_B_merge : ByteArray := prog_1_method_10_code
abbrev y_B_merge : MethodName := ⟨"BlockSearch", "merge", "(II)I"⟩
abbrev b_B_refresh : ByteArray := prog_1_method_11_code
abbrev y_B_refresh : MethodName := ⟨"BlockSearch", "refresh", "()I"⟩
abbrev b_B_token : ByteArray := prog_1_method_12_code
abbrev y_B_token : MethodName := ⟨"BlockSearch", "token", "(III)I"⟩
abbrev b_B_clear : ByteArray := prog_1_method_13_code
abbrev y_B_clear : MethodName := ⟨"BlockSearch", "clear", "()I"⟩
abbrev b_B_search : ByteArray := prog_1_method_14_code
abbrev y_B_search : MethodName := ⟨"BlockSearch", "search", "()I"⟩
abbrev b_B_hit : ByteArray := prog_1_method_15_code
abbrev y_B_hit : MethodName := ⟨"BlockSearch", "hit", "(II)I"⟩
abbrev b_B_score : ByteArray := prog_1_method_16_code
abbrev y_B_score : MethodName := ⟨"BlockSearch", "score", "(I)I"⟩
abbrev b_B_object : ByteArray := prog_1_method_17_code
abbrev y_B_object : MethodName := ⟨"BlockSearch", "object", "(III)I"⟩
abbrev b_B_type : ByteArray := prog_1_method_18_code
abbrev y_B_type : MethodName := ⟨"BlockSearch", "type", "(II)I"⟩
abbrev b_B_count : ByteArray := prog_1_method_19_code
abbrev y_B_count : MethodName := ⟨"BlockSearch", "count", "(I)I"⟩
abbrev b_B_segmentFact : ByteArray := prog_1_method_20_code
abbrev y_B_segmentFact : MethodName := ⟨"BlockSearch", "segmentFact", "(I)I"⟩
abbrev b_B_liveInSegments : ByteArray := prog_1_method_21_code
abbrev y_B_liveInSegments : MethodName := ⟨"BlockSearch", "liveInSegments", "()I"⟩
abbrev b_B_deletedInSegments : ByteArray := prog_1_method_22_code
abbrev y_B_deletedInSegments : MethodName := ⟨"BlockSearch", "deletedInSegments", "()I"⟩
abbrev b_B_deleteLive : ByteArray := prog_1_method_23_code
abbrev y_B_deleteLive : MethodName := ⟨"BlockSearch", "deleteLive", "(I)Z"⟩
abbrev b_B_mergedRow : ByteArray := prog_1_method_24_code
abbrev y_B_mergedRow : MethodName := ⟨"BlockSearch", "mergedRow", "(III)LBlockSearch$DocumentRow;"⟩
abbrev b_B_moveDown : ByteArray := prog_1_method_25_code
abbrev y_B_moveDown : MethodName := ⟨"BlockSearch", "moveDown", "(II)V"⟩
abbrev b_B_isPath : ByteArray := prog_1_method_26_code
abbrev y_B_isPath : MethodName := ⟨"BlockSearch", "isPath", "(I)Z"⟩
abbrev b_B_isField : ByteArray := prog_1_method_27_code
abbrev y_B_isField : MethodName := ⟨"BlockSearch", "isField", "(I)Z"⟩
abbrev b_B_isNumber : ByteArray := prog_1_method_28_code
abbrev y_B_isNumber : MethodName := ⟨"BlockSearch", "isNumber", "(I)Z"⟩
abbrev b_B_isWord : ByteArray := prog_1_method_29_code
abbrev y_B_isWord : MethodName := ⟨"BlockSearch", "isWord", "(I)Z"⟩
abbrev b_B_isId : ByteArray := prog_1_method_30_code
abbrev y_B_isId : MethodName := ⟨"BlockSearch", "isId", "(I)Z"⟩
abbrev b_B_isToken : ByteArray := prog_1_method_31_code
abbrev y_B_isToken : MethodName := ⟨"BlockSearch", "isToken", "(III)Z"⟩
abbrev b_M_init : ByteArray := prog_12_method_1_code
abbrev y_M_init : MethodName := ⟨"BlockSearchModel", "<init>", "()V"⟩
abbrev b_M_in : ByteArray := prog_12_method_2_code
abbrev y_M_in : MethodName := ⟨"BlockSearchModel", "in", "(III)Z"⟩
abbrev b_M_parentOf : ByteArray := prog_12_method_3_code
abbrev y_M_parentOf : MethodName := ⟨"BlockSearchModel", "parentOf", "(I)I"⟩
abbrev b_M_open : ByteArray := prog_12_method_4_code
abbrev y_M_open : MethodName := ⟨"BlockSearchModel", "open", "(I)I"⟩
abbrev b_M_number : ByteArray := prog_12_method_5_code
abbrev y_M_number : MethodName := ⟨"BlockSearchModel", "number", "(II)Z"⟩
abbrev b_M_word : ByteArray := prog_12_method_6_code
abbrev y_M_word : MethodName := ⟨"BlockSearchModel", "word", "(II)I"⟩
abbrev b_M_close : ByteArray := prog_12_method_7_code
abbrev y_M_close : MethodName := ⟨"BlockSearchModel", "close", "()I"⟩
abbrev b_M_wipe : ByteArray := prog_12_method_8_code
abbrev y_M_wipe : MethodName := ⟨"BlockSearchModel", "wipe", "()I"⟩
abbrev b_M_inBuffer : ByteArray := prog_12_method_9_code
abbrev y_M_inBuffer : MethodName := ⟨"BlockSearchModel", "inBuffer", "()I"⟩
abbrev b_M_conflicts : ByteArray := prog_12_method_10_code
abbrev y_M_conflicts : MethodName := ⟨"BlockSearchModel", "conflicts", "()Z"⟩
abbrev b_M_find : ByteArray := prog_12_method_11_code
abbrev y_M_find : MethodName := ⟨"BlockSearchModel", "find", "(I)I"⟩
abbrev b_M_lay : ByteArray := prog_12_method_12_code
abbrev y_M_lay : MethodName := ⟨"BlockSearchModel", "lay", "(I)V"⟩
abbrev b_M_add : ByteArray := prog_12_method_13_code
abbrev y_M_add : MethodName := ⟨"BlockSearchModel", "add", "(I)I"⟩
abbrev b_M_remove : ByteArray := prog_12_method_14_code
abbrev y_M_remove : MethodName := ⟨"BlockSearchModel", "remove", "(I)Z"⟩
abbrev b_M_flush : ByteArray := prog_12_method_15_code
abbrev y_M_flush : MethodName := ⟨"BlockSearchModel", "flush", "()I"⟩
abbrev b_M_merge : ByteArray := prog_12_method_16_code
abbrev y_M_merge : MethodName := ⟨"BlockSearchModel", "merge", "(II)I"⟩
abbrev b_M_refresh : ByteArray := prog_12_method_17_code
abbrev y_M_refresh : MethodName := ⟨"BlockSearchModel", "refresh", "()I"⟩
abbrev b_M_parts : ByteArray := prog_12_method_18_code
abbrev y_M_parts : MethodName := ⟨"BlockSearchModel", "parts", "(I)I"⟩
abbrev b_M_isToken : ByteArray := prog_12_method_19_code
abbrev y_M_isToken : MethodName := ⟨"BlockSearchModel", "isToken", "(III)Z"⟩
abbrev b_M_pathOfNext : ByteArray := prog_12_method_20_code
abbrev y_M_pathOfNext : MethodName := ⟨"BlockSearchModel", "pathOfNext", "()I"⟩
abbrev b_M_token : ByteArray := prog_12_method_21_code
abbrev y_M_token : MethodName := ⟨"BlockSearchModel", "token", "(III)I"⟩
abbrev b_M_clear : ByteArray := prog_12_method_22_code
abbrev y_M_clear : MethodName := ⟨"BlockSearchModel", "clear", "()I"⟩
abbrev b_M_isWhole : ByteArray := prog_12_method_23_code
abbrev y_M_isWhole : MethodName := ⟨"BlockSearchModel", "isWhole", "()Z"⟩
abbrev b_M_times : ByteArray := prog_12_method_24_code
abbrev y_M_times : MethodName := ⟨"BlockSearchModel", "times", "(III)I"⟩
abbrev b_M_prepare : ByteArray := prog_12_method_25_code
abbrev y_M_prepare : MethodName := ⟨"BlockSearchModel", "prepare", "()V"⟩
abbrev b_M_set : ByteArray := prog_12_method_26_code
abbrev y_M_set : MethodName := ⟨"BlockSearchModel", "set", "(IIZI)V"⟩
abbrev b_M_nest : ByteArray := prog_12_method_27_code
abbrev y_M_nest : MethodName := ⟨"BlockSearchModel", "nest", "(III)V"⟩
abbrev b_M_look : ByteArray := prog_12_method_28_code
abbrev y_M_look : MethodName := ⟨"BlockSearchModel", "look", "(III)V"⟩
abbrev b_M_tried : ByteArray := prog_12_method_29_code
abbrev y_M_tried : MethodName := ⟨"BlockSearchModel", "tried", "(I)Z"⟩
abbrev b_M_rootInSnapshot : ByteArray := prog_12_method_30_code
abbrev y_M_rootInSnapshot : MethodName := ⟨"BlockSearchModel", "rootInSnapshot", "(I)I"⟩
abbrev b_M_search : ByteArray := prog_12_method_31_code
abbrev y_M_search : MethodName := ⟨"BlockSearchModel", "search", "()I"⟩
abbrev b_M_hit : ByteArray := prog_12_method_32_code
abbrev y_M_hit : MethodName := ⟨"BlockSearchModel", "hit", "(II)I"⟩
abbrev b_M_score : ByteArray := prog_12_method_33_code
abbrev y_M_score : MethodName := ⟨"BlockSearchModel", "score", "(I)I"⟩
abbrev b_M_object : ByteArray := prog_12_method_34_code
abbrev y_M_object : MethodName := ⟨"BlockSearchModel", "object", "(III)I"⟩
abbrev b_M_isBelow : ByteArray := prog_12_method_35_code
abbrev y_M_isBelow : MethodName := ⟨"BlockSearchModel", "isBelow", "(III)Z"⟩
abbrev b_M_told : ByteArray := prog_12_method_36_code
abbrev y_M_told : MethodName := ⟨"BlockSearchModel", "told", "(IIII)I"⟩
abbrev b_M_type : ByteArray := prog_12_method_37_code
abbrev y_M_type : MethodName := ⟨"BlockSearchModel", "type", "(II)I"⟩
abbrev b_M_inSegment : ByteArray := prog_12_method_38_code
abbrev y_M_inSegment : MethodName := ⟨"BlockSearchModel", "inSegment", "(IZ)I"⟩
abbrev b_M_counted : ByteArray := prog_12_method_39_code
abbrev y_M_counted : MethodName := ⟨"BlockSearchModel", "counted", "(I)I"⟩
abbrev b_M_count : ByteArray := prog_12_method_40_code
abbrev y_M_count : MethodName := ⟨"BlockSearchModel", "count", "(I)I"⟩
abbrev b_Do_init : ByteArray := prog_2_method_1_code
abbrev y_Do_init : MethodName := ⟨"BlockSearch$Document", "<init>", "(ILBlockSearch$Draft;)V"⟩
abbrev b_Do_factOf : ByteArray := prog_2_method_2_code
abbrev y_Do_factOf : MethodName := ⟨"BlockSearch$Document", "factOf", "(III)I"⟩
abbrev b_Rw_init : ByteArray := prog_3_method_1_code
abbrev y_Rw_init : MethodName := ⟨"BlockSearch$DocumentRow", "<init>", "(I)V"⟩
abbrev b_Rw_append : ByteArray := prog_3_method_2_code
abbrev y_Rw_append : MethodName := ⟨"BlockSearch$DocumentRow", "append", "(LBlockSearch$Document;)V"⟩
abbrev b_Rw_appendLive : ByteArray := prog_3_method_3_code
abbrev y_Rw_appendLive : MethodName := ⟨"BlockSearch$DocumentRow", "appendLive", "(LBlockSearch$DocumentRow;)V"⟩
abbrev b_Rw_drop : ByteArray := prog_3_method_4_code
abbrev y_Rw_drop : MethodName := ⟨"BlockSearch$DocumentRow", "drop", "()V"⟩
abbrev b_Rw_liveCount : ByteArray := prog_3_method_5_code
abbrev y_Rw_liveCount : MethodName := ⟨"BlockSearch$DocumentRow", "liveCount", "()I"⟩
abbrev b_Rw_deletedCount : ByteArray := prog_3_method_6_code
abbrev y_Rw_deletedCount : MethodName := ⟨"BlockSearch$DocumentRow", "deletedCount", "()I"⟩
abbrev b_Rw_liveWith : ByteArray := prog_3_method_7_code
abbrev y_Rw_liveWith : MethodName := ⟨"BlockSearch$DocumentRow", "liveWith", "(I)LBlockSearch$Document;"⟩
abbrev b_Rw_factOf : ByteArray := prog_3_method_8_code
abbrev y_Rw_factOf : MethodName := ⟨"BlockSearch$DocumentRow", "factOf", "(II)I"⟩
abbrev b_Dr_init : ByteArray := prog_4_method_1_code
abbrev y_Dr_init : MethodName := ⟨"BlockSearch$Draft", "<init>", "()V"⟩
abbrev b_Dr_isComplete : ByteArray := prog_4_method_2_code
abbrev y_Dr_isComplete : MethodName := ⟨"BlockSearch$Draft", "isComplete", "()Z"⟩
abbrev b_Dr_takesPath : ByteArray := prog_4_method_3_code
abbrev y_Dr_takesPath : MethodName := ⟨"BlockSearch$Draft", "takesPath", "(I)Z"⟩
abbrev b_Dr_begin : ByteArray := prog_4_method_4_code
abbrev y_Dr_begin : MethodName := ⟨"BlockSearch$Draft", "begin", "(I)V"⟩
abbrev b_Dr_end : ByteArray := prog_4_method_5_code
abbrev y_Dr_end : MethodName := ⟨"BlockSearch$Draft", "end", "()V"⟩
abbrev b_Dr_drop : ByteArray := prog_4_method_6_code
abbrev y_Dr_drop : MethodName := ⟨"BlockSearch$Draft", "drop", "()V"⟩
abbrev b_Hi_init : ByteArray := prog_5_method_1_code
abbrev y_Hi_init : MethodName := ⟨"BlockSearch$Hits", "<init>", "()V"⟩
abbrev b_Hi_drop : ByteArray := prog_5_method_2_code
abbrev y_Hi_drop : MethodName := ⟨"BlockSearch$Hits", "drop", "()V"⟩
abbrev b_Hi_insert : ByteArray := prog_5_method_3_code
abbrev y_Hi_insert : MethodName := ⟨"BlockSearch$Hits", "insert", "(LBlockSearch$Snapshot;II)V"⟩
abbrev b_Mp_init : ByteArray := prog_6_method_1_code
abbrev y_Mp_init : MethodName := ⟨"BlockSearch$Mapping", "<init>", "()V"⟩
abbrev b_Mp_fits : ByteArray := prog_6_method_2_code
abbrev y_Mp_fits : MethodName := ⟨"BlockSearch$Mapping", "fits", "(LBlockSearch$Draft;)Z"⟩
abbrev b_Mp_fitsTrial : ByteArray := prog_6_method_3_code
abbrev y_Mp_fitsTrial : MethodName := ⟨"BlockSearch$Mapping", "fitsTrial", "(LBlockSearch$Node;)Z"⟩
abbrev b_Mp_learn : ByteArray := prog_6_method_4_code
abbrev y_Mp_learn : MethodName := ⟨"BlockSearch$Mapping", "learn", "(LBlockSearch$Draft;)V"⟩
abbrev b_Mp_learnFrom : ByteArray := prog_6_method_5_code
abbrev y_Mp_learnFrom : MethodName := ⟨"BlockSearch$Mapping", "learnFrom", "(LBlockSearch$Node;)V"⟩
abbrev b_Nd_init : ByteArray := prog_7_method_1_code
abbrev y_Nd_init : MethodName := ⟨"BlockSearch$Node", "<init>", "(ILBlockSearch$Node;I)V"⟩
abbrev b_Nd_putNumber : ByteArray := prog_7_method_2_code
abbrev y_Nd_putNumber : MethodName := ⟨"BlockSearch$Node", "putNumber", "(II)V"⟩
abbrev b_Nd_putWord : ByteArray := prog_7_method_3_code
abbrev y_Nd_putWord : MethodName := ⟨"BlockSearch$Node", "putWord", "(II)V"⟩
abbrev b_Nd_timesOf : ByteArray := prog_7_method_4_code
abbrev y_Nd_timesOf : MethodName := ⟨"BlockSearch$Node", "timesOf", "(II)I"⟩
abbrev b_Nd_hasNumberWithin : ByteArray := prog_7_method_5_code
abbrev y_Nd_hasNumberWithin : MethodName := ⟨"BlockSearch$Node", "hasNumberWithin", "(III)Z"⟩
abbrev b_Nd_fieldFact : ByteArray := prog_7_method_6_code
abbrev y_Nd_fieldFact : MethodName := ⟨"BlockSearch$Node", "fieldFact", "(I)I"⟩
abbrev b_Qu_init : ByteArray := prog_8_method_1_code
abbrev y_Qu_init : MethodName := ⟨"BlockSearch$Query", "<init>", "()V"⟩
abbrev b_Qu_isComplete : ByteArray := prog_8_method_2_code
abbrev y_Qu_isComplete : MethodName := ⟨"BlockSearch$Query", "isComplete", "()Z"⟩
abbrev b_Qu_nextPath : ByteArray := prog_8_method_3_code
abbrev y_Qu_nextPath : MethodName := ⟨"BlockSearch$Query", "nextPath", "()I"⟩
abbrev b_Qu_append : ByteArray := prog_8_method_4_code
abbrev y_Qu_append : MethodName := ⟨"BlockSearch$Query", "append", "(III)V"⟩
abbrev b_Qu_drop : ByteArray := prog_8_method_5_code
abbrev y_Qu_drop : MethodName := ⟨"BlockSearch$Query", "drop", "()V"⟩
abbrev b_Qu_behind : ByteArray := prog_8_method_6_code
abbrev y_Qu_behind : MethodName := ⟨"BlockSearch$Query", "behind", "(I)I"⟩
abbrev b_Qu_partsOf : ByteArray := prog_8_method_7_code
abbrev y_Qu_partsOf : MethodName := ⟨"BlockSearch$Query", "partsOf", "(I)I"⟩
abbrev b_Sc_init : ByteArray := prog_9_method_1_code
abbrev y_Sc_init : MethodName := ⟨"BlockSearch$Scorer", "<init>", "()V"⟩
abbrev b_Sc_prepare : ByteArray := prog_9_method_2_code
abbrev y_Sc_prepare : MethodName := ⟨"BlockSearch$Scorer", "prepare", "(LBlockSearch$Query;LBlockSearch$Snapshot;)V"⟩
abbrev b_Sc_weightOf : ByteArray := prog_9_method_3_code
abbrev y_Sc_weightOf : MethodName := ⟨"BlockSearch$Scorer", "weightOf", "(LBlockSearch$Query;ILBlockSearch$Snapshot;)I"⟩
abbrev b_Sc_pointsOf : ByteArray := prog_9_method_4_code
abbrev y_Sc_pointsOf : MethodName := ⟨"BlockSearch$Scorer", "pointsOf", "(LBlockSearch$Query;LBlockSearch$Document;)I"⟩
abbrev b_Sc_pointsAt : ByteArray := prog_9_method_5_code
abbrev y_Sc_pointsAt : MethodName := ⟨"BlockSearch$Scorer", "pointsAt", "(LBlockSearch$Query;I[LBlockSearch$Node;I)I"⟩
abbrev b_Sc_weighed : ByteArray := prog_9_method_6_code
abbrev y_Sc_weighed : MethodName := ⟨"BlockSearch$Scorer", "weighed", "(II)I"⟩
abbrev b_Sc_oneIf : ByteArray := prog_9_method_7_code
abbrev y_Sc_oneIf : MethodName := ⟨"BlockSearch$Scorer", "oneIf", "(Z)I"⟩
abbrev b_Sc_sumOfBoth : ByteArray := prog_9_method_8_code
abbrev y_Sc_sumOfBoth : MethodName := ⟨"BlockSearch$Scorer", "sumOfBoth", "(II)I"⟩
abbrev b_Sc_sumOfEither : ByteArray := prog_9_method_9_code
abbrev y_Sc_sumOfEither : MethodName := ⟨"BlockSearch$Scorer", "sumOfEither", "(II)I"⟩
abbrev b_Sc_nested : ByteArray := prog_9_method_10_code
abbrev y_Sc_nested : MethodName := ⟨"BlockSearch$Scorer", "nested", "(LBlockSearch$Query;I[LBlockSearch$Node;I)I"⟩
abbrev b_Sn_init : ByteArray := prog_10_method_1_code
abbrev y_Sn_init : MethodName := ⟨"BlockSearch$Snapshot", "<init>", "()V"⟩
abbrev b_Sn_begin : ByteArray := prog_10_method_2_code
abbrev y_Sn_begin : MethodName := ⟨"BlockSearch$Snapshot", "begin", "()V"⟩
abbrev b_Sn_takeIn : ByteArray := prog_10_method_3_code
abbrev y_Sn_takeIn : MethodName := ⟨"BlockSearch$Snapshot", "takeIn", "(ILBlockSearch$DocumentRow;)V"⟩
abbrev b_Sn_liveCount : ByteArray := prog_10_method_4_code
abbrev y_Sn_liveCount : MethodName := ⟨"BlockSearch$Snapshot", "liveCount", "()I"⟩
abbrev b_Sn_liveWith : ByteArray := prog_10_method_5_code
abbrev y_Sn_liveWith : MethodName := ⟨"BlockSearch$Snapshot", "liveWith", "(I)LBlockSearch$Document;"⟩
