set_option maxHeartbeats 4000000 in
set_option maxRecDepth 100000 in
/-- the claim out of the law's program: from the entry, for every script, if the program over the abstract heap comes to its end -/
theorem law_start {p : Program} {e : Env} {s : State} {m : MethodId} {below : List Frame} {meth : Method} {c : Code} (l : Launch) {b L : Nat} {xs : Nat → Int32} (C0 : lw_At p s m meth c b L xs)
    (hp : p_law xs L b (fun _ _ => True) (fun _ => none, fun _ => none, s.heap.size, 600000, 7302250)) : W p l e room_1 s m #[Value.ref b] below meth c s.heap [] 0 0 (lw_Z below #[Value.ref b] s) (entryFrame m ([Value.ref b] : List Value).toArray 4) := by
  obtain ⟨hx, hb, hr, hml, hown, hts, hX, hbl, hlocks, hgv⟩ := id C0
  have hbig : ∀ w ∈ xBig, w.before #[Value.ref b] s = true := fun w hw => hts w (List.mem_filter.mp hw).1
  obtain ⟨c0, iS0, hKn0⟩ := u_known (C := R_Hi) (T := F_Hi) (N := 2) (n := 2) hbig in_Hi (hbig _ k_182)
  obtain ⟨c1, iS1, hKn1⟩ := u_known (C := R_Mp) (T := F_Mp) (N := 3) (n := 3) hbig in_Mp (hbig _ k_51)
  obtain ⟨c2, iS2, hKn2⟩ := u_known (C := R_Nd) (T := F_Nd) (N := 7) (n := 7) hbig in_Nd (hbig _ k_248)
  obtain ⟨c3, iS3, hKn3⟩ := u_known (C := R_Qu) (T := F_Qu) (N := 7) (n := 7) hbig in_Qu (hbig _ k_130)
  obtain ⟨c4, iS4, hKn4⟩ := u_known (C := R_Sn) (T := F_Sn) (N := 6) (n := 6) hbig in_Sn (hbig _ k_94)
  obtain ⟨c5, iS5, hKn5⟩ := u_known (C := R_Do) (T := F_Do) (N := 3) (n := 3) hbig in_Do (hbig _ k_370)
  obtain ⟨c6, iS6, hKn6⟩ := u_known (C := R_Dr) (T := F_Dr) (N := 4) (n := 4) hbig in_Dr (hbig _ k_23)
  obtain ⟨c7, iS7, hKn7⟩ := u_known (C := R_Sc) (T := F_Sc) (N := 3) (n := 3) hbig in_Sc (hbig _ k_165)
  obtain ⟨c8, iS8, hKn8⟩ := u_known (C := R_Rw) (T := F_Rw) (N := 3) (n := 3) hbig in_Rw (hbig _ k_72)
  obtain ⟨c9, iS9, hKn9⟩ := u_known (C := R_B) (T := F_B) (N := 11) (n := 11) hbig in_B (hbig _ k_15)
  obtain ⟨c10, iS10, hKn10⟩ := u_known (C := R_M) (T := F_M) (N := 45) (n := 45) hbig in_M (hbig _ k_596)
  obtain ⟨D, hKc⟩ : ∃ D : va_G, ∀ (k : Nat) (q : vw_C), classes[k]? = some q → u_Kn s q.1 q.2.1 q.2.2 (D.1 k) (D.2 k) := by
    refine ⟨(fun k => if k = 0 then c0 else if k = 1 then c1 else if k = 2 then c2 else if k = 3 then c3 else if k = 4 then c4 else if k = 5 then c5 else if k = 6 then c6 else if k = 7 then c7 else if k = 8 then c8 else if k = 9 then c9 else c10, fun k => if k = 0 then iS0 else if k = 1 then iS1 else if k = 2 then iS2 else if k = 3 then iS3 else if k = 4 then iS4 else if k = 5 then iS5 else if k = 6 then iS6 else if k = 7 then iS7 else if k = 8 then iS8 else if k = 9 then iS9 else iS10), ?_⟩
    intro k q hq
    match k, hq with
    | 0, hq => cases hq; exact hKn0
    | 1, hq => cases hq; exact hKn1
    | 2, hq => cases hq; exact hKn2
    | 3, hq => cases hq; exact hKn3
    | 4, hq => cases hq; exact hKn4
    | 5, hq => cases hq; exact hKn5
    | 6, hq => cases hq; exact hKn6
    | 7, hq => cases hq; exact hKn7
    | 8, hq => cases hq; exact hKn8
    | 9, hq => cases hq; exact hKn9
    | 10, hq => cases hq; exact hKn10
    | k + 11, hq => simp [classes] at hq
  obtain ⟨d0, dk0, dm0, df0, dc0, dt0⟩ := Cond.arrayClass_spec (hbig _ k_70)
  obtain ⟨d1, dk1, dm1, df1, dc1, dt1⟩ := Cond.arrayClass_spec (hbig _ k_128)
  obtain ⟨d6, dk6, dm6, df6, dc6, dt6⟩ := Cond.arrayClass_spec (hbig _ k_737)
  have hov := hts _ (show (Cond.arrayOver (FieldType.array FieldType.int)) ∈ lw_tbl from List.mem_of_getElem? (i := 84) (by decide +kernel))
  obtain ⟨dm2, d2, dk2, df2, -, dc2, dt2, dg2⟩ := arrayOverA_spec hov
  have ho3 := hts _ (show (Cond.arrayOver (FieldType.object "BlockSearch$Node")) ∈ lw_tbl from List.mem_of_getElem? (i := 56) (by decide +kernel))
  obtain ⟨dm3, d3, dk3, df3, -, dc3, dt3, dg3⟩ := Cond.arrayOver_spec ho3
  have ho4 := hts _ (show (Cond.arrayOver (FieldType.object "BlockSearch$Document")) ∈ lw_tbl from List.mem_of_getElem? (i := 105) (by decide +kernel))
  obtain ⟨dm4, d4, dk4, df4, -, dc4, dt4, dg4⟩ := Cond.arrayOver_spec ho4
  have ho5 := hts _ (show (Cond.arrayOver (FieldType.object "BlockSearch$DocumentRow")) ∈ lw_tbl from List.mem_of_getElem? (i := 119) (by decide +kernel))
  obtain ⟨dm5, d5, dk5, df5, -, dc5, dt5, dg5⟩ := Cond.arrayOver_spec ho5
  have e02 : dm2 = d0 := Option.some.inj (df2.symm.trans df0)
  subst e02
  obtain ⟨dA, hdA⟩ : ∃ dA : Nat → ClassId, dA 0 = dm2 ∧ dA 1 = d1 ∧ dA 2 = d2 ∧ dA 3 = d3 ∧ dA 4 = d4 ∧ dA 5 = d5 ∧ dA 6 = d6 :=
    ⟨fun k => if k = 0 then dm2 else if k = 1 then d1 else if k = 2 then d2 else if k = 3 then d3 else if k = 4 then d4 else if k = 5 then d5 else d6, rfl, rfl, rfl, rfl, rfl, rfl, rfl⟩
  obtain ⟨a0, a1, a2, a3, a4, a5, a6⟩ := hdA
  have hK : va_K D classes (xtysL dA) s := by
    refine ⟨hKc, fun k q hk => ?_⟩
    match k, hk with
    | 0, hk => cases hk; rw [a0]; exact ⟨fun N z => ⟨(fun q hq => by cases hq), dk0, dc0, dm0, dt0⟩, df0⟩
    | 1, hk => cases hk; rw [a1]; exact ⟨fun N z => ⟨(fun q hq => by cases hq), dk1, dc1, dm1, dt1⟩, df1⟩
    | 2, hk => cases hk; rw [a2]; exact ⟨fun N z => ⟨(fun q hq => by cases hq), dk2, dc2, _, dt2⟩, dg2⟩
    | 3, hk => cases hk; rw [a3]; exact ⟨fun N z => ⟨(fun q hq => by cases hq), dk3, dc3, _, dt3⟩, dk3, dm3, dc3, dt3, df3, dg3⟩
    | 4, hk => cases hk; rw [a4]; exact ⟨fun N z => ⟨(fun q hq => by cases hq), dk4, dc4, _, dt4⟩, dk4, dm4, dc4, dt4, df4, dg4⟩
    | 5, hk => cases hk; rw [a5]; exact ⟨fun N z => ⟨(fun q hq => by cases hq), dk5, dc5, _, dt5⟩, dk5, dm5, dc5, dt5, df5, dg5⟩
    | 6, hk => cases hk; rw [a6]; exact ⟨fun N z => ⟨(fun q hq => by cases hq), dk6, dc6, dm6, dt6⟩, df6⟩
    | k + 7, hk => simp at hk
  have hG : xGrid dA s := ⟨hov, ⟨dk2, by rw [a2]; exact dc2, by rw [a0]; exact dt2⟩, ⟨dk0, dm0, by rw [a0]; exact dc0, dt0⟩⟩
  have hO : ∀ C ∈ xOver, va_AO C s := by
    intro C hC
    have hC' : C = "BlockSearch$Node" ∨ C = "BlockSearch$Document" ∨ C = "BlockSearch$DocumentRow" := by simpa [xOver] using hC
    rcases hC' with rfl | rfl | rfl
    · exact va_AO.of ho3
    · exact va_AO.of ho4
    · exact va_AO.of ho5
  have hNF : ∀ w ∈ xNestF, va_Nw (.fieldLinkNest w.1 w.2.1 w.2.2.1 w.2.2.2.1 w.2.2.2.2.1 w.2.2.2.2.2) s := by
    intro w hw
    have hw' := List.mem_singleton.mp hw
    subst hw'
    exact va_Nw.of rfl (hts _ (show (Cond.fieldLinkNest "BlockSearch$Draft" 28 "BlockSearch" "PARENT" "[I" "BlockSearch") ∈ lw_tbl from List.mem_of_getElem? (i := 269) (by decide +kernel)))
  have hNM : ∀ w ∈ xNestM, va_Nw (.methodLinkNest w.1 w.2.1 w.2.2.1 w.2.2.2) s := by
    refine List.forall_mem_cons.mpr ⟨va_Nw.of rfl (hts _ (show (Cond.methodLinkNest "BlockSearch" 9 ⟨"BlockSearch$Draft", "<init>", "()V"⟩ "BlockSearch") ∈ lw_tbl from List.mem_of_getElem? (i := 51) (by decide +kernel))), List.forall_mem_cons.mpr ⟨va_Nw.of rfl (hts _ (show (Cond.methodLinkNest "BlockSearch" 18 ⟨"BlockSearch$Mapping", "<init>", "()V"⟩ "BlockSearch") ∈ lw_tbl from List.mem_of_getElem? (i := 79) (by decide +kernel))), List.forall_mem_cons.mpr ⟨va_Nw.of rfl (hts _ (show (Cond.methodLinkNest "BlockSearch" 38 ⟨"BlockSearch$Snapshot", "<init>", "()V"⟩ "BlockSearch") ∈ lw_tbl from List.mem_of_getElem? (i := 122) (by decide +kernel))), List.forall_mem_cons.mpr ⟨va_Nw.of rfl (hts _ (show (Cond.methodLinkNest "BlockSearch" 45 ⟨"BlockSearch$Query", "<init>", "()V"⟩ "BlockSearch") ∈ lw_tbl from List.mem_of_getElem? (i := 158) (by decide +kernel))), List.forall_mem_cons.mpr ⟨va_Nw.of rfl (hts _ (show (Cond.methodLinkNest "BlockSearch" 52 ⟨"BlockSearch$Scorer", "<init>", "()V"⟩ "BlockSearch") ∈ lw_tbl from List.mem_of_getElem? (i := 193) (by decide +kernel))), List.forall_mem_cons.mpr ⟨va_Nw.of rfl (hts _ (show (Cond.methodLinkNest "BlockSearch" 59 ⟨"BlockSearch$Hits", "<init>", "()V"⟩ "BlockSearch") ∈ lw_tbl from List.mem_of_getElem? (i := 210) (by decide +kernel))), fun _ h => absurd h List.not_mem_nil⟩⟩⟩⟩⟩⟩
  have hA0 : ∀ a : Nat, a < s.heap.size → ¬ (fun q : Nat => s.heap.size ≤ q) a := fun a h => Nat.not_le.mpr h
  have hsf := flat_of_before _ hgv
  have hpar : (Cond.arrayOf (.static "BlockSearch" "PARENT" "[I") .int).before #[Value.ref b] s = true := hsf _ (by decide +kernel)
  have hplen : (Cond.eq (.length (.static "BlockSearch" "PARENT" "[I")) (.int 4)).before #[Value.ref b] s = true := hsf _ (by decide +kernel)
  have hp0 : (Cond.eq (.elem (.static "BlockSearch" "PARENT" "[I") (.int 0)) (.int (-1))).before #[Value.ref b] s = true := hsf _ (by decide +kernel)
  have hp1 : (Cond.eq (.elem (.static "BlockSearch" "PARENT" "[I") (.int 1)) (.int 0)).before #[Value.ref b] s = true := hsf _ (by decide +kernel)
  have hp2 : (Cond.eq (.elem (.static "BlockSearch" "PARENT" "[I") (.int 2)) (.int 1)).before #[Value.ref b] s = true := hsf _ (by decide +kernel)
  have hp3 : (Cond.eq (.elem (.static "BlockSearch" "PARENT" "[I") (.int 3)) (.int 0)).before #[Value.ref b] s = true := hsf _ (by decide +kernel)
  obtain ⟨pa, hpe, hpT⟩ := va_Tof (tm := .static "BlockSearch" "PARENT" "[I") (ty := .int) (N := 4) (f := fun j => .int (xPar j)) (A := fun q : Nat => s.heap.size ≤ q) (by omega) hpar (va_eqt hplen) (fun j hj => by
    rcases (show j = 0 ∨ j = 1 ∨ j = 2 ∨ j = 3 by omega) with rfl | rfl | rfl | rfl
    · exact va_eqt hp0
    · exact va_eqt hp1
    · exact va_eqt hp2
    · exact va_eqt hp3) hA0
  have hZ := va_Zref (A := fun q : Nat => s.heap.size ≤ q) (hts _ (show (Cond.laysStatic "BlockSearch" "PARENT" "[I") ∈ lw_tbl from List.mem_of_getElem? (i := 270) (by decide +kernel))) (hbig _ k_1) hpe hA0
  have hKn : xKn D dA s.heap.size (fun _ => pa) s := ⟨hK, hNF, hNM, hO, hG, hZ, hpT⟩
  have F : xFix p room_1 s m #[Value.ref b] meth c code 4 "BlockSearchLaw" D dA s.heap.size (fun _ => pa) := ⟨hx, hb, hml, hown, hbig, hKn, hlocks, Nat.le_refl _⟩
  have hl := lv_entry ([.ref b]) (n := 4) (Nat.le_of_ble_eq_true rfl)
  rw [lg_entry_eq]
  generalize (lg_sl ([.ref b]) ++ List.replicate (4 - (lg_sl ([.ref b])).length) Slot.unset).toArray = ls at hl ⊢
  refine law_walk (L := L) (xs := xs) ⟨hX, hbl, rfl⟩ F hr hp s.heap [] 0 0 ls ⟨rfl, fun a c h => (by cases h), fun a c h => (by cases h), fun a => Or.inl rfl⟩ va_S.rf (Nat.le_of_ble_eq_true (show Nat.ble (0 + 600000) 600000 = true by decide +kernel)) (Nat.le_of_ble_eq_true (show Nat.ble (0 + 7302250) 7302250 = true by decide +kernel)) ⟨hl, fun q hq => ?_⟩
  have hq' : q = (0, va_rf (some b)) := List.mem_singleton.mp hq
  subst hq'
  rfl
