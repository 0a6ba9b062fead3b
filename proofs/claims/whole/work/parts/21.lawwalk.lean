/-! THE CLAIM OUT OF ONE WALK OF THE LAW'S BODY. Your part is whole_start (and what it stands on); all else here is the same for every law, but numbers. -/
def R_law : String := "BlockSearchLaw"
def lw_P (b : Addr) (xs : List Int32) (args : Array Value) (s : State) : Prop := args = #[.ref b] ∧ s.IntsAt b xs ∧ xs.length ≤ 2048 ∧ (Jvm.Cond.and given_1 narrow_1).before args s = true
def lw_Q (_ : Array Value) (s : State) (o : Outcome) (t : State) : Prop := o = .returned (some (.int 1)) ∧ Framed s o t [] 600000 7302250
def lw_Z (below : List Frame) (a : Array Value) (s : State) : State → Prop := fun t => ∃ o, t.status = .running ∧ Ended t below o ∧ lw_Q a s o t
/-- the law's own end, with 1 on the stack, nothing written that was there before, its room as the claim has it -/
theorem lw_ret {p : Program} {l : Launch} {e : Env} {s : State} {m : MethodId} {below : List Frame} {meth : Method} {c : Code} {b : Nat} (hx : p.tables.exec = Jvm.exec) (hb : c.code = code) (hr : meth.sig.returnType = ret) (hlocks : meth.locks = false) {pc : Nat} {H : Heap} {ls : Array Slot} (hdg : decode code pc = .ok (.ireturn, 1)) : W p l e room_1 s m #[Value.ref b] below meth c H [] 600000 7302250 (lw_Z below #[Value.ref b] s) (F0 m pc ls [.int 1]) := by
  intro T hT X
  obtain ⟨fs, hret, hrun, hended, hW, hframe⟩ := X.leave (v := some (.int 1)) (hlocks := hlocks) (fun h => by rw [hr] at h; cases h)
  have hmeth' : T.vm.method? m = some meth := X.method'
  refine ⟨T.setFrames fs, ?_, .returned (some (.int 1)), hrun, hended, rfl, ⟨_, rfl⟩, hW, hframe⟩
  jvm_step X.here [X.here.top, hx, hb, hdg, hmeth', hr, ret, narrow_b1]
  (try refine ⟨rfl, ?_⟩); (try refine ⟨rfl, ?_⟩)
  first | (intro acts; rw [hret _ acts rfl rfl rfl]) | rw [hret _ _ rfl rfl rfl]
  exact Steps.refl _
/-- what holds at the law's entry: the machine, the code, the tables' words (any of lw_tbl by 'hts w (by decide +kernel)'), the script of L ints xs at the cell b, what the Statement gives of the start (any of its parts by flat_of_before) -/
def lw_At (p : Program) (s : State) (m : MethodId) (meth : Method) (c : Code) (b L : Nat) (xs : Nat → Int32) : Prop :=
  p.tables.exec = Jvm.exec ∧ c.code = code ∧ meth.sig.returnType = ret ∧ c.maxLocals = 4 ∧ s.vm.findClass R_law = some m.cls ∧ (∀ w ∈ lw_tbl, w.before #[Value.ref b] s = true) ∧ va_X b L xs s s.heap ∧ b < s.heap.size ∧ meth.locks = false ∧ (Jvm.Cond.and given_1 narrow_1).before #[Value.ref b] s = true
abbrev X_L_law (p : Program) (l : Launch) (e : Env) (s : State) (m : MethodId) (below : List Frame) (meth : Method) (c : Code) (b : Nat) (D : va_G) (dA : Nat → ClassId) (base : Nat) (sa : Nat → Nat) (pc : Nat) (lv : List (Nat × Value)) (st : List Value) (G : xS) : Prop := xW p l e room_1 s m #[Value.ref b] below meth c 4 (lw_Z below #[Value.ref b] s) D dA base sa pc lv st G
section XL
variable {p : Program} {l : Launch} {e : Env} {R : Room} {s : State} {m : MethodId} {args : Array Value} {below : List Frame} {meth : Method} {c : Code} {nL : Nat} {Q : State → Prop} {D : va_G} {dA : Nat → ClassId} {base : Nat} {sa : Nat → Nat} {cc : ByteArray} {own : String} {pc : Nat} {lv : List (Nat × Value)} {st : List Value} {G : xS} {b L : Nat} {xs : Nat → Int32}
theorem x_sw (kk : xW p l e R s m args below meth c nL Q D dA base sa pc lv st (G.2.1, G.1, G.2.2)) : xW p l e R s m args below meth c nL Q D dA base sa pc lv st G := fun H locs cells slots ls hR hS hc hs hL => kk H locs cells slots ls ⟨hR.1, hR.2.2.1, hR.2.1, fun a => (hR.2.2.2 a).symm⟩ hS hc hs hL
theorem x_scrlen (F : xFix p R s m args meth c cc nL own D dA base sa) (Lw : xLaw s base b L xs) (hd : decode cc pc = .ok (.arraylength, 1)) (kk : xW p l e R s m args below meth c nL Q D dA base sa (pc + 1) lv (.int (nI L) :: st) G) : xW p l e R s m args below meth c nL Q D dA base sa pc lv (va_rf (some b) :: st) G := fun H locs cells slots ls hR hS hc hs hL =>
  va_slen F.1 F.2.1 Lw.1 Lw.2.1 (by rw [Lw.2.2]; exact Nat.not_le.mpr Lw.2.1) hS hd (kk H locs cells slots ls hR hS hc hs hL)
theorem x_scrld (F : xFix p R s m args meth c cc nL own D dA base sa) (Lw : xLaw s base b L xs) {i : Int32} {K : Int32 → xS → Prop} (hd : decode cc pc = .ok (.iaload, 1)) (h : xscr xs L i K G) (kk : ∀ v, K v G → xW p l e R s m args below meth c nL Q D dA base sa (pc + 1) lv (.int v :: st) G) : xW p l e R s m args below meth c nL Q D dA base sa pc lv (.int i :: va_rf (some b) :: st) G := fun H locs cells slots ls hR hS hc hs hL =>
  va_sld F.1 F.2.1 Lw.1 Lw.2.1 (by rw [Lw.2.2]; exact Nat.not_le.mpr Lw.2.1) hS h.1 hd (kk _ h.2 H locs cells slots ls hR hS hc hs hL)
theorem x_lret (Lw : xLaw s base b L xs) (F : xFix p room_1 s m #[Value.ref b] meth c code nL own D dA base sa) (hret : meth.sig.returnType = ret) (hd : decode code pc = .ok (.ireturn, 1)) : xW p l e room_1 s m #[Value.ref b] below meth c nL (lw_Z below #[Value.ref b] s) D dA base sa pc lv [.int 1] G := fun H locs cells slots ls hR hS hc hs hL => by
  have hc' : cells + G.2.2.2.1 ≤ 600000 := hc
  have hs' : slots + G.2.2.2.2 ≤ 7302250 := hs
  refine va_forget (fun q hq => by have := hS.2.2 q hq; rw [Lw.2.2] at this; exact this) ?_
  refine W.widen (k := 600000) (n := 7302250) (by omega) (by omega) ?_
  exact lw_ret F.1 F.2.1 hret F.2.2.2.2.2.2.1 hd
end XL
set_option maxHeartbeats 4000000 in
set_option maxRecDepth 100000 in
theorem w_L_law_L18 {p : Program} {l : Launch} {e : Env} {s : State} {m : MethodId} {below : List Frame} {meth : Method} {c : Code} {D : va_G} {dA : Nat → ClassId} {base : Nat} {sa : Nat → Nat} {th L : Nat} {xs : Nat → Int32} (Lw : xLaw s base th L xs) (F : xFix p room_1 s m #[Value.ref th] meth c code 4 "BlockSearchLaw" D dA base sa) (hret : meth.sig.returnType = ret) {K : Unit → xS → Prop} {Kx570 : xS → Prop} (l1 : Option Nat) (l2 : Option Nat) (hKx570 : ∀ (G : xS), Kx570  G → X_L_law p l e s m below meth c th D dA base sa 570 [] [] G) : ∀ (n : Nat) (l3 : Int32) (G : xS), p_L_law_L18 xs L th l1 l2 K Kx570 n l3 G → X_L_law p l e s m below meth c th D dA base sa 18 [(0, va_rf (some th)), (1, va_rf l1), (2, va_rf l2), (3, .int l3)] [] G := by
  intro n
  induction n with
  | zero => intro l3 G h; exact h.elim
  | succ n ih =>
    intro l3 G h
    unfold p_L_law_L18 at h
    refine x_iload_n F 3 d_L_law_18 rfl rfl ?_
    refine x_aload_n F 0 d_L_law_19 rfl rfl ?_
    refine x_scrlen F Lw d_L_law_20 ?_
    refine x_iconst F (v := 4) d_L_law_21 (by decide) ?_
    refine x_isub F d_L_law_22 ?_
    refine x_icmp_gt F (tgt := 570) d_L_law_23 (by decide) h (fun q h => ?_) (fun q h => ?_)
    · refine x_sub (lv' := []) [] rfl ?_
      exact hKx570  _ h
    · refine x_aload_n F 0 d_L_law_26 rfl rfl ?_
      refine x_iload_n F 3 d_L_law_27 rfl rfl ?_
      refine x_scrld F Lw d_L_law_28 h (fun v3 h => ?_)
      refine x_bipush F (v := 31) d_L_law_29 (by decide) ?_
      refine x_iand F d_L_law_31 ?_
      by_cases q0 : (v3 &&& 31) = 0
      · have h := h.1 q0
        refine x_tabIn F (off := 88) (tgt := 120) d_L_law_32 q0 (by decide) (by decide) (by decide) (by decide) ?_
        refine x_aload_n F 1 d_L_law_120 rfl rfl ?_
        refine x_aload_n F 0 d_L_law_121 rfl rfl ?_
        refine x_iload_n F 3 d_L_law_122 rfl rfl ?_
        refine x_iconst F (v := 1) d_L_law_123 (by decide) ?_
        refine x_iadd F d_L_law_124 ?_
        refine x_scrld F Lw d_L_law_125 h (fun v4 h => ?_)
        refine x_callV F (enc := fun r => some (.int r)) (P := fun b => p_B_open b v4) (n := 1) (As := [.int v4]) (st := []) k_234 k_1 k_232 k_233 k_231 ⟨by decide, by decide, by decide +kernel⟩ rfl ⟨Nat.le_of_ble_eq_true rfl, Nat.le_of_ble_eq_true rfl⟩ (by simp [x_cat, x_catI, x_catL]) cl_B rfl (ro := l1) (fun b K' G' h' _ => c_B_open l D dA base sa b v4 K' G' h') d_L_law_126 h (fun v5 G h => ?_)
        refine x_aload_n F 2 d_L_law_129 rfl rfl ?_
        refine x_aload_n F 0 d_L_law_130 rfl rfl ?_
        refine x_iload_n F 3 d_L_law_131 rfl rfl ?_
        refine x_iconst F (v := 1) d_L_law_132 (by decide) ?_
        refine x_iadd F d_L_law_133 ?_
        refine x_scrld F Lw d_L_law_134 h (fun v6 h => ?_)
        refine x_sw ?_
        refine x_callV F (enc := fun r => some (.int r)) (P := fun b => p_M_open b v6) (n := 1) (As := [.int v6]) (st := [.int v5]) k_741 k_9 k_739 k_740 k_738 ⟨by decide, by decide, by decide +kernel⟩ rfl ⟨Nat.le_of_ble_eq_true rfl, Nat.le_of_ble_eq_true rfl⟩ (by simp [x_cat, x_catI, x_catL]) cl_M rfl (ro := l2) (fun b K' G' h' _ => c_M_open l D dA base sa b v6 K' G' h') d_L_law_135 h (fun v7 G h => ?_)
        refine x_sw ?_
        refine x_icmp_eq F (tgt := 564) d_L_law_138 (by decide) h (fun q h => ?_) (fun q h => ?_)
        · refine x_iinc F 3 (v := (l3 + 4)) (lv' := [(3, .int (l3 + 4)), (0, va_rf (some th)), (1, va_rf l1), (2, va_rf l2)]) d_L_law_564 rfl (congrArg (fun z : Int32 => l3 + z) (by decide)) (by decide) rfl ?_
          refine x_goto F (tgt := 18) d_L_law_567 (by decide) ?_
          refine x_sub (lv' := [(0, va_rf (some th)), (1, va_rf l1), (2, va_rf l2), (3, .int (l3 + 4))]) [1, 2, 3, 0] rfl ?_
          exact ih _ _ h
        · refine x_iconst F (v := 0) d_L_law_141 (by decide) ?_
          exact h.elim
      have h := h.2 q0
      by_cases q1 : (v3 &&& 31) = 1
      · have h := h.1 q1
        refine x_tabIn F (off := 111) (tgt := 143) d_L_law_32 q1 (by decide) (by decide) (by decide) (by decide) ?_
        refine x_aload_n F 1 d_L_law_143 rfl rfl ?_
        refine x_aload_n F 0 d_L_law_144 rfl rfl ?_
        refine x_iload_n F 3 d_L_law_145 rfl rfl ?_
        refine x_iconst F (v := 1) d_L_law_146 (by decide) ?_
        refine x_iadd F d_L_law_147 ?_
        refine x_scrld F Lw d_L_law_148 h (fun v8 h => ?_)
        refine x_aload_n F 0 d_L_law_149 rfl rfl ?_
        refine x_iload_n F 3 d_L_law_150 rfl rfl ?_
        refine x_iconst F (v := 2) d_L_law_151 (by decide) ?_
        refine x_iadd F d_L_law_152 ?_
        refine x_scrld F Lw d_L_law_153 h (fun v9 h => ?_)
        refine x_callV F (enc := fun r => some (.int r)) (P := fun b => p_B_number b v8 v9) (n := 2) (As := [.int v8, .int v9]) (st := []) k_293 k_1 k_291 k_292 k_290 ⟨by decide, by decide, by decide +kernel⟩ rfl ⟨Nat.le_of_ble_eq_true rfl, Nat.le_of_ble_eq_true rfl⟩ (by simp [x_cat, x_catI, x_catL]) cl_B rfl (ro := l1) (fun b K' G' h' _ => c_B_number l D dA base sa b v8 v9 K' G' h') d_L_law_154 h (fun v10 G h => ?_)
        refine x_aload_n F 2 d_L_law_157 rfl rfl ?_
        refine x_aload_n F 0 d_L_law_158 rfl rfl ?_
        refine x_iload_n F 3 d_L_law_159 rfl rfl ?_
        refine x_iconst F (v := 1) d_L_law_160 (by decide) ?_
        refine x_iadd F d_L_law_161 ?_
        refine x_scrld F Lw d_L_law_162 h (fun v11 h => ?_)
        refine x_aload_n F 0 d_L_law_163 rfl rfl ?_
        refine x_iload_n F 3 d_L_law_164 rfl rfl ?_
        refine x_iconst F (v := 2) d_L_law_165 (by decide) ?_
        refine x_iadd F d_L_law_166 ?_
        refine x_scrld F Lw d_L_law_167 h (fun v12 h => ?_)
        refine x_sw ?_
        refine x_callV F (enc := fun r => some (.int r)) (P := fun b => p_M_number b v11 v12) (n := 2) (As := [.int v11, .int v12]) (st := [.int v10]) k_751 k_9 k_749 k_750 k_748 ⟨by decide, by decide, by decide +kernel⟩ rfl ⟨Nat.le_of_ble_eq_true rfl, Nat.le_of_ble_eq_true rfl⟩ (by simp [x_cat, x_catI, x_catL]) cl_M rfl (ro := l2) (fun b K' G' h' _ => c_M_number l D dA base sa b v11 v12 K' G' h') d_L_law_168 h (fun v13 G h => ?_)
        refine x_sw ?_
        refine x_icmp_eq F (tgt := 564) d_L_law_171 (by decide) h (fun q h => ?_) (fun q h => ?_)
        · refine x_iinc F 3 (v := (l3 + 4)) (lv' := [(3, .int (l3 + 4)), (0, va_rf (some th)), (1, va_rf l1), (2, va_rf l2)]) d_L_law_564 rfl (congrArg (fun z : Int32 => l3 + z) (by decide)) (by decide) rfl ?_
          refine x_goto F (tgt := 18) d_L_law_567 (by decide) ?_
          refine x_sub (lv' := [(0, va_rf (some th)), (1, va_rf l1), (2, va_rf l2), (3, .int (l3 + 4))]) [1, 2, 3, 0] rfl ?_
          exact ih _ _ h
        · refine x_iconst F (v := 0) d_L_law_174 (by decide) ?_
          exact h.elim
      have h := h.2 q1
      by_cases q2 : (v3 &&& 31) = 2
      · have h := h.1 q2
        refine x_tabIn F (off := 144) (tgt := 176) d_L_law_32 q2 (by decide) (by decide) (by decide) (by decide) ?_
        refine x_aload_n F 1 d_L_law_176 rfl rfl ?_
        refine x_aload_n F 0 d_L_law_177 rfl rfl ?_
        refine x_iload_n F 3 d_L_law_178 rfl rfl ?_
        refine x_iconst F (v := 1) d_L_law_179 (by decide) ?_
        refine x_iadd F d_L_law_180 ?_
        refine x_scrld F Lw d_L_law_181 h (fun v14 h => ?_)
        refine x_aload_n F 0 d_L_law_182 rfl rfl ?_
        refine x_iload_n F 3 d_L_law_183 rfl rfl ?_
        refine x_iconst F (v := 2) d_L_law_184 (by decide) ?_
        refine x_iadd F d_L_law_185 ?_
        refine x_scrld F Lw d_L_law_186 h (fun v15 h => ?_)
        refine x_callV F (enc := fun r => some (.int r)) (P := fun b => p_B_word b v14 v15) (n := 2) (As := [.int v14, .int v15]) (st := []) k_307 k_1 k_305 k_306 k_304 ⟨by decide, by decide, by decide +kernel⟩ rfl ⟨Nat.le_of_ble_eq_true rfl, Nat.le_of_ble_eq_true rfl⟩ (by simp [x_cat, x_catI, x_catL]) cl_B rfl (ro := l1) (fun b K' G' h' _ => c_B_word l D dA base sa b v14 v15 K' G' h') d_L_law_187 h (fun v16 G h => ?_)
        refine x_aload_n F 2 d_L_law_190 rfl rfl ?_
        refine x_aload_n F 0 d_L_law_191 rfl rfl ?_
        refine x_iload_n F 3 d_L_law_192 rfl rfl ?_
        refine x_iconst F (v := 1) d_L_law_193 (by decide) ?_
        refine x_iadd F d_L_law_194 ?_
        refine x_scrld F Lw d_L_law_195 h (fun v17 h => ?_)
        refine x_aload_n F 0 d_L_law_196 rfl rfl ?_
        refine x_iload_n F 3 d_L_law_197 rfl rfl ?_
        refine x_iconst F (v := 2) d_L_law_198 (by decide) ?_
        refine x_iadd F d_L_law_199 ?_
        refine x_scrld F Lw d_L_law_200 h (fun v18 h => ?_)
        refine x_sw ?_
        refine x_callV F (enc := fun r => some (.int r)) (P := fun b => p_M_word b v17 v18) (n := 2) (As := [.int v17, .int v18]) (st := [.int v16]) k_755 k_9 k_753 k_754 k_752 ⟨by decide, by decide, by decide +kernel⟩ rfl ⟨Nat.le_of_ble_eq_true rfl, Nat.le_of_ble_eq_true rfl⟩ (by simp [x_cat, x_catI, x_catL]) cl_M rfl (ro := l2) (fun b K' G' h' _ => c_M_word l D dA base sa b v17 v18 K' G' h') d_L_law_201 h (fun v19 G h => ?_)
        refine x_sw ?_
        refine x_icmp_eq F (tgt := 564) d_L_law_204 (by decide) h (fun q h => ?_) (fun q h => ?_)
        · refine x_iinc F 3 (v := (l3 + 4)) (lv' := [(3, .int (l3 + 4)), (0, va_rf (some th)), (1, va_rf l1), (2, va_rf l2)]) d_L_law_564 rfl (congrArg (fun z : Int32 => l3 + z) (by decide)) (by decide) rfl ?_
          refine x_goto F (tgt := 18) d_L_law_567 (by decide) ?_
          refine x_sub (lv' := [(0, va_rf (some th)), (1, va_rf l1), (2, va_rf l2), (3, .int (l3 + 4))]) [1, 2, 3, 0] rfl ?_
          exact ih _ _ h
        · refine x_iconst F (v := 0) d_L_law_207 (by decide) ?_
          exact h.elim
      have h := h.2 q2
      by_cases q3 : (v3 &&& 31) = 3
      · have h := h.1 q3
        refine x_tabIn F (off := 177) (tgt := 209) d_L_law_32 q3 (by decide) (by decide) (by decide) (by decide) ?_
        refine x_aload_n F 1 d_L_law_209 rfl rfl ?_
        refine x_callV F (enc := fun r => some (.int r)) (P := fun b => p_B_close b ) (n := 0) (As := []) (st := []) k_318 k_1 k_316 k_317 k_315 ⟨by decide, by decide, by decide +kernel⟩ rfl ⟨Nat.le_of_ble_eq_true rfl, Nat.le_of_ble_eq_true rfl⟩ (by simp [x_cat, x_catI, x_catL]) cl_B rfl (ro := l1) (fun b K' G' h' _ => c_B_close l D dA base sa b  K' G' h') d_L_law_210 h (fun v20 G h => ?_)
        refine x_aload_n F 2 d_L_law_213 rfl rfl ?_
        refine x_sw ?_
        refine x_callV F (enc := fun r => some (.int r)) (P := fun b => p_M_close b ) (n := 0) (As := []) (st := [.int v20]) k_759 k_9 k_757 k_758 k_756 ⟨by decide, by decide, by decide +kernel⟩ rfl ⟨Nat.le_of_ble_eq_true rfl, Nat.le_of_ble_eq_true rfl⟩ (by simp [x_cat, x_catI, x_catL]) cl_M rfl (ro := l2) (fun b K' G' h' _ => c_M_close l D dA base sa b  K' G' h') d_L_law_214 h (fun v21 G h => ?_)
        refine x_sw ?_
        refine x_icmp_eq F (tgt := 564) d_L_law_217 (by decide) h (fun q h => ?_) (fun q h => ?_)
        · refine x_iinc F 3 (v := (l3 + 4)) (lv' := [(3, .int (l3 + 4)), (0, va_rf (some th)), (1, va_rf l1), (2, va_rf l2)]) d_L_law_564 rfl (congrArg (fun z : Int32 => l3 + z) (by decide)) (by decide) rfl ?_
          refine x_goto F (tgt := 18) d_L_law_567 (by decide) ?_
          refine x_sub (lv' := [(0, va_rf (some th)), (1, va_rf l1), (2, va_rf l2), (3, .int (l3 + 4))]) [1, 2, 3, 0] rfl ?_
          exact ih _ _ h
        · refine x_iconst F (v := 0) d_L_law_220 (by decide) ?_
          exact h.elim
      have h := h.2 q3
      by_cases q4 : (v3 &&& 31) = 4
      · have h := h.1 q4
        refine x_tabIn F (off := 190) (tgt := 222) d_L_law_32 q4 (by decide) (by decide) (by decide) (by decide) ?_
        refine x_aload_n F 1 d_L_law_222 rfl rfl ?_
        refine x_callV F (enc := fun r => some (.int r)) (P := fun b => p_B_wipe b ) (n := 0) (As := []) (st := []) k_326 k_1 k_324 k_325 k_323 ⟨by decide, by decide, by decide +kernel⟩ rfl ⟨Nat.le_of_ble_eq_true rfl, Nat.le_of_ble_eq_true rfl⟩ (by simp [x_cat, x_catI, x_catL]) cl_B rfl (ro := l1) (fun b K' G' h' _ => c_B_wipe l D dA base sa b  K' G' h') d_L_law_223 h (fun v22 G h => ?_)
        refine x_aload_n F 2 d_L_law_226 rfl rfl ?_
        refine x_sw ?_
        refine x_callV F (enc := fun r => some (.int r)) (P := fun b => p_M_wipe b ) (n := 0) (As := []) (st := [.int v22]) k_763 k_9 k_761 k_762 k_760 ⟨by decide, by decide, by decide +kernel⟩ rfl ⟨Nat.le_of_ble_eq_true rfl, Nat.le_of_ble_eq_true rfl⟩ (by simp [x_cat, x_catI, x_catL]) cl_M rfl (ro := l2) (fun b K' G' h' _ => c_M_wipe l D dA base sa b  K' G' h') d_L_law_227 h (fun v23 G h => ?_)
        refine x_sw ?_
        refine x_icmp_eq F (tgt := 564) d_L_law_230 (by decide) h (fun q h => ?_) (fun q h => ?_)
        · refine x_iinc F 3 (v := (l3 + 4)) (lv' := [(3, .int (l3 + 4)), (0, va_rf (some th)), (1, va_rf l1), (2, va_rf l2)]) d_L_law_564 rfl (congrArg (fun z : Int32 => l3 + z) (by decide)) (by decide) rfl ?_
          refine x_goto F (tgt := 18) d_L_law_567 (by decide) ?_
          refine x_sub (lv' := [(0, va_rf (some th)), (1, va_rf l1), (2, va_rf l2), (3, .int (l3 + 4))]) [1, 2, 3, 0] rfl ?_
          exact ih _ _ h
        · refine x_iconst F (v := 0) d_L_law_233 (by decide) ?_
          exact h.elim
      have h := h.2 q4
      by_cases q5 : (v3 &&& 31) = 5
      · have h := h.1 q5
        refine x_tabIn F (off := 203) (tgt := 235) d_L_law_32 q5 (by decide) (by decide) (by decide) (by decide) ?_
        refine x_aload_n F 1 d_L_law_235 rfl rfl ?_
        refine x_aload_n F 0 d_L_law_236 rfl rfl ?_
        refine x_iload_n F 3 d_L_law_237 rfl rfl ?_
        refine x_iconst F (v := 1) d_L_law_238 (by decide) ?_
        refine x_iadd F d_L_law_239 ?_
        refine x_scrld F Lw d_L_law_240 h (fun v24 h => ?_)
        refine x_callV F (enc := fun r => some (.int r)) (P := fun b => p_B_add b v24) (n := 1) (As := [.int v24]) (st := []) k_334 k_1 k_332 k_333 k_331 ⟨by decide, by decide, by decide +kernel⟩ rfl ⟨Nat.le_of_ble_eq_true rfl, Nat.le_of_ble_eq_true rfl⟩ (by simp [x_cat, x_catI, x_catL]) cl_B rfl (ro := l1) (fun b K' G' h' _ => c_B_add l D dA base sa b v24 K' G' h') d_L_law_241 h (fun v25 G h => ?_)
        refine x_aload_n F 2 d_L_law_244 rfl rfl ?_
        refine x_aload_n F 0 d_L_law_245 rfl rfl ?_
        refine x_iload_n F 3 d_L_law_246 rfl rfl ?_
        refine x_iconst F (v := 1) d_L_law_247 (by decide) ?_
        refine x_iadd F d_L_law_248 ?_
        refine x_scrld F Lw d_L_law_249 h (fun v26 h => ?_)
        refine x_sw ?_
        refine x_callV F (enc := fun r => some (.int r)) (P := fun b => p_M_add b v26) (n := 1) (As := [.int v26]) (st := [.int v25]) k_767 k_9 k_765 k_766 k_764 ⟨by decide, by decide, by decide +kernel⟩ rfl ⟨Nat.le_of_ble_eq_true rfl, Nat.le_of_ble_eq_true rfl⟩ (by simp [x_cat, x_catI, x_catL]) cl_M rfl (ro := l2) (fun b K' G' h' _ => c_M_add l D dA base sa b v26 K' G' h') d_L_law_250 h (fun v27 G h => ?_)
        refine x_sw ?_
        refine x_icmp_eq F (tgt := 564) d_L_law_253 (by decide) h (fun q h => ?_) (fun q h => ?_)
        · refine x_iinc F 3 (v := (l3 + 4)) (lv' := [(3, .int (l3 + 4)), (0, va_rf (some th)), (1, va_rf l1), (2, va_rf l2)]) d_L_law_564 rfl (congrArg (fun z : Int32 => l3 + z) (by decide)) (by decide) rfl ?_
          refine x_goto F (tgt := 18) d_L_law_567 (by decide) ?_
          refine x_sub (lv' := [(0, va_rf (some th)), (1, va_rf l1), (2, va_rf l2), (3, .int (l3 + 4))]) [1, 2, 3, 0] rfl ?_
          exact ih _ _ h
        · refine x_iconst F (v := 0) d_L_law_256 (by decide) ?_
          exact h.elim
      have h := h.2 q5
      by_cases q6 : (v3 &&& 31) = 6
      · have h := h.1 q6
        refine x_tabIn F (off := 226) (tgt := 258) d_L_law_32 q6 (by decide) (by decide) (by decide) (by decide) ?_
        refine x_aload_n F 1 d_L_law_258 rfl rfl ?_
        refine x_aload_n F 0 d_L_law_259 rfl rfl ?_
        refine x_iload_n F 3 d_L_law_260 rfl rfl ?_
        refine x_iconst F (v := 1) d_L_law_261 (by decide) ?_
        refine x_iadd F d_L_law_262 ?_
        refine x_scrld F Lw d_L_law_263 h (fun v28 h => ?_)
        refine x_callV F (enc := fun r => some (.int r)) (P := fun b => p_B_remove b v28) (n := 1) (As := [.int v28]) (st := []) k_403 k_1 k_401 k_402 k_400 ⟨by decide, by decide, by decide +kernel⟩ rfl ⟨Nat.le_of_ble_eq_true rfl, Nat.le_of_ble_eq_true rfl⟩ (by simp [x_cat, x_catI, x_catL]) cl_B rfl (ro := l1) (fun b K' G' h' _ => c_B_remove l D dA base sa b v28 K' G' h') d_L_law_264 h (fun v29 G h => ?_)
        refine x_aload_n F 2 d_L_law_267 rfl rfl ?_
        refine x_aload_n F 0 d_L_law_268 rfl rfl ?_
        refine x_iload_n F 3 d_L_law_269 rfl rfl ?_
        refine x_iconst F (v := 1) d_L_law_270 (by decide) ?_
        refine x_iadd F d_L_law_271 ?_
        refine x_scrld F Lw d_L_law_272 h (fun v30 h => ?_)
        refine x_sw ?_
        refine x_callV F (enc := fun r => some (.int r)) (P := fun b => p_M_remove b v30) (n := 1) (As := [.int v30]) (st := [.int v29]) k_788 k_9 k_786 k_787 k_785 ⟨by decide, by decide, by decide +kernel⟩ rfl ⟨Nat.le_of_ble_eq_true rfl, Nat.le_of_ble_eq_true rfl⟩ (by simp [x_cat, x_catI, x_catL]) cl_M rfl (ro := l2) (fun b K' G' h' _ => c_M_remove l D dA base sa b v30 K' G' h') d_L_law_273 h (fun v31 G h => ?_)
        refine x_sw ?_
        refine x_icmp_eq F (tgt := 564) d_L_law_276 (by decide) h (fun q h => ?_) (fun q h => ?_)
        · refine x_iinc F 3 (v := (l3 + 4)) (lv' := [(3, .int (l3 + 4)), (0, va_rf (some th)), (1, va_rf l1), (2, va_rf l2)]) d_L_law_564 rfl (congrArg (fun z : Int32 => l3 + z) (by decide)) (by decide) rfl ?_
          refine x_goto F (tgt := 18) d_L_law_567 (by decide) ?_
          refine x_sub (lv' := [(0, va_rf (some th)), (1, va_rf l1), (2, va_rf l2), (3, .int (l3 + 4))]) [1, 2, 3, 0] rfl ?_
          exact ih _ _ h
        · refine x_iconst F (v := 0) d_L_law_279 (by decide) ?_
          exact h.elim
      have h := h.2 q6
      by_cases q7 : (v3 &&& 31) = 7
      · have h := h.1 q7
        refine x_tabIn F (off := 249) (tgt := 281) d_L_law_32 q7 (by decide) (by decide) (by decide) (by decide) ?_
        refine x_aload_n F 1 d_L_law_281 rfl rfl ?_
        refine x_callV F (enc := fun r => some (.int r)) (P := fun b => p_B_flush b ) (n := 0) (As := []) (st := []) k_407 k_1 k_405 k_406 k_404 ⟨by decide, by decide, by decide +kernel⟩ rfl ⟨Nat.le_of_ble_eq_true rfl, Nat.le_of_ble_eq_true rfl⟩ (by simp [x_cat, x_catI, x_catL]) cl_B rfl (ro := l1) (fun b K' G' h' _ => c_B_flush l D dA base sa b  K' G' h') d_L_law_282 h (fun v32 G h => ?_)
        refine x_aload_n F 2 d_L_law_285 rfl rfl ?_
        refine x_sw ?_
        refine x_callV F (enc := fun r => some (.int r)) (P := fun b => p_M_flush b ) (n := 0) (As := []) (st := [.int v32]) k_792 k_9 k_790 k_791 k_789 ⟨by decide, by decide, by decide +kernel⟩ rfl ⟨Nat.le_of_ble_eq_true rfl, Nat.le_of_ble_eq_true rfl⟩ (by simp [x_cat, x_catI, x_catL]) cl_M rfl (ro := l2) (fun b K' G' h' _ => c_M_flush l D dA base sa b  K' G' h') d_L_law_286 h (fun v33 G h => ?_)
        refine x_sw ?_
        refine x_icmp_eq F (tgt := 564) d_L_law_289 (by decide) h (fun q h => ?_) (fun q h => ?_)
        · refine x_iinc F 3 (v := (l3 + 4)) (lv' := [(3, .int (l3 + 4)), (0, va_rf (some th)), (1, va_rf l1), (2, va_rf l2)]) d_L_law_564 rfl (congrArg (fun z : Int32 => l3 + z) (by decide)) (by decide) rfl ?_
          refine x_goto F (tgt := 18) d_L_law_567 (by decide) ?_
          refine x_sub (lv' := [(0, va_rf (some th)), (1, va_rf l1), (2, va_rf l2), (3, .int (l3 + 4))]) [1, 2, 3, 0] rfl ?_
          exact ih _ _ h
        · refine x_iconst F (v := 0) d_L_law_292 (by decide) ?_
          exact h.elim
      have h := h.2 q7
      by_cases q8 : (v3 &&& 31) = 8
      · have h := h.1 q8
        refine x_tabIn F (off := 262) (tgt := 294) d_L_law_32 q8 (by decide) (by decide) (by decide) (by decide) ?_
        refine x_aload_n F 1 d_L_law_294 rfl rfl ?_
        refine x_aload_n F 0 d_L_law_295 rfl rfl ?_
        refine x_iload_n F 3 d_L_law_296 rfl rfl ?_
        refine x_iconst F (v := 1) d_L_law_297 (by decide) ?_
        refine x_iadd F d_L_law_298 ?_
        refine x_scrld F Lw d_L_law_299 h (fun v34 h => ?_)
        refine x_aload_n F 0 d_L_law_300 rfl rfl ?_
        refine x_iload_n F 3 d_L_law_301 rfl rfl ?_
        refine x_iconst F (v := 2) d_L_law_302 (by decide) ?_
        refine x_iadd F d_L_law_303 ?_
        refine x_scrld F Lw d_L_law_304 h (fun v35 h => ?_)
        refine x_callV F (enc := fun r => some (.int r)) (P := fun b => p_B_merge b v34 v35) (n := 2) (As := [.int v34, .int v35]) (st := []) k_424 k_1 k_422 k_423 k_421 ⟨by decide, by decide, by decide +kernel⟩ rfl ⟨Nat.le_of_ble_eq_true rfl, Nat.le_of_ble_eq_true rfl⟩ (by simp [x_cat, x_catI, x_catL]) cl_B rfl (ro := l1) (fun b K' G' h' _ => c_B_merge l D dA base sa b v34 v35 K' G' h') d_L_law_305 h (fun v36 G h => ?_)
        refine x_aload_n F 2 d_L_law_308 rfl rfl ?_
        refine x_aload_n F 0 d_L_law_309 rfl rfl ?_
        refine x_iload_n F 3 d_L_law_310 rfl rfl ?_
        refine x_iconst F (v := 1) d_L_law_311 (by decide) ?_
        refine x_iadd F d_L_law_312 ?_
        refine x_scrld F Lw d_L_law_313 h (fun v37 h => ?_)
        refine x_aload_n F 0 d_L_law_314 rfl rfl ?_
        refine x_iload_n F 3 d_L_law_315 rfl rfl ?_
        refine x_iconst F (v := 2) d_L_law_316 (by decide) ?_
        refine x_iadd F d_L_law_317 ?_
        refine x_scrld F Lw d_L_law_318 h (fun v38 h => ?_)
        refine x_sw ?_
        refine x_callV F (enc := fun r => some (.int r)) (P := fun b => p_M_merge b v37 v38) (n := 2) (As := [.int v37, .int v38]) (st := [.int v36]) k_796 k_9 k_794 k_795 k_793 ⟨by decide, by decide, by decide +kernel⟩ rfl ⟨Nat.le_of_ble_eq_true rfl, Nat.le_of_ble_eq_true rfl⟩ (by simp [x_cat, x_catI, x_catL]) cl_M rfl (ro := l2) (fun b K' G' h' _ => c_M_merge l D dA base sa b v37 v38 K' G' h') d_L_law_319 h (fun v39 G h => ?_)
        refine x_sw ?_
        refine x_icmp_eq F (tgt := 564) d_L_law_322 (by decide) h (fun q h => ?_) (fun q h => ?_)
        · refine x_iinc F 3 (v := (l3 + 4)) (lv' := [(3, .int (l3 + 4)), (0, va_rf (some th)), (1, va_rf l1), (2, va_rf l2)]) d_L_law_564 rfl (congrArg (fun z : Int32 => l3 + z) (by decide)) (by decide) rfl ?_
          refine x_goto F (tgt := 18) d_L_law_567 (by decide) ?_
          refine x_sub (lv' := [(0, va_rf (some th)), (1, va_rf l1), (2, va_rf l2), (3, .int (l3 + 4))]) [1, 2, 3, 0] rfl ?_
          exact ih _ _ h
        · refine x_iconst F (v := 0) d_L_law_325 (by decide) ?_
          exact h.elim
      have h := h.2 q8
      by_cases q9 : (v3 &&& 31) = 9
      · have h := h.1 q9
        refine x_tabIn F (off := 295) (tgt := 327) d_L_law_32 q9 (by decide) (by decide) (by decide) (by decide) ?_
        refine x_aload_n F 1 d_L_law_327 rfl rfl ?_
        refine x_callV F (enc := fun r => some (.int r)) (P := fun b => p_B_refresh b ) (n := 0) (As := []) (st := []) k_441 k_1 k_439 k_440 k_438 ⟨by decide, by decide, by decide +kernel⟩ rfl ⟨Nat.le_of_ble_eq_true rfl, Nat.le_of_ble_eq_true rfl⟩ (by simp [x_cat, x_catI, x_catL]) cl_B rfl (ro := l1) (fun b K' G' h' _ => c_B_refresh l D dA base sa b  K' G' h') d_L_law_328 h (fun v40 G h => ?_)
        refine x_aload_n F 2 d_L_law_331 rfl rfl ?_
        refine x_sw ?_
        refine x_callV F (enc := fun r => some (.int r)) (P := fun b => p_M_refresh b ) (n := 0) (As := []) (st := [.int v40]) k_800 k_9 k_798 k_799 k_797 ⟨by decide, by decide, by decide +kernel⟩ rfl ⟨Nat.le_of_ble_eq_true rfl, Nat.le_of_ble_eq_true rfl⟩ (by simp [x_cat, x_catI, x_catL]) cl_M rfl (ro := l2) (fun b K' G' h' _ => c_M_refresh l D dA base sa b  K' G' h') d_L_law_332 h (fun v41 G h => ?_)
        refine x_sw ?_
        refine x_icmp_eq F (tgt := 564) d_L_law_335 (by decide) h (fun q h => ?_) (fun q h => ?_)
        · refine x_iinc F 3 (v := (l3 + 4)) (lv' := [(3, .int (l3 + 4)), (0, va_rf (some th)), (1, va_rf l1), (2, va_rf l2)]) d_L_law_564 rfl (congrArg (fun z : Int32 => l3 + z) (by decide)) (by decide) rfl ?_
          refine x_goto F (tgt := 18) d_L_law_567 (by decide) ?_
          refine x_sub (lv' := [(0, va_rf (some th)), (1, va_rf l1), (2, va_rf l2), (3, .int (l3 + 4))]) [1, 2, 3, 0] rfl ?_
          exact ih _ _ h
        · refine x_iconst F (v := 0) d_L_law_338 (by decide) ?_
          exact h.elim
      have h := h.2 q9
      by_cases q10 : (v3 &&& 31) = 10
      · have h := h.1 q10
        refine x_tabIn F (off := 308) (tgt := 340) d_L_law_32 q10 (by decide) (by decide) (by decide) (by decide) ?_
        refine x_aload_n F 1 d_L_law_340 rfl rfl ?_
        refine x_aload_n F 0 d_L_law_341 rfl rfl ?_
        refine x_iload_n F 3 d_L_law_342 rfl rfl ?_
        refine x_iconst F (v := 1) d_L_law_343 (by decide) ?_
        refine x_iadd F d_L_law_344 ?_
        refine x_scrld F Lw d_L_law_345 h (fun v42 h => ?_)
        refine x_aload_n F 0 d_L_law_346 rfl rfl ?_
        refine x_iload_n F 3 d_L_law_347 rfl rfl ?_
        refine x_iconst F (v := 2) d_L_law_348 (by decide) ?_
        refine x_iadd F d_L_law_349 ?_
        refine x_scrld F Lw d_L_law_350 h (fun v43 h => ?_)
        refine x_aload_n F 0 d_L_law_351 rfl rfl ?_
        refine x_iload_n F 3 d_L_law_352 rfl rfl ?_
        refine x_iconst F (v := 3) d_L_law_353 (by decide) ?_
        refine x_iadd F d_L_law_354 ?_
        refine x_scrld F Lw d_L_law_355 h (fun v44 h => ?_)
        refine x_callV F (enc := fun r => some (.int r)) (P := fun b => p_B_token b v42 v43 v44) (n := 3) (As := [.int v42, .int v43, .int v44]) (st := []) k_457 k_1 k_455 k_456 k_454 ⟨by decide, by decide, by decide +kernel⟩ rfl ⟨Nat.le_of_ble_eq_true rfl, Nat.le_of_ble_eq_true rfl⟩ (by simp [x_cat, x_catI, x_catL]) cl_B rfl (ro := l1) (fun b K' G' h' _ => c_B_token l D dA base sa b v42 v43 v44 K' G' h') d_L_law_356 h (fun v45 G h => ?_)
        refine x_aload_n F 2 d_L_law_359 rfl rfl ?_
        refine x_aload_n F 0 d_L_law_360 rfl rfl ?_
        refine x_iload_n F 3 d_L_law_361 rfl rfl ?_
        refine x_iconst F (v := 1) d_L_law_362 (by decide) ?_
        refine x_iadd F d_L_law_363 ?_
        refine x_scrld F Lw d_L_law_364 h (fun v46 h => ?_)
        refine x_aload_n F 0 d_L_law_365 rfl rfl ?_
        refine x_iload_n F 3 d_L_law_366 rfl rfl ?_
        refine x_iconst F (v := 2) d_L_law_367 (by decide) ?_
        refine x_iadd F d_L_law_368 ?_
        refine x_scrld F Lw d_L_law_369 h (fun v47 h => ?_)
        refine x_aload_n F 0 d_L_law_370 rfl rfl ?_
        refine x_iload_n F 3 d_L_law_371 rfl rfl ?_
        refine x_iconst F (v := 3) d_L_law_372 (by decide) ?_
        refine x_iadd F d_L_law_373 ?_
        refine x_scrld F Lw d_L_law_374 h (fun v48 h => ?_)
        refine x_sw ?_
        refine x_callV F (enc := fun r => some (.int r)) (P := fun b => p_M_token b v46 v47 v48) (n := 3) (As := [.int v46, .int v47, .int v48]) (st := [.int v45]) k_804 k_9 k_802 k_803 k_801 ⟨by decide, by decide, by decide +kernel⟩ rfl ⟨Nat.le_of_ble_eq_true rfl, Nat.le_of_ble_eq_true rfl⟩ (by simp [x_cat, x_catI, x_catL]) cl_M rfl (ro := l2) (fun b K' G' h' _ => c_M_token l D dA base sa b v46 v47 v48 K' G' h') d_L_law_375 h (fun v49 G h => ?_)
        refine x_sw ?_
        refine x_icmp_eq F (tgt := 564) d_L_law_378 (by decide) h (fun q h => ?_) (fun q h => ?_)
        · refine x_iinc F 3 (v := (l3 + 4)) (lv' := [(3, .int (l3 + 4)), (0, va_rf (some th)), (1, va_rf l1), (2, va_rf l2)]) d_L_law_564 rfl (congrArg (fun z : Int32 => l3 + z) (by decide)) (by decide) rfl ?_
          refine x_goto F (tgt := 18) d_L_law_567 (by decide) ?_
          refine x_sub (lv' := [(0, va_rf (some th)), (1, va_rf l1), (2, va_rf l2), (3, .int (l3 + 4))]) [1, 2, 3, 0] rfl ?_
          exact ih _ _ h
        · refine x_iconst F (v := 0) d_L_law_381 (by decide) ?_
          exact h.elim
      have h := h.2 q10
      by_cases q11 : (v3 &&& 31) = 11
      · have h := h.1 q11
        refine x_tabIn F (off := 351) (tgt := 383) d_L_law_32 q11 (by decide) (by decide) (by decide) (by decide) ?_
        refine x_aload_n F 1 d_L_law_383 rfl rfl ?_
        refine x_callV F (enc := fun r => some (.int r)) (P := fun b => p_B_clear b ) (n := 0) (As := []) (st := []) k_481 k_1 k_479 k_480 k_478 ⟨by decide, by decide, by decide +kernel⟩ rfl ⟨Nat.le_of_ble_eq_true rfl, Nat.le_of_ble_eq_true rfl⟩ (by simp [x_cat, x_catI, x_catL]) cl_B rfl (ro := l1) (fun b K' G' h' _ => c_B_clear l D dA base sa b  K' G' h') d_L_law_384 h (fun v50 G h => ?_)
        refine x_aload_n F 2 d_L_law_387 rfl rfl ?_
        refine x_sw ?_
        refine x_callV F (enc := fun r => some (.int r)) (P := fun b => p_M_clear b ) (n := 0) (As := []) (st := [.int v50]) k_818 k_9 k_816 k_817 k_815 ⟨by decide, by decide, by decide +kernel⟩ rfl ⟨Nat.le_of_ble_eq_true rfl, Nat.le_of_ble_eq_true rfl⟩ (by simp [x_cat, x_catI, x_catL]) cl_M rfl (ro := l2) (fun b K' G' h' _ => c_M_clear l D dA base sa b  K' G' h') d_L_law_388 h (fun v51 G h => ?_)
        refine x_sw ?_
        refine x_icmp_eq F (tgt := 564) d_L_law_391 (by decide) h (fun q h => ?_) (fun q h => ?_)
        · refine x_iinc F 3 (v := (l3 + 4)) (lv' := [(3, .int (l3 + 4)), (0, va_rf (some th)), (1, va_rf l1), (2, va_rf l2)]) d_L_law_564 rfl (congrArg (fun z : Int32 => l3 + z) (by decide)) (by decide) rfl ?_
          refine x_goto F (tgt := 18) d_L_law_567 (by decide) ?_
          refine x_sub (lv' := [(0, va_rf (some th)), (1, va_rf l1), (2, va_rf l2), (3, .int (l3 + 4))]) [1, 2, 3, 0] rfl ?_
          exact ih _ _ h
        · refine x_iconst F (v := 0) d_L_law_394 (by decide) ?_
          exact h.elim
      have h := h.2 q11
      by_cases q12 : (v3 &&& 31) = 12
      · have h := h.1 q12
        refine x_tabIn F (off := 364) (tgt := 396) d_L_law_32 q12 (by decide) (by decide) (by decide) (by decide) ?_
        refine x_aload_n F 1 d_L_law_396 rfl rfl ?_
        refine x_callV F (enc := fun r => some (.int r)) (P := fun b => p_B_search b ) (n := 0) (As := []) (st := []) k_489 k_1 k_487 k_488 k_486 ⟨by decide, by decide, by decide +kernel⟩ rfl ⟨Nat.le_of_ble_eq_true rfl, Nat.le_of_ble_eq_true rfl⟩ (by simp [x_cat, x_catI, x_catL]) cl_B rfl (ro := l1) (fun b K' G' h' _ => c_B_search l D dA base sa b  K' G' h') d_L_law_397 h (fun v52 G h => ?_)
        refine x_aload_n F 2 d_L_law_400 rfl rfl ?_
        refine x_sw ?_
        refine x_callV F (enc := fun r => some (.int r)) (P := fun b => p_M_search b ) (n := 0) (As := []) (st := [.int v52]) k_822 k_9 k_820 k_821 k_819 ⟨by decide, by decide, by decide +kernel⟩ rfl ⟨Nat.le_of_ble_eq_true rfl, Nat.le_of_ble_eq_true rfl⟩ (by simp [x_cat, x_catI, x_catL]) cl_M rfl (ro := l2) (fun b K' G' h' _ => c_M_search l D dA base sa b  K' G' h') d_L_law_401 h (fun v53 G h => ?_)
        refine x_sw ?_
        refine x_icmp_eq F (tgt := 564) d_L_law_404 (by decide) h (fun q h => ?_) (fun q h => ?_)
        · refine x_iinc F 3 (v := (l3 + 4)) (lv' := [(3, .int (l3 + 4)), (0, va_rf (some th)), (1, va_rf l1), (2, va_rf l2)]) d_L_law_564 rfl (congrArg (fun z : Int32 => l3 + z) (by decide)) (by decide) rfl ?_
          refine x_goto F (tgt := 18) d_L_law_567 (by decide) ?_
          refine x_sub (lv' := [(0, va_rf (some th)), (1, va_rf l1), (2, va_rf l2), (3, .int (l3 + 4))]) [1, 2, 3, 0] rfl ?_
          exact ih _ _ h
        · refine x_iconst F (v := 0) d_L_law_407 (by decide) ?_
          exact h.elim
      have h := h.2 q12
      by_cases q13 : (v3 &&& 31) = 13
      · have h := h.1 q13
        refine x_tabIn F (off := 377) (tgt := 409) d_L_law_32 q13 (by decide) (by decide) (by decide) (by decide) ?_
        refine x_aload_n F 1 d_L_law_409 rfl rfl ?_
        refine x_aload_n F 0 d_L_law_410 rfl rfl ?_
        refine x_iload_n F 3 d_L_law_411 rfl rfl ?_
        refine x_iconst F (v := 1) d_L_law_412 (by decide) ?_
        refine x_iadd F d_L_law_413 ?_
        refine x_scrld F Lw d_L_law_414 h (fun v54 h => ?_)
        refine x_aload_n F 0 d_L_law_415 rfl rfl ?_
        refine x_iload_n F 3 d_L_law_416 rfl rfl ?_
        refine x_iconst F (v := 2) d_L_law_417 (by decide) ?_
        refine x_iadd F d_L_law_418 ?_
        refine x_scrld F Lw d_L_law_419 h (fun v55 h => ?_)
        refine x_callV F (enc := fun r => some (.int r)) (P := fun b => p_B_hit b v54 v55) (n := 2) (As := [.int v54, .int v55]) (st := []) k_550 k_1 k_548 k_549 k_547 ⟨by decide, by decide, by decide +kernel⟩ rfl ⟨Nat.le_of_ble_eq_true rfl, Nat.le_of_ble_eq_true rfl⟩ (by simp [x_cat, x_catI, x_catL]) cl_B rfl (ro := l1) (fun b K' G' h' _ => c_B_hit l D dA base sa b v54 v55 K' G' h') d_L_law_420 h (fun v56 G h => ?_)
        refine x_aload_n F 2 d_L_law_423 rfl rfl ?_
        refine x_aload_n F 0 d_L_law_424 rfl rfl ?_
        refine x_iload_n F 3 d_L_law_425 rfl rfl ?_
        refine x_iconst F (v := 1) d_L_law_426 (by decide) ?_
        refine x_iadd F d_L_law_427 ?_
        refine x_scrld F Lw d_L_law_428 h (fun v57 h => ?_)
        refine x_aload_n F 0 d_L_law_429 rfl rfl ?_
        refine x_iload_n F 3 d_L_law_430 rfl rfl ?_
        refine x_iconst F (v := 2) d_L_law_431 (by decide) ?_
        refine x_iadd F d_L_law_432 ?_
        refine x_scrld F Lw d_L_law_433 h (fun v58 h => ?_)
        refine x_sw ?_
        refine x_callV F (enc := fun r => some (.int r)) (P := fun b => p_M_hit b v57 v58) (n := 2) (As := [.int v57, .int v58]) (st := [.int v56]) k_859 k_9 k_857 k_858 k_856 ⟨by decide, by decide, by decide +kernel⟩ rfl ⟨Nat.le_of_ble_eq_true rfl, Nat.le_of_ble_eq_true rfl⟩ (by simp [x_cat, x_catI, x_catL]) cl_M rfl (ro := l2) (fun b K' G' h' _ => c_M_hit l D dA base sa b v57 v58 K' G' h') d_L_law_434 h (fun v59 G h => ?_)
        refine x_sw ?_
        refine x_icmp_eq F (tgt := 564) d_L_law_437 (by decide) h (fun q h => ?_) (fun q h => ?_)
        · refine x_iinc F 3 (v := (l3 + 4)) (lv' := [(3, .int (l3 + 4)), (0, va_rf (some th)), (1, va_rf l1), (2, va_rf l2)]) d_L_law_564 rfl (congrArg (fun z : Int32 => l3 + z) (by decide)) (by decide) rfl ?_
          refine x_goto F (tgt := 18) d_L_law_567 (by decide) ?_
          refine x_sub (lv' := [(0, va_rf (some th)), (1, va_rf l1), (2, va_rf l2), (3, .int (l3 + 4))]) [1, 2, 3, 0] rfl ?_
          exact ih _ _ h
        · refine x_iconst F (v := 0) d_L_law_440 (by decide) ?_
          exact h.elim
      have h := h.2 q13
      by_cases q14 : (v3 &&& 31) = 14
      · have h := h.1 q14
        refine x_tabIn F (off := 410) (tgt := 442) d_L_law_32 q14 (by decide) (by decide) (by decide) (by decide) ?_
        refine x_aload_n F 1 d_L_law_442 rfl rfl ?_
        refine x_aload_n F 0 d_L_law_443 rfl rfl ?_
        refine x_iload_n F 3 d_L_law_444 rfl rfl ?_
        refine x_iconst F (v := 1) d_L_law_445 (by decide) ?_
        refine x_iadd F d_L_law_446 ?_
        refine x_scrld F Lw d_L_law_447 h (fun v60 h => ?_)
        refine x_callV F (enc := fun r => some (.int r)) (P := fun b => p_B_score b v60) (n := 1) (As := [.int v60]) (st := []) k_554 k_1 k_552 k_553 k_551 ⟨by decide, by decide, by decide +kernel⟩ rfl ⟨Nat.le_of_ble_eq_true rfl, Nat.le_of_ble_eq_true rfl⟩ (by simp [x_cat, x_catI, x_catL]) cl_B rfl (ro := l1) (fun b K' G' h' _ => c_B_score l D dA base sa b v60 K' G' h') d_L_law_448 h (fun v61 G h => ?_)
        refine x_aload_n F 2 d_L_law_451 rfl rfl ?_
        refine x_aload_n F 0 d_L_law_452 rfl rfl ?_
        refine x_iload_n F 3 d_L_law_453 rfl rfl ?_
        refine x_iconst F (v := 1) d_L_law_454 (by decide) ?_
        refine x_iadd F d_L_law_455 ?_
        refine x_scrld F Lw d_L_law_456 h (fun v62 h => ?_)
        refine x_sw ?_
        refine x_callV F (enc := fun r => some (.int r)) (P := fun b => p_M_score b v62) (n := 1) (As := [.int v62]) (st := [.int v61]) k_863 k_9 k_861 k_862 k_860 ⟨by decide, by decide, by decide +kernel⟩ rfl ⟨Nat.le_of_ble_eq_true rfl, Nat.le_of_ble_eq_true rfl⟩ (by simp [x_cat, x_catI, x_catL]) cl_M rfl (ro := l2) (fun b K' G' h' _ => c_M_score l D dA base sa b v62 K' G' h') d_L_law_457 h (fun v63 G h => ?_)
        refine x_sw ?_
        refine x_icmp_eq F (tgt := 564) d_L_law_460 (by decide) h (fun q h => ?_) (fun q h => ?_)
        · refine x_iinc F 3 (v := (l3 + 4)) (lv' := [(3, .int (l3 + 4)), (0, va_rf (some th)), (1, va_rf l1), (2, va_rf l2)]) d_L_law_564 rfl (congrArg (fun z : Int32 => l3 + z) (by decide)) (by decide) rfl ?_
          refine x_goto F (tgt := 18) d_L_law_567 (by decide) ?_
          refine x_sub (lv' := [(0, va_rf (some th)), (1, va_rf l1), (2, va_rf l2), (3, .int (l3 + 4))]) [1, 2, 3, 0] rfl ?_
          exact ih _ _ h
        · refine x_iconst F (v := 0) d_L_law_463 (by decide) ?_
          exact h.elim
      have h := h.2 q14
      by_cases q15 : (v3 &&& 31) = 15
      · have h := h.1 q15
        refine x_tabIn F (off := 433) (tgt := 465) d_L_law_32 q15 (by decide) (by decide) (by decide) (by decide) ?_
        refine x_aload_n F 1 d_L_law_465 rfl rfl ?_
        refine x_aload_n F 0 d_L_law_466 rfl rfl ?_
        refine x_iload_n F 3 d_L_law_467 rfl rfl ?_
        refine x_iconst F (v := 1) d_L_law_468 (by decide) ?_
        refine x_iadd F d_L_law_469 ?_
        refine x_scrld F Lw d_L_law_470 h (fun v64 h => ?_)
        refine x_aload_n F 0 d_L_law_471 rfl rfl ?_
        refine x_iload_n F 3 d_L_law_472 rfl rfl ?_
        refine x_iconst F (v := 2) d_L_law_473 (by decide) ?_
        refine x_iadd F d_L_law_474 ?_
        refine x_scrld F Lw d_L_law_475 h (fun v65 h => ?_)
        refine x_aload_n F 0 d_L_law_476 rfl rfl ?_
        refine x_iload_n F 3 d_L_law_477 rfl rfl ?_
        refine x_iconst F (v := 3) d_L_law_478 (by decide) ?_
        refine x_iadd F d_L_law_479 ?_
        refine x_scrld F Lw d_L_law_480 h (fun v66 h => ?_)
        refine x_callV F (enc := fun r => some (.int r)) (P := fun b => p_B_object b v64 v65 v66) (n := 3) (As := [.int v64, .int v65, .int v66]) (st := []) k_562 k_1 k_560 k_561 k_559 ⟨by decide, by decide, by decide +kernel⟩ rfl ⟨Nat.le_of_ble_eq_true rfl, Nat.le_of_ble_eq_true rfl⟩ (by simp [x_cat, x_catI, x_catL]) cl_B rfl (ro := l1) (fun b K' G' h' _ => c_B_object l D dA base sa b v64 v65 v66 K' G' h') d_L_law_481 h (fun v67 G h => ?_)
        refine x_aload_n F 2 d_L_law_484 rfl rfl ?_
        refine x_aload_n F 0 d_L_law_485 rfl rfl ?_
        refine x_iload_n F 3 d_L_law_486 rfl rfl ?_
        refine x_iconst F (v := 1) d_L_law_487 (by decide) ?_
        refine x_iadd F d_L_law_488 ?_
        refine x_scrld F Lw d_L_law_489 h (fun v68 h => ?_)
        refine x_aload_n F 0 d_L_law_490 rfl rfl ?_
        refine x_iload_n F 3 d_L_law_491 rfl rfl ?_
        refine x_iconst F (v := 2) d_L_law_492 (by decide) ?_
        refine x_iadd F d_L_law_493 ?_
        refine x_scrld F Lw d_L_law_494 h (fun v69 h => ?_)
        refine x_aload_n F 0 d_L_law_495 rfl rfl ?_
        refine x_iload_n F 3 d_L_law_496 rfl rfl ?_
        refine x_iconst F (v := 3) d_L_law_497 (by decide) ?_
        refine x_iadd F d_L_law_498 ?_
        refine x_scrld F Lw d_L_law_499 h (fun v70 h => ?_)
        refine x_sw ?_
        refine x_callV F (enc := fun r => some (.int r)) (P := fun b => p_M_object b v68 v69 v70) (n := 3) (As := [.int v68, .int v69, .int v70]) (st := [.int v67]) k_867 k_9 k_865 k_866 k_864 ⟨by decide, by decide, by decide +kernel⟩ rfl ⟨Nat.le_of_ble_eq_true rfl, Nat.le_of_ble_eq_true rfl⟩ (by simp [x_cat, x_catI, x_catL]) cl_M rfl (ro := l2) (fun b K' G' h' _ => c_M_object l D dA base sa b v68 v69 v70 K' G' h') d_L_law_500 h (fun v71 G h => ?_)
        refine x_sw ?_
        refine x_icmp_eq F (tgt := 564) d_L_law_503 (by decide) h (fun q h => ?_) (fun q h => ?_)
        · refine x_iinc F 3 (v := (l3 + 4)) (lv' := [(3, .int (l3 + 4)), (0, va_rf (some th)), (1, va_rf l1), (2, va_rf l2)]) d_L_law_564 rfl (congrArg (fun z : Int32 => l3 + z) (by decide)) (by decide) rfl ?_
          refine x_goto F (tgt := 18) d_L_law_567 (by decide) ?_
          refine x_sub (lv' := [(0, va_rf (some th)), (1, va_rf l1), (2, va_rf l2), (3, .int (l3 + 4))]) [1, 2, 3, 0] rfl ?_
          exact ih _ _ h
        · refine x_iconst F (v := 0) d_L_law_506 (by decide) ?_
          exact h.elim
      have h := h.2 q15
      by_cases q16 : (v3 &&& 31) = 16
      · have h := h.1 q16
        refine x_tabIn F (off := 476) (tgt := 508) d_L_law_32 q16 (by decide) (by decide) (by decide) (by decide) ?_
        refine x_aload_n F 1 d_L_law_508 rfl rfl ?_
        refine x_aload_n F 0 d_L_law_509 rfl rfl ?_
        refine x_iload_n F 3 d_L_law_510 rfl rfl ?_
        refine x_iconst F (v := 1) d_L_law_511 (by decide) ?_
        refine x_iadd F d_L_law_512 ?_
        refine x_scrld F Lw d_L_law_513 h (fun v72 h => ?_)
        refine x_aload_n F 0 d_L_law_514 rfl rfl ?_
        refine x_iload_n F 3 d_L_law_515 rfl rfl ?_
        refine x_iconst F (v := 2) d_L_law_516 (by decide) ?_
        refine x_iadd F d_L_law_517 ?_
        refine x_scrld F Lw d_L_law_518 h (fun v73 h => ?_)
        refine x_callV F (enc := fun r => some (.int r)) (P := fun b => p_B_type b v72 v73) (n := 2) (As := [.int v72, .int v73]) (st := []) k_578 k_1 k_576 k_577 k_575 ⟨by decide, by decide, by decide +kernel⟩ rfl ⟨Nat.le_of_ble_eq_true rfl, Nat.le_of_ble_eq_true rfl⟩ (by simp [x_cat, x_catI, x_catL]) cl_B rfl (ro := l1) (fun b K' G' h' _ => c_B_type l D dA base sa b v72 v73 K' G' h') d_L_law_519 h (fun v74 G h => ?_)
        refine x_aload_n F 2 d_L_law_522 rfl rfl ?_
        refine x_aload_n F 0 d_L_law_523 rfl rfl ?_
        refine x_iload_n F 3 d_L_law_524 rfl rfl ?_
        refine x_iconst F (v := 1) d_L_law_525 (by decide) ?_
        refine x_iadd F d_L_law_526 ?_
        refine x_scrld F Lw d_L_law_527 h (fun v75 h => ?_)
        refine x_aload_n F 0 d_L_law_528 rfl rfl ?_
        refine x_iload_n F 3 d_L_law_529 rfl rfl ?_
        refine x_iconst F (v := 2) d_L_law_530 (by decide) ?_
        refine x_iadd F d_L_law_531 ?_
        refine x_scrld F Lw d_L_law_532 h (fun v76 h => ?_)
        refine x_sw ?_
        refine x_callV F (enc := fun r => some (.int r)) (P := fun b => p_M_type b v75 v76) (n := 2) (As := [.int v75, .int v76]) (st := [.int v74]) k_879 k_9 k_877 k_878 k_876 ⟨by decide, by decide, by decide +kernel⟩ rfl ⟨Nat.le_of_ble_eq_true rfl, Nat.le_of_ble_eq_true rfl⟩ (by simp [x_cat, x_catI, x_catL]) cl_M rfl (ro := l2) (fun b K' G' h' _ => c_M_type l D dA base sa b v75 v76 K' G' h') d_L_law_533 h (fun v77 G h => ?_)
        refine x_sw ?_
        refine x_icmp_eq F (tgt := 564) d_L_law_536 (by decide) h (fun q h => ?_) (fun q h => ?_)
        · refine x_iinc F 3 (v := (l3 + 4)) (lv' := [(3, .int (l3 + 4)), (0, va_rf (some th)), (1, va_rf l1), (2, va_rf l2)]) d_L_law_564 rfl (congrArg (fun z : Int32 => l3 + z) (by decide)) (by decide) rfl ?_
          refine x_goto F (tgt := 18) d_L_law_567 (by decide) ?_
          refine x_sub (lv' := [(0, va_rf (some th)), (1, va_rf l1), (2, va_rf l2), (3, .int (l3 + 4))]) [1, 2, 3, 0] rfl ?_
          exact ih _ _ h
        · refine x_iconst F (v := 0) d_L_law_539 (by decide) ?_
          exact h.elim
      have h := h.2 q16
      by_cases q17 : (v3 &&& 31) = 17
      · have h := h.1 q17
        refine x_tabIn F (off := 509) (tgt := 541) d_L_law_32 q17 (by decide) (by decide) (by decide) (by decide) ?_
        refine x_aload_n F 1 d_L_law_541 rfl rfl ?_
        refine x_aload_n F 0 d_L_law_542 rfl rfl ?_
        refine x_iload_n F 3 d_L_law_543 rfl rfl ?_
        refine x_iconst F (v := 1) d_L_law_544 (by decide) ?_
        refine x_iadd F d_L_law_545 ?_
        refine x_scrld F Lw d_L_law_546 h (fun v78 h => ?_)
        refine x_callV F (enc := fun r => some (.int r)) (P := fun b => p_B_count b v78) (n := 1) (As := [.int v78]) (st := []) k_582 k_1 k_580 k_581 k_579 ⟨by decide, by decide, by decide +kernel⟩ rfl ⟨Nat.le_of_ble_eq_true rfl, Nat.le_of_ble_eq_true rfl⟩ (by simp [x_cat, x_catI, x_catL]) cl_B rfl (ro := l1) (fun b K' G' h' _ => c_B_count l D dA base sa b v78 K' G' h') d_L_law_547 h (fun v79 G h => ?_)
        refine x_aload_n F 2 d_L_law_550 rfl rfl ?_
        refine x_aload_n F 0 d_L_law_551 rfl rfl ?_
        refine x_iload_n F 3 d_L_law_552 rfl rfl ?_
        refine x_iconst F (v := 1) d_L_law_553 (by decide) ?_
        refine x_iadd F d_L_law_554 ?_
        refine x_scrld F Lw d_L_law_555 h (fun v80 h => ?_)
        refine x_sw ?_
        refine x_callV F (enc := fun r => some (.int r)) (P := fun b => p_M_count b v80) (n := 1) (As := [.int v80]) (st := [.int v79]) k_883 k_9 k_881 k_882 k_880 ⟨by decide, by decide, by decide +kernel⟩ rfl ⟨Nat.le_of_ble_eq_true rfl, Nat.le_of_ble_eq_true rfl⟩ (by simp [x_cat, x_catI, x_catL]) cl_M rfl (ro := l2) (fun b K' G' h' _ => c_M_count l D dA base sa b v80 K' G' h') d_L_law_556 h (fun v81 G h => ?_)
        refine x_sw ?_
        refine x_icmp_eq F (tgt := 564) d_L_law_559 (by decide) h (fun q h => ?_) (fun q h => ?_)
        · refine x_iinc F 3 (v := (l3 + 4)) (lv' := [(3, .int (l3 + 4)), (0, va_rf (some th)), (1, va_rf l1), (2, va_rf l2)]) d_L_law_564 rfl (congrArg (fun z : Int32 => l3 + z) (by decide)) (by decide) rfl ?_
          refine x_goto F (tgt := 18) d_L_law_567 (by decide) ?_
          refine x_sub (lv' := [(0, va_rf (some th)), (1, va_rf l1), (2, va_rf l2), (3, .int (l3 + 4))]) [1, 2, 3, 0] rfl ?_
          exact ih _ _ h
        · refine x_iconst F (v := 0) d_L_law_562 (by decide) ?_
          exact h.elim
      have h := h.2 q17
      refine x_tabOut F (tgt := 564) d_L_law_32 (by have a0 := lv_neT (a := 0) q0 (by decide); have a1 := lv_neT (a := 1) q1 (by decide); have a2 := lv_neT (a := 2) q2 (by decide); have a3 := lv_neT (a := 3) q3 (by decide); have a4 := lv_neT (a := 4) q4 (by decide); have a5 := lv_neT (a := 5) q5 (by decide); have a6 := lv_neT (a := 6) q6 (by decide); have a7 := lv_neT (a := 7) q7 (by decide); have a8 := lv_neT (a := 8) q8 (by decide); have a9 := lv_neT (a := 9) q9 (by decide); have a10 := lv_neT (a := 10) q10 (by decide); have a11 := lv_neT (a := 11) q11 (by decide); have a12 := lv_neT (a := 12) q12 (by decide); have a13 := lv_neT (a := 13) q13 (by decide); have a14 := lv_neT (a := 14) q14 (by decide); have a15 := lv_neT (a := 15) q15 (by decide); have a16 := lv_neT (a := 16) q16 (by decide); have a17 := lv_neT (a := 17) q17 (by decide); omega) (by decide) ?_
      refine x_iinc F 3 (v := (l3 + 4)) (lv' := [(3, .int (l3 + 4)), (0, va_rf (some th)), (1, va_rf l1), (2, va_rf l2)]) d_L_law_564 rfl (congrArg (fun z : Int32 => l3 + z) (by decide)) (by decide) rfl ?_
      refine x_goto F (tgt := 18) d_L_law_567 (by decide) ?_
      refine x_sub (lv' := [(0, va_rf (some th)), (1, va_rf l1), (2, va_rf l2), (3, .int (l3 + 4))]) [1, 2, 3, 0] rfl ?_
      exact ih _ _ h
set_option maxHeartbeats 4000000 in
set_option maxRecDepth 100000 in
theorem law_walk {p : Program} {l : Launch} {e : Env} {s : State} {m : MethodId} {below : List Frame} {meth : Method} {c : Code} {D : va_G} {dA : Nat → ClassId} {base : Nat} {sa : Nat → Nat} {th L : Nat} {xs : Nat → Int32} (Lw : xLaw s base th L xs) (F : xFix p room_1 s m #[Value.ref th] meth c code 4 "BlockSearchLaw" D dA base sa) (hret : meth.sig.returnType = ret) {K : Unit → xS → Prop} {G : xS} (h : p_law xs L th K G) : X_L_law p l e s m below meth c th D dA base sa 0 [(0, va_rf (some th))] [] G := by
  unfold p_law at h
  refine x_new F cl_B in_B ty_B k_14 k_15 k_1 df_B d_L_law_0 h (fun a1 G h => ?_)
  refine x_dup F (x_cat _) d_L_law_3 ?_
  refine x_callI F (enc := fun r => none) (P := p_B_init a1 ) (n := 0) (As := []) (st := [va_rf (some a1)]) k_18 k_1 k_17 rfl k_16 ⟨by decide, by decide, by decide +kernel⟩ rfl ⟨Nat.le_of_ble_eq_true rfl, Nat.le_of_ble_eq_true rfl⟩ (by simp [x_cat, x_catI, x_catL]) (b := a1) (fun K' G' h' _ => c_B_init l D dA base sa a1  K' G' h') d_L_law_4 h (fun _ G h => ?_)
  refine x_astore_n F (lv' := [(1, va_rf (some a1)), (0, va_rf (some th))]) d_L_law_7 rfl (by decide) rfl ?_
  refine x_sw ?_
  refine x_new F cl_M in_M ty_M k_595 k_596 k_9 df_M d_L_law_8 h (fun a2 G h => ?_)
  refine x_dup F (x_cat _) d_L_law_11 ?_
  refine x_callI F (enc := fun r => none) (P := p_M_init a2 ) (n := 0) (As := []) (st := [va_rf (some a2)]) k_599 k_9 k_598 rfl k_597 ⟨by decide, by decide, by decide +kernel⟩ rfl ⟨Nat.le_of_ble_eq_true rfl, Nat.le_of_ble_eq_true rfl⟩ (by simp [x_cat, x_catI, x_catL]) (b := a2) (fun K' G' h' _ => c_M_init l D dA base sa a2  K' G' h') d_L_law_12 h (fun _ G h => ?_)
  refine x_sw ?_
  refine x_astore_n F (lv' := [(2, va_rf (some a2)), (1, va_rf (some a1)), (0, va_rf (some th))]) d_L_law_15 rfl (by decide) rfl ?_
  refine x_iconst F (v := 0) d_L_law_16 (by decide) ?_
  refine x_istore_n F (lv' := [(3, .int 0), (2, va_rf (some a2)), (1, va_rf (some a1)), (0, va_rf (some th))]) d_L_law_17 rfl (by decide) rfl ?_
  refine x_sub (lv' := [(0, va_rf (some th)), (1, va_rf (some a1)), (2, va_rf (some a2)), (3, .int 0)]) [3, 2, 1, 0] rfl ?_
  refine w_L_law_L18 Lw F hret (some a1) (some a2) (fun G h => ?_) _ _ _ h
  refine x_iconst F (v := 1) d_L_law_570 (by decide) ?_
  exact x_lret Lw F hret d_L_law_571
