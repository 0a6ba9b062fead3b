def p_M_tried_L13 (th : Nat) (l1 : Int32) (l2 : Int32) (K : Int32 → xS → Prop) (Kx58 : xS → Prop) : Nat → Int32 → xS → Prop
  | 0, _ => fun _ => False
  | n + 1, l3 => xgR 10 12 (some th) fun v2 => xal 0 v2 l1 fun v3 => xif (v3 ≤ l3) (Kx58) (xgR 10 22 (some th) fun v4 => xgR 10 11 (some th) fun v5 => xal 0 v5 l1 fun v6 => xal 0 v4 (v6 + l3) fun v7 => xgR 10 31 (some th) fun v8 => xal 0 v8 l2 fun v9 => xif (v7 = v9) (xob 10 (some th) fun b => xcall 0 0 (p_M_look b l1 l2 l3) fun _ => p_M_tried_L13 th l1 l2 K Kx58 n (l3 + 1)) (p_M_tried_L13 th l1 l2 K Kx58 n (l3 + 1)))
def p_M_tried_L7 (th : Nat) (l1 : Int32) (K : Int32 → xS → Prop) (Kx64 : xS → Prop) : Nat → Int32 → xS → Prop
  | 0, _ => fun _ => False
  | n + 1, l2 => xif (l2 < 0) (Kx64) (p_M_tried_L13 th l1 l2 K (p_M_tried_L7 th l1 K Kx64 n (l2 + (-1))) 1000 0)
def p_M_tried (th : Nat) (l1 : Int32) (K : Int32 → xS → Prop) : xS → Prop := xgI 10 36 (some th) fun v1 => p_M_tried_L7 th l1 K (xgR 10 38 (some th) fun v10 => xgR 10 12 (some th) fun v11 => xal 0 v11 l1 fun v12 => xal 1 v10 (v12 - 1) fun v13 => xrz v13 K) 1000 (v1 - 1)
abbrev X_M_tried (p : Program) (l : Launch) (e : Env) (s : State) (m : MethodId) (args : Array Value) (below : List Frame) (meth : Method) (c : Code) (C0 S0 : Nat) (K : Int32 → xS → Prop) (D : va_G) (dA : Nat → ClassId) (base : Nat) (sa : Nat → Nat) (pc : Nat) (lv : List (Nat × Value)) (st : List Value) (G : xS) : Prop := xW p l e { frames := 3, cells := C0, slots := S0, locals := 81 } s m args below meth c 4 (MQ below (xQ D dA base (fun v G2 => ∃ r : Int32, v = some (.int r) ∧ K r G2)) args s C0 S0 (fun q : Nat => base ≤ q)) D dA base sa pc lv st G
set_option maxHeartbeats 4000000 in
set_option maxRecDepth 100000 in
theorem w_M_tried_L13 {p : Program} {l : Launch} {e : Env} {s : State} {m : MethodId} {args : Array Value} {below : List Frame} {meth : Method} {c : Code} {C0 S0 : Nat} {D : va_G} {dA : Nat → ClassId} {base : Nat} {sa : Nat → Nat} (F : xFix p { frames := 3, cells := C0, slots := S0, locals := 81 } s m args meth c b_M_tried 4 "BlockSearchModel" D dA base sa) (hret : meth.sig.returnType = (some FieldType.boolean)) {K : Int32 → xS → Prop} {Kx58 : xS → Prop} (th : Nat) (l1 : Int32) (l2 : Int32) (hKx58 : ∀ (G : xS), Kx58  G → X_M_tried p l e s m args below meth c C0 S0 K D dA base sa 58 [(0, va_rf (some th)), (1, .int l1), (2, .int l2)] [] G) : ∀ (n : Nat) (l3 : Int32) (G : xS), p_M_tried_L13 th l1 l2 K Kx58 n l3 G → X_M_tried p l e s m args below meth c C0 S0 K D dA base sa 13 [(0, va_rf (some th)), (1, .int l1), (2, .int l2), (3, .int l3)] [] G := by
  intro n
  induction n with
  | zero => intro l3 G h; exact h.elim
  | succ n ih =>
    intro l3 G h
    unfold p_M_tried_L13 at h
    refine x_iload_n F 3 d_M_tried_13 rfl rfl ?_
    refine x_aload_n F 0 d_M_tried_14 rfl rfl ?_
    refine x_getR F cl_M in_M (k := 12) (by decide) k_613 rfl d_M_tried_15 h (fun v2 h => ?_)
    refine x_iload_n F 1 d_M_tried_18 rfl rfl ?_
    refine x_iald F (t := 0) rfl d_M_tried_19 h (fun v3 h => ?_)
    refine x_icmp_ge F (tgt := 58) d_M_tried_20 (by decide) h (fun q h => ?_) (fun q h => ?_)
    · refine x_sub (lv' := [(0, va_rf (some th)), (1, .int l1), (2, .int l2)]) [0, 1, 2] rfl ?_
      exact hKx58  _ h
    · refine x_aload_n F 0 d_M_tried_23 rfl rfl ?_
      refine x_getR F cl_M in_M (k := 22) (by decide) k_623 rfl d_M_tried_24 h (fun v4 h => ?_)
      refine x_aload_n F 0 d_M_tried_27 rfl rfl ?_
      refine x_getR F cl_M in_M (k := 11) (by decide) k_612 rfl d_M_tried_28 h (fun v5 h => ?_)
      refine x_iload_n F 1 d_M_tried_31 rfl rfl ?_
      refine x_iald F (t := 0) rfl d_M_tried_32 h (fun v6 h => ?_)
      refine x_iload_n F 3 d_M_tried_33 rfl rfl ?_
      refine x_iadd F d_M_tried_34 ?_
      refine x_iald F (t := 0) rfl d_M_tried_35 h (fun v7 h => ?_)
      refine x_aload_n F 0 d_M_tried_36 rfl rfl ?_
      refine x_getR F cl_M in_M (k := 31) (by decide) k_632 rfl d_M_tried_37 h (fun v8 h => ?_)
      refine x_iload_n F 2 d_M_tried_40 rfl rfl ?_
      refine x_iald F (t := 0) rfl d_M_tried_41 h (fun v9 h => ?_)
      refine x_icmp_ne F (tgt := 52) d_M_tried_42 (by decide) h (fun q h => ?_) (fun q h => ?_)
      · refine x_iinc F 3 (v := (l3 + 1)) (lv' := [(3, .int (l3 + 1)), (0, va_rf (some th)), (1, .int l1), (2, .int l2)]) d_M_tried_52 rfl (congrArg (fun z : Int32 => l3 + z) (by decide)) (by decide) rfl ?_
        refine x_goto F (tgt := 13) d_M_tried_55 (by decide) ?_
        refine x_sub (lv' := [(0, va_rf (some th)), (1, .int l1), (2, .int l2), (3, .int (l3 + 1))]) [1, 2, 3, 0] rfl ?_
        exact ih _ _ h
      · refine x_aload_n F 0 d_M_tried_45 rfl rfl ?_
        refine x_iload_n F 1 d_M_tried_46 rfl rfl ?_
        refine x_iload_n F 2 d_M_tried_47 rfl rfl ?_
        refine x_iload_n F 3 d_M_tried_48 rfl rfl ?_
        refine x_callV F (enc := fun r => none) (P := fun b => p_M_look b l1 l2 l3) (n := 3) (As := [.int l1, .int l2, .int l3]) (st := []) k_843 k_9 k_842 kp_19 k_840 ⟨by decide, by decide, by decide +kernel⟩ rfl ⟨Nat.le_of_ble_eq_true rfl, Nat.le_of_ble_eq_true rfl⟩ (by simp [x_cat, x_catI, x_catL]) cl_M rfl (ro := some th) (fun b K' G' h' _ => c_M_look l D dA base sa b l1 l2 l3 K' G' h') d_M_tried_49 h (fun _ G h => ?_)
        refine x_iinc F 3 (v := (l3 + 1)) (lv' := [(3, .int (l3 + 1)), (0, va_rf (some th)), (1, .int l1), (2, .int l2)]) d_M_tried_52 rfl (congrArg (fun z : Int32 => l3 + z) (by decide)) (by decide) rfl ?_
        refine x_goto F (tgt := 13) d_M_tried_55 (by decide) ?_
        refine x_sub (lv' := [(0, va_rf (some th)), (1, .int l1), (2, .int l2), (3, .int (l3 + 1))]) [1, 2, 3, 0] rfl ?_
        exact ih _ _ h
set_option maxHeartbeats 4000000 in
set_option maxRecDepth 100000 in
theorem w_M_tried_L7 {p : Program} {l : Launch} {e : Env} {s : State} {m : MethodId} {args : Array Value} {below : List Frame} {meth : Method} {c : Code} {C0 S0 : Nat} {D : va_G} {dA : Nat → ClassId} {base : Nat} {sa : Nat → Nat} (F : xFix p { frames := 3, cells := C0, slots := S0, locals := 81 } s m args meth c b_M_tried 4 "BlockSearchModel" D dA base sa) (hret : meth.sig.returnType = (some FieldType.boolean)) {K : Int32 → xS → Prop} {Kx64 : xS → Prop} (th : Nat) (l1 : Int32) (hKx64 : ∀ (G : xS), Kx64  G → X_M_tried p l e s m args below meth c C0 S0 K D dA base sa 64 [(0, va_rf (some th)), (1, .int l1)] [] G) : ∀ (n : Nat) (l2 : Int32) (G : xS), p_M_tried_L7 th l1 K Kx64 n l2 G → X_M_tried p l e s m args below meth c C0 S0 K D dA base sa 7 [(0, va_rf (some th)), (1, .int l1), (2, .int l2)] [] G := by
  intro n
  induction n with
  | zero => intro l2 G h; exact h.elim
  | succ n ih =>
    intro l2 G h
    unfold p_M_tried_L7 at h
    refine x_iload_n F 2 d_M_tried_7 rfl rfl ?_
    refine x_if_lt F (tgt := 64) d_M_tried_8 (by decide) h (fun q h => ?_) (fun q h => ?_)
    · refine x_sub (lv' := [(0, va_rf (some th)), (1, .int l1)]) [0, 1] rfl ?_
      exact hKx64  _ h
    · refine x_iconst F (v := 0) d_M_tried_11 (by decide) ?_
      refine x_istore_n F (lv' := [(3, .int 0), (0, va_rf (some th)), (1, .int l1), (2, .int l2)]) d_M_tried_12 rfl (by decide) rfl ?_
      refine x_sub (lv' := [(0, va_rf (some th)), (1, .int l1), (2, .int l2), (3, .int 0)]) [1, 2, 3, 0] rfl ?_
      refine w_M_tried_L13 F hret th l1 l2 (fun G h => ?_) _ _ _ h
      refine x_iinc F 2 (v := (l2 + (-1))) (lv' := [(2, .int (l2 + (-1))), (0, va_rf (some th)), (1, .int l1)]) d_M_tried_58 rfl (congrArg (fun z : Int32 => l2 + z) (by decide)) (by decide) rfl ?_
      refine x_goto F (tgt := 7) d_M_tried_61 (by decide) ?_
      refine x_sub (lv' := [(0, va_rf (some th)), (1, .int l1), (2, .int (l2 + (-1)))]) [1, 2, 0] rfl ?_
      exact ih _ _ h
set_option maxHeartbeats 4000000 in
set_option maxRecDepth 100000 in
theorem c_M_tried (l : Launch) (D : va_G) (dA : Nat → ClassId) (base : Nat) (sa : Nat → Nat) (th : Nat) (l1 : Int32) (K : Int32 → xS → Prop) (G : xS) (h : p_M_tried th l1 K G) : xMet l y_M_tried b_M_tried 4 (some FieldType.boolean) 3 81 D dA base sa [va_rf (some th), .int l1] G (fun v G2 => ∃ r : Int32, v = some (.int r) ∧ K r G2) := by
  refine xMet.of (by decide) (by simp [x_cat, x_catI]) (Nat.le_of_ble_eq_true rfl) ?_
  intro p e s m args below meth c F hret hname
  unfold p_M_tried at h
  refine x_sub (lv' := [(0, va_rf (some th)), (1, .int l1)]) [0, 1] rfl ?_
  refine x_aload_n F 0 d_M_tried_0 rfl rfl ?_
  refine x_getI F cl_M in_M (k := 36) (by decide) k_637 rfl d_M_tried_1 h (fun v1 h => ?_)
  refine x_iconst F (v := 1) d_M_tried_4 (by decide) ?_
  refine x_isub F d_M_tried_5 ?_
  refine x_istore_n F (lv' := [(2, .int (v1 - 1)), (0, va_rf (some th)), (1, .int l1)]) d_M_tried_6 rfl (by decide) rfl ?_
  refine x_sub (lv' := [(0, va_rf (some th)), (1, .int l1), (2, .int (v1 - 1))]) [1, 2, 0] rfl ?_
  refine w_M_tried_L7 F hret th l1 (fun G h => ?_) _ _ _ h
  refine x_aload_n F 0 d_M_tried_64 rfl rfl ?_
  refine x_getR F cl_M in_M (k := 38) (by decide) k_639 rfl d_M_tried_65 h (fun v10 h => ?_)
  refine x_aload_n F 0 d_M_tried_68 rfl rfl ?_
  refine x_getR F cl_M in_M (k := 12) (by decide) k_613 rfl d_M_tried_69 h (fun v11 h => ?_)
  refine x_iload_n F 1 d_M_tried_72 rfl rfl ?_
  refine x_iald F (t := 0) rfl d_M_tried_73 h (fun v12 h => ?_)
  refine x_iconst F (v := 1) d_M_tried_74 (by decide) ?_
  refine x_isub F d_M_tried_75 ?_
  refine x_zald F (t := 1) rfl d_M_tried_76 h (fun v13 h => ?_)
  exact x_zret F rfl hret d_M_tried_77 h (fun h => ⟨_, rfl, h⟩)
def p_M_rootInSnapshot_L11 (th : Nat) (l1 : Int32) (K : Int32 → xS → Prop) (Kx46 : Int32 → xS → Prop) : Nat → Int32 → Int32 → xS → Prop
  | 0, _, _ => fun _ => False
  | n + 1, l2, l3 => xif (l1 ≤ l3) (Kx46 l2) (xgR 10 15 (some th) fun v3 => xal 0 v3 l3 fun v4 => xgR 10 15 (some th) fun v5 => xal 0 v5 l1 fun v6 => xif (v4 = v6) (xgR 10 12 (some th) fun v7 => xal 0 v7 l3 fun v8 => p_M_rootInSnapshot_L11 th l1 K Kx46 n (l2 + v8) (l3 + 1)) (p_M_rootInSnapshot_L11 th l1 K Kx46 n l2 (l3 + 1)))
def p_M_rootInSnapshot (th : Nat) (l1 : Int32) (K : Int32 → xS → Prop) : xS → Prop := xgR 10 12 (some th) fun v1 => xal 0 v1 l1 fun v2 => p_M_rootInSnapshot_L11 th l1 K (fun m9 => K m9) 1000 (v2 - 1) 0
abbrev X_M_rootInSnapshot (p : Program) (l : Launch) (e : Env) (s : State) (m : MethodId) (args : Array Value) (below : List Frame) (meth : Method) (c : Code) (C0 S0 : Nat) (K : Int32 → xS → Prop) (D : va_G) (dA : Nat → ClassId) (base : Nat) (sa : Nat → Nat) (pc : Nat) (lv : List (Nat × Value)) (st : List Value) (G : xS) : Prop := xW p l e { frames := 0, cells := C0, slots := S0, locals := 0 } s m args below meth c 4 (MQ below (xQ D dA base (fun v G2 => ∃ r : Int32, v = some (.int r) ∧ K r G2)) args s C0 S0 (fun q : Nat => base ≤ q)) D dA base sa pc lv st G
set_option maxHeartbeats 4000000 in
set_option maxRecDepth 100000 in
theorem w_M_rootInSnapshot_L11 {p : Program} {l : Launch} {e : Env} {s : State} {m : MethodId} {args : Array Value} {below : List Frame} {meth : Method} {c : Code} {C0 S0 : Nat} {D : va_G} {dA : Nat → ClassId} {base : Nat} {sa : Nat → Nat} (F : xFix p { frames := 0, cells := C0, slots := S0, locals := 0 } s m args meth c b_M_rootInSnapshot 4 "BlockSearchModel" D dA base sa) (hret : meth.sig.returnType = (some FieldType.int)) {K : Int32 → xS → Prop} {Kx46 : Int32 → xS → Prop} (th : Nat) (l1 : Int32) (hKx46 : ∀ (l2 : Int32) (G : xS), Kx46 l2 G → X_M_rootInSnapshot p l e s m args below meth c C0 S0 K D dA base sa 46 [(2, .int l2)] [] G) : ∀ (n : Nat) (l2 : Int32) (l3 : Int32) (G : xS), p_M_rootInSnapshot_L11 th l1 K Kx46 n l2 l3 G → X_M_rootInSnapshot p l e s m args below meth c C0 S0 K D dA base sa 11 [(0, va_rf (some th)), (1, .int l1), (2, .int l2), (3, .int l3)] [] G := by
  intro n
  induction n with
  | zero => intro l2 l3 G h; exact h.elim
  | succ n ih =>
    intro l2 l3 G h
    unfold p_M_rootInSnapshot_L11 at h
    refine x_iload_n F 3 d_M_rootInSnapshot_11 rfl rfl ?_
    refine x_iload_n F 1 d_M_rootInSnapshot_12 rfl rfl ?_
    refine x_icmp_ge F (tgt := 46) d_M_rootInSnapshot_13 (by decide) h (fun q h => ?_) (fun q h => ?_)
    · refine x_sub (lv' := [(2, .int l2)]) [2] rfl ?_
      exact hKx46 _ _ h
    · refine x_aload_n F 0 d_M_rootInSnapshot_16 rfl rfl ?_
      refine x_getR F cl_M in_M (k := 15) (by decide) k_616 rfl d_M_rootInSnapshot_17 h (fun v3 h => ?_)
      refine x_iload_n F 3 d_M_rootInSnapshot_20 rfl rfl ?_
      refine x_iald F (t := 0) rfl d_M_rootInSnapshot_21 h (fun v4 h => ?_)
      refine x_aload_n F 0 d_M_rootInSnapshot_22 rfl rfl ?_
      refine x_getR F cl_M in_M (k := 15) (by decide) k_616 rfl d_M_rootInSnapshot_23 h (fun v5 h => ?_)
      refine x_iload_n F 1 d_M_rootInSnapshot_26 rfl rfl ?_
      refine x_iald F (t := 0) rfl d_M_rootInSnapshot_27 h (fun v6 h => ?_)
      refine x_icmp_ne F (tgt := 40) d_M_rootInSnapshot_28 (by decide) h (fun q h => ?_) (fun q h => ?_)
      · refine x_iinc F 3 (v := (l3 + 1)) (lv' := [(3, .int (l3 + 1)), (0, va_rf (some th)), (1, .int l1), (2, .int l2)]) d_M_rootInSnapshot_40 rfl (congrArg (fun z : Int32 => l3 + z) (by decide)) (by decide) rfl ?_
        refine x_goto F (tgt := 11) d_M_rootInSnapshot_43 (by decide) ?_
        refine x_sub (lv' := [(0, va_rf (some th)), (1, .int l1), (2, .int l2), (3, .int (l3 + 1))]) [1, 2, 3, 0] rfl ?_
        exact ih _ _ _ h
      · refine x_iload_n F 2 d_M_rootInSnapshot_31 rfl rfl ?_
        refine x_aload_n F 0 d_M_rootInSnapshot_32 rfl rfl ?_
        refine x_getR F cl_M in_M (k := 12) (by decide) k_613 rfl d_M_rootInSnapshot_33 h (fun v7 h => ?_)
        refine x_iload_n F 3 d_M_rootInSnapshot_36 rfl rfl ?_
        refine x_iald F (t := 0) rfl d_M_rootInSnapshot_37 h (fun v8 h => ?_)
        refine x_iadd F d_M_rootInSnapshot_38 ?_
        refine x_istore_n F (lv' := [(2, .int (l2 + v8)), (0, va_rf (some th)), (1, .int l1), (3, .int l3)]) d_M_rootInSnapshot_39 rfl (by decide) rfl ?_
        refine x_iinc F 3 (v := (l3 + 1)) (lv' := [(3, .int (l3 + 1)), (2, .int (l2 + v8)), (0, va_rf (some th)), (1, .int l1)]) d_M_rootInSnapshot_40 rfl (congrArg (fun z : Int32 => l3 + z) (by decide)) (by decide) rfl ?_
        refine x_goto F (tgt := 11) d_M_rootInSnapshot_43 (by decide) ?_
        refine x_sub (lv' := [(0, va_rf (some th)), (1, .int l1), (2, .int (l2 + v8)), (3, .int (l3 + 1))]) [2, 3, 1, 0] rfl ?_
        exact ih _ _ _ h
set_option maxHeartbeats 4000000 in
set_option maxRecDepth 100000 in
theorem c_M_rootInSnapshot (l : Launch) (D : va_G) (dA : Nat → ClassId) (base : Nat) (sa : Nat → Nat) (th : Nat) (l1 : Int32) (K : Int32 → xS → Prop) (G : xS) (h : p_M_rootInSnapshot th l1 K G) : xMet l y_M_rootInSnapshot b_M_rootInSnapshot 4 (some FieldType.int) 0 0 D dA base sa [va_rf (some th), .int l1] G (fun v G2 => ∃ r : Int32, v = some (.int r) ∧ K r G2) := by
  refine xMet.of (by decide) (by simp [x_cat, x_catI]) (Nat.le_of_ble_eq_true rfl) ?_
  intro p e s m args below meth c F hret hname
  unfold p_M_rootInSnapshot at h
  refine x_sub (lv' := [(0, va_rf (some th)), (1, .int l1)]) [0, 1] rfl ?_
  refine x_aload_n F 0 d_M_rootInSnapshot_0 rfl rfl ?_
  refine x_getR F cl_M in_M (k := 12) (by decide) k_613 rfl d_M_rootInSnapshot_1 h (fun v1 h => ?_)
  refine x_iload_n F 1 d_M_rootInSnapshot_4 rfl rfl ?_
  refine x_iald F (t := 0) rfl d_M_rootInSnapshot_5 h (fun v2 h => ?_)
  refine x_iconst F (v := 1) d_M_rootInSnapshot_6 (by decide) ?_
  refine x_isub F d_M_rootInSnapshot_7 ?_
  refine x_istore_n F (lv' := [(2, .int (v2 - 1)), (0, va_rf (some th)), (1, .int l1)]) d_M_rootInSnapshot_8 rfl (by decide) rfl ?_
  refine x_iconst F (v := 0) d_M_rootInSnapshot_9 (by decide) ?_
  refine x_istore_n F (lv' := [(3, .int 0), (2, .int (v2 - 1)), (0, va_rf (some th)), (1, .int l1)]) d_M_rootInSnapshot_10 rfl (by decide) rfl ?_
  refine x_sub (lv' := [(0, va_rf (some th)), (1, .int l1), (2, .int (v2 - 1)), (3, .int 0)]) [2, 3, 1, 0] rfl ?_
  refine w_M_rootInSnapshot_L11 F hret th l1 (fun m9 G h => ?_) _ _ _ _ h
  refine x_iload_n F 0 d_M_rootInSnapshot_46 rfl rfl ?_
  exact x_iret F rfl hret d_M_rootInSnapshot_47 ⟨_, rfl, h⟩
def p_M_search_L84 (th : Nat) (l2 : Int32) (l4 : Int32) (K : Int32 → xS → Prop) (Kx173 : Int32 → xS → Prop) : Nat → Int32 → xS → Prop
  | 0, _ => fun _ => False
  | n + 1, l5 => xif (l5 ≤ 0) (Kx173 l5) (xgR 10 41 (some th) fun v12 => xal 0 v12 (l5 - 1) fun v13 => xif (l4 ≤ v13) (Kx173 l5) (xgR 10 41 (some th) fun v14 => xgR 10 41 (some th) fun v15 => xal 0 v15 (l5 - 1) fun v16 => xas 0 v14 l5 v16 (xgR 10 40 (some th) fun v17 => xgR 10 40 (some th) fun v18 => xal 0 v18 (l5 - 1) fun v19 => xas 0 v17 l5 v19 (xgR 10 42 (some th) fun v20 => xgR 10 42 (some th) fun v21 => xal 0 v21 (l5 - 1) fun v22 => xas 0 v20 l5 v22 (xgR 10 43 (some th) fun v23 => xgR 10 43 (some th) fun v24 => xal 0 v24 (l5 - 1) fun v25 => xas 0 v23 l5 v25 (p_M_search_L84 th l2 l4 K Kx173 n (l5 + (-1))))))))
def p_M_search_B173 (th : Nat) (l2 : Int32) (l4 : Int32) (l5 : Int32)  (K : Int32 → xS → Prop) (Kb30 : Int32 → xS → Prop) (Kx231 : xS → Prop) : xS → Prop := xgR 10 41 (some th) fun v27 => xas 0 v27 l5 l4 (xgR 10 40 (some th) fun v28 => xas 0 v28 l5 l2 (xgR 10 42 (some th) fun v29 => xgR 10 15 (some th) fun v30 => xal 0 v30 l2 fun v31 => xas 0 v29 l5 v31 (xgR 10 43 (some th) fun v32 => xob 10 (some th) fun b => xcall 0 0 (p_M_rootInSnapshot b l2) fun v33 => xas 0 v32 l5 v33 (xgI 10 44 (some th) fun v34 => xpI 10 44 (some th) (v34 + 1) (Kb30 (l2 + 1))))))
def p_M_search_L30 (th : Nat) (K : Int32 → xS → Prop) (Kx231 : xS → Prop) : Nat → Int32 → xS → Prop
  | 0, _ => fun _ => False
  | n + 1, l2 => xgI 10 18 (some th) fun v3 => xif (v3 ≤ l2) (Kx231) (xgR 10 17 (some th) fun v4 => xal 1 v4 l2 fun v5 => xif (v5 = 0) (p_M_search_L30 th K Kx231 n (l2 + 1)) (xob 10 (some th) fun b => xcall 0 0 (p_M_tried b l2) fun v6 => xif (v6 = 0) (p_M_search_L30 th K Kx231 n (l2 + 1)) (xgR 10 39 (some th) fun v7 => xgR 10 12 (some th) fun v8 => xal 0 v8 l2 fun v9 => xal 0 v7 (v9 - 1) fun v10 => xgI 10 44 (some th) fun v11 => p_M_search_L84 th l2 v10 K (fun m26 => p_M_search_B173 th l2 v10 m26 K (p_M_search_L30 th K Kx231 n) Kx231) 1000 v11)))
def p_M_search (th : Nat) (K : Int32 → xS → Prop) : xS → Prop := xob 10 (some th) fun b => xcall 0 0 (p_M_isWhole b ) fun v1 => xif (v1 = 0) (K (-2)) (xgI 10 21 (some th) fun v2 => xif (v2 = 0) (K (-2)) (xob 10 (some th) fun b => xcall 0 0 (p_M_prepare b ) fun _ => xpI 10 44 (some th) 0 (p_M_search_L30 th K (xgI 10 44 (some th) fun v35 => K v35) 1000 0)))
abbrev X_M_search (p : Program) (l : Launch) (e : Env) (s : State) (m : MethodId) (args : Array Value) (below : List Frame) (meth : Method) (c : Code) (C0 S0 : Nat) (K : Int32 → xS → Prop) (D : va_G) (dA : Nat → ClassId) (base : Nat) (sa : Nat → Nat) (pc : Nat) (lv : List (Nat × Value)) (st : List Value) (G : xS) : Prop := xW p l e { frames := 4, cells := C0, slots := S0, locals := 104 } s m args below meth c 6 (MQ below (xQ D dA base (fun v G2 => ∃ r : Int32, v = some (.int r) ∧ K r G2)) args s C0 S0 (fun q : Nat => base ≤ q)) D dA base sa pc lv st G
set_option maxHeartbeats 4000000 in
set_option maxRecDepth 100000 in
theorem w_M_search_L84 {p : Program} {l : Launch} {e : Env} {s : State} {m : MethodId} {args : Array Value} {below : List Frame} {meth : Method} {c : Code} {C0 S0 : Nat} {D : va_G} {dA : Nat → ClassId} {base : Nat} {sa : Nat → Nat} (F : xFix p { frames := 4, cells := C0, slots := S0, locals := 104 } s m args meth c b_M_search 6 "BlockSearchModel" D dA base sa) (hret : meth.sig.returnType = (some FieldType.int)) {K : Int32 → xS → Prop} {Kx173 : Int32 → xS → Prop} (th : Nat) (l2 : Int32) (l4 : Int32) (hKx173 : ∀ (l5 : Int32) (G : xS), Kx173 l5 G → X_M_search p l e s m args below meth c C0 S0 K D dA base sa 173 [(0, va_rf (some th)), (2, .int l2), (4, .int l4), (5, .int l5)] [] G) : ∀ (n : Nat) (l5 : Int32) (G : xS), p_M_search_L84 th l2 l4 K Kx173 n l5 G → X_M_search p l e s m args below meth c C0 S0 K D dA base sa 84 [(0, va_rf (some th)), (2, .int l2), (4, .int l4), (5, .int l5)] [] G := by
  intro n
  induction n with
  | zero => intro l5 G h; exact h.elim
  | succ n ih =>
    intro l5 G h
    unfold p_M_search_L84 at h
    refine x_iload F 3 d_M_search_84 rfl ?_
    refine x_if_le F (tgt := 173) d_M_search_86 (by decide) h (fun q h => ?_) (fun q h => ?_)
    · exact hKx173 _ _ h
    · refine x_aload_n F 0 d_M_search_89 rfl rfl ?_
      refine x_getR F cl_M in_M (k := 41) (by decide) k_642 rfl d_M_search_90 h (fun v12 h => ?_)
      refine x_iload F 3 d_M_search_93 rfl ?_
      refine x_iconst F (v := 1) d_M_search_95 (by decide) ?_
      refine x_isub F d_M_search_96 ?_
      refine x_iald F (t := 0) rfl d_M_search_97 h (fun v13 h => ?_)
      refine x_iload F 2 d_M_search_98 rfl ?_
      refine x_icmp_ge F (tgt := 173) d_M_search_100 (by decide) h (fun q h => ?_) (fun q h => ?_)
      · exact hKx173 _ _ h
      · refine x_aload_n F 0 d_M_search_103 rfl rfl ?_
        refine x_getR F cl_M in_M (k := 41) (by decide) k_642 rfl d_M_search_104 h (fun v14 h => ?_)
        refine x_iload F 3 d_M_search_107 rfl ?_
        refine x_aload_n F 0 d_M_search_109 rfl rfl ?_
        refine x_getR F cl_M in_M (k := 41) (by decide) k_642 rfl d_M_search_110 h (fun v15 h => ?_)
        refine x_iload F 3 d_M_search_113 rfl ?_
        refine x_iconst F (v := 1) d_M_search_115 (by decide) ?_
        refine x_isub F d_M_search_116 ?_
        refine x_iald F (t := 0) rfl d_M_search_117 h (fun v16 h => ?_)
        refine x_iast F (t := 0) rfl d_M_search_118 h (fun G h => ?_)
        refine x_aload_n F 0 d_M_search_119 rfl rfl ?_
        refine x_getR F cl_M in_M (k := 40) (by decide) k_641 rfl d_M_search_120 h (fun v17 h => ?_)
        refine x_iload F 3 d_M_search_123 rfl ?_
        refine x_aload_n F 0 d_M_search_125 rfl rfl ?_
        refine x_getR F cl_M in_M (k := 40) (by decide) k_641 rfl d_M_search_126 h (fun v18 h => ?_)
        refine x_iload F 3 d_M_search_129 rfl ?_
        refine x_iconst F (v := 1) d_M_search_131 (by decide) ?_
        refine x_isub F d_M_search_132 ?_
        refine x_iald F (t := 0) rfl d_M_search_133 h (fun v19 h => ?_)
        refine x_iast F (t := 0) rfl d_M_search_134 h (fun G h => ?_)
        refine x_aload_n F 0 d_M_search_135 rfl rfl ?_
        refine x_getR F cl_M in_M (k := 42) (by decide) k_643 rfl d_M_search_136 h (fun v20 h => ?_)
        refine x_iload F 3 d_M_search_139 rfl ?_
        refine x_aload_n F 0 d_M_search_141 rfl rfl ?_
        refine x_getR F cl_M in_M (k := 42) (by decide) k_643 rfl d_M_search_142 h (fun v21 h => ?_)
        refine x_iload F 3 d_M_search_145 rfl ?_
        refine x_iconst F (v := 1) d_M_search_147 (by decide) ?_
        refine x_isub F d_M_search_148 ?_
        refine x_iald F (t := 0) rfl d_M_search_149 h (fun v22 h => ?_)
        refine x_iast F (t := 0) rfl d_M_search_150 h (fun G h => ?_)
        refine x_aload_n F 0 d_M_search_151 rfl rfl ?_
        refine x_getR F cl_M in_M (k := 43) (by decide) k_644 rfl d_M_search_152 h (fun v23 h => ?_)
        refine x_iload F 3 d_M_search_155 rfl ?_
        refine x_aload_n F 0 d_M_search_157 rfl rfl ?_
        refine x_getR F cl_M in_M (k := 43) (by decide) k_644 rfl d_M_search_158 h (fun v24 h => ?_)
        refine x_iload F 3 d_M_search_161 rfl ?_
        refine x_iconst F (v := 1) d_M_search_163 (by decide) ?_
        refine x_isub F d_M_search_164 ?_
        refine x_iald F (t := 0) rfl d_M_search_165 h (fun v25 h => ?_)
        refine x_iast F (t := 0) rfl d_M_search_166 h (fun G h => ?_)
        refine x_iinc F 3 (v := (l5 + (-1))) (lv' := [(5, .int (l5 + (-1))), (0, va_rf (some th)), (2, .int l2), (4, .int l4)]) d_M_search_167 rfl (congrArg (fun z : Int32 => l5 + z) (by decide)) (by decide) rfl ?_
        refine x_goto F (tgt := 84) d_M_search_170 (by decide) ?_
        refine x_sub (lv' := [(0, va_rf (some th)), (2, .int l2), (4, .int l4), (5, .int (l5 + (-1)))]) [1, 2, 3, 0] rfl ?_
        exact ih _ _ h
set_option maxHeartbeats 4000000 in
set_option maxRecDepth 100000 in
theorem w_M_search_B173 {p : Program} {l : Launch} {e : Env} {s : State} {m : MethodId} {args : Array Value} {below : List Frame} {meth : Method} {c : Code} {C0 S0 : Nat} {D : va_G} {dA : Nat → ClassId} {base : Nat} {sa : Nat → Nat} (F : xFix p { frames := 4, cells := C0, slots := S0, locals := 104 } s m args meth c b_M_search 6 "BlockSearchModel" D dA base sa) (hret : meth.sig.returnType = (some FieldType.int)) {K : Int32 → xS → Prop} {Kb30 : Int32 → xS → Prop} {Kx231 : xS → Prop} (th : Nat) (l2 : Int32) (l4 : Int32) (l5 : Int32)  (hKb30 : ∀ (m2 : Int32) (G : xS), Kb30 m2 G → X_M_search p l e s m args below meth c C0 S0 K D dA base sa 30 [(0, va_rf (some th)), (2, .int m2)] [] G) (hKx231 : ∀ (G : xS), Kx231  G → X_M_search p l e s m args below meth c C0 S0 K D dA base sa 231 [(0, va_rf (some th))] [] G) {G : xS} (h : p_M_search_B173 th l2 l4 l5 K Kb30 Kx231 G) : X_M_search p l e s m args below meth c C0 S0 K D dA base sa 173 [(0, va_rf (some th)), (2, .int l2), (4, .int l4), (5, .int l5)] [] G := by
  unfold p_M_search_B173 at h
  refine x_aload_n F 0 d_M_search_173 rfl rfl ?_
  refine x_getR F cl_M in_M (k := 41) (by decide) k_642 rfl d_M_search_174 h (fun v27 h => ?_)
  refine x_iload F 3 d_M_search_177 rfl ?_
  refine x_iload F 2 d_M_search_179 rfl ?_
  refine x_iast F (t := 0) rfl d_M_search_181 h (fun G h => ?_)
  refine x_aload_n F 0 d_M_search_182 rfl rfl ?_
  refine x_getR F cl_M in_M (k := 40) (by decide) k_641 rfl d_M_search_183 h (fun v28 h => ?_)
  refine x_iload F 3 d_M_search_186 rfl ?_
  refine x_iload_n F 1 d_M_search_188 rfl rfl ?_
  refine x_iast F (t := 0) rfl d_M_search_189 h (fun G h => ?_)
  refine x_aload_n F 0 d_M_search_190 rfl rfl ?_
  refine x_getR F cl_M in_M (k := 42) (by decide) k_643 rfl d_M_search_191 h (fun v29 h => ?_)
  refine x_iload F 3 d_M_search_194 rfl ?_
  refine x_aload_n F 0 d_M_search_196 rfl rfl ?_
  refine x_getR F cl_M in_M (k := 15) (by decide) k_616 rfl d_M_search_197 h (fun v30 h => ?_)
  refine x_iload_n F 1 d_M_search_200 rfl rfl ?_
  refine x_iald F (t := 0) rfl d_M_search_201 h (fun v31 h => ?_)
  refine x_iast F (t := 0) rfl d_M_search_202 h (fun G h => ?_)
  refine x_aload_n F 0 d_M_search_203 rfl rfl ?_
  refine x_getR F cl_M in_M (k := 43) (by decide) k_644 rfl d_M_search_204 h (fun v32 h => ?_)
  refine x_iload F 3 d_M_search_207 rfl ?_
  refine x_aload_n F 0 d_M_search_209 rfl rfl ?_
  refine x_iload_n F 1 d_M_search_210 rfl rfl ?_
  refine x_callV F (enc := fun r => some (.int r)) (P := fun b => p_M_rootInSnapshot b l2) (n := 1) (As := [.int l2]) (st := [.int l5, va_rf v32]) k_855 k_9 k_854 kp_22 k_852 ⟨by decide, by decide, by decide +kernel⟩ rfl ⟨Nat.le_of_ble_eq_true rfl, Nat.le_of_ble_eq_true rfl⟩ (by simp [x_cat, x_catI, x_catL]) cl_M rfl (ro := some th) (fun b K' G' h' _ => c_M_rootInSnapshot l D dA base sa b l2 K' G' h') d_M_search_211 h (fun v33 G h => ?_)
  refine x_iast F (t := 0) rfl d_M_search_214 h (fun G h => ?_)
  refine x_aload_n F 0 d_M_search_215 rfl rfl ?_
  refine x_dup F (x_cat _) d_M_search_216 ?_
  refine x_getI F cl_M in_M (k := 44) (by decide) k_645 rfl d_M_search_217 h (fun v34 h => ?_)
  refine x_iconst F (v := 1) d_M_search_220 (by decide) ?_
  refine x_iadd F d_M_search_221 ?_
  refine x_putI F cl_M in_M (k := 44) (by decide) k_645 rfl ty_M n_M rfl rfl d_M_search_222 h (fun G h => ?_)
  refine x_iinc F 1 (v := (l2 + 1)) (lv' := [(2, .int (l2 + 1)), (0, va_rf (some th)), (4, .int l4), (5, .int l5)]) d_M_search_225 rfl (congrArg (fun z : Int32 => l2 + z) (by decide)) (by decide) rfl ?_
  refine x_goto F (tgt := 30) d_M_search_228 (by decide) ?_
  refine x_sub (lv' := [(0, va_rf (some th)), (2, .int (l2 + 1))]) [1, 0] rfl ?_
  exact hKb30 _ _ h
set_option maxHeartbeats 4000000 in
set_option maxRecDepth 100000 in
theorem w_M_search_L30 {p : Program} {l : Launch} {e : Env} {s : State} {m : MethodId} {args : Array Value} {below : List Frame} {meth : Method} {c : Code} {C0 S0 : Nat} {D : va_G} {dA : Nat → ClassId} {base : Nat} {sa : Nat → Nat} (F : xFix p { frames := 4, cells := C0, slots := S0, locals := 104 } s m args meth c b_M_search 6 "BlockSearchModel" D dA base sa) (hret : meth.sig.returnType = (some FieldType.int)) {K : Int32 → xS → Prop} {Kx231 : xS → Prop} (th : Nat) (hKx231 : ∀ (G : xS), Kx231  G → X_M_search p l e s m args below meth c C0 S0 K D dA base sa 231 [(0, va_rf (some th))] [] G) : ∀ (n : Nat) (l2 : Int32) (G : xS), p_M_search_L30 th K Kx231 n l2 G → X_M_search p l e s m args below meth c C0 S0 K D dA base sa 30 [(0, va_rf (some th)), (2, .int l2)] [] G := by
  intro n
  induction n with
  | zero => intro l2 G h; exact h.elim
  | succ n ih =>
    intro l2 G h
    unfold p_M_search_L30 at h
    refine x_iload_n F 1 d_M_search_30 rfl rfl ?_
    refine x_aload_n F 0 d_M_search_31 rfl rfl ?_
    refine x_getI F cl_M in_M (k := 18) (by decide) k_619 rfl d_M_search_32 h (fun v3 h => ?_)
    refine x_icmp_ge F (tgt := 231) d_M_search_35 (by decide) h (fun q h => ?_) (fun q h => ?_)
    · refine x_sub (lv' := [(0, va_rf (some th))]) [0] rfl ?_
      exact hKx231  _ h
    · refine x_aload_n F 0 d_M_search_38 rfl rfl ?_
      refine x_getR F cl_M in_M (k := 17) (by decide) k_618 rfl d_M_search_39 h (fun v4 h => ?_)
      refine x_iload_n F 1 d_M_search_42 rfl rfl ?_
      refine x_zald F (t := 1) rfl d_M_search_43 h (fun v5 h => ?_)
      refine x_if_ne F (tgt := 50) d_M_search_44 (by decide) h (fun q h => ?_) (fun q h => ?_)
      · refine x_aload_n F 0 d_M_search_50 rfl rfl ?_
        refine x_iload_n F 1 d_M_search_51 rfl rfl ?_
        refine x_callV F (enc := fun r => some (.int r)) (P := fun b => p_M_tried b l2) (n := 1) (As := [.int l2]) (st := []) k_839 k_9 k_838 kp_18 k_836 ⟨by decide, by decide, by decide +kernel⟩ rfl ⟨Nat.le_of_ble_eq_true rfl, Nat.le_of_ble_eq_true rfl⟩ (by simp [x_cat, x_catI, x_catL]) cl_M rfl (ro := some th) (fun b K' G' h' _ => c_M_tried l D dA base sa b l2 K' G' h') d_M_search_52 h (fun v6 G h => ?_)
        refine x_istore_n F (lv' := [(3, .int v6), (0, va_rf (some th)), (2, .int l2)]) d_M_search_55 rfl (by decide) rfl ?_
        refine x_iload_n F 0 d_M_search_56 rfl rfl ?_
        refine x_if_ne F (tgt := 63) d_M_search_57 (by decide) h (fun q h => ?_) (fun q h => ?_)
        · refine x_aload_n F 1 d_M_search_63 rfl rfl ?_
          refine x_getR F cl_M in_M (k := 39) (by decide) k_640 rfl d_M_search_64 h (fun v7 h => ?_)
          refine x_aload_n F 1 d_M_search_67 rfl rfl ?_
          refine x_getR F cl_M in_M (k := 12) (by decide) k_613 rfl d_M_search_68 h (fun v8 h => ?_)
          refine x_iload_n F 2 d_M_search_71 rfl rfl ?_
          refine x_iald F (t := 0) rfl d_M_search_72 h (fun v9 h => ?_)
          refine x_iconst F (v := 1) d_M_search_73 (by decide) ?_
          refine x_isub F d_M_search_74 ?_
          refine x_iald F (t := 0) rfl d_M_search_75 h (fun v10 h => ?_)
          refine x_istore F (lv' := [(4, .int v10), (3, .int v6), (0, va_rf (some th)), (2, .int l2)]) d_M_search_76 (by decide) rfl ?_
          refine x_aload_n F 2 d_M_search_78 rfl rfl ?_
          refine x_getI F cl_M in_M (k := 44) (by decide) k_645 rfl d_M_search_79 h (fun v11 h => ?_)
          refine x_istore F (lv' := [(5, .int v11), (4, .int v10), (3, .int v6), (0, va_rf (some th)), (2, .int l2)]) d_M_search_82 (by decide) rfl ?_
          refine x_sub (lv' := [(0, va_rf (some th)), (2, .int l2), (4, .int v10), (5, .int v11)]) [3, 4, 1, 0] rfl ?_
          refine w_M_search_L84 F hret th l2 v10 (fun m26 G h => ?_) _ _ _ h
          exact w_M_search_B173 F hret th l2 v10 m26 ih hKx231 h
        · refine x_goto F (tgt := 225) d_M_search_60 (by decide) ?_
          refine x_iinc F 2 (v := (l2 + 1)) (lv' := [(2, .int (l2 + 1)), (3, .int v6), (0, va_rf (some th))]) d_M_search_225 rfl (congrArg (fun z : Int32 => l2 + z) (by decide)) (by decide) rfl ?_
          refine x_goto F (tgt := 30) d_M_search_228 (by decide) ?_
          refine x_sub (lv' := [(0, va_rf (some th)), (2, .int (l2 + 1))]) [2, 0] rfl ?_
          exact ih _ _ h
      · refine x_goto F (tgt := 225) d_M_search_47 (by decide) ?_
        refine x_iinc F 1 (v := (l2 + 1)) (lv' := [(2, .int (l2 + 1)), (0, va_rf (some th))]) d_M_search_225 rfl (congrArg (fun z : Int32 => l2 + z) (by decide)) (by decide) rfl ?_
        refine x_goto F (tgt := 30) d_M_search_228 (by decide) ?_
        refine x_sub (lv' := [(0, va_rf (some th)), (2, .int (l2 + 1))]) [1, 0] rfl ?_
        exact ih _ _ h
set_option maxHeartbeats 4000000 in
set_option maxRecDepth 100000 in
theorem c_M_search (l : Launch) (D : va_G) (dA : Nat → ClassId) (base : Nat) (sa : Nat → Nat) (th : Nat) (K : Int32 → xS → Prop) (G : xS) (h : p_M_search th K G) : xMet l y_M_search b_M_search 6 (some FieldType.int) 4 104 D dA base sa [va_rf (some th)] G (fun v G2 => ∃ r : Int32, v = some (.int r) ∧ K r G2) := by
  refine xMet.of (by decide) (by simp [x_cat, x_catI]) (Nat.le_of_ble_eq_true rfl) ?_
  intro p e s m args below meth c F hret hname
  unfold p_M_search at h
  refine x_sub (lv' := [(0, va_rf (some th))]) [0] rfl ?_
  refine x_aload_n F 0 d_M_search_0 rfl rfl ?_
  refine x_callV F (enc := fun r => some (.int r)) (P := fun b => p_M_isWhole b ) (n := 0) (As := []) (st := []) k_826 k_9 k_825 kp_15 k_823 ⟨by decide, by decide, by decide +kernel⟩ rfl ⟨Nat.le_of_ble_eq_true rfl, Nat.le_of_ble_eq_true rfl⟩ (by simp [x_cat, x_catI, x_catL]) cl_M rfl (ro := some th) (fun b K' G' h' _ => c_M_isWhole l D dA base sa b  K' G' h') d_M_search_1 h (fun v1 G h => ?_)
  refine x_istore_n F (lv' := [(1, .int v1), (0, va_rf (some th))]) d_M_search_4 rfl (by decide) rfl ?_
  refine x_iload_n F 0 d_M_search_5 rfl rfl ?_
  refine x_if_eq F (tgt := 16) d_M_search_6 (by decide) h (fun q h => ?_) (fun q h => ?_)
  · refine x_bipush F (v := (-2)) d_M_search_16 (by decide) ?_
    exact x_iret F rfl hret d_M_search_18 ⟨_, rfl, h⟩
  · refine x_aload_n F 1 d_M_search_9 rfl rfl ?_
    refine x_getI F cl_M in_M (k := 21) (by decide) k_622 rfl d_M_search_10 h (fun v2 h => ?_)
    refine x_if_ne F (tgt := 19) d_M_search_13 (by decide) h (fun q h => ?_) (fun q h => ?_)
    · refine x_aload_n F 1 d_M_search_19 rfl rfl ?_
      refine x_callV F (enc := fun r => none) (P := fun b => p_M_prepare b ) (n := 0) (As := []) (st := []) k_830 k_9 k_829 kp_16 k_827 ⟨by decide, by decide, by decide +kernel⟩ rfl ⟨Nat.le_of_ble_eq_true rfl, Nat.le_of_ble_eq_true rfl⟩ (by simp [x_cat, x_catI, x_catL]) cl_M rfl (ro := some th) (fun b K' G' h' _ => c_M_prepare l D dA base sa b  K' G' h') d_M_search_20 h (fun _ G h => ?_)
      refine x_aload_n F 1 d_M_search_23 rfl rfl ?_
      refine x_iconst F (v := 0) d_M_search_24 (by decide) ?_
      refine x_putI F cl_M in_M (k := 44) (by decide) k_645 rfl ty_M n_M rfl rfl d_M_search_25 h (fun G h => ?_)
      refine x_iconst F (v := 0) d_M_search_28 (by decide) ?_
      refine x_istore_n F (lv' := [(2, .int 0), (1, .int v1), (0, va_rf (some th))]) d_M_search_29 rfl (by decide) rfl ?_
      refine x_sub (lv' := [(0, va_rf (some th)), (2, .int 0)]) [2, 0] rfl ?_
      refine w_M_search_L30 F hret th (fun G h => ?_) _ _ _ h
      refine x_aload_n F 0 d_M_search_231 rfl rfl ?_
      refine x_getI F cl_M in_M (k := 44) (by decide) k_645 rfl d_M_search_232 h (fun v35 h => ?_)
      exact x_iret F rfl hret d_M_search_235 ⟨_, rfl, h⟩
    · refine x_bipush F (v := (-2)) d_M_search_16 (by decide) ?_
      exact x_iret F rfl hret d_M_search_18 ⟨_, rfl, h⟩
def p_M_hit (th : Nat) (l1 : Int32) (l2 : Int32) (K : Int32 → xS → Prop) : xS → Prop := xcall 0 0 (p_M_in l2 0 4) fun v1 => xif (v1 = 0) (K (-1)) (xgI 10 44 (some th) fun v2 => xcall 0 0 (p_M_in l1 0 (v2 - 1)) fun v3 => xif (v3 = 0) (K (-2)) (xif (l2 = 0) (xgR 10 13 (some th) fun v4 => xgR 10 40 (some th) fun v5 => xal 0 v5 l1 fun v6 => xal 0 v4 v6 fun v7 => K v7) (xif (l2 = 1) (xgR 10 41 (some th) fun v8 => xal 0 v8 l1 fun v9 => K v9) (xif (l2 = 2) (xgR 10 42 (some th) fun v10 => xal 0 v10 l1 fun v11 => K v11) (xif (l2 = 3) (xgR 10 43 (some th) fun v12 => xal 0 v12 l1 fun v13 => K v13) (xgR 10 12 (some th) fun v14 => xgR 10 40 (some th) fun v15 => xal 0 v15 l1 fun v16 => xal 0 v14 v16 fun v17 => K v17))))))
abbrev X_M_hit (p : Program) (l : Launch) (e : Env) (s : State) (m : MethodId) (args : Array Value) (below : List Frame) (meth : Method) (c : Code) (C0 S0 : Nat) (K : Int32 → xS → Prop) (D : va_G) (dA : Nat → ClassId) (base : Nat) (sa : Nat → Nat) (pc : Nat) (lv : List (Nat × Value)) (st : List Value) (G : xS) : Prop := xW p l e { frames := 1, cells := C0, slots := S0, locals := 22 } s m args below meth c 3 (MQ below (xQ D dA base (fun v G2 => ∃ r : Int32, v = some (.int r) ∧ K r G2)) args s C0 S0 (fun q : Nat => base ≤ q)) D dA base sa pc lv st G
set_option maxHeartbeats 4000000 in
set_option maxRecDepth 100000 in
theorem c_M_hit (l : Launch) (D : va_G) (dA : Nat → ClassId) (base : Nat) (sa : Nat → Nat) (th : Nat) (l1 : Int32) (l2 : Int32) (K : Int32 → xS → Prop) (G : xS) (h : p_M_hit th l1 l2 K G) : xMet l y_M_hit b_M_hit 3 (some FieldType.int) 1 22 D dA base sa [va_rf (some th), .int l1, .int l2] G (fun v G2 => ∃ r : Int32, v = some (.int r) ∧ K r G2) := by
  refine xMet.of (by decide) (by simp [x_cat, x_catI]) (Nat.le_of_ble_eq_true rfl) ?_
  intro p e s m args below meth c F hret hname
  unfold p_M_hit at h
  refine x_sub (lv' := [(0, va_rf (some th)), (1, .int l1), (2, .int l2)]) [0, 1, 2] rfl ?_
  refine x_iload_n F 2 d_M_hit_0 rfl rfl ?_
  refine x_iconst F (v := 0) d_M_hit_1 (by decide) ?_
  refine x_iconst F (v := 4) d_M_hit_2 (by decide) ?_
  refine x_callS F (enc := fun r => some (.int r)) (P := p_M_in l2 0 4) (n := 3) (As := [.int l2, .int 0, .int 4]) (st := []) k_744 k_9 k_743 k_742 ⟨by decide, by decide, by decide +kernel⟩ rfl ⟨Nat.le_of_ble_eq_true rfl, Nat.le_of_ble_eq_true rfl⟩ (by simp [x_cat, x_catI, x_catL]) (fun K' G' h' _ => c_M_in l D dA base sa l2 0 4 K' G' h') d_M_hit_3 h (fun v1 G h => ?_)
  refine x_if_ne F (tgt := 11) d_M_hit_6 (by decide) h (fun q h => ?_) (fun q h => ?_)
  · refine x_iload_n F 1 d_M_hit_11 rfl rfl ?_
    refine x_iconst F (v := 0) d_M_hit_12 (by decide) ?_
    refine x_aload_n F 0 d_M_hit_13 rfl rfl ?_
    refine x_getI F cl_M in_M (k := 44) (by decide) k_645 rfl d_M_hit_14 h (fun v2 h => ?_)
    refine x_iconst F (v := 1) d_M_hit_17 (by decide) ?_
    refine x_isub F d_M_hit_18 ?_
    refine x_callS F (enc := fun r => some (.int r)) (P := p_M_in l1 0 (v2 - 1)) (n := 3) (As := [.int l1, .int 0, .int (v2 - 1)]) (st := []) k_744 k_9 k_743 k_742 ⟨by decide, by decide, by decide +kernel⟩ rfl ⟨Nat.le_of_ble_eq_true rfl, Nat.le_of_ble_eq_true rfl⟩ (by simp [x_cat, x_catI, x_catL]) (fun K' G' h' _ => c_M_in l D dA base sa l1 0 (v2 - 1) K' G' h') d_M_hit_19 h (fun v3 G h => ?_)
    refine x_if_ne F (tgt := 28) d_M_hit_22 (by decide) h (fun q h => ?_) (fun q h => ?_)
    · refine x_iload_n F 2 d_M_hit_28 rfl rfl ?_
      by_cases q0 : l2 = 0
      · have h := h.1 q0
        refine x_tabIn F (off := 31) (tgt := 60) d_M_hit_29 q0 (by decide) (by decide) (by decide) (by decide) ?_
        refine x_aload_n F 0 d_M_hit_60 rfl rfl ?_
        refine x_getR F cl_M in_M (k := 13) (by decide) k_614 rfl d_M_hit_61 h (fun v4 h => ?_)
        refine x_aload_n F 0 d_M_hit_64 rfl rfl ?_
        refine x_getR F cl_M in_M (k := 40) (by decide) k_641 rfl d_M_hit_65 h (fun v5 h => ?_)
        refine x_iload_n F 1 d_M_hit_68 rfl rfl ?_
        refine x_iald F (t := 0) rfl d_M_hit_69 h (fun v6 h => ?_)
        refine x_iald F (t := 0) rfl d_M_hit_70 h (fun v7 h => ?_)
        exact x_iret F rfl hret d_M_hit_71 ⟨_, rfl, h⟩
      have h := h.2 q0
      by_cases q1 : l2 = 1
      · have h := h.1 q1
        refine x_tabIn F (off := 43) (tgt := 72) d_M_hit_29 q1 (by decide) (by decide) (by decide) (by decide) ?_
        refine x_aload_n F 0 d_M_hit_72 rfl rfl ?_
        refine x_getR F cl_M in_M (k := 41) (by decide) k_642 rfl d_M_hit_73 h (fun v8 h => ?_)
        refine x_iload_n F 1 d_M_hit_76 rfl rfl ?_
        refine x_iald F (t := 0) rfl d_M_hit_77 h (fun v9 h => ?_)
        exact x_iret F rfl hret d_M_hit_78 ⟨_, rfl, h⟩
      have h := h.2 q1
      by_cases q2 : l2 = 2
      · have h := h.1 q2
        refine x_tabIn F (off := 50) (tgt := 79) d_M_hit_29 q2 (by decide) (by decide) (by decide) (by decide) ?_
        refine x_aload_n F 0 d_M_hit_79 rfl rfl ?_
        refine x_getR F cl_M in_M (k := 42) (by decide) k_643 rfl d_M_hit_80 h (fun v10 h => ?_)
        refine x_iload_n F 1 d_M_hit_83 rfl rfl ?_
        refine x_iald F (t := 0) rfl d_M_hit_84 h (fun v11 h => ?_)
        exact x_iret F rfl hret d_M_hit_85 ⟨_, rfl, h⟩
      have h := h.2 q2
      by_cases q3 : l2 = 3
      · have h := h.1 q3
        refine x_tabIn F (off := 57) (tgt := 86) d_M_hit_29 q3 (by decide) (by decide) (by decide) (by decide) ?_
        refine x_aload_n F 0 d_M_hit_86 rfl rfl ?_
        refine x_getR F cl_M in_M (k := 43) (by decide) k_644 rfl d_M_hit_87 h (fun v12 h => ?_)
        refine x_iload_n F 1 d_M_hit_90 rfl rfl ?_
        refine x_iald F (t := 0) rfl d_M_hit_91 h (fun v13 h => ?_)
        exact x_iret F rfl hret d_M_hit_92 ⟨_, rfl, h⟩
      have h := h.2 q3
      refine x_tabOut F (tgt := 93) d_M_hit_29 (by have a0 := lv_neT (a := 0) q0 (by decide); have a1 := lv_neT (a := 1) q1 (by decide); have a2 := lv_neT (a := 2) q2 (by decide); have a3 := lv_neT (a := 3) q3 (by decide); omega) (by decide) ?_
      refine x_aload_n F 0 d_M_hit_93 rfl rfl ?_
      refine x_getR F cl_M in_M (k := 12) (by decide) k_613 rfl d_M_hit_94 h (fun v14 h => ?_)
      refine x_aload_n F 0 d_M_hit_97 rfl rfl ?_
      refine x_getR F cl_M in_M (k := 40) (by decide) k_641 rfl d_M_hit_98 h (fun v15 h => ?_)
      refine x_iload_n F 1 d_M_hit_101 rfl rfl ?_
      refine x_iald F (t := 0) rfl d_M_hit_102 h (fun v16 h => ?_)
      refine x_iald F (t := 0) rfl d_M_hit_103 h (fun v17 h => ?_)
      exact x_iret F rfl hret d_M_hit_104 ⟨_, rfl, h⟩
    · refine x_bipush F (v := (-2)) d_M_hit_25 (by decide) ?_
      exact x_iret F rfl hret d_M_hit_27 ⟨_, rfl, h⟩
  · refine x_iconst F (v := (-1)) d_M_hit_9 (by decide) ?_
    exact x_iret F rfl hret d_M_hit_10 ⟨_, rfl, h⟩
def p_M_score_L21 (th : Nat) (l1 : Int32) (K : Int32 → xS → Prop) (Kx92 : xS → Prop) : Nat → Int32 → xS → Prop
  | 0, _ => fun _ => False
  | n + 1, l3 => xgI 10 18 (some th) fun v3 => xif (v3 ≤ l3) (Kx92) (xgR 10 17 (some th) fun v4 => xal 1 v4 l3 fun v5 => xif (v5 = 0) (p_M_score_L21 th l1 K Kx92 n (l3 + 1)) (xgR 10 13 (some th) fun v6 => xal 0 v6 l3 fun v7 => xif (v7 = l1) (xob 10 (some th) fun b => xcall 0 0 (p_M_prepare b ) fun _ => xob 10 (some th) fun b => xcall 0 0 (p_M_tried b l3) fun v8 => xif (v8 = 0) (K (-2)) (xgR 10 39 (some th) fun v9 => xgR 10 12 (some th) fun v10 => xal 0 v10 l3 fun v11 => xal 0 v9 (v11 - 1) fun v12 => K v12)) (p_M_score_L21 th l1 K Kx92 n (l3 + 1))))
def p_M_score (th : Nat) (l1 : Int32) (K : Int32 → xS → Prop) : xS → Prop := xob 10 (some th) fun b => xcall 0 0 (p_M_isWhole b ) fun v1 => xif (v1 = 0) (K (-2)) (xgI 10 21 (some th) fun v2 => xif (v2 = 0) (K (-2)) (p_M_score_L21 th l1 K (K (-2)) 1000 0))
abbrev X_M_score (p : Program) (l : Launch) (e : Env) (s : State) (m : MethodId) (args : Array Value) (below : List Frame) (meth : Method) (c : Code) (C0 S0 : Nat) (K : Int32 → xS → Prop) (D : va_G) (dA : Nat → ClassId) (base : Nat) (sa : Nat → Nat) (pc : Nat) (lv : List (Nat × Value)) (st : List Value) (G : xS) : Prop := xW p l e { frames := 4, cells := C0, slots := S0, locals := 104 } s m args below meth c 5 (MQ below (xQ D dA base (fun v G2 => ∃ r : Int32, v = some (.int r) ∧ K r G2)) args s C0 S0 (fun q : Nat => base ≤ q)) D dA base sa pc lv st G
set_option maxHeartbeats 4000000 in
set_option maxRecDepth 100000 in
theorem w_M_score_L21 {p : Program} {l : Launch} {e : Env} {s : State} {m : MethodId} {args : Array Value} {below : List Frame} {meth : Method} {c : Code} {C0 S0 : Nat} {D : va_G} {dA : Nat → ClassId} {base : Nat} {sa : Nat → Nat} (F : xFix p { frames := 4, cells := C0, slots := S0, locals := 104 } s m args meth c b_M_score 5 "BlockSearchModel" D dA base sa) (hret : meth.sig.returnType = (some FieldType.int)) {K : Int32 → xS → Prop} {Kx92 : xS → Prop} (th : Nat) (l1 : Int32) (hKx92 : ∀ (G : xS), Kx92  G → X_M_score p l e s m args below meth c C0 S0 K D dA base sa 92 [] [] G) : ∀ (n : Nat) (l3 : Int32) (G : xS), p_M_score_L21 th l1 K Kx92 n l3 G → X_M_score p l e s m args below meth c C0 S0 K D dA base sa 21 [(0, va_rf (some th)), (1, .int l1), (3, .int l3)] [] G := by
  intro n
  induction n with
  | zero => intro l3 G h; exact h.elim
  | succ n ih =>
    intro l3 G h
    unfold p_M_score_L21 at h
    refine x_iload_n F 2 d_M_score_21 rfl rfl ?_
    refine x_aload_n F 0 d_M_score_22 rfl rfl ?_
    refine x_getI F cl_M in_M (k := 18) (by decide) k_619 rfl d_M_score_23 h (fun v3 h => ?_)
    refine x_icmp_ge F (tgt := 92) d_M_score_26 (by decide) h (fun q h => ?_) (fun q h => ?_)
    · refine x_sub (lv' := []) [] rfl ?_
      exact hKx92  _ h
    · refine x_aload_n F 0 d_M_score_29 rfl rfl ?_
      refine x_getR F cl_M in_M (k := 17) (by decide) k_618 rfl d_M_score_30 h (fun v4 h => ?_)
      refine x_iload_n F 2 d_M_score_33 rfl rfl ?_
      refine x_zald F (t := 1) rfl d_M_score_34 h (fun v5 h => ?_)
      refine x_if_eq F (tgt := 86) d_M_score_35 (by decide) h (fun q h => ?_) (fun q h => ?_)
      · refine x_iinc F 2 (v := (l3 + 1)) (lv' := [(3, .int (l3 + 1)), (0, va_rf (some th)), (1, .int l1)]) d_M_score_86 rfl (congrArg (fun z : Int32 => l3 + z) (by decide)) (by decide) rfl ?_
        refine x_goto F (tgt := 21) d_M_score_89 (by decide) ?_
        refine x_sub (lv' := [(0, va_rf (some th)), (1, .int l1), (3, .int (l3 + 1))]) [1, 2, 0] rfl ?_
        exact ih _ _ h
      · refine x_aload_n F 0 d_M_score_38 rfl rfl ?_
        refine x_getR F cl_M in_M (k := 13) (by decide) k_614 rfl d_M_score_39 h (fun v6 h => ?_)
        refine x_iload_n F 2 d_M_score_42 rfl rfl ?_
        refine x_iald F (t := 0) rfl d_M_score_43 h (fun v7 h => ?_)
        refine x_iload_n F 1 d_M_score_44 rfl rfl ?_
        refine x_icmp_eq F (tgt := 51) d_M_score_45 (by decide) h (fun q h => ?_) (fun q h => ?_)
        · refine x_aload_n F 0 d_M_score_51 rfl rfl ?_
          refine x_callV F (enc := fun r => none) (P := fun b => p_M_prepare b ) (n := 0) (As := []) (st := []) k_830 k_9 k_829 kp_16 k_827 ⟨by decide, by decide, by decide +kernel⟩ rfl ⟨Nat.le_of_ble_eq_true rfl, Nat.le_of_ble_eq_true rfl⟩ (by simp [x_cat, x_catI, x_catL]) cl_M rfl (ro := some th) (fun b K' G' h' _ => c_M_prepare l D dA base sa b  K' G' h') d_M_score_52 h (fun _ G h => ?_)
          refine x_aload_n F 0 d_M_score_55 rfl rfl ?_
          refine x_iload_n F 2 d_M_score_56 rfl rfl ?_
          refine x_callV F (enc := fun r => some (.int r)) (P := fun b => p_M_tried b l3) (n := 1) (As := [.int l3]) (st := []) k_839 k_9 k_838 kp_18 k_836 ⟨by decide, by decide, by decide +kernel⟩ rfl ⟨Nat.le_of_ble_eq_true rfl, Nat.le_of_ble_eq_true rfl⟩ (by simp [x_cat, x_catI, x_catL]) cl_M rfl (ro := some th) (fun b K' G' h' _ => c_M_tried l D dA base sa b l3 K' G' h') d_M_score_57 h (fun v8 G h => ?_)
          refine x_istore F (lv' := [(4, .int v8), (0, va_rf (some th)), (1, .int l1), (3, .int l3)]) d_M_score_60 (by decide) rfl ?_
          refine x_iload F 0 d_M_score_62 rfl ?_
          refine x_if_eq F (tgt := 83) d_M_score_64 (by decide) h (fun q h => ?_) (fun q h => ?_)
          · refine x_bipush F (v := (-2)) d_M_score_83 (by decide) ?_
            exact x_iret F rfl hret d_M_score_85 ⟨_, rfl, h⟩
          · refine x_aload_n F 1 d_M_score_67 rfl rfl ?_
            refine x_getR F cl_M in_M (k := 39) (by decide) k_640 rfl d_M_score_68 h (fun v9 h => ?_)
            refine x_aload_n F 1 d_M_score_71 rfl rfl ?_
            refine x_getR F cl_M in_M (k := 12) (by decide) k_613 rfl d_M_score_72 h (fun v10 h => ?_)
            refine x_iload_n F 3 d_M_score_75 rfl rfl ?_
            refine x_iald F (t := 0) rfl d_M_score_76 h (fun v11 h => ?_)
            refine x_iconst F (v := 1) d_M_score_77 (by decide) ?_
            refine x_isub F d_M_score_78 ?_
            refine x_iald F (t := 0) rfl d_M_score_79 h (fun v12 h => ?_)
            refine x_goto F (tgt := 85) d_M_score_80 (by decide) ?_
            exact x_iret F rfl hret d_M_score_85 ⟨_, rfl, h⟩
        · refine x_goto F (tgt := 86) d_M_score_48 (by decide) ?_
          refine x_iinc F 2 (v := (l3 + 1)) (lv' := [(3, .int (l3 + 1)), (0, va_rf (some th)), (1, .int l1)]) d_M_score_86 rfl (congrArg (fun z : Int32 => l3 + z) (by decide)) (by decide) rfl ?_
          refine x_goto F (tgt := 21) d_M_score_89 (by decide) ?_
          refine x_sub (lv' := [(0, va_rf (some th)), (1, .int l1), (3, .int (l3 + 1))]) [1, 2, 0] rfl ?_
          exact ih _ _ h
set_option maxHeartbeats 4000000 in
set_option maxRecDepth 100000 in
theorem c_M_score (l : Launch) (D : va_G) (dA : Nat → ClassId) (base : Nat) (sa : Nat → Nat) (th : Nat) (l1 : Int32) (K : Int32 → xS → Prop) (G : xS) (h : p_M_score th l1 K G) : xMet l y_M_score b_M_score 5 (some FieldType.int) 4 104 D dA base sa [va_rf (some th), .int l1] G (fun v G2 => ∃ r : Int32, v = some (.int r) ∧ K r G2) := by
  refine xMet.of (by decide) (by simp [x_cat, x_catI]) (Nat.le_of_ble_eq_true rfl) ?_
  intro p e s m args below meth c F hret hname
  unfold p_M_score at h
  refine x_sub (lv' := [(0, va_rf (some th)), (1, .int l1)]) [0, 1] rfl ?_
  refine x_aload_n F 0 d_M_score_0 rfl rfl ?_
  refine x_callV F (enc := fun r => some (.int r)) (P := fun b => p_M_isWhole b ) (n := 0) (As := []) (st := []) k_826 k_9 k_825 kp_15 k_823 ⟨by decide, by decide, by decide +kernel⟩ rfl ⟨Nat.le_of_ble_eq_true rfl, Nat.le_of_ble_eq_true rfl⟩ (by simp [x_cat, x_catI, x_catL]) cl_M rfl (ro := some th) (fun b K' G' h' _ => c_M_isWhole l D dA base sa b  K' G' h') d_M_score_1 h (fun v1 G h => ?_)
  refine x_istore_n F (lv' := [(2, .int v1), (0, va_rf (some th)), (1, .int l1)]) d_M_score_4 rfl (by decide) rfl ?_
  refine x_iload_n F 0 d_M_score_5 rfl rfl ?_
  refine x_if_eq F (tgt := 16) d_M_score_6 (by decide) h (fun q h => ?_) (fun q h => ?_)
  · refine x_bipush F (v := (-2)) d_M_score_16 (by decide) ?_
    exact x_iret F rfl hret d_M_score_18 ⟨_, rfl, h⟩
  · refine x_aload_n F 1 d_M_score_9 rfl rfl ?_
    refine x_getI F cl_M in_M (k := 21) (by decide) k_622 rfl d_M_score_10 h (fun v2 h => ?_)
    refine x_if_ne F (tgt := 19) d_M_score_13 (by decide) h (fun q h => ?_) (fun q h => ?_)
    · refine x_iconst F (v := 0) d_M_score_19 (by decide) ?_
      refine x_istore_n F (lv' := [(3, .int 0), (2, .int v1), (0, va_rf (some th)), (1, .int l1)]) d_M_score_20 rfl (by decide) rfl ?_
      refine x_sub (lv' := [(0, va_rf (some th)), (1, .int l1), (3, .int 0)]) [2, 3, 0] rfl ?_
      refine w_M_score_L21 F hret th l1 (fun G h => ?_) _ _ _ h
      refine x_bipush F (v := (-2)) d_M_score_92 (by decide) ?_
      exact x_iret F rfl hret d_M_score_94 ⟨_, rfl, h⟩
    · refine x_bipush F (v := (-2)) d_M_score_16 (by decide) ?_
      exact x_iret F rfl hret d_M_score_18 ⟨_, rfl, h⟩
def p_M_isBelow_L3 (th : Nat) (l1 : Int32) (l3 : Int32) (K : Int32 → xS → Prop) (Kx33 : Int32 → xS → Prop) : Nat → Int32 → xS → Prop
  | 0, _ => fun _ => False
  | n + 1, l4 => xif (l4 < 0) (Kx33 l4) (xif (l4 = l3) (Kx33 l4) (xgR 10 23 (some th) fun v1 => xgR 10 11 (some th) fun v2 => xal 0 v2 l1 fun v3 => xal 0 v1 (v3 + l4) fun v4 => p_M_isBelow_L3 th l1 l3 K Kx33 n v4))
def p_M_isBelow (th : Nat) (l1 : Int32) (l2 : Int32) (l3 : Int32) (K : Int32 → xS → Prop) : xS → Prop := p_M_isBelow_L3 th l1 l3 K (fun m5 => xif (m5 = l3) (xrz 1 K) (xrz 0 K)) 1000 l2
abbrev X_M_isBelow (p : Program) (l : Launch) (e : Env) (s : State) (m : MethodId) (args : Array Value) (below : List Frame) (meth : Method) (c : Code) (C0 S0 : Nat) (K : Int32 → xS → Prop) (D : va_G) (dA : Nat → ClassId) (base : Nat) (sa : Nat → Nat) (pc : Nat) (lv : List (Nat × Value)) (st : List Value) (G : xS) : Prop := xW p l e { frames := 0, cells := C0, slots := S0, locals := 0 } s m args below meth c 5 (MQ below (xQ D dA base (fun v G2 => ∃ r : Int32, v = some (.int r) ∧ K r G2)) args s C0 S0 (fun q : Nat => base ≤ q)) D dA base sa pc lv st G
set_option maxHeartbeats 4000000 in
set_option maxRecDepth 100000 in
theorem w_M_isBelow_L3 {p : Program} {l : Launch} {e : Env} {s : State} {m : MethodId} {args : Array Value} {below : List Frame} {meth : Method} {c : Code} {C0 S0 : Nat} {D : va_G} {dA : Nat → ClassId} {base : Nat} {sa : Nat → Nat} (F : xFix p { frames := 0, cells := C0, slots := S0, locals := 0 } s m args meth c b_M_isBelow 5 "BlockSearchModel" D dA base sa) (hret : meth.sig.returnType = (some FieldType.boolean)) {K : Int32 → xS → Prop} {Kx33 : Int32 → xS → Prop} (th : Nat) (l1 : Int32) (l3 : Int32) (hKx33 : ∀ (l4 : Int32) (G : xS), Kx33 l4 G → X_M_isBelow p l e s m args below meth c C0 S0 K D dA base sa 33 [(3, .int l3), (4, .int l4)] [] G) : ∀ (n : Nat) (l4 : Int32) (G : xS), p_M_isBelow_L3 th l1 l3 K Kx33 n l4 G → X_M_isBelow p l e s m args below meth c C0 S0 K D dA base sa 3 [(0, va_rf (some th)), (1, .int l1), (3, .int l3), (4, .int l4)] [] G := by
  intro n
  induction n with
  | zero => intro l4 G h; exact h.elim
  | succ n ih =>
    intro l4 G h
    unfold p_M_isBelow_L3 at h
    refine x_iload F 3 d_M_isBelow_3 rfl ?_
    refine x_if_lt F (tgt := 33) d_M_isBelow_5 (by decide) h (fun q h => ?_) (fun q h => ?_)
    · refine x_sub (lv' := [(3, .int l3), (4, .int l4)]) [2, 3] rfl ?_
      exact hKx33 _ _ h
    · refine x_iload F 3 d_M_isBelow_8 rfl ?_
      refine x_iload_n F 2 d_M_isBelow_10 rfl rfl ?_
      refine x_icmp_eq F (tgt := 33) d_M_isBelow_11 (by decide) h (fun q h => ?_) (fun q h => ?_)
      · refine x_sub (lv' := [(3, .int l3), (4, .int l4)]) [2, 3] rfl ?_
        exact hKx33 _ _ h
      · refine x_aload_n F 0 d_M_isBelow_14 rfl rfl ?_
        refine x_getR F cl_M in_M (k := 23) (by decide) k_624 rfl d_M_isBelow_15 h (fun v1 h => ?_)
        refine x_aload_n F 0 d_M_isBelow_18 rfl rfl ?_
        refine x_getR F cl_M in_M (k := 11) (by decide) k_612 rfl d_M_isBelow_19 h (fun v2 h => ?_)
        refine x_iload_n F 1 d_M_isBelow_22 rfl rfl ?_
        refine x_iald F (t := 0) rfl d_M_isBelow_23 h (fun v3 h => ?_)
        refine x_iload F 3 d_M_isBelow_24 rfl ?_
        refine x_iadd F d_M_isBelow_26 ?_
        refine x_iald F (t := 0) rfl d_M_isBelow_27 h (fun v4 h => ?_)
        refine x_istore F (lv' := [(4, .int v4), (0, va_rf (some th)), (1, .int l1), (3, .int l3)]) d_M_isBelow_28 (by decide) rfl ?_
        refine x_goto F (tgt := 3) d_M_isBelow_30 (by decide) ?_
        refine x_sub (lv' := [(0, va_rf (some th)), (1, .int l1), (3, .int l3), (4, .int v4)]) [1, 2, 3, 0] rfl ?_
        exact ih _ _ h
set_option maxHeartbeats 4000000 in
set_option maxRecDepth 100000 in
theorem c_M_isBelow (l : Launch) (D : va_G) (dA : Nat → ClassId) (base : Nat) (sa : Nat → Nat) (th : Nat) (l1 : Int32) (l2 : Int32) (l3 : Int32) (K : Int32 → xS → Prop) (G : xS) (h : p_M_isBelow th l1 l2 l3 K G) : xMet l y_M_isBelow b_M_isBelow 5 (some FieldType.boolean) 0 0 D dA base sa [va_rf (some th), .int l1, .int l2, .int l3] G (fun v G2 => ∃ r : Int32, v = some (.int r) ∧ K r G2) := by
  refine xMet.of (by decide) (by simp [x_cat, x_catI]) (Nat.le_of_ble_eq_true rfl) ?_
  intro p e s m args below meth c F hret hname
  unfold p_M_isBelow at h
  refine x_sub (lv' := [(0, va_rf (some th)), (1, .int l1), (2, .int l2), (3, .int l3)]) [0, 1, 2, 3] rfl ?_
  refine x_iload_n F 2 d_M_isBelow_0 rfl rfl ?_
  refine x_istore F (lv' := [(4, .int l2), (0, va_rf (some th)), (1, .int l1), (2, .int l2), (3, .int l3)]) d_M_isBelow_1 (by decide) rfl ?_
  refine x_sub (lv' := [(0, va_rf (some th)), (1, .int l1), (3, .int l3), (4, .int l2)]) [1, 2, 4, 0] rfl ?_
  refine w_M_isBelow_L3 F hret th l1 l3 (fun m5 G h => ?_) _ _ _ h
  refine x_iload F 1 d_M_isBelow_33 rfl ?_
  refine x_iload_n F 0 d_M_isBelow_35 rfl rfl ?_
  refine x_icmp_ne F (tgt := 43) d_M_isBelow_36 (by decide) h (fun q h => ?_) (fun q h => ?_)
  · refine x_iconst F (v := 0) d_M_isBelow_43 (by decide) ?_
    exact x_zret F rfl hret d_M_isBelow_44 h (fun h => ⟨_, rfl, h⟩)
  · refine x_iconst F (v := 1) d_M_isBelow_39 (by decide) ?_
    refine x_goto F (tgt := 44) d_M_isBelow_40 (by decide) ?_
    exact x_zret F rfl hret d_M_isBelow_44 h (fun h => ⟨_, rfl, h⟩)
def p_M_told_L169 (th : Nat) (l1 : Int32) (l2 : Int32) (l3 : Int32) (K : Int32 → xS → Prop) (Kx195 : Int32 → xS → Prop) : Nat → Int32 → Int32 → xS → Prop
  | 0, _, _ => fun _ => False
  | n + 1, l6, l7 => xif (l7 < 0) (Kx195 l6) (xob 10 (some th) fun b => xcall 0 0 (p_M_isBelow b l1 l7 l2) fun v13 => xif (v13 = 0) (p_M_told_L169 th l1 l2 l3 K Kx195 n l6 (l7 + (-1))) (p_M_told_L169 th l1 l2 l3 K Kx195 n l7 (l7 + (-1))))
def p_M_told (th : Nat) (l1 : Int32) (l2 : Int32) (l3 : Int32) (l4 : Int32) (K : Int32 → xS → Prop) : xS → Prop := xgR 10 11 (some th) fun v1 => xal 0 v1 l1 fun v2 => xif (l4 ≤ 9) (xif (l4 = 0) (xgR 10 22 (some th) fun v3 => xal 0 v3 (v2 + l2) fun v4 => K v4) (xif (l4 = 1) (xgR 10 23 (some th) fun v5 => xal 0 v5 (v2 + l2) fun v6 => xif (0 ≤ v6) (xgR 10 23 (some th) fun v7 => xal 0 v7 (v2 + l2) fun v8 => K (l3 + v8)) (K (-2))) (xif (l4 = 2) (xgR 10 13 (some th) fun v9 => xal 0 v9 l1 fun v10 => K v10) (xif (l4 = 3) (xgR 10 16 (some th) fun v11 => xal 1 v11 l1 fun v12 => xif (v12 = 0) (K 0) (K 1)) (p_M_told_L169 th l1 l2 l3 K (fun m14 => K (l3 + m14)) 1000 l2 l2))))) (xgR 10 24 (some th) fun v15 => xal 0 v15 (((4 * (v2 + l2)) + l4) - 10) fun v16 => xif (v16 = 0) (K (-2)) (xgR 10 24 (some th) fun v17 => xal 0 v17 (((4 * (v2 + l2)) + l4) - 10) fun v18 => xif (v18 = 1) (xgR 10 25 (some th) fun v21 => xal 0 v21 (((4 * (v2 + l2)) + l4) - 10) fun v22 => K v22) (xgR 10 25 (some th) fun v19 => xal 0 v19 (((4 * (v2 + l2)) + l4) - 10) fun v20 => K (2000 + v20))))
abbrev X_M_told (p : Program) (l : Launch) (e : Env) (s : State) (m : MethodId) (args : Array Value) (below : List Frame) (meth : Method) (c : Code) (C0 S0 : Nat) (K : Int32 → xS → Prop) (D : va_G) (dA : Nat → ClassId) (base : Nat) (sa : Nat → Nat) (pc : Nat) (lv : List (Nat × Value)) (st : List Value) (G : xS) : Prop := xW p l e { frames := 1, cells := C0, slots := S0, locals := 24 } s m args below meth c 8 (MQ below (xQ D dA base (fun v G2 => ∃ r : Int32, v = some (.int r) ∧ K r G2)) args s C0 S0 (fun q : Nat => base ≤ q)) D dA base sa pc lv st G
set_option maxHeartbeats 4000000 in
set_option maxRecDepth 100000 in
theorem w_M_told_L169 {p : Program} {l : Launch} {e : Env} {s : State} {m : MethodId} {args : Array Value} {below : List Frame} {meth : Method} {c : Code} {C0 S0 : Nat} {D : va_G} {dA : Nat → ClassId} {base : Nat} {sa : Nat → Nat} (F : xFix p { frames := 1, cells := C0, slots := S0, locals := 24 } s m args meth c b_M_told 8 "BlockSearchModel" D dA base sa) (hret : meth.sig.returnType = (some FieldType.int)) {K : Int32 → xS → Prop} {Kx195 : Int32 → xS → Prop} (th : Nat) (l1 : Int32) (l2 : Int32) (l3 : Int32) (hKx195 : ∀ (l6 : Int32) (G : xS), Kx195 l6 G → X_M_told p l e s m args below meth c C0 S0 K D dA base sa 195 [(3, .int l3), (6, .int l6)] [] G) : ∀ (n : Nat) (l6 : Int32) (l7 : Int32) (G : xS), p_M_told_L169 th l1 l2 l3 K Kx195 n l6 l7 G → X_M_told p l e s m args below meth c C0 S0 K D dA base sa 169 [(0, va_rf (some th)), (1, .int l1), (2, .int l2), (3, .int l3), (6, .int l6), (7, .int l7)] [] G := by
  intro n
  induction n with
  | zero => intro l6 l7 G h; exact h.elim
  | succ n ih =>
    intro l6 l7 G h
    unfold p_M_told_L169 at h
    refine x_iload F 5 d_M_told_169 rfl ?_
    refine x_if_lt F (tgt := 195) d_M_told_171 (by decide) h (fun q h => ?_) (fun q h => ?_)
    · refine x_sub (lv' := [(3, .int l3), (6, .int l6)]) [3, 4] rfl ?_
      exact hKx195 _ _ h
    · refine x_aload_n F 0 d_M_told_174 rfl rfl ?_
      refine x_iload_n F 1 d_M_told_175 rfl rfl ?_
      refine x_iload F 5 d_M_told_176 rfl ?_
      refine x_iload_n F 2 d_M_told_178 rfl rfl ?_
      refine x_callV F (enc := fun r => some (.int r)) (P := fun b => p_M_isBelow b l1 l7 l2) (n := 3) (As := [.int l1, .int l7, .int l2]) (st := []) k_875 k_9 k_874 kp_24 k_872 ⟨by decide, by decide, by decide +kernel⟩ rfl ⟨Nat.le_of_ble_eq_true rfl, Nat.le_of_ble_eq_true rfl⟩ (by simp [x_cat, x_catI, x_catL]) cl_M rfl (ro := some th) (fun b K' G' h' _ => c_M_isBelow l D dA base sa b l1 l7 l2 K' G' h') d_M_told_179 h (fun v13 G h => ?_)
      refine x_if_eq F (tgt := 189) d_M_told_182 (by decide) h (fun q h => ?_) (fun q h => ?_)
      · refine x_iinc F 5 (v := (l7 + (-1))) (lv' := [(7, .int (l7 + (-1))), (0, va_rf (some th)), (1, .int l1), (2, .int l2), (3, .int l3), (6, .int l6)]) d_M_told_189 rfl (congrArg (fun z : Int32 => l7 + z) (by decide)) (by decide) rfl ?_
        refine x_goto F (tgt := 169) d_M_told_192 (by decide) ?_
        refine x_sub (lv' := [(0, va_rf (some th)), (1, .int l1), (2, .int l2), (3, .int l3), (6, .int l6), (7, .int (l7 + (-1)))]) [1, 2, 3, 4, 5, 0] rfl ?_
        exact ih _ _ _ h
      · refine x_iload F 5 d_M_told_185 rfl ?_
        refine x_istore F (lv' := [(6, .int l7), (0, va_rf (some th)), (1, .int l1), (2, .int l2), (3, .int l3), (7, .int l7)]) d_M_told_187 (by decide) rfl ?_
        refine x_iinc F 5 (v := (l7 + (-1))) (lv' := [(7, .int (l7 + (-1))), (6, .int l7), (0, va_rf (some th)), (1, .int l1), (2, .int l2), (3, .int l3)]) d_M_told_189 rfl (congrArg (fun z : Int32 => l7 + z) (by decide)) (by decide) rfl ?_
        refine x_goto F (tgt := 169) d_M_told_192 (by decide) ?_
        refine x_sub (lv' := [(0, va_rf (some th)), (1, .int l1), (2, .int l2), (3, .int l3), (6, .int l7), (7, .int (l7 + (-1)))]) [2, 3, 4, 5, 1, 0] rfl ?_
        exact ih _ _ _ h
set_option maxHeartbeats 4000000 in
set_option maxRecDepth 100000 in
theorem c_M_told (l : Launch) (D : va_G) (dA : Nat → ClassId) (base : Nat) (sa : Nat → Nat) (th : Nat) (l1 : Int32) (l2 : Int32) (l3 : Int32) (l4 : Int32) (K : Int32 → xS → Prop) (G : xS) (h : p_M_told th l1 l2 l3 l4 K G) : xMet l y_M_told b_M_told 8 (some FieldType.int) 1 24 D dA base sa [va_rf (some th), .int l1, .int l2, .int l3, .int l4] G (fun v G2 => ∃ r : Int32, v = some (.int r) ∧ K r G2) := by
  refine xMet.of (by decide) (by simp [x_cat, x_catI]) (Nat.le_of_ble_eq_true rfl) ?_
  intro p e s m args below meth c F hret hname
  unfold p_M_told at h
  refine x_sub (lv' := [(0, va_rf (some th)), (1, .int l1), (2, .int l2), (3, .int l3), (4, .int l4)]) [0, 1, 2, 3, 4] rfl ?_
  refine x_aload_n F 0 d_M_told_0 rfl rfl ?_
  refine x_getR F cl_M in_M (k := 11) (by decide) k_612 rfl d_M_told_1 h (fun v1 h => ?_)
  refine x_iload_n F 1 d_M_told_4 rfl rfl ?_
  refine x_iald F (t := 0) rfl d_M_told_5 h (fun v2 h => ?_)
  refine x_iload_n F 2 d_M_told_6 rfl rfl ?_
  refine x_iadd F d_M_told_7 ?_
  refine x_istore F (lv' := [(5, .int (v2 + l2)), (0, va_rf (some th)), (1, .int l1), (2, .int l2), (3, .int l3), (4, .int l4)]) d_M_told_8 (by decide) rfl ?_
  refine x_iload F 5 d_M_told_10 rfl ?_
  refine x_bipush F (v := 9) d_M_told_12 (by decide) ?_
  refine x_icmp_le F (tgt := 77) d_M_told_14 (by decide) h (fun q h => ?_) (fun q h => ?_)
  · refine x_iload F 5 d_M_told_77 rfl ?_
    by_cases q0 : l4 = 0
    · have h := h.1 q0
      refine x_tabIn F (off := 29) (tgt := 108) d_M_told_79 q0 (by decide) (by decide) (by decide) (by decide) ?_
      refine x_aload_n F 1 d_M_told_108 rfl rfl ?_
      refine x_getR F cl_M in_M (k := 22) (by decide) k_623 rfl d_M_told_109 h (fun v3 h => ?_)
      refine x_iload F 0 d_M_told_112 rfl ?_
      refine x_iald F (t := 0) rfl d_M_told_114 h (fun v4 h => ?_)
      exact x_iret F rfl hret d_M_told_115 ⟨_, rfl, h⟩
    have h := h.2 q0
    by_cases q1 : l4 = 1
    · have h := h.1 q1
      refine x_tabIn F (off := 37) (tgt := 116) d_M_told_79 q1 (by decide) (by decide) (by decide) (by decide) ?_
      refine x_aload_n F 1 d_M_told_116 rfl rfl ?_
      refine x_getR F cl_M in_M (k := 23) (by decide) k_624 rfl d_M_told_117 h (fun v5 h => ?_)
      refine x_iload F 0 d_M_told_120 rfl ?_
      refine x_iald F (t := 0) rfl d_M_told_122 h (fun v6 h => ?_)
      refine x_if_ge F (tgt := 131) d_M_told_123 (by decide) h (fun q h => ?_) (fun q h => ?_)
      · refine x_iload_n F 4 d_M_told_131 rfl rfl ?_
        refine x_aload_n F 1 d_M_told_132 rfl rfl ?_
        refine x_getR F cl_M in_M (k := 23) (by decide) k_624 rfl d_M_told_133 h (fun v7 h => ?_)
        refine x_iload F 0 d_M_told_136 rfl ?_
        refine x_iald F (t := 0) rfl d_M_told_138 h (fun v8 h => ?_)
        refine x_iadd F d_M_told_139 ?_
        exact x_iret F rfl hret d_M_told_140 ⟨_, rfl, h⟩
      · refine x_bipush F (v := (-2)) d_M_told_126 (by decide) ?_
        refine x_goto F (tgt := 140) d_M_told_128 (by decide) ?_
        exact x_iret F rfl hret d_M_told_140 ⟨_, rfl, h⟩
    have h := h.2 q1
    by_cases q2 : l4 = 2
    · have h := h.1 q2
      refine x_tabIn F (off := 62) (tgt := 141) d_M_told_79 q2 (by decide) (by decide) (by decide) (by decide) ?_
      refine x_aload_n F 1 d_M_told_141 rfl rfl ?_
      refine x_getR F cl_M in_M (k := 13) (by decide) k_614 rfl d_M_told_142 h (fun v9 h => ?_)
      refine x_iload_n F 2 d_M_told_145 rfl rfl ?_
      refine x_iald F (t := 0) rfl d_M_told_146 h (fun v10 h => ?_)
      exact x_iret F rfl hret d_M_told_147 ⟨_, rfl, h⟩
    have h := h.2 q2
    by_cases q3 : l4 = 3
    · have h := h.1 q3
      refine x_tabIn F (off := 69) (tgt := 148) d_M_told_79 q3 (by decide) (by decide) (by decide) (by decide) ?_
      refine x_aload_n F 1 d_M_told_148 rfl rfl ?_
      refine x_getR F cl_M in_M (k := 16) (by decide) k_617 rfl d_M_told_149 h (fun v11 h => ?_)
      refine x_iload_n F 2 d_M_told_152 rfl rfl ?_
      refine x_zald F (t := 1) rfl d_M_told_153 h (fun v12 h => ?_)
      refine x_if_eq F (tgt := 161) d_M_told_154 (by decide) h (fun q h => ?_) (fun q h => ?_)
      · refine x_iconst F (v := 0) d_M_told_161 (by decide) ?_
        exact x_iret F rfl hret d_M_told_162 ⟨_, rfl, h⟩
      · refine x_iconst F (v := 1) d_M_told_157 (by decide) ?_
        refine x_goto F (tgt := 162) d_M_told_158 (by decide) ?_
        exact x_iret F rfl hret d_M_told_162 ⟨_, rfl, h⟩
    have h := h.2 q3
    refine x_tabOut F (tgt := 163) d_M_told_79 (by have a0 := lv_neT (a := 0) q0 (by decide); have a1 := lv_neT (a := 1) q1 (by decide); have a2 := lv_neT (a := 2) q2 (by decide); have a3 := lv_neT (a := 3) q3 (by decide); omega) (by decide) ?_
    refine x_iload_n F 3 d_M_told_163 rfl rfl ?_
    refine x_istore F (lv' := [(6, .int l2), (5, .int (v2 + l2)), (0, va_rf (some th)), (1, .int l1), (2, .int l2), (3, .int l3), (4, .int l4)]) d_M_told_164 (by decide) rfl ?_
    refine x_iload_n F 4 d_M_told_166 rfl rfl ?_
    refine x_istore F (lv' := [(7, .int l2), (6, .int l2), (5, .int (v2 + l2)), (0, va_rf (some th)), (1, .int l1), (2, .int l2), (3, .int l3), (4, .int l4)]) d_M_told_167 (by decide) rfl ?_
    refine x_sub (lv' := [(0, va_rf (some th)), (1, .int l1), (2, .int l2), (3, .int l3), (6, .int l2), (7, .int l2)]) [3, 4, 5, 6, 1, 0] rfl ?_
    refine w_M_told_L169 F hret th l1 l2 l3 (fun m14 G h => ?_) _ _ _ _ h
    refine x_iload_n F 0 d_M_told_195 rfl rfl ?_
    refine x_iload F 1 d_M_told_196 rfl ?_
    refine x_iadd F d_M_told_198 ?_
    exact x_iret F rfl hret d_M_told_199 ⟨_, rfl, h⟩
  · refine x_iconst F (v := 4) d_M_told_17 (by decide) ?_
    refine x_iload F 0 d_M_told_18 rfl ?_
    refine x_imul F d_M_told_20 ?_
    refine x_iload F 5 d_M_told_21 rfl ?_
    refine x_iadd F d_M_told_23 ?_
    refine x_bipush F (v := 10) d_M_told_24 (by decide) ?_
    refine x_isub F d_M_told_26 ?_
    refine x_istore F (lv' := [(6, .int (((4 * (v2 + l2)) + l4) - 10)), (5, .int (v2 + l2)), (0, va_rf (some th)), (1, .int l1), (2, .int l2), (3, .int l3), (4, .int l4)]) d_M_told_27 (by decide) rfl ?_
    refine x_aload_n F 2 d_M_told_29 rfl rfl ?_
    refine x_getR F cl_M in_M (k := 24) (by decide) k_625 rfl d_M_told_30 h (fun v15 h => ?_)
    refine x_iload F 0 d_M_told_33 rfl ?_
    refine x_iald F (t := 0) rfl d_M_told_35 h (fun v16 h => ?_)
    refine x_if_ne F (tgt := 44) d_M_told_36 (by decide) h (fun q h => ?_) (fun q h => ?_)
    · refine x_aload_n F 2 d_M_told_44 rfl rfl ?_
      refine x_getR F cl_M in_M (k := 24) (by decide) k_625 rfl d_M_told_45 h (fun v17 h => ?_)
      refine x_iload F 0 d_M_told_48 rfl ?_
      refine x_iald F (t := 0) rfl d_M_told_50 h (fun v18 h => ?_)
      refine x_iconst F (v := 1) d_M_told_51 (by decide) ?_
      refine x_icmp_ne F (tgt := 65) d_M_told_52 (by decide) h (fun q h => ?_) (fun q h => ?_)
      · refine x_sipush F (v := 2000) d_M_told_65 (by decide) ?_
        refine x_aload_n F 2 d_M_told_68 rfl rfl ?_
        refine x_getR F cl_M in_M (k := 25) (by decide) k_626 rfl d_M_told_69 h (fun v19 h => ?_)
        refine x_iload F 0 d_M_told_72 rfl ?_
        refine x_iald F (t := 0) rfl d_M_told_74 h (fun v20 h => ?_)
        refine x_iadd F d_M_told_75 ?_
        exact x_iret F rfl hret d_M_told_76 ⟨_, rfl, h⟩
      · refine x_aload_n F 2 d_M_told_55 rfl rfl ?_
        refine x_getR F cl_M in_M (k := 25) (by decide) k_626 rfl d_M_told_56 h (fun v21 h => ?_)
        refine x_iload F 0 d_M_told_59 rfl ?_
        refine x_iald F (t := 0) rfl d_M_told_61 h (fun v22 h => ?_)
        refine x_goto F (tgt := 76) d_M_told_62 (by decide) ?_
        exact x_iret F rfl hret d_M_told_76 ⟨_, rfl, h⟩
    · refine x_bipush F (v := (-2)) d_M_told_39 (by decide) ?_
      refine x_goto F (tgt := 76) d_M_told_41 (by decide) ?_
      exact x_iret F rfl hret d_M_told_76 ⟨_, rfl, h⟩
def p_M_object_L49 (th : Nat) (l1 : Int32) (l2 : Int32) (l3 : Int32) (K : Int32 → xS → Prop) (Kx118 : xS → Prop) : Nat → Int32 → Int32 → xS → Prop
  | 0, _, _ => fun _ => False
  | n + 1, l4, l5 => xgI 10 18 (some th) fun v4 => xif (v4 ≤ l5) (Kx118) (xgR 10 14 (some th) fun v5 => xal 0 v5 l5 fun v6 => xif (v6 = l1) (xgR 10 12 (some th) fun v7 => xal 0 v7 l5 fun v8 => xif ((l4 + v8) ≤ l2) (xgR 10 12 (some th) fun v9 => xal 0 v9 l5 fun v10 => p_M_object_L49 th l1 l2 l3 K Kx118 n (l4 + v10) (l5 + 1)) (xob 10 (some th) fun b => xcall 0 0 (p_M_told b l5 (l2 - l4) l4 l3) fun v11 => K v11)) (p_M_object_L49 th l1 l2 l3 K Kx118 n l4 (l5 + 1)))
def p_M_object_B22 (th : Nat) (l1 : Int32) (l2 : Int32) (l3 : Int32)  (K : Int32 → xS → Prop) : xS → Prop := xgI 10 19 (some th) fun v2 => xcall 0 0 (p_M_in l1 0 (v2 - 1)) fun v3 => xif (v3 = 0) (K (-2)) (xif (0 ≤ l2) (p_M_object_L49 th l1 l2 l3 K (K (-2)) 1000 0 0) (K (-2)))
def p_M_object (th : Nat) (l1 : Int32) (l2 : Int32) (l3 : Int32) (K : Int32 → xS → Prop) : xS → Prop := xcall 0 0 (p_M_in l3 0 4) fun v1 => xif (v1 = 0) (xcall 0 0 (p_M_in l3 10 13) fun v12 => xif (v12 = 0) (K (-1)) (p_M_object_B22 th l1 l2 l3 K)) (p_M_object_B22 th l1 l2 l3 K)
abbrev X_M_object (p : Program) (l : Launch) (e : Env) (s : State) (m : MethodId) (args : Array Value) (below : List Frame) (meth : Method) (c : Code) (C0 S0 : Nat) (K : Int32 → xS → Prop) (D : va_G) (dA : Nat → ClassId) (base : Nat) (sa : Nat → Nat) (pc : Nat) (lv : List (Nat × Value)) (st : List Value) (G : xS) : Prop := xW p l e { frames := 2, cells := C0, slots := S0, locals := 51 } s m args below meth c 6 (MQ below (xQ D dA base (fun v G2 => ∃ r : Int32, v = some (.int r) ∧ K r G2)) args s C0 S0 (fun q : Nat => base ≤ q)) D dA base sa pc lv st G
set_option maxHeartbeats 4000000 in
set_option maxRecDepth 100000 in
theorem w_M_object_L49 {p : Program} {l : Launch} {e : Env} {s : State} {m : MethodId} {args : Array Value} {below : List Frame} {meth : Method} {c : Code} {C0 S0 : Nat} {D : va_G} {dA : Nat → ClassId} {base : Nat} {sa : Nat → Nat} (F : xFix p { frames := 2, cells := C0, slots := S0, locals := 51 } s m args meth c b_M_object 6 "BlockSearchModel" D dA base sa) (hret : meth.sig.returnType = (some FieldType.int)) {K : Int32 → xS → Prop} {Kx118 : xS → Prop} (th : Nat) (l1 : Int32) (l2 : Int32) (l3 : Int32) (hKx118 : ∀ (G : xS), Kx118  G → X_M_object p l e s m args below meth c C0 S0 K D dA base sa 118 [] [] G) : ∀ (n : Nat) (l4 : Int32) (l5 : Int32) (G : xS), p_M_object_L49 th l1 l2 l3 K Kx118 n l4 l5 G → X_M_object p l e s m args below meth c C0 S0 K D dA base sa 49 [(0, va_rf (some th)), (1, .int l1), (2, .int l2), (3, .int l3), (4, .int l4), (5, .int l5)] [] G := by
  intro n
  induction n with
  | zero => intro l4 l5 G h; exact h.elim
  | succ n ih =>
    intro l4 l5 G h
    unfold p_M_object_L49 at h
    refine x_iload F 5 d_M_object_49 rfl ?_
    refine x_aload_n F 0 d_M_object_51 rfl rfl ?_
    refine x_getI F cl_M in_M (k := 18) (by decide) k_619 rfl d_M_object_52 h (fun v4 h => ?_)
    refine x_icmp_ge F (tgt := 118) d_M_object_55 (by decide) h (fun q h => ?_) (fun q h => ?_)
    · refine x_sub (lv' := []) [] rfl ?_
      exact hKx118  _ h
    · refine x_aload_n F 0 d_M_object_58 rfl rfl ?_
      refine x_getR F cl_M in_M (k := 14) (by decide) k_615 rfl d_M_object_59 h (fun v5 h => ?_)
      refine x_iload F 5 d_M_object_62 rfl ?_
      refine x_iald F (t := 0) rfl d_M_object_64 h (fun v6 h => ?_)
      refine x_iload_n F 1 d_M_object_65 rfl rfl ?_
      refine x_icmp_eq F (tgt := 72) d_M_object_66 (by decide) h (fun q h => ?_) (fun q h => ?_)
      · refine x_iload_n F 2 d_M_object_72 rfl rfl ?_
        refine x_iload F 4 d_M_object_73 rfl ?_
        refine x_aload_n F 0 d_M_object_75 rfl rfl ?_
        refine x_getR F cl_M in_M (k := 12) (by decide) k_613 rfl d_M_object_76 h (fun v7 h => ?_)
        refine x_iload F 5 d_M_object_79 rfl ?_
        refine x_iald F (t := 0) rfl d_M_object_81 h (fun v8 h => ?_)
        refine x_iadd F d_M_object_82 ?_
        refine x_icmp_ge F (tgt := 100) d_M_object_83 (by decide) h (fun q h => ?_) (fun q h => ?_)
        · refine x_iload F 4 d_M_object_100 rfl ?_
          refine x_aload_n F 0 d_M_object_102 rfl rfl ?_
          refine x_getR F cl_M in_M (k := 12) (by decide) k_613 rfl d_M_object_103 h (fun v9 h => ?_)
          refine x_iload F 5 d_M_object_106 rfl ?_
          refine x_iald F (t := 0) rfl d_M_object_108 h (fun v10 h => ?_)
          refine x_iadd F d_M_object_109 ?_
          refine x_istore F (lv' := [(4, .int (l4 + v10)), (0, va_rf (some th)), (1, .int l1), (2, .int l2), (3, .int l3), (5, .int l5)]) d_M_object_110 (by decide) rfl ?_
          refine x_iinc F 5 (v := (l5 + 1)) (lv' := [(5, .int (l5 + 1)), (4, .int (l4 + v10)), (0, va_rf (some th)), (1, .int l1), (2, .int l2), (3, .int l3)]) d_M_object_112 rfl (congrArg (fun z : Int32 => l5 + z) (by decide)) (by decide) rfl ?_
          refine x_goto F (tgt := 49) d_M_object_115 (by decide) ?_
          refine x_sub (lv' := [(0, va_rf (some th)), (1, .int l1), (2, .int l2), (3, .int l3), (4, .int (l4 + v10)), (5, .int (l5 + 1))]) [2, 3, 4, 5, 1, 0] rfl ?_
          exact ih _ _ _ h
        · refine x_aload_n F 0 d_M_object_86 rfl rfl ?_
          refine x_iload F 5 d_M_object_87 rfl ?_
          refine x_iload_n F 2 d_M_object_89 rfl rfl ?_
          refine x_iload F 4 d_M_object_90 rfl ?_
          refine x_isub F d_M_object_92 ?_
          refine x_iload F 4 d_M_object_93 rfl ?_
          refine x_iload_n F 3 d_M_object_95 rfl rfl ?_
          refine x_callV F (enc := fun r => some (.int r)) (P := fun b => p_M_told b l5 (l2 - l4) l4 l3) (n := 4) (As := [.int l5, .int (l2 - l4), .int l4, .int l3]) (st := []) k_871 k_9 k_870 kp_23 k_868 ⟨by decide, by decide, by decide +kernel⟩ rfl ⟨Nat.le_of_ble_eq_true rfl, Nat.le_of_ble_eq_true rfl⟩ (by simp [x_cat, x_catI, x_catL]) cl_M rfl (ro := some th) (fun b K' G' h' _ => c_M_told l D dA base sa b l5 (l2 - l4) l4 l3 K' G' h') d_M_object_96 h (fun v11 G h => ?_)
          exact x_iret F rfl hret d_M_object_99 ⟨_, rfl, h⟩
      · refine x_goto F (tgt := 112) d_M_object_69 (by decide) ?_
        refine x_iinc F 5 (v := (l5 + 1)) (lv' := [(5, .int (l5 + 1)), (0, va_rf (some th)), (1, .int l1), (2, .int l2), (3, .int l3), (4, .int l4)]) d_M_object_112 rfl (congrArg (fun z : Int32 => l5 + z) (by decide)) (by decide) rfl ?_
        refine x_goto F (tgt := 49) d_M_object_115 (by decide) ?_
        refine x_sub (lv' := [(0, va_rf (some th)), (1, .int l1), (2, .int l2), (3, .int l3), (4, .int l4), (5, .int (l5 + 1))]) [1, 2, 3, 4, 5, 0] rfl ?_
        exact ih _ _ _ h
set_option maxHeartbeats 4000000 in
set_option maxRecDepth 100000 in
theorem w_M_object_B22 {p : Program} {l : Launch} {e : Env} {s : State} {m : MethodId} {args : Array Value} {below : List Frame} {meth : Method} {c : Code} {C0 S0 : Nat} {D : va_G} {dA : Nat → ClassId} {base : Nat} {sa : Nat → Nat} (F : xFix p { frames := 2, cells := C0, slots := S0, locals := 51 } s m args meth c b_M_object 6 "BlockSearchModel" D dA base sa) (hret : meth.sig.returnType = (some FieldType.int)) {K : Int32 → xS → Prop} (th : Nat) (l1 : Int32) (l2 : Int32) (l3 : Int32)  {G : xS} (h : p_M_object_B22 th l1 l2 l3 K  G) : X_M_object p l e s m args below meth c C0 S0 K D dA base sa 22 [(0, va_rf (some th)), (1, .int l1), (2, .int l2), (3, .int l3)] [] G := by
  unfold p_M_object_B22 at h
  refine x_iload_n F 1 d_M_object_22 rfl rfl ?_
  refine x_iconst F (v := 0) d_M_object_23 (by decide) ?_
  refine x_aload_n F 0 d_M_object_24 rfl rfl ?_
  refine x_getI F cl_M in_M (k := 19) (by decide) k_620 rfl d_M_object_25 h (fun v2 h => ?_)
  refine x_iconst F (v := 1) d_M_object_28 (by decide) ?_
  refine x_isub F d_M_object_29 ?_
  refine x_callS F (enc := fun r => some (.int r)) (P := p_M_in l1 0 (v2 - 1)) (n := 3) (As := [.int l1, .int 0, .int (v2 - 1)]) (st := []) k_744 k_9 k_743 k_742 ⟨by decide, by decide, by decide +kernel⟩ rfl ⟨Nat.le_of_ble_eq_true rfl, Nat.le_of_ble_eq_true rfl⟩ (by simp [x_cat, x_catI, x_catL]) (fun K' G' h' _ => c_M_in l D dA base sa l1 0 (v2 - 1) K' G' h') d_M_object_30 h (fun v3 G h => ?_)
  refine x_if_eq F (tgt := 40) d_M_object_33 (by decide) h (fun q h => ?_) (fun q h => ?_)
  · refine x_bipush F (v := (-2)) d_M_object_40 (by decide) ?_
    exact x_iret F rfl hret d_M_object_42 ⟨_, rfl, h⟩
  · refine x_iload_n F 2 d_M_object_36 rfl rfl ?_
    refine x_if_ge F (tgt := 43) d_M_object_37 (by decide) h (fun q h => ?_) (fun q h => ?_)
    · refine x_iconst F (v := 0) d_M_object_43 (by decide) ?_
      refine x_istore F (lv' := [(4, .int 0), (0, va_rf (some th)), (1, .int l1), (2, .int l2), (3, .int l3)]) d_M_object_44 (by decide) rfl ?_
      refine x_iconst F (v := 0) d_M_object_46 (by decide) ?_
      refine x_istore F (lv' := [(5, .int 0), (4, .int 0), (0, va_rf (some th)), (1, .int l1), (2, .int l2), (3, .int l3)]) d_M_object_47 (by decide) rfl ?_
      refine x_sub (lv' := [(0, va_rf (some th)), (1, .int l1), (2, .int l2), (3, .int l3), (4, .int 0), (5, .int 0)]) [2, 3, 4, 5, 1, 0] rfl ?_
      refine w_M_object_L49 F hret th l1 l2 l3 (fun G h => ?_) _ _ _ _ h
      refine x_bipush F (v := (-2)) d_M_object_118 (by decide) ?_
      exact x_iret F rfl hret d_M_object_120 ⟨_, rfl, h⟩
    · refine x_bipush F (v := (-2)) d_M_object_40 (by decide) ?_
      exact x_iret F rfl hret d_M_object_42 ⟨_, rfl, h⟩
set_option maxHeartbeats 4000000 in
set_option maxRecDepth 100000 in
theorem c_M_object (l : Launch) (D : va_G) (dA : Nat → ClassId) (base : Nat) (sa : Nat → Nat) (th : Nat) (l1 : Int32) (l2 : Int32) (l3 : Int32) (K : Int32 → xS → Prop) (G : xS) (h : p_M_object th l1 l2 l3 K G) : xMet l y_M_object b_M_object 6 (some FieldType.int) 2 51 D dA base sa [va_rf (some th), .int l1, .int l2, .int l3] G (fun v G2 => ∃ r : Int32, v = some (.int r) ∧ K r G2) := by
  refine xMet.of (by decide) (by simp [x_cat, x_catI]) (Nat.le_of_ble_eq_true rfl) ?_
  intro p e s m args below meth c F hret hname
  unfold p_M_object at h
  refine x_sub (lv' := [(0, va_rf (some th)), (1, .int l1), (2, .int l2), (3, .int l3)]) [0, 1, 2, 3] rfl ?_
  refine x_iload_n F 3 d_M_object_0 rfl rfl ?_
  refine x_iconst F (v := 0) d_M_object_1 (by decide) ?_
  refine x_iconst F (v := 4) d_M_object_2 (by decide) ?_
  refine x_callS F (enc := fun r => some (.int r)) (P := p_M_in l3 0 4) (n := 3) (As := [.int l3, .int 0, .int 4]) (st := []) k_744 k_9 k_743 k_742 ⟨by decide, by decide, by decide +kernel⟩ rfl ⟨Nat.le_of_ble_eq_true rfl, Nat.le_of_ble_eq_true rfl⟩ (by simp [x_cat, x_catI, x_catL]) (fun K' G' h' _ => c_M_in l D dA base sa l3 0 4 K' G' h') d_M_object_3 h (fun v1 G h => ?_)
  refine x_if_ne F (tgt := 22) d_M_object_6 (by decide) h (fun q h => ?_) (fun q h => ?_)
  · exact w_M_object_B22 F hret th l1 l2 l3 h
  · refine x_iload_n F 3 d_M_object_9 rfl rfl ?_
    refine x_bipush F (v := 10) d_M_object_10 (by decide) ?_
    refine x_bipush F (v := 13) d_M_object_12 (by decide) ?_
    refine x_callS F (enc := fun r => some (.int r)) (P := p_M_in l3 10 13) (n := 3) (As := [.int l3, .int 10, .int 13]) (st := []) k_744 k_9 k_743 k_742 ⟨by decide, by decide, by decide +kernel⟩ rfl ⟨Nat.le_of_ble_eq_true rfl, Nat.le_of_ble_eq_true rfl⟩ (by simp [x_cat, x_catI, x_catL]) (fun K' G' h' _ => c_M_in l D dA base sa l3 10 13 K' G' h') d_M_object_14 h (fun v12 G h => ?_)
    refine x_if_ne F (tgt := 22) d_M_object_17 (by decide) h (fun q h => ?_) (fun q h => ?_)
    · exact w_M_object_B22 F hret th l1 l2 l3 h
    · refine x_iconst F (v := (-1)) d_M_object_20 (by decide) ?_
      exact x_iret F rfl hret d_M_object_21 ⟨_, rfl, h⟩
def p_M_type (th : Nat) (l1 : Int32) (l2 : Int32) (K : Int32 → xS → Prop) : xS → Prop := xcall 0 0 (p_M_in l1 0 3) fun v1 => xif (v1 = 0) (K (-1)) (xcall 0 0 (p_M_in l2 0 3) fun v2 => xif (v2 = 0) (K (-1)) (xgR 10 9 (some th) fun v3 => xal 0 v3 ((4 * l1) + l2) fun v4 => K v4))
abbrev X_M_type (p : Program) (l : Launch) (e : Env) (s : State) (m : MethodId) (args : Array Value) (below : List Frame) (meth : Method) (c : Code) (C0 S0 : Nat) (K : Int32 → xS → Prop) (D : va_G) (dA : Nat → ClassId) (base : Nat) (sa : Nat → Nat) (pc : Nat) (lv : List (Nat × Value)) (st : List Value) (G : xS) : Prop := xW p l e { frames := 1, cells := C0, slots := S0, locals := 22 } s m args below meth c 3 (MQ below (xQ D dA base (fun v G2 => ∃ r : Int32, v = some (.int r) ∧ K r G2)) args s C0 S0 (fun q : Nat => base ≤ q)) D dA base sa pc lv st G
set_option maxHeartbeats 4000000 in
set_option maxRecDepth 100000 in
theorem c_M_type (l : Launch) (D : va_G) (dA : Nat → ClassId) (base : Nat) (sa : Nat → Nat) (th : Nat) (l1 : Int32) (l2 : Int32) (K : Int32 → xS → Prop) (G : xS) (h : p_M_type th l1 l2 K G) : xMet l y_M_type b_M_type 3 (some FieldType.int) 1 22 D dA base sa [va_rf (some th), .int l1, .int l2] G (fun v G2 => ∃ r : Int32, v = some (.int r) ∧ K r G2) := by
  refine xMet.of (by decide) (by simp [x_cat, x_catI]) (Nat.le_of_ble_eq_true rfl) ?_
  intro p e s m args below meth c F hret hname
  unfold p_M_type at h
  refine x_sub (lv' := [(0, va_rf (some th)), (1, .int l1), (2, .int l2)]) [0, 1, 2] rfl ?_
  refine x_iload_n F 1 d_M_type_0 rfl rfl ?_
  refine x_iconst F (v := 0) d_M_type_1 (by decide) ?_
  refine x_iconst F (v := 3) d_M_type_2 (by decide) ?_
  refine x_callS F (enc := fun r => some (.int r)) (P := p_M_in l1 0 3) (n := 3) (As := [.int l1, .int 0, .int 3]) (st := []) k_744 k_9 k_743 k_742 ⟨by decide, by decide, by decide +kernel⟩ rfl ⟨Nat.le_of_ble_eq_true rfl, Nat.le_of_ble_eq_true rfl⟩ (by simp [x_cat, x_catI, x_catL]) (fun K' G' h' _ => c_M_in l D dA base sa l1 0 3 K' G' h') d_M_type_3 h (fun v1 G h => ?_)
  refine x_if_eq F (tgt := 31) d_M_type_6 (by decide) h (fun q h => ?_) (fun q h => ?_)
  · refine x_iconst F (v := (-1)) d_M_type_31 (by decide) ?_
    exact x_iret F rfl hret d_M_type_32 ⟨_, rfl, h⟩
  · refine x_iload_n F 2 d_M_type_9 rfl rfl ?_
    refine x_iconst F (v := 0) d_M_type_10 (by decide) ?_
    refine x_iconst F (v := 3) d_M_type_11 (by decide) ?_
    refine x_callS F (enc := fun r => some (.int r)) (P := p_M_in l2 0 3) (n := 3) (As := [.int l2, .int 0, .int 3]) (st := []) k_744 k_9 k_743 k_742 ⟨by decide, by decide, by decide +kernel⟩ rfl ⟨Nat.le_of_ble_eq_true rfl, Nat.le_of_ble_eq_true rfl⟩ (by simp [x_cat, x_catI, x_catL]) (fun K' G' h' _ => c_M_in l D dA base sa l2 0 3 K' G' h') d_M_type_12 h (fun v2 G h => ?_)
    refine x_if_eq F (tgt := 31) d_M_type_15 (by decide) h (fun q h => ?_) (fun q h => ?_)
    · refine x_iconst F (v := (-1)) d_M_type_31 (by decide) ?_
      exact x_iret F rfl hret d_M_type_32 ⟨_, rfl, h⟩
    · refine x_aload_n F 0 d_M_type_18 rfl rfl ?_
      refine x_getR F cl_M in_M (k := 9) (by decide) k_610 rfl d_M_type_19 h (fun v3 h => ?_)
      refine x_iconst F (v := 4) d_M_type_22 (by decide) ?_
      refine x_iload_n F 1 d_M_type_23 rfl rfl ?_
      refine x_imul F d_M_type_24 ?_
      refine x_iload_n F 2 d_M_type_25 rfl rfl ?_
      refine x_iadd F d_M_type_26 ?_
      refine x_iald F (t := 0) rfl d_M_type_27 h (fun v4 h => ?_)
      refine x_goto F (tgt := 32) d_M_type_28 (by decide) ?_
      exact x_iret F rfl hret d_M_type_32 ⟨_, rfl, h⟩
def p_M_inSegment_L5 (th : Nat) (l1 : Int32) (l2 : Int32) (K : Int32 → xS → Prop) (Kx63 : Int32 → xS → Prop) : Nat → Int32 → Int32 → xS → Prop
  | 0, _, _ => fun _ => False
  | n + 1, l3, l4 => xgI 10 18 (some th) fun v1 => xif (v1 ≤ l4) (Kx63 l3) (xgR 10 14 (some th) fun v2 => xal 0 v2 l4 fun v3 => xif (v3 = l1) (xif (l2 = 0) (xgR 10 12 (some th) fun v6 => xal 0 v6 l4 fun v7 => p_M_inSegment_L5 th l1 l2 K Kx63 n (l3 + v7) (l4 + 1)) (xgR 10 16 (some th) fun v4 => xal 1 v4 l4 fun v5 => xif (v5 = 0) (p_M_inSegment_L5 th l1 l2 K Kx63 n (l3 + 0) (l4 + 1)) (p_M_inSegment_L5 th l1 l2 K Kx63 n (l3 + 1) (l4 + 1)))) (p_M_inSegment_L5 th l1 l2 K Kx63 n l3 (l4 + 1)))
def p_M_inSegment (th : Nat) (l1 : Int32) (l2 : Int32) (K : Int32 → xS → Prop) : xS → Prop := p_M_inSegment_L5 th l1 l2 K (fun m8 => K m8) 1000 0 0
abbrev X_M_inSegment (p : Program) (l : Launch) (e : Env) (s : State) (m : MethodId) (args : Array Value) (below : List Frame) (meth : Method) (c : Code) (C0 S0 : Nat) (K : Int32 → xS → Prop) (D : va_G) (dA : Nat → ClassId) (base : Nat) (sa : Nat → Nat) (pc : Nat) (lv : List (Nat × Value)) (st : List Value) (G : xS) : Prop := xW p l e { frames := 0, cells := C0, slots := S0, locals := 0 } s m args below meth c 5 (MQ below (xQ D dA base (fun v G2 => ∃ r : Int32, v = some (.int r) ∧ K r G2)) args s C0 S0 (fun q : Nat => base ≤ q)) D dA base sa pc lv st G
set_option maxHeartbeats 4000000 in
set_option maxRecDepth 100000 in
theorem w_M_inSegment_L5 {p : Program} {l : Launch} {e : Env} {s : State} {m : MethodId} {args : Array Value} {below : List Frame} {meth : Method} {c : Code} {C0 S0 : Nat} {D : va_G} {dA : Nat → ClassId} {base : Nat} {sa : Nat → Nat} (F : xFix p { frames := 0, cells := C0, slots := S0, locals := 0 } s m args meth c b_M_inSegment 5 "BlockSearchModel" D dA base sa) (hret : meth.sig.returnType = (some FieldType.int)) {K : Int32 → xS → Prop} {Kx63 : Int32 → xS → Prop} (th : Nat) (l1 : Int32) (l2 : Int32) (hKx63 : ∀ (l3 : Int32) (G : xS), Kx63 l3 G → X_M_inSegment p l e s m args below meth c C0 S0 K D dA base sa 63 [(3, .int l3)] [] G) : ∀ (n : Nat) (l3 : Int32) (l4 : Int32) (G : xS), p_M_inSegment_L5 th l1 l2 K Kx63 n l3 l4 G → X_M_inSegment p l e s m args below meth c C0 S0 K D dA base sa 5 [(0, va_rf (some th)), (1, .int l1), (2, .int l2), (3, .int l3), (4, .int l4)] [] G := by
  intro n
  induction n with
  | zero => intro l3 l4 G h; exact h.elim
  | succ n ih =>
    intro l3 l4 G h
    unfold p_M_inSegment_L5 at h
    refine x_iload F 4 d_M_inSegment_5 rfl ?_
    refine x_aload_n F 0 d_M_inSegment_7 rfl rfl ?_
    refine x_getI F cl_M in_M (k := 18) (by decide) k_619 rfl d_M_inSegment_8 h (fun v1 h => ?_)
    refine x_icmp_ge F (tgt := 63) d_M_inSegment_11 (by decide) h (fun q h => ?_) (fun q h => ?_)
    · refine x_sub (lv' := [(3, .int l3)]) [3] rfl ?_
      exact hKx63 _ _ h
    · refine x_aload_n F 0 d_M_inSegment_14 rfl rfl ?_
      refine x_getR F cl_M in_M (k := 14) (by decide) k_615 rfl d_M_inSegment_15 h (fun v2 h => ?_)
      refine x_iload F 4 d_M_inSegment_18 rfl ?_
      refine x_iald F (t := 0) rfl d_M_inSegment_20 h (fun v3 h => ?_)
      refine x_iload_n F 1 d_M_inSegment_21 rfl rfl ?_
      refine x_icmp_ne F (tgt := 57) d_M_inSegment_22 (by decide) h (fun q h => ?_) (fun q h => ?_)
      · refine x_iinc F 4 (v := (l4 + 1)) (lv' := [(4, .int (l4 + 1)), (0, va_rf (some th)), (1, .int l1), (2, .int l2), (3, .int l3)]) d_M_inSegment_57 rfl (congrArg (fun z : Int32 => l4 + z) (by decide)) (by decide) rfl ?_
        refine x_goto F (tgt := 5) d_M_inSegment_60 (by decide) ?_
        refine x_sub (lv' := [(0, va_rf (some th)), (1, .int l1), (2, .int l2), (3, .int l3), (4, .int (l4 + 1))]) [1, 2, 3, 4, 0] rfl ?_
        exact ih _ _ _ h
      · refine x_iload_n F 3 d_M_inSegment_25 rfl rfl ?_
        refine x_iload_n F 2 d_M_inSegment_26 rfl rfl ?_
        refine x_if_ne F (tgt := 40) d_M_inSegment_27 (by decide) h (fun q h => ?_) (fun q h => ?_)
        · refine x_aload_n F 0 d_M_inSegment_40 rfl rfl ?_
          refine x_getR F cl_M in_M (k := 16) (by decide) k_617 rfl d_M_inSegment_41 h (fun v4 h => ?_)
          refine x_iload F 4 d_M_inSegment_44 rfl ?_
          refine x_zald F (t := 1) rfl d_M_inSegment_46 h (fun v5 h => ?_)
          refine x_if_eq F (tgt := 54) d_M_inSegment_47 (by decide) h (fun q h => ?_) (fun q h => ?_)
          · refine x_iconst F (v := 0) d_M_inSegment_54 (by decide) ?_
            refine x_iadd F d_M_inSegment_55 ?_
            refine x_istore_n F (lv' := [(3, .int (l3 + 0)), (0, va_rf (some th)), (1, .int l1), (2, .int l2), (4, .int l4)]) d_M_inSegment_56 rfl (by decide) rfl ?_
            refine x_iinc F 4 (v := (l4 + 1)) (lv' := [(4, .int (l4 + 1)), (3, .int (l3 + 0)), (0, va_rf (some th)), (1, .int l1), (2, .int l2)]) d_M_inSegment_57 rfl (congrArg (fun z : Int32 => l4 + z) (by decide)) (by decide) rfl ?_
            refine x_goto F (tgt := 5) d_M_inSegment_60 (by decide) ?_
            refine x_sub (lv' := [(0, va_rf (some th)), (1, .int l1), (2, .int l2), (3, .int (l3 + 0)), (4, .int (l4 + 1))]) [2, 3, 4, 1, 0] rfl ?_
            exact ih _ _ _ h
          · refine x_iconst F (v := 1) d_M_inSegment_50 (by decide) ?_
            refine x_goto F (tgt := 55) d_M_inSegment_51 (by decide) ?_
            refine x_iadd F d_M_inSegment_55 ?_
            refine x_istore_n F (lv' := [(3, .int (l3 + 1)), (0, va_rf (some th)), (1, .int l1), (2, .int l2), (4, .int l4)]) d_M_inSegment_56 rfl (by decide) rfl ?_
            refine x_iinc F 4 (v := (l4 + 1)) (lv' := [(4, .int (l4 + 1)), (3, .int (l3 + 1)), (0, va_rf (some th)), (1, .int l1), (2, .int l2)]) d_M_inSegment_57 rfl (congrArg (fun z : Int32 => l4 + z) (by decide)) (by decide) rfl ?_
            refine x_goto F (tgt := 5) d_M_inSegment_60 (by decide) ?_
            refine x_sub (lv' := [(0, va_rf (some th)), (1, .int l1), (2, .int l2), (3, .int (l3 + 1)), (4, .int (l4 + 1))]) [2, 3, 4, 1, 0] rfl ?_
            exact ih _ _ _ h
        · refine x_aload_n F 0 d_M_inSegment_30 rfl rfl ?_
          refine x_getR F cl_M in_M (k := 12) (by decide) k_613 rfl d_M_inSegment_31 h (fun v6 h => ?_)
          refine x_iload F 4 d_M_inSegment_34 rfl ?_
          refine x_iald F (t := 0) rfl d_M_inSegment_36 h (fun v7 h => ?_)
          refine x_goto F (tgt := 55) d_M_inSegment_37 (by decide) ?_
          refine x_iadd F d_M_inSegment_55 ?_
          refine x_istore_n F (lv' := [(3, .int (l3 + v7)), (0, va_rf (some th)), (1, .int l1), (2, .int l2), (4, .int l4)]) d_M_inSegment_56 rfl (by decide) rfl ?_
          refine x_iinc F 4 (v := (l4 + 1)) (lv' := [(4, .int (l4 + 1)), (3, .int (l3 + v7)), (0, va_rf (some th)), (1, .int l1), (2, .int l2)]) d_M_inSegment_57 rfl (congrArg (fun z : Int32 => l4 + z) (by decide)) (by decide) rfl ?_
          refine x_goto F (tgt := 5) d_M_inSegment_60 (by decide) ?_
          refine x_sub (lv' := [(0, va_rf (some th)), (1, .int l1), (2, .int l2), (3, .int (l3 + v7)), (4, .int (l4 + 1))]) [2, 3, 4, 1, 0] rfl ?_
          exact ih _ _ _ h
set_option maxHeartbeats 4000000 in
set_option maxRecDepth 100000 in
theorem c_M_inSegment (l : Launch) (D : va_G) (dA : Nat → ClassId) (base : Nat) (sa : Nat → Nat) (th : Nat) (l1 : Int32) (l2 : Int32) (K : Int32 → xS → Prop) (G : xS) (h : p_M_inSegment th l1 l2 K G) : xMet l y_M_inSegment b_M_inSegment 5 (some FieldType.int) 0 0 D dA base sa [va_rf (some th), .int l1, .int l2] G (fun v G2 => ∃ r : Int32, v = some (.int r) ∧ K r G2) := by
  refine xMet.of (by decide) (by simp [x_cat, x_catI]) (Nat.le_of_ble_eq_true rfl) ?_
  intro p e s m args below meth c F hret hname
  unfold p_M_inSegment at h
  refine x_sub (lv' := [(0, va_rf (some th)), (1, .int l1), (2, .int l2)]) [0, 1, 2] rfl ?_
  refine x_iconst F (v := 0) d_M_inSegment_0 (by decide) ?_
  refine x_istore_n F (lv' := [(3, .int 0), (0, va_rf (some th)), (1, .int l1), (2, .int l2)]) d_M_inSegment_1 rfl (by decide) rfl ?_
  refine x_iconst F (v := 0) d_M_inSegment_2 (by decide) ?_
  refine x_istore F (lv' := [(4, .int 0), (3, .int 0), (0, va_rf (some th)), (1, .int l1), (2, .int l2)]) d_M_inSegment_3 (by decide) rfl ?_
  refine x_sub (lv' := [(0, va_rf (some th)), (1, .int l1), (2, .int l2), (3, .int 0), (4, .int 0)]) [2, 3, 4, 1, 0] rfl ?_
  refine w_M_inSegment_L5 F hret th l1 l2 (fun m8 G h => ?_) _ _ _ _ h
  refine x_iload_n F 0 d_M_inSegment_63 rfl rfl ?_
  exact x_iret F rfl hret d_M_inSegment_64 ⟨_, rfl, h⟩
