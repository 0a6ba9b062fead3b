def p_M_number (th : Nat) (l1 : Int32) (l2 : Int32) (K : Int32 → xS → Prop) : xS → Prop := xcall 0 0 (p_M_in l1 0 3) fun v1 => xif (v1 = 0) (xrz 0 K) (xcall 0 0 (p_M_in l2 (-1000) 1000) fun v2 => xif (v2 = 0) (xrz 0 K) (xgI 10 8 (some th) fun v3 => xif (0 ≤ v3) (xgR 10 3 (some th) fun v4 => xgI 10 8 (some th) fun v5 => xas 0 v4 ((4 * v5) + l1) 1 (xgR 10 4 (some th) fun v6 => xgI 10 8 (some th) fun v7 => xas 0 v6 ((4 * v7) + l1) l2 (xrz 1 K))) (xrz 0 K)))
abbrev X_M_number (p : Program) (l : Launch) (e : Env) (s : State) (m : MethodId) (args : Array Value) (below : List Frame) (meth : Method) (c : Code) (C0 S0 : Nat) (K : Int32 → xS → Prop) (D : va_G) (dA : Nat → ClassId) (base : Nat) (sa : Nat → Nat) (pc : Nat) (lv : List (Nat × Value)) (st : List Value) (G : xS) : Prop := xW p l e { frames := 1, cells := C0, slots := S0, locals := 22 } s m args below meth c 3 (MQ below (xQ D dA base (fun v G2 => ∃ r : Int32, v = some (.int r) ∧ K r G2)) args s C0 S0 (fun q : Nat => base ≤ q)) D dA base sa pc lv st G
set_option maxHeartbeats 4000000 in
set_option maxRecDepth 100000 in
theorem c_M_number (l : Launch) (D : va_G) (dA : Nat → ClassId) (base : Nat) (sa : Nat → Nat) (th : Nat) (l1 : Int32) (l2 : Int32) (K : Int32 → xS → Prop) (G : xS) (h : p_M_number th l1 l2 K G) : xMet l y_M_number b_M_number 3 (some FieldType.boolean) 1 22 D dA base sa [va_rf (some th), .int l1, .int l2] G (fun v G2 => ∃ r : Int32, v = some (.int r) ∧ K r G2) := by
  refine xMet.of (by decide) (by simp [x_cat, x_catI]) (Nat.le_of_ble_eq_true rfl) ?_
  intro p e s m args below meth c F hret hname
  unfold p_M_number at h
  refine x_sub (lv' := [(0, va_rf (some th)), (1, .int l1), (2, .int l2)]) [0, 1, 2] rfl ?_
  refine x_iload_n F 1 d_M_number_0 rfl rfl ?_
  refine x_iconst F (v := 0) d_M_number_1 (by decide) ?_
  refine x_iconst F (v := 3) d_M_number_2 (by decide) ?_
  refine x_callS F (enc := fun r => some (.int r)) (P := p_M_in l1 0 3) (n := 3) (As := [.int l1, .int 0, .int 3]) (st := []) k_744 k_9 k_743 k_742 ⟨by decide, by decide, by decide +kernel⟩ rfl ⟨Nat.le_of_ble_eq_true rfl, Nat.le_of_ble_eq_true rfl⟩ (by simp [x_cat, x_catI, x_catL]) (fun K' G' h' _ => c_M_in l D dA base sa l1 0 3 K' G' h') d_M_number_3 h (fun v1 G h => ?_)
  refine x_if_eq F (tgt := 29) d_M_number_6 (by decide) h (fun q h => ?_) (fun q h => ?_)
  · refine x_iconst F (v := 0) d_M_number_29 (by decide) ?_
    exact x_zret F rfl hret d_M_number_30 h (fun h => ⟨_, rfl, h⟩)
  · refine x_iload_n F 2 d_M_number_9 rfl rfl ?_
    refine x_sipush F (v := (-1000)) d_M_number_10 (by decide) ?_
    refine x_sipush F (v := 1000) d_M_number_13 (by decide) ?_
    refine x_callS F (enc := fun r => some (.int r)) (P := p_M_in l2 (-1000) 1000) (n := 3) (As := [.int l2, .int (-1000), .int 1000]) (st := []) k_744 k_9 k_743 k_742 ⟨by decide, by decide, by decide +kernel⟩ rfl ⟨Nat.le_of_ble_eq_true rfl, Nat.le_of_ble_eq_true rfl⟩ (by simp [x_cat, x_catI, x_catL]) (fun K' G' h' _ => c_M_in l D dA base sa l2 (-1000) 1000 K' G' h') d_M_number_16 h (fun v2 G h => ?_)
    refine x_if_eq F (tgt := 29) d_M_number_19 (by decide) h (fun q h => ?_) (fun q h => ?_)
    · refine x_iconst F (v := 0) d_M_number_29 (by decide) ?_
      exact x_zret F rfl hret d_M_number_30 h (fun h => ⟨_, rfl, h⟩)
    · refine x_aload_n F 0 d_M_number_22 rfl rfl ?_
      refine x_getI F cl_M in_M (k := 8) (by decide) k_609 rfl d_M_number_23 h (fun v3 h => ?_)
      refine x_if_ge F (tgt := 31) d_M_number_26 (by decide) h (fun q h => ?_) (fun q h => ?_)
      · refine x_aload_n F 0 d_M_number_31 rfl rfl ?_
        refine x_getR F cl_M in_M (k := 3) (by decide) k_604 rfl d_M_number_32 h (fun v4 h => ?_)
        refine x_iconst F (v := 4) d_M_number_35 (by decide) ?_
        refine x_aload_n F 0 d_M_number_36 rfl rfl ?_
        refine x_getI F cl_M in_M (k := 8) (by decide) k_609 rfl d_M_number_37 h (fun v5 h => ?_)
        refine x_imul F d_M_number_40 ?_
        refine x_iload_n F 1 d_M_number_41 rfl rfl ?_
        refine x_iadd F d_M_number_42 ?_
        refine x_iconst F (v := 1) d_M_number_43 (by decide) ?_
        refine x_iast F (t := 0) rfl d_M_number_44 h (fun G h => ?_)
        refine x_aload_n F 0 d_M_number_45 rfl rfl ?_
        refine x_getR F cl_M in_M (k := 4) (by decide) k_605 rfl d_M_number_46 h (fun v6 h => ?_)
        refine x_iconst F (v := 4) d_M_number_49 (by decide) ?_
        refine x_aload_n F 0 d_M_number_50 rfl rfl ?_
        refine x_getI F cl_M in_M (k := 8) (by decide) k_609 rfl d_M_number_51 h (fun v7 h => ?_)
        refine x_imul F d_M_number_54 ?_
        refine x_iload_n F 1 d_M_number_55 rfl rfl ?_
        refine x_iadd F d_M_number_56 ?_
        refine x_iload_n F 2 d_M_number_57 rfl rfl ?_
        refine x_iast F (t := 0) rfl d_M_number_58 h (fun G h => ?_)
        refine x_iconst F (v := 1) d_M_number_59 (by decide) ?_
        exact x_zret F rfl hret d_M_number_60 h (fun h => ⟨_, rfl, h⟩)
      · refine x_iconst F (v := 0) d_M_number_29 (by decide) ?_
        exact x_zret F rfl hret d_M_number_30 h (fun h => ⟨_, rfl, h⟩)
def p_M_word_B107 (th : Nat) (l2 : Int32) (l3 : Int32)  (K : Int32 → xS → Prop) : xS → Prop := xgR 10 5 (some th) fun v11 => xalL 6 v11 l3 fun v12 => xgR 10 4 (some th) fun v13 => xal 0 v13 l3 fun v14 => xasL 6 v11 l3 (v12 ||| (l2.toInt64 <<< ((5 * v14).toInt64 &&& 63))) (xgR 10 4 (some th) fun v15 => xal 0 v15 l3 fun v16 => xas 0 v15 l3 (v16 + 1) (xgR 10 4 (some th) fun v17 => xal 0 v17 l3 fun v18 => K v18))
def p_M_word_B77 (th : Nat) (l2 : Int32) (l3 : Int32)  (K : Int32 → xS → Prop) : xS → Prop := xgR 10 3 (some th) fun v9 => xal 0 v9 l3 fun v10 => xif (v10 = 0) (xgR 10 3 (some th) fun v19 => xas 0 v19 l3 2 (xgR 10 4 (some th) fun v20 => xas 0 v20 l3 0 (xgR 10 5 (some th) fun v21 => xasL 6 v21 l3 0 (p_M_word_B107 th l2 l3 K)))) (p_M_word_B107 th l2 l3 K)
def p_M_word (th : Nat) (l1 : Int32) (l2 : Int32) (K : Int32 → xS → Prop) : xS → Prop := xcall 0 0 (p_M_in l1 0 3) fun v1 => xif (v1 = 0) (K (-1)) (xcall 0 0 (p_M_in l2 0 25) fun v2 => xif (v2 = 0) (K (-1)) (xgI 10 8 (some th) fun v3 => xif (0 ≤ v3) (xgI 10 8 (some th) fun v4 => xgR 10 3 (some th) fun v5 => xal 0 v5 ((4 * v4) + l1) fun v6 => xif (v6 = 1) (K (-4)) (xgR 10 3 (some th) fun v7 => xal 0 v7 ((4 * v4) + l1) fun v8 => xif (v8 = 2) (xgR 10 4 (some th) fun v22 => xal 0 v22 ((4 * v4) + l1) fun v23 => xif (v23 = 8) (K (-3)) (p_M_word_B77 th l2 ((4 * v4) + l1) K)) (p_M_word_B77 th l2 ((4 * v4) + l1) K))) (K (-2))))
abbrev X_M_word (p : Program) (l : Launch) (e : Env) (s : State) (m : MethodId) (args : Array Value) (below : List Frame) (meth : Method) (c : Code) (C0 S0 : Nat) (K : Int32 → xS → Prop) (D : va_G) (dA : Nat → ClassId) (base : Nat) (sa : Nat → Nat) (pc : Nat) (lv : List (Nat × Value)) (st : List Value) (G : xS) : Prop := xW p l e { frames := 1, cells := C0, slots := S0, locals := 22 } s m args below meth c 4 (MQ below (xQ D dA base (fun v G2 => ∃ r : Int32, v = some (.int r) ∧ K r G2)) args s C0 S0 (fun q : Nat => base ≤ q)) D dA base sa pc lv st G
set_option maxHeartbeats 4000000 in
set_option maxRecDepth 100000 in
theorem w_M_word_B107 {p : Program} {l : Launch} {e : Env} {s : State} {m : MethodId} {args : Array Value} {below : List Frame} {meth : Method} {c : Code} {C0 S0 : Nat} {D : va_G} {dA : Nat → ClassId} {base : Nat} {sa : Nat → Nat} (F : xFix p { frames := 1, cells := C0, slots := S0, locals := 22 } s m args meth c b_M_word 4 "BlockSearchModel" D dA base sa) (hret : meth.sig.returnType = (some FieldType.int)) {K : Int32 → xS → Prop} (th : Nat) (l2 : Int32) (l3 : Int32)  {G : xS} (h : p_M_word_B107 th l2 l3 K  G) : X_M_word p l e s m args below meth c C0 S0 K D dA base sa 107 [(0, va_rf (some th)), (2, .int l2), (3, .int l3)] [] G := by
  unfold p_M_word_B107 at h
  refine x_aload_n F 0 d_M_word_107 rfl rfl ?_
  refine x_getR F cl_M in_M (k := 5) (by decide) k_606 rfl d_M_word_108 h (fun v11 h => ?_)
  refine x_iload_n F 2 d_M_word_111 rfl rfl ?_
  refine x_dup2 F rfl (x_cat _) d_M_word_112 ?_
  refine x_lald F (t := 6) rfl d_M_word_113 h (fun v12 h => ?_)
  refine x_iload_n F 1 d_M_word_114 rfl rfl ?_
  refine x_i2l F d_M_word_115 ?_
  refine x_iconst F (v := 5) d_M_word_116 (by decide) ?_
  refine x_aload_n F 0 d_M_word_117 rfl rfl ?_
  refine x_getR F cl_M in_M (k := 4) (by decide) k_605 rfl d_M_word_118 h (fun v13 h => ?_)
  refine x_iload_n F 2 d_M_word_121 rfl rfl ?_
  refine x_iald F (t := 0) rfl d_M_word_122 h (fun v14 h => ?_)
  refine x_imul F d_M_word_123 ?_
  refine x_lshl F d_M_word_124 ?_
  refine x_lor F d_M_word_125 ?_
  refine x_last F (t := 6) rfl d_M_word_126 h (fun G h => ?_)
  refine x_aload_n F 0 d_M_word_127 rfl rfl ?_
  refine x_getR F cl_M in_M (k := 4) (by decide) k_605 rfl d_M_word_128 h (fun v15 h => ?_)
  refine x_iload_n F 2 d_M_word_131 rfl rfl ?_
  refine x_dup2 F rfl (x_cat _) d_M_word_132 ?_
  refine x_iald F (t := 0) rfl d_M_word_133 h (fun v16 h => ?_)
  refine x_iconst F (v := 1) d_M_word_134 (by decide) ?_
  refine x_iadd F d_M_word_135 ?_
  refine x_iast F (t := 0) rfl d_M_word_136 h (fun G h => ?_)
  refine x_aload_n F 0 d_M_word_137 rfl rfl ?_
  refine x_getR F cl_M in_M (k := 4) (by decide) k_605 rfl d_M_word_138 h (fun v17 h => ?_)
  refine x_iload_n F 2 d_M_word_141 rfl rfl ?_
  refine x_iald F (t := 0) rfl d_M_word_142 h (fun v18 h => ?_)
  exact x_iret F rfl hret d_M_word_143 ⟨_, rfl, h⟩
set_option maxHeartbeats 4000000 in
set_option maxRecDepth 100000 in
theorem w_M_word_B77 {p : Program} {l : Launch} {e : Env} {s : State} {m : MethodId} {args : Array Value} {below : List Frame} {meth : Method} {c : Code} {C0 S0 : Nat} {D : va_G} {dA : Nat → ClassId} {base : Nat} {sa : Nat → Nat} (F : xFix p { frames := 1, cells := C0, slots := S0, locals := 22 } s m args meth c b_M_word 4 "BlockSearchModel" D dA base sa) (hret : meth.sig.returnType = (some FieldType.int)) {K : Int32 → xS → Prop} (th : Nat) (l2 : Int32) (l3 : Int32)  {G : xS} (h : p_M_word_B77 th l2 l3 K  G) : X_M_word p l e s m args below meth c C0 S0 K D dA base sa 77 [(0, va_rf (some th)), (2, .int l2), (3, .int l3)] [] G := by
  unfold p_M_word_B77 at h
  refine x_aload_n F 0 d_M_word_77 rfl rfl ?_
  refine x_getR F cl_M in_M (k := 3) (by decide) k_604 rfl d_M_word_78 h (fun v9 h => ?_)
  refine x_iload_n F 2 d_M_word_81 rfl rfl ?_
  refine x_iald F (t := 0) rfl d_M_word_82 h (fun v10 h => ?_)
  refine x_if_ne F (tgt := 107) d_M_word_83 (by decide) h (fun q h => ?_) (fun q h => ?_)
  · exact w_M_word_B107 F hret th l2 l3 h
  · refine x_aload_n F 0 d_M_word_86 rfl rfl ?_
    refine x_getR F cl_M in_M (k := 3) (by decide) k_604 rfl d_M_word_87 h (fun v19 h => ?_)
    refine x_iload_n F 2 d_M_word_90 rfl rfl ?_
    refine x_iconst F (v := 2) d_M_word_91 (by decide) ?_
    refine x_iast F (t := 0) rfl d_M_word_92 h (fun G h => ?_)
    refine x_aload_n F 0 d_M_word_93 rfl rfl ?_
    refine x_getR F cl_M in_M (k := 4) (by decide) k_605 rfl d_M_word_94 h (fun v20 h => ?_)
    refine x_iload_n F 2 d_M_word_97 rfl rfl ?_
    refine x_iconst F (v := 0) d_M_word_98 (by decide) ?_
    refine x_iast F (t := 0) rfl d_M_word_99 h (fun G h => ?_)
    refine x_aload_n F 0 d_M_word_100 rfl rfl ?_
    refine x_getR F cl_M in_M (k := 5) (by decide) k_606 rfl d_M_word_101 h (fun v21 h => ?_)
    refine x_iload_n F 2 d_M_word_104 rfl rfl ?_
    refine x_lconst F (v := 0) d_M_word_105 (by decide) ?_
    refine x_last F (t := 6) rfl d_M_word_106 h (fun G h => ?_)
    exact w_M_word_B107 F hret th l2 l3 h
set_option maxHeartbeats 4000000 in
set_option maxRecDepth 100000 in
theorem c_M_word (l : Launch) (D : va_G) (dA : Nat → ClassId) (base : Nat) (sa : Nat → Nat) (th : Nat) (l1 : Int32) (l2 : Int32) (K : Int32 → xS → Prop) (G : xS) (h : p_M_word th l1 l2 K G) : xMet l y_M_word b_M_word 4 (some FieldType.int) 1 22 D dA base sa [va_rf (some th), .int l1, .int l2] G (fun v G2 => ∃ r : Int32, v = some (.int r) ∧ K r G2) := by
  refine xMet.of (by decide) (by simp [x_cat, x_catI]) (Nat.le_of_ble_eq_true rfl) ?_
  intro p e s m args below meth c F hret hname
  unfold p_M_word at h
  refine x_sub (lv' := [(0, va_rf (some th)), (1, .int l1), (2, .int l2)]) [0, 1, 2] rfl ?_
  refine x_iload_n F 1 d_M_word_0 rfl rfl ?_
  refine x_iconst F (v := 0) d_M_word_1 (by decide) ?_
  refine x_iconst F (v := 3) d_M_word_2 (by decide) ?_
  refine x_callS F (enc := fun r => some (.int r)) (P := p_M_in l1 0 3) (n := 3) (As := [.int l1, .int 0, .int 3]) (st := []) k_744 k_9 k_743 k_742 ⟨by decide, by decide, by decide +kernel⟩ rfl ⟨Nat.le_of_ble_eq_true rfl, Nat.le_of_ble_eq_true rfl⟩ (by simp [x_cat, x_catI, x_catL]) (fun K' G' h' _ => c_M_in l D dA base sa l1 0 3 K' G' h') d_M_word_3 h (fun v1 G h => ?_)
  refine x_if_eq F (tgt := 19) d_M_word_6 (by decide) h (fun q h => ?_) (fun q h => ?_)
  · refine x_iconst F (v := (-1)) d_M_word_19 (by decide) ?_
    exact x_iret F rfl hret d_M_word_20 ⟨_, rfl, h⟩
  · refine x_iload_n F 2 d_M_word_9 rfl rfl ?_
    refine x_iconst F (v := 0) d_M_word_10 (by decide) ?_
    refine x_bipush F (v := 25) d_M_word_11 (by decide) ?_
    refine x_callS F (enc := fun r => some (.int r)) (P := p_M_in l2 0 25) (n := 3) (As := [.int l2, .int 0, .int 25]) (st := []) k_744 k_9 k_743 k_742 ⟨by decide, by decide, by decide +kernel⟩ rfl ⟨Nat.le_of_ble_eq_true rfl, Nat.le_of_ble_eq_true rfl⟩ (by simp [x_cat, x_catI, x_catL]) (fun K' G' h' _ => c_M_in l D dA base sa l2 0 25 K' G' h') d_M_word_13 h (fun v2 G h => ?_)
    refine x_if_ne F (tgt := 21) d_M_word_16 (by decide) h (fun q h => ?_) (fun q h => ?_)
    · refine x_aload_n F 0 d_M_word_21 rfl rfl ?_
      refine x_getI F cl_M in_M (k := 8) (by decide) k_609 rfl d_M_word_22 h (fun v3 h => ?_)
      refine x_if_ge F (tgt := 31) d_M_word_25 (by decide) h (fun q h => ?_) (fun q h => ?_)
      · refine x_iconst F (v := 4) d_M_word_31 (by decide) ?_
        refine x_aload_n F 0 d_M_word_32 rfl rfl ?_
        refine x_getI F cl_M in_M (k := 8) (by decide) k_609 rfl d_M_word_33 h (fun v4 h => ?_)
        refine x_imul F d_M_word_36 ?_
        refine x_iload_n F 1 d_M_word_37 rfl rfl ?_
        refine x_iadd F d_M_word_38 ?_
        refine x_istore_n F (lv' := [(3, .int ((4 * v4) + l1)), (0, va_rf (some th)), (1, .int l1), (2, .int l2)]) d_M_word_39 rfl (by decide) rfl ?_
        refine x_aload_n F 1 d_M_word_40 rfl rfl ?_
        refine x_getR F cl_M in_M (k := 3) (by decide) k_604 rfl d_M_word_41 h (fun v5 h => ?_)
        refine x_iload_n F 0 d_M_word_44 rfl rfl ?_
        refine x_iald F (t := 0) rfl d_M_word_45 h (fun v6 h => ?_)
        refine x_iconst F (v := 1) d_M_word_46 (by decide) ?_
        refine x_icmp_ne F (tgt := 53) d_M_word_47 (by decide) h (fun q h => ?_) (fun q h => ?_)
        · refine x_aload_n F 1 d_M_word_53 rfl rfl ?_
          refine x_getR F cl_M in_M (k := 3) (by decide) k_604 rfl d_M_word_54 h (fun v7 h => ?_)
          refine x_iload_n F 0 d_M_word_57 rfl rfl ?_
          refine x_iald F (t := 0) rfl d_M_word_58 h (fun v8 h => ?_)
          refine x_iconst F (v := 2) d_M_word_59 (by decide) ?_
          refine x_icmp_ne F (tgt := 77) d_M_word_60 (by decide) h (fun q h => ?_) (fun q h => ?_)
          · refine x_sub (lv' := [(0, va_rf (some th)), (2, .int l2), (3, .int ((4 * v4) + l1))]) [1, 3, 0] rfl ?_
            exact w_M_word_B77 F hret th l2 ((4 * v4) + l1) h
          · refine x_aload_n F 1 d_M_word_63 rfl rfl ?_
            refine x_getR F cl_M in_M (k := 4) (by decide) k_605 rfl d_M_word_64 h (fun v22 h => ?_)
            refine x_iload_n F 0 d_M_word_67 rfl rfl ?_
            refine x_iald F (t := 0) rfl d_M_word_68 h (fun v23 h => ?_)
            refine x_bipush F (v := 8) d_M_word_69 (by decide) ?_
            refine x_icmp_ne F (tgt := 77) d_M_word_71 (by decide) h (fun q h => ?_) (fun q h => ?_)
            · refine x_sub (lv' := [(0, va_rf (some th)), (2, .int l2), (3, .int ((4 * v4) + l1))]) [1, 3, 0] rfl ?_
              exact w_M_word_B77 F hret th l2 ((4 * v4) + l1) h
            · refine x_bipush F (v := (-3)) d_M_word_74 (by decide) ?_
              exact x_iret F rfl hret d_M_word_76 ⟨_, rfl, h⟩
        · refine x_bipush F (v := (-4)) d_M_word_50 (by decide) ?_
          exact x_iret F rfl hret d_M_word_52 ⟨_, rfl, h⟩
      · refine x_bipush F (v := (-2)) d_M_word_28 (by decide) ?_
        exact x_iret F rfl hret d_M_word_30 ⟨_, rfl, h⟩
    · refine x_iconst F (v := (-1)) d_M_word_19 (by decide) ?_
      exact x_iret F rfl hret d_M_word_20 ⟨_, rfl, h⟩
def p_M_close (th : Nat) (K : Int32 → xS → Prop) : xS → Prop := xgI 10 8 (some th) fun v1 => xif (0 ≤ v1) (xgR 10 2 (some th) fun v2 => xgI 10 8 (some th) fun v3 => xgI 10 7 (some th) fun v4 => xas 0 v2 v3 v4 (xgI 10 7 (some th) fun v5 => xpI 10 7 (some th) (v5 + 1) (xgR 10 1 (some th) fun v6 => xgI 10 8 (some th) fun v7 => xal 0 v6 v7 fun v8 => xpI 10 8 (some th) v8 (xgI 10 6 (some th) fun v9 => xgI 10 7 (some th) fun v10 => K (v9 - v10))))) (K (-2))
abbrev X_M_close (p : Program) (l : Launch) (e : Env) (s : State) (m : MethodId) (args : Array Value) (below : List Frame) (meth : Method) (c : Code) (C0 S0 : Nat) (K : Int32 → xS → Prop) (D : va_G) (dA : Nat → ClassId) (base : Nat) (sa : Nat → Nat) (pc : Nat) (lv : List (Nat × Value)) (st : List Value) (G : xS) : Prop := xW p l e { frames := 0, cells := C0, slots := S0, locals := 0 } s m args below meth c 1 (MQ below (xQ D dA base (fun v G2 => ∃ r : Int32, v = some (.int r) ∧ K r G2)) args s C0 S0 (fun q : Nat => base ≤ q)) D dA base sa pc lv st G
set_option maxHeartbeats 4000000 in
set_option maxRecDepth 100000 in
theorem c_M_close (l : Launch) (D : va_G) (dA : Nat → ClassId) (base : Nat) (sa : Nat → Nat) (th : Nat) (K : Int32 → xS → Prop) (G : xS) (h : p_M_close th K G) : xMet l y_M_close b_M_close 1 (some FieldType.int) 0 0 D dA base sa [va_rf (some th)] G (fun v G2 => ∃ r : Int32, v = some (.int r) ∧ K r G2) := by
  refine xMet.of (by decide) (by simp [x_cat, x_catI]) (Nat.le_of_ble_eq_true rfl) ?_
  intro p e s m args below meth c F hret hname
  unfold p_M_close at h
  refine x_sub (lv' := [(0, va_rf (some th))]) [0] rfl ?_
  refine x_aload_n F 0 d_M_close_0 rfl rfl ?_
  refine x_getI F cl_M in_M (k := 8) (by decide) k_609 rfl d_M_close_1 h (fun v1 h => ?_)
  refine x_if_ge F (tgt := 10) d_M_close_4 (by decide) h (fun q h => ?_) (fun q h => ?_)
  · refine x_aload_n F 0 d_M_close_10 rfl rfl ?_
    refine x_getR F cl_M in_M (k := 2) (by decide) k_603 rfl d_M_close_11 h (fun v2 h => ?_)
    refine x_aload_n F 0 d_M_close_14 rfl rfl ?_
    refine x_getI F cl_M in_M (k := 8) (by decide) k_609 rfl d_M_close_15 h (fun v3 h => ?_)
    refine x_aload_n F 0 d_M_close_18 rfl rfl ?_
    refine x_getI F cl_M in_M (k := 7) (by decide) k_608 rfl d_M_close_19 h (fun v4 h => ?_)
    refine x_iast F (t := 0) rfl d_M_close_22 h (fun G h => ?_)
    refine x_aload_n F 0 d_M_close_23 rfl rfl ?_
    refine x_dup F (x_cat _) d_M_close_24 ?_
    refine x_getI F cl_M in_M (k := 7) (by decide) k_608 rfl d_M_close_25 h (fun v5 h => ?_)
    refine x_iconst F (v := 1) d_M_close_28 (by decide) ?_
    refine x_iadd F d_M_close_29 ?_
    refine x_putI F cl_M in_M (k := 7) (by decide) k_608 rfl ty_M n_M rfl rfl d_M_close_30 h (fun G h => ?_)
    refine x_aload_n F 0 d_M_close_33 rfl rfl ?_
    refine x_aload_n F 0 d_M_close_34 rfl rfl ?_
    refine x_getR F cl_M in_M (k := 1) (by decide) k_602 rfl d_M_close_35 h (fun v6 h => ?_)
    refine x_aload_n F 0 d_M_close_38 rfl rfl ?_
    refine x_getI F cl_M in_M (k := 8) (by decide) k_609 rfl d_M_close_39 h (fun v7 h => ?_)
    refine x_iald F (t := 0) rfl d_M_close_42 h (fun v8 h => ?_)
    refine x_putI F cl_M in_M (k := 8) (by decide) k_609 rfl ty_M n_M rfl rfl d_M_close_43 h (fun G h => ?_)
    refine x_aload_n F 0 d_M_close_46 rfl rfl ?_
    refine x_getI F cl_M in_M (k := 6) (by decide) k_607 rfl d_M_close_47 h (fun v9 h => ?_)
    refine x_aload_n F 0 d_M_close_50 rfl rfl ?_
    refine x_getI F cl_M in_M (k := 7) (by decide) k_608 rfl d_M_close_51 h (fun v10 h => ?_)
    refine x_isub F d_M_close_54 ?_
    exact x_iret F rfl hret d_M_close_55 ⟨_, rfl, h⟩
  · refine x_bipush F (v := (-2)) d_M_close_7 (by decide) ?_
    exact x_iret F rfl hret d_M_close_9 ⟨_, rfl, h⟩
def p_M_wipe (th : Nat) (K : Int32 → xS → Prop) : xS → Prop := xgI 10 6 (some th) fun v1 => xpI 10 6 (some th) 0 (xpI 10 7 (some th) 0 (xpI 10 8 (some th) (-1) (K v1)))
abbrev X_M_wipe (p : Program) (l : Launch) (e : Env) (s : State) (m : MethodId) (args : Array Value) (below : List Frame) (meth : Method) (c : Code) (C0 S0 : Nat) (K : Int32 → xS → Prop) (D : va_G) (dA : Nat → ClassId) (base : Nat) (sa : Nat → Nat) (pc : Nat) (lv : List (Nat × Value)) (st : List Value) (G : xS) : Prop := xW p l e { frames := 0, cells := C0, slots := S0, locals := 0 } s m args below meth c 2 (MQ below (xQ D dA base (fun v G2 => ∃ r : Int32, v = some (.int r) ∧ K r G2)) args s C0 S0 (fun q : Nat => base ≤ q)) D dA base sa pc lv st G
set_option maxHeartbeats 4000000 in
set_option maxRecDepth 100000 in
theorem c_M_wipe (l : Launch) (D : va_G) (dA : Nat → ClassId) (base : Nat) (sa : Nat → Nat) (th : Nat) (K : Int32 → xS → Prop) (G : xS) (h : p_M_wipe th K G) : xMet l y_M_wipe b_M_wipe 2 (some FieldType.int) 0 0 D dA base sa [va_rf (some th)] G (fun v G2 => ∃ r : Int32, v = some (.int r) ∧ K r G2) := by
  refine xMet.of (by decide) (by simp [x_cat, x_catI]) (Nat.le_of_ble_eq_true rfl) ?_
  intro p e s m args below meth c F hret hname
  unfold p_M_wipe at h
  refine x_sub (lv' := [(0, va_rf (some th))]) [0] rfl ?_
  refine x_aload_n F 0 d_M_wipe_0 rfl rfl ?_
  refine x_getI F cl_M in_M (k := 6) (by decide) k_607 rfl d_M_wipe_1 h (fun v1 h => ?_)
  refine x_istore_n F (lv' := [(1, .int v1), (0, va_rf (some th))]) d_M_wipe_4 rfl (by decide) rfl ?_
  refine x_aload_n F 1 d_M_wipe_5 rfl rfl ?_
  refine x_iconst F (v := 0) d_M_wipe_6 (by decide) ?_
  refine x_putI F cl_M in_M (k := 6) (by decide) k_607 rfl ty_M n_M rfl rfl d_M_wipe_7 h (fun G h => ?_)
  refine x_aload_n F 1 d_M_wipe_10 rfl rfl ?_
  refine x_iconst F (v := 0) d_M_wipe_11 (by decide) ?_
  refine x_putI F cl_M in_M (k := 7) (by decide) k_608 rfl ty_M n_M rfl rfl d_M_wipe_12 h (fun G h => ?_)
  refine x_aload_n F 1 d_M_wipe_15 rfl rfl ?_
  refine x_iconst F (v := (-1)) d_M_wipe_16 (by decide) ?_
  refine x_putI F cl_M in_M (k := 8) (by decide) k_609 rfl ty_M n_M rfl rfl d_M_wipe_17 h (fun G h => ?_)
  refine x_iload_n F 0 d_M_wipe_20 rfl rfl ?_
  exact x_iret F rfl hret d_M_wipe_21 ⟨_, rfl, h⟩
def p_M_inBuffer_L4 (th : Nat) (K : Int32 → xS → Prop) (Kx37 : Int32 → xS → Prop) : Nat → Int32 → Int32 → xS → Prop
  | 0, _, _ => fun _ => False
  | n + 1, l1, l2 => xgI 10 18 (some th) fun v1 => xif (v1 ≤ l2) (Kx37 l1) (xgR 10 14 (some th) fun v2 => xal 0 v2 l2 fun v3 => xif (v3 = (-1)) (xgR 10 12 (some th) fun v4 => xal 0 v4 l2 fun v5 => p_M_inBuffer_L4 th K Kx37 n (l1 + v5) (l2 + 1)) (p_M_inBuffer_L4 th K Kx37 n l1 (l2 + 1)))
def p_M_inBuffer (th : Nat) (K : Int32 → xS → Prop) : xS → Prop := p_M_inBuffer_L4 th K (fun m6 => K m6) 1000 0 0
abbrev X_M_inBuffer (p : Program) (l : Launch) (e : Env) (s : State) (m : MethodId) (args : Array Value) (below : List Frame) (meth : Method) (c : Code) (C0 S0 : Nat) (K : Int32 → xS → Prop) (D : va_G) (dA : Nat → ClassId) (base : Nat) (sa : Nat → Nat) (pc : Nat) (lv : List (Nat × Value)) (st : List Value) (G : xS) : Prop := xW p l e { frames := 0, cells := C0, slots := S0, locals := 0 } s m args below meth c 3 (MQ below (xQ D dA base (fun v G2 => ∃ r : Int32, v = some (.int r) ∧ K r G2)) args s C0 S0 (fun q : Nat => base ≤ q)) D dA base sa pc lv st G
set_option maxHeartbeats 4000000 in
set_option maxRecDepth 100000 in
theorem w_M_inBuffer_L4 {p : Program} {l : Launch} {e : Env} {s : State} {m : MethodId} {args : Array Value} {below : List Frame} {meth : Method} {c : Code} {C0 S0 : Nat} {D : va_G} {dA : Nat → ClassId} {base : Nat} {sa : Nat → Nat} (F : xFix p { frames := 0, cells := C0, slots := S0, locals := 0 } s m args meth c b_M_inBuffer 3 "BlockSearchModel" D dA base sa) (hret : meth.sig.returnType = (some FieldType.int)) {K : Int32 → xS → Prop} {Kx37 : Int32 → xS → Prop} (th : Nat) (hKx37 : ∀ (l1 : Int32) (G : xS), Kx37 l1 G → X_M_inBuffer p l e s m args below meth c C0 S0 K D dA base sa 37 [(1, .int l1)] [] G) : ∀ (n : Nat) (l1 : Int32) (l2 : Int32) (G : xS), p_M_inBuffer_L4 th K Kx37 n l1 l2 G → X_M_inBuffer p l e s m args below meth c C0 S0 K D dA base sa 4 [(0, va_rf (some th)), (1, .int l1), (2, .int l2)] [] G := by
  intro n
  induction n with
  | zero => intro l1 l2 G h; exact h.elim
  | succ n ih =>
    intro l1 l2 G h
    unfold p_M_inBuffer_L4 at h
    refine x_iload_n F 2 d_M_inBuffer_4 rfl rfl ?_
    refine x_aload_n F 0 d_M_inBuffer_5 rfl rfl ?_
    refine x_getI F cl_M in_M (k := 18) (by decide) k_619 rfl d_M_inBuffer_6 h (fun v1 h => ?_)
    refine x_icmp_ge F (tgt := 37) d_M_inBuffer_9 (by decide) h (fun q h => ?_) (fun q h => ?_)
    · refine x_sub (lv' := [(1, .int l1)]) [1] rfl ?_
      exact hKx37 _ _ h
    · refine x_aload_n F 0 d_M_inBuffer_12 rfl rfl ?_
      refine x_getR F cl_M in_M (k := 14) (by decide) k_615 rfl d_M_inBuffer_13 h (fun v2 h => ?_)
      refine x_iload_n F 2 d_M_inBuffer_16 rfl rfl ?_
      refine x_iald F (t := 0) rfl d_M_inBuffer_17 h (fun v3 h => ?_)
      refine x_iconst F (v := (-1)) d_M_inBuffer_18 (by decide) ?_
      refine x_icmp_ne F (tgt := 31) d_M_inBuffer_19 (by decide) h (fun q h => ?_) (fun q h => ?_)
      · refine x_iinc F 2 (v := (l2 + 1)) (lv' := [(2, .int (l2 + 1)), (0, va_rf (some th)), (1, .int l1)]) d_M_inBuffer_31 rfl (congrArg (fun z : Int32 => l2 + z) (by decide)) (by decide) rfl ?_
        refine x_goto F (tgt := 4) d_M_inBuffer_34 (by decide) ?_
        refine x_sub (lv' := [(0, va_rf (some th)), (1, .int l1), (2, .int (l2 + 1))]) [1, 2, 0] rfl ?_
        exact ih _ _ _ h
      · refine x_iload_n F 1 d_M_inBuffer_22 rfl rfl ?_
        refine x_aload_n F 0 d_M_inBuffer_23 rfl rfl ?_
        refine x_getR F cl_M in_M (k := 12) (by decide) k_613 rfl d_M_inBuffer_24 h (fun v4 h => ?_)
        refine x_iload_n F 2 d_M_inBuffer_27 rfl rfl ?_
        refine x_iald F (t := 0) rfl d_M_inBuffer_28 h (fun v5 h => ?_)
        refine x_iadd F d_M_inBuffer_29 ?_
        refine x_istore_n F (lv' := [(1, .int (l1 + v5)), (0, va_rf (some th)), (2, .int l2)]) d_M_inBuffer_30 rfl (by decide) rfl ?_
        refine x_iinc F 2 (v := (l2 + 1)) (lv' := [(2, .int (l2 + 1)), (1, .int (l1 + v5)), (0, va_rf (some th))]) d_M_inBuffer_31 rfl (congrArg (fun z : Int32 => l2 + z) (by decide)) (by decide) rfl ?_
        refine x_goto F (tgt := 4) d_M_inBuffer_34 (by decide) ?_
        refine x_sub (lv' := [(0, va_rf (some th)), (1, .int (l1 + v5)), (2, .int (l2 + 1))]) [2, 1, 0] rfl ?_
        exact ih _ _ _ h
set_option maxHeartbeats 4000000 in
set_option maxRecDepth 100000 in
theorem c_M_inBuffer (l : Launch) (D : va_G) (dA : Nat → ClassId) (base : Nat) (sa : Nat → Nat) (th : Nat) (K : Int32 → xS → Prop) (G : xS) (h : p_M_inBuffer th K G) : xMet l y_M_inBuffer b_M_inBuffer 3 (some FieldType.int) 0 0 D dA base sa [va_rf (some th)] G (fun v G2 => ∃ r : Int32, v = some (.int r) ∧ K r G2) := by
  refine xMet.of (by decide) (by simp [x_cat, x_catI]) (Nat.le_of_ble_eq_true rfl) ?_
  intro p e s m args below meth c F hret hname
  unfold p_M_inBuffer at h
  refine x_sub (lv' := [(0, va_rf (some th))]) [0] rfl ?_
  refine x_iconst F (v := 0) d_M_inBuffer_0 (by decide) ?_
  refine x_istore_n F (lv' := [(1, .int 0), (0, va_rf (some th))]) d_M_inBuffer_1 rfl (by decide) rfl ?_
  refine x_iconst F (v := 0) d_M_inBuffer_2 (by decide) ?_
  refine x_istore_n F (lv' := [(2, .int 0), (1, .int 0), (0, va_rf (some th))]) d_M_inBuffer_3 rfl (by decide) rfl ?_
  refine x_sub (lv' := [(0, va_rf (some th)), (1, .int 0), (2, .int 0)]) [2, 1, 0] rfl ?_
  refine w_M_inBuffer_L4 F hret th (fun m6 G h => ?_) _ _ _ _ h
  refine x_iload_n F 0 d_M_inBuffer_37 rfl rfl ?_
  exact x_iret F rfl hret d_M_inBuffer_38 ⟨_, rfl, h⟩
def p_M_conflicts_L65 (th : Nat) (l1 : Int32) (l2 : Int32) (l3 : Int32) (K : Int32 → xS → Prop) (Kx128 : xS → Prop) : Nat → Int32 → xS → Prop
  | 0, _ => fun _ => False
  | n + 1, l5 => xif (l1 ≤ l5) (Kx128) (xif (l3 ≤ 0) (p_M_conflicts_L65 th l1 l2 l3 K Kx128 n (l5 + 1)) (xgR 10 0 (some th) fun v8 => xal 0 v8 l5 fun v9 => xgR 10 0 (some th) fun v10 => xal 0 v10 l1 fun v11 => xif (v9 = v11) (xgR 10 3 (some th) fun v12 => xal 0 v12 ((4 * l5) + l2) fun v13 => xif (v13 ≤ 0) (p_M_conflicts_L65 th l1 l2 l3 K Kx128 n (l5 + 1)) (xgR 10 3 (some th) fun v14 => xal 0 v14 ((4 * l5) + l2) fun v15 => xif (v15 = l3) (p_M_conflicts_L65 th l1 l2 l3 K Kx128 n (l5 + 1)) (xrz 1 K))) (p_M_conflicts_L65 th l1 l2 l3 K Kx128 n (l5 + 1))))
def p_M_conflicts_L12 (th : Nat) (l1 : Int32) (K : Int32 → xS → Prop) (Kx134 : xS → Prop) : Nat → Int32 → xS → Prop
  | 0, _ => fun _ => False
  | n + 1, l2 => xif (4 ≤ l2) (Kx134) (xgR 10 3 (some th) fun v2 => xal 0 v2 ((4 * l1) + l2) fun v3 => xgR 10 9 (some th) fun v4 => xgR 10 0 (some th) fun v5 => xal 0 v5 l1 fun v6 => xal 0 v4 ((4 * v6) + l2) fun v7 => xif (v3 ≤ 0) (p_M_conflicts_L65 th l1 l2 v3 K (p_M_conflicts_L12 th l1 K Kx134 n (l2 + 1)) 1000 0) (xif (v7 ≤ 0) (p_M_conflicts_L65 th l1 l2 v3 K (p_M_conflicts_L12 th l1 K Kx134 n (l2 + 1)) 1000 0) (xif (v3 = v7) (p_M_conflicts_L65 th l1 l2 v3 K (p_M_conflicts_L12 th l1 K Kx134 n (l2 + 1)) 1000 0) (xrz 1 K))))
def p_M_conflicts_L2 (th : Nat) (K : Int32 → xS → Prop) (Kx140 : xS → Prop) : Nat → Int32 → xS → Prop
  | 0, _ => fun _ => False
  | n + 1, l1 => xgI 10 6 (some th) fun v1 => xif (v1 ≤ l1) (Kx140) (p_M_conflicts_L12 th l1 K (p_M_conflicts_L2 th K Kx140 n (l1 + 1)) 1000 0)
def p_M_conflicts (th : Nat) (K : Int32 → xS → Prop) : xS → Prop := p_M_conflicts_L2 th K (xrz 0 K) 1000 0
abbrev X_M_conflicts (p : Program) (l : Launch) (e : Env) (s : State) (m : MethodId) (args : Array Value) (below : List Frame) (meth : Method) (c : Code) (C0 S0 : Nat) (K : Int32 → xS → Prop) (D : va_G) (dA : Nat → ClassId) (base : Nat) (sa : Nat → Nat) (pc : Nat) (lv : List (Nat × Value)) (st : List Value) (G : xS) : Prop := xW p l e { frames := 0, cells := C0, slots := S0, locals := 0 } s m args below meth c 6 (MQ below (xQ D dA base (fun v G2 => ∃ r : Int32, v = some (.int r) ∧ K r G2)) args s C0 S0 (fun q : Nat => base ≤ q)) D dA base sa pc lv st G
set_option maxHeartbeats 4000000 in
set_option maxRecDepth 100000 in
theorem w_M_conflicts_L65 {p : Program} {l : Launch} {e : Env} {s : State} {m : MethodId} {args : Array Value} {below : List Frame} {meth : Method} {c : Code} {C0 S0 : Nat} {D : va_G} {dA : Nat → ClassId} {base : Nat} {sa : Nat → Nat} (F : xFix p { frames := 0, cells := C0, slots := S0, locals := 0 } s m args meth c b_M_conflicts 6 "BlockSearchModel" D dA base sa) (hret : meth.sig.returnType = (some FieldType.boolean)) {K : Int32 → xS → Prop} {Kx128 : xS → Prop} (th : Nat) (l1 : Int32) (l2 : Int32) (l3 : Int32) (hKx128 : ∀ (G : xS), Kx128  G → X_M_conflicts p l e s m args below meth c C0 S0 K D dA base sa 128 [(0, va_rf (some th)), (1, .int l1), (2, .int l2)] [] G) : ∀ (n : Nat) (l5 : Int32) (G : xS), p_M_conflicts_L65 th l1 l2 l3 K Kx128 n l5 G → X_M_conflicts p l e s m args below meth c C0 S0 K D dA base sa 65 [(0, va_rf (some th)), (1, .int l1), (2, .int l2), (3, .int l3), (5, .int l5)] [] G := by
  intro n
  induction n with
  | zero => intro l5 G h; exact h.elim
  | succ n ih =>
    intro l5 G h
    unfold p_M_conflicts_L65 at h
    refine x_iload F 4 d_M_conflicts_65 rfl ?_
    refine x_iload_n F 1 d_M_conflicts_67 rfl rfl ?_
    refine x_icmp_ge F (tgt := 128) d_M_conflicts_68 (by decide) h (fun q h => ?_) (fun q h => ?_)
    · refine x_sub (lv' := [(0, va_rf (some th)), (1, .int l1), (2, .int l2)]) [0, 1, 2] rfl ?_
      exact hKx128  _ h
    · refine x_iload_n F 3 d_M_conflicts_71 rfl rfl ?_
      refine x_if_le F (tgt := 122) d_M_conflicts_72 (by decide) h (fun q h => ?_) (fun q h => ?_)
      · refine x_iinc F 4 (v := (l5 + 1)) (lv' := [(5, .int (l5 + 1)), (0, va_rf (some th)), (1, .int l1), (2, .int l2), (3, .int l3)]) d_M_conflicts_122 rfl (congrArg (fun z : Int32 => l5 + z) (by decide)) (by decide) rfl ?_
        refine x_goto F (tgt := 65) d_M_conflicts_125 (by decide) ?_
        refine x_sub (lv' := [(0, va_rf (some th)), (1, .int l1), (2, .int l2), (3, .int l3), (5, .int (l5 + 1))]) [1, 2, 3, 4, 0] rfl ?_
        exact ih _ _ h
      · refine x_aload_n F 0 d_M_conflicts_75 rfl rfl ?_
        refine x_getR F cl_M in_M (k := 0) (by decide) k_601 rfl d_M_conflicts_76 h (fun v8 h => ?_)
        refine x_iload F 4 d_M_conflicts_79 rfl ?_
        refine x_iald F (t := 0) rfl d_M_conflicts_81 h (fun v9 h => ?_)
        refine x_aload_n F 0 d_M_conflicts_82 rfl rfl ?_
        refine x_getR F cl_M in_M (k := 0) (by decide) k_601 rfl d_M_conflicts_83 h (fun v10 h => ?_)
        refine x_iload_n F 1 d_M_conflicts_86 rfl rfl ?_
        refine x_iald F (t := 0) rfl d_M_conflicts_87 h (fun v11 h => ?_)
        refine x_icmp_ne F (tgt := 122) d_M_conflicts_88 (by decide) h (fun q h => ?_) (fun q h => ?_)
        · refine x_iinc F 4 (v := (l5 + 1)) (lv' := [(5, .int (l5 + 1)), (0, va_rf (some th)), (1, .int l1), (2, .int l2), (3, .int l3)]) d_M_conflicts_122 rfl (congrArg (fun z : Int32 => l5 + z) (by decide)) (by decide) rfl ?_
          refine x_goto F (tgt := 65) d_M_conflicts_125 (by decide) ?_
          refine x_sub (lv' := [(0, va_rf (some th)), (1, .int l1), (2, .int l2), (3, .int l3), (5, .int (l5 + 1))]) [1, 2, 3, 4, 0] rfl ?_
          exact ih _ _ h
        · refine x_aload_n F 0 d_M_conflicts_91 rfl rfl ?_
          refine x_getR F cl_M in_M (k := 3) (by decide) k_604 rfl d_M_conflicts_92 h (fun v12 h => ?_)
          refine x_iconst F (v := 4) d_M_conflicts_95 (by decide) ?_
          refine x_iload F 4 d_M_conflicts_96 rfl ?_
          refine x_imul F d_M_conflicts_98 ?_
          refine x_iload_n F 2 d_M_conflicts_99 rfl rfl ?_
          refine x_iadd F d_M_conflicts_100 ?_
          refine x_iald F (t := 0) rfl d_M_conflicts_101 h (fun v13 h => ?_)
          refine x_if_le F (tgt := 122) d_M_conflicts_102 (by decide) h (fun q h => ?_) (fun q h => ?_)
          · refine x_iinc F 4 (v := (l5 + 1)) (lv' := [(5, .int (l5 + 1)), (0, va_rf (some th)), (1, .int l1), (2, .int l2), (3, .int l3)]) d_M_conflicts_122 rfl (congrArg (fun z : Int32 => l5 + z) (by decide)) (by decide) rfl ?_
            refine x_goto F (tgt := 65) d_M_conflicts_125 (by decide) ?_
            refine x_sub (lv' := [(0, va_rf (some th)), (1, .int l1), (2, .int l2), (3, .int l3), (5, .int (l5 + 1))]) [1, 2, 3, 4, 0] rfl ?_
            exact ih _ _ h
          · refine x_aload_n F 0 d_M_conflicts_105 rfl rfl ?_
            refine x_getR F cl_M in_M (k := 3) (by decide) k_604 rfl d_M_conflicts_106 h (fun v14 h => ?_)
            refine x_iconst F (v := 4) d_M_conflicts_109 (by decide) ?_
            refine x_iload F 4 d_M_conflicts_110 rfl ?_
            refine x_imul F d_M_conflicts_112 ?_
            refine x_iload_n F 2 d_M_conflicts_113 rfl rfl ?_
            refine x_iadd F d_M_conflicts_114 ?_
            refine x_iald F (t := 0) rfl d_M_conflicts_115 h (fun v15 h => ?_)
            refine x_iload_n F 3 d_M_conflicts_116 rfl rfl ?_
            refine x_icmp_eq F (tgt := 122) d_M_conflicts_117 (by decide) h (fun q h => ?_) (fun q h => ?_)
            · refine x_iinc F 4 (v := (l5 + 1)) (lv' := [(5, .int (l5 + 1)), (0, va_rf (some th)), (1, .int l1), (2, .int l2), (3, .int l3)]) d_M_conflicts_122 rfl (congrArg (fun z : Int32 => l5 + z) (by decide)) (by decide) rfl ?_
              refine x_goto F (tgt := 65) d_M_conflicts_125 (by decide) ?_
              refine x_sub (lv' := [(0, va_rf (some th)), (1, .int l1), (2, .int l2), (3, .int l3), (5, .int (l5 + 1))]) [1, 2, 3, 4, 0] rfl ?_
              exact ih _ _ h
            · refine x_iconst F (v := 1) d_M_conflicts_120 (by decide) ?_
              exact x_zret F rfl hret d_M_conflicts_121 h (fun h => ⟨_, rfl, h⟩)
set_option maxHeartbeats 4000000 in
set_option maxRecDepth 100000 in
theorem w_M_conflicts_L12 {p : Program} {l : Launch} {e : Env} {s : State} {m : MethodId} {args : Array Value} {below : List Frame} {meth : Method} {c : Code} {C0 S0 : Nat} {D : va_G} {dA : Nat → ClassId} {base : Nat} {sa : Nat → Nat} (F : xFix p { frames := 0, cells := C0, slots := S0, locals := 0 } s m args meth c b_M_conflicts 6 "BlockSearchModel" D dA base sa) (hret : meth.sig.returnType = (some FieldType.boolean)) {K : Int32 → xS → Prop} {Kx134 : xS → Prop} (th : Nat) (l1 : Int32) (hKx134 : ∀ (G : xS), Kx134  G → X_M_conflicts p l e s m args below meth c C0 S0 K D dA base sa 134 [(0, va_rf (some th)), (1, .int l1)] [] G) : ∀ (n : Nat) (l2 : Int32) (G : xS), p_M_conflicts_L12 th l1 K Kx134 n l2 G → X_M_conflicts p l e s m args below meth c C0 S0 K D dA base sa 12 [(0, va_rf (some th)), (1, .int l1), (2, .int l2)] [] G := by
  intro n
  induction n with
  | zero => intro l2 G h; exact h.elim
  | succ n ih =>
    intro l2 G h
    unfold p_M_conflicts_L12 at h
    refine x_iload_n F 2 d_M_conflicts_12 rfl rfl ?_
    refine x_iconst F (v := 4) d_M_conflicts_13 (by decide) ?_
    refine x_icmp_ge F (tgt := 134) d_M_conflicts_14 (by decide) h (fun q h => ?_) (fun q h => ?_)
    · refine x_sub (lv' := [(0, va_rf (some th)), (1, .int l1)]) [0, 1] rfl ?_
      exact hKx134  _ h
    · refine x_aload_n F 0 d_M_conflicts_17 rfl rfl ?_
      refine x_getR F cl_M in_M (k := 3) (by decide) k_604 rfl d_M_conflicts_18 h (fun v2 h => ?_)
      refine x_iconst F (v := 4) d_M_conflicts_21 (by decide) ?_
      refine x_iload_n F 1 d_M_conflicts_22 rfl rfl ?_
      refine x_imul F d_M_conflicts_23 ?_
      refine x_iload_n F 2 d_M_conflicts_24 rfl rfl ?_
      refine x_iadd F d_M_conflicts_25 ?_
      refine x_iald F (t := 0) rfl d_M_conflicts_26 h (fun v3 h => ?_)
      refine x_istore_n F (lv' := [(3, .int v3), (0, va_rf (some th)), (1, .int l1), (2, .int l2)]) d_M_conflicts_27 rfl (by decide) rfl ?_
      refine x_aload_n F 1 d_M_conflicts_28 rfl rfl ?_
      refine x_getR F cl_M in_M (k := 9) (by decide) k_610 rfl d_M_conflicts_29 h (fun v4 h => ?_)
      refine x_iconst F (v := 4) d_M_conflicts_32 (by decide) ?_
      refine x_aload_n F 1 d_M_conflicts_33 rfl rfl ?_
      refine x_getR F cl_M in_M (k := 0) (by decide) k_601 rfl d_M_conflicts_34 h (fun v5 h => ?_)
      refine x_iload_n F 2 d_M_conflicts_37 rfl rfl ?_
      refine x_iald F (t := 0) rfl d_M_conflicts_38 h (fun v6 h => ?_)
      refine x_imul F d_M_conflicts_39 ?_
      refine x_iload_n F 3 d_M_conflicts_40 rfl rfl ?_
      refine x_iadd F d_M_conflicts_41 ?_
      refine x_iald F (t := 0) rfl d_M_conflicts_42 h (fun v7 h => ?_)
      refine x_istore F (lv' := [(4, .int v7), (3, .int v3), (0, va_rf (some th)), (1, .int l1), (2, .int l2)]) d_M_conflicts_43 (by decide) rfl ?_
      refine x_iload_n F 1 d_M_conflicts_45 rfl rfl ?_
      refine x_if_le F (tgt := 62) d_M_conflicts_46 (by decide) h (fun q h => ?_) (fun q h => ?_)
      · refine x_iconst F (v := 0) d_M_conflicts_62 (by decide) ?_
        refine x_istore F (lv' := [(5, .int 0), (4, .int v7), (3, .int v3), (0, va_rf (some th)), (1, .int l1), (2, .int l2)]) d_M_conflicts_63 (by decide) rfl ?_
        refine x_sub (lv' := [(0, va_rf (some th)), (1, .int l1), (2, .int l2), (3, .int v3), (5, .int 0)]) [3, 4, 5, 2, 0] rfl ?_
        refine w_M_conflicts_L65 F hret th l1 l2 v3 (fun G h => ?_) _ _ _ h
        refine x_iinc F 2 (v := (l2 + 1)) (lv' := [(2, .int (l2 + 1)), (0, va_rf (some th)), (1, .int l1)]) d_M_conflicts_128 rfl (congrArg (fun z : Int32 => l2 + z) (by decide)) (by decide) rfl ?_
        refine x_goto F (tgt := 12) d_M_conflicts_131 (by decide) ?_
        refine x_sub (lv' := [(0, va_rf (some th)), (1, .int l1), (2, .int (l2 + 1))]) [1, 2, 0] rfl ?_
        exact ih _ _ h
      · refine x_iload F 0 d_M_conflicts_49 rfl ?_
        refine x_if_le F (tgt := 62) d_M_conflicts_51 (by decide) h (fun q h => ?_) (fun q h => ?_)
        · refine x_iconst F (v := 0) d_M_conflicts_62 (by decide) ?_
          refine x_istore F (lv' := [(5, .int 0), (4, .int v7), (3, .int v3), (0, va_rf (some th)), (1, .int l1), (2, .int l2)]) d_M_conflicts_63 (by decide) rfl ?_
          refine x_sub (lv' := [(0, va_rf (some th)), (1, .int l1), (2, .int l2), (3, .int v3), (5, .int 0)]) [3, 4, 5, 2, 0] rfl ?_
          refine w_M_conflicts_L65 F hret th l1 l2 v3 (fun G h => ?_) _ _ _ h
          refine x_iinc F 2 (v := (l2 + 1)) (lv' := [(2, .int (l2 + 1)), (0, va_rf (some th)), (1, .int l1)]) d_M_conflicts_128 rfl (congrArg (fun z : Int32 => l2 + z) (by decide)) (by decide) rfl ?_
          refine x_goto F (tgt := 12) d_M_conflicts_131 (by decide) ?_
          refine x_sub (lv' := [(0, va_rf (some th)), (1, .int l1), (2, .int (l2 + 1))]) [1, 2, 0] rfl ?_
          exact ih _ _ h
        · refine x_iload_n F 1 d_M_conflicts_54 rfl rfl ?_
          refine x_iload F 0 d_M_conflicts_55 rfl ?_
          refine x_icmp_eq F (tgt := 62) d_M_conflicts_57 (by decide) h (fun q h => ?_) (fun q h => ?_)
          · refine x_iconst F (v := 0) d_M_conflicts_62 (by decide) ?_
            refine x_istore F (lv' := [(5, .int 0), (4, .int v7), (3, .int v3), (0, va_rf (some th)), (1, .int l1), (2, .int l2)]) d_M_conflicts_63 (by decide) rfl ?_
            refine x_sub (lv' := [(0, va_rf (some th)), (1, .int l1), (2, .int l2), (3, .int v3), (5, .int 0)]) [3, 4, 5, 2, 0] rfl ?_
            refine w_M_conflicts_L65 F hret th l1 l2 v3 (fun G h => ?_) _ _ _ h
            refine x_iinc F 2 (v := (l2 + 1)) (lv' := [(2, .int (l2 + 1)), (0, va_rf (some th)), (1, .int l1)]) d_M_conflicts_128 rfl (congrArg (fun z : Int32 => l2 + z) (by decide)) (by decide) rfl ?_
            refine x_goto F (tgt := 12) d_M_conflicts_131 (by decide) ?_
            refine x_sub (lv' := [(0, va_rf (some th)), (1, .int l1), (2, .int (l2 + 1))]) [1, 2, 0] rfl ?_
            exact ih _ _ h
          · refine x_iconst F (v := 1) d_M_conflicts_60 (by decide) ?_
            exact x_zret F rfl hret d_M_conflicts_61 h (fun h => ⟨_, rfl, h⟩)
set_option maxHeartbeats 4000000 in
set_option maxRecDepth 100000 in
theorem w_M_conflicts_L2 {p : Program} {l : Launch} {e : Env} {s : State} {m : MethodId} {args : Array Value} {below : List Frame} {meth : Method} {c : Code} {C0 S0 : Nat} {D : va_G} {dA : Nat → ClassId} {base : Nat} {sa : Nat → Nat} (F : xFix p { frames := 0, cells := C0, slots := S0, locals := 0 } s m args meth c b_M_conflicts 6 "BlockSearchModel" D dA base sa) (hret : meth.sig.returnType = (some FieldType.boolean)) {K : Int32 → xS → Prop} {Kx140 : xS → Prop} (th : Nat) (hKx140 : ∀ (G : xS), Kx140  G → X_M_conflicts p l e s m args below meth c C0 S0 K D dA base sa 140 [] [] G) : ∀ (n : Nat) (l1 : Int32) (G : xS), p_M_conflicts_L2 th K Kx140 n l1 G → X_M_conflicts p l e s m args below meth c C0 S0 K D dA base sa 2 [(0, va_rf (some th)), (1, .int l1)] [] G := by
  intro n
  induction n with
  | zero => intro l1 G h; exact h.elim
  | succ n ih =>
    intro l1 G h
    unfold p_M_conflicts_L2 at h
    refine x_iload_n F 1 d_M_conflicts_2 rfl rfl ?_
    refine x_aload_n F 0 d_M_conflicts_3 rfl rfl ?_
    refine x_getI F cl_M in_M (k := 6) (by decide) k_607 rfl d_M_conflicts_4 h (fun v1 h => ?_)
    refine x_icmp_ge F (tgt := 140) d_M_conflicts_7 (by decide) h (fun q h => ?_) (fun q h => ?_)
    · refine x_sub (lv' := []) [] rfl ?_
      exact hKx140  _ h
    · refine x_iconst F (v := 0) d_M_conflicts_10 (by decide) ?_
      refine x_istore_n F (lv' := [(2, .int 0), (0, va_rf (some th)), (1, .int l1)]) d_M_conflicts_11 rfl (by decide) rfl ?_
      refine x_sub (lv' := [(0, va_rf (some th)), (1, .int l1), (2, .int 0)]) [1, 2, 0] rfl ?_
      refine w_M_conflicts_L12 F hret th l1 (fun G h => ?_) _ _ _ h
      refine x_iinc F 1 (v := (l1 + 1)) (lv' := [(1, .int (l1 + 1)), (0, va_rf (some th))]) d_M_conflicts_134 rfl (congrArg (fun z : Int32 => l1 + z) (by decide)) (by decide) rfl ?_
      refine x_goto F (tgt := 2) d_M_conflicts_137 (by decide) ?_
      refine x_sub (lv' := [(0, va_rf (some th)), (1, .int (l1 + 1))]) [1, 0] rfl ?_
      exact ih _ _ h
set_option maxHeartbeats 4000000 in
set_option maxRecDepth 100000 in
theorem c_M_conflicts (l : Launch) (D : va_G) (dA : Nat → ClassId) (base : Nat) (sa : Nat → Nat) (th : Nat) (K : Int32 → xS → Prop) (G : xS) (h : p_M_conflicts th K G) : xMet l y_M_conflicts b_M_conflicts 6 (some FieldType.boolean) 0 0 D dA base sa [va_rf (some th)] G (fun v G2 => ∃ r : Int32, v = some (.int r) ∧ K r G2) := by
  refine xMet.of (by decide) (by simp [x_cat, x_catI]) (Nat.le_of_ble_eq_true rfl) ?_
  intro p e s m args below meth c F hret hname
  unfold p_M_conflicts at h
  refine x_sub (lv' := [(0, va_rf (some th))]) [0] rfl ?_
  refine x_iconst F (v := 0) d_M_conflicts_0 (by decide) ?_
  refine x_istore_n F (lv' := [(1, .int 0), (0, va_rf (some th))]) d_M_conflicts_1 rfl (by decide) rfl ?_
  refine x_sub (lv' := [(0, va_rf (some th)), (1, .int 0)]) [1, 0] rfl ?_
  refine w_M_conflicts_L2 F hret th (fun G h => ?_) _ _ _ h
  refine x_iconst F (v := 0) d_M_conflicts_140 (by decide) ?_
  exact x_zret F rfl hret d_M_conflicts_141 h (fun h => ⟨_, rfl, h⟩)
def p_M_find_L2 (th : Nat) (l1 : Int32) (K : Int32 → xS → Prop) (Kx48 : xS → Prop) : Nat → Int32 → xS → Prop
  | 0, _ => fun _ => False
  | n + 1, l2 => xgI 10 18 (some th) fun v1 => xif (v1 ≤ l2) (Kx48) (xgR 10 14 (some th) fun v2 => xal 0 v2 l2 fun v3 => xif (v3 = (-2)) (p_M_find_L2 th l1 K Kx48 n (l2 + 1)) (xgR 10 16 (some th) fun v4 => xal 1 v4 l2 fun v5 => xif (v5 = 0) (p_M_find_L2 th l1 K Kx48 n (l2 + 1)) (xgR 10 13 (some th) fun v6 => xal 0 v6 l2 fun v7 => xif (v7 = l1) (K l2) (p_M_find_L2 th l1 K Kx48 n (l2 + 1)))))
def p_M_find (th : Nat) (l1 : Int32) (K : Int32 → xS → Prop) : xS → Prop := p_M_find_L2 th l1 K (K (-1)) 1000 0
abbrev X_M_find (p : Program) (l : Launch) (e : Env) (s : State) (m : MethodId) (args : Array Value) (below : List Frame) (meth : Method) (c : Code) (C0 S0 : Nat) (K : Int32 → xS → Prop) (D : va_G) (dA : Nat → ClassId) (base : Nat) (sa : Nat → Nat) (pc : Nat) (lv : List (Nat × Value)) (st : List Value) (G : xS) : Prop := xW p l e { frames := 0, cells := C0, slots := S0, locals := 0 } s m args below meth c 3 (MQ below (xQ D dA base (fun v G2 => ∃ r : Int32, v = some (.int r) ∧ K r G2)) args s C0 S0 (fun q : Nat => base ≤ q)) D dA base sa pc lv st G
set_option maxHeartbeats 4000000 in
set_option maxRecDepth 100000 in
theorem w_M_find_L2 {p : Program} {l : Launch} {e : Env} {s : State} {m : MethodId} {args : Array Value} {below : List Frame} {meth : Method} {c : Code} {C0 S0 : Nat} {D : va_G} {dA : Nat → ClassId} {base : Nat} {sa : Nat → Nat} (F : xFix p { frames := 0, cells := C0, slots := S0, locals := 0 } s m args meth c b_M_find 3 "BlockSearchModel" D dA base sa) (hret : meth.sig.returnType = (some FieldType.int)) {K : Int32 → xS → Prop} {Kx48 : xS → Prop} (th : Nat) (l1 : Int32) (hKx48 : ∀ (G : xS), Kx48  G → X_M_find p l e s m args below meth c C0 S0 K D dA base sa 48 [] [] G) : ∀ (n : Nat) (l2 : Int32) (G : xS), p_M_find_L2 th l1 K Kx48 n l2 G → X_M_find p l e s m args below meth c C0 S0 K D dA base sa 2 [(0, va_rf (some th)), (1, .int l1), (2, .int l2)] [] G := by
  intro n
  induction n with
  | zero => intro l2 G h; exact h.elim
  | succ n ih =>
    intro l2 G h
    unfold p_M_find_L2 at h
    refine x_iload_n F 2 d_M_find_2 rfl rfl ?_
    refine x_aload_n F 0 d_M_find_3 rfl rfl ?_
    refine x_getI F cl_M in_M (k := 18) (by decide) k_619 rfl d_M_find_4 h (fun v1 h => ?_)
    refine x_icmp_ge F (tgt := 48) d_M_find_7 (by decide) h (fun q h => ?_) (fun q h => ?_)
    · refine x_sub (lv' := []) [] rfl ?_
      exact hKx48  _ h
    · refine x_aload_n F 0 d_M_find_10 rfl rfl ?_
      refine x_getR F cl_M in_M (k := 14) (by decide) k_615 rfl d_M_find_11 h (fun v2 h => ?_)
      refine x_iload_n F 2 d_M_find_14 rfl rfl ?_
      refine x_iald F (t := 0) rfl d_M_find_15 h (fun v3 h => ?_)
      refine x_bipush F (v := (-2)) d_M_find_16 (by decide) ?_
      refine x_icmp_eq F (tgt := 42) d_M_find_18 (by decide) h (fun q h => ?_) (fun q h => ?_)
      · refine x_iinc F 2 (v := (l2 + 1)) (lv' := [(2, .int (l2 + 1)), (0, va_rf (some th)), (1, .int l1)]) d_M_find_42 rfl (congrArg (fun z : Int32 => l2 + z) (by decide)) (by decide) rfl ?_
        refine x_goto F (tgt := 2) d_M_find_45 (by decide) ?_
        refine x_sub (lv' := [(0, va_rf (some th)), (1, .int l1), (2, .int (l2 + 1))]) [1, 2, 0] rfl ?_
        exact ih _ _ h
      · refine x_aload_n F 0 d_M_find_21 rfl rfl ?_
        refine x_getR F cl_M in_M (k := 16) (by decide) k_617 rfl d_M_find_22 h (fun v4 h => ?_)
        refine x_iload_n F 2 d_M_find_25 rfl rfl ?_
        refine x_zald F (t := 1) rfl d_M_find_26 h (fun v5 h => ?_)
        refine x_if_eq F (tgt := 42) d_M_find_27 (by decide) h (fun q h => ?_) (fun q h => ?_)
        · refine x_iinc F 2 (v := (l2 + 1)) (lv' := [(2, .int (l2 + 1)), (0, va_rf (some th)), (1, .int l1)]) d_M_find_42 rfl (congrArg (fun z : Int32 => l2 + z) (by decide)) (by decide) rfl ?_
          refine x_goto F (tgt := 2) d_M_find_45 (by decide) ?_
          refine x_sub (lv' := [(0, va_rf (some th)), (1, .int l1), (2, .int (l2 + 1))]) [1, 2, 0] rfl ?_
          exact ih _ _ h
        · refine x_aload_n F 0 d_M_find_30 rfl rfl ?_
          refine x_getR F cl_M in_M (k := 13) (by decide) k_614 rfl d_M_find_31 h (fun v6 h => ?_)
          refine x_iload_n F 2 d_M_find_34 rfl rfl ?_
          refine x_iald F (t := 0) rfl d_M_find_35 h (fun v7 h => ?_)
          refine x_iload_n F 1 d_M_find_36 rfl rfl ?_
          refine x_icmp_ne F (tgt := 42) d_M_find_37 (by decide) h (fun q h => ?_) (fun q h => ?_)
          · refine x_iinc F 2 (v := (l2 + 1)) (lv' := [(2, .int (l2 + 1)), (0, va_rf (some th)), (1, .int l1)]) d_M_find_42 rfl (congrArg (fun z : Int32 => l2 + z) (by decide)) (by decide) rfl ?_
            refine x_goto F (tgt := 2) d_M_find_45 (by decide) ?_
            refine x_sub (lv' := [(0, va_rf (some th)), (1, .int l1), (2, .int (l2 + 1))]) [1, 2, 0] rfl ?_
            exact ih _ _ h
          · refine x_iload_n F 2 d_M_find_40 rfl rfl ?_
            exact x_iret F rfl hret d_M_find_41 ⟨_, rfl, h⟩
set_option maxHeartbeats 4000000 in
set_option maxRecDepth 100000 in
theorem c_M_find (l : Launch) (D : va_G) (dA : Nat → ClassId) (base : Nat) (sa : Nat → Nat) (th : Nat) (l1 : Int32) (K : Int32 → xS → Prop) (G : xS) (h : p_M_find th l1 K G) : xMet l y_M_find b_M_find 3 (some FieldType.int) 0 0 D dA base sa [va_rf (some th), .int l1] G (fun v G2 => ∃ r : Int32, v = some (.int r) ∧ K r G2) := by
  refine xMet.of (by decide) (by simp [x_cat, x_catI]) (Nat.le_of_ble_eq_true rfl) ?_
  intro p e s m args below meth c F hret hname
  unfold p_M_find at h
  refine x_sub (lv' := [(0, va_rf (some th)), (1, .int l1)]) [0, 1] rfl ?_
  refine x_iconst F (v := 0) d_M_find_0 (by decide) ?_
  refine x_istore_n F (lv' := [(2, .int 0), (0, va_rf (some th)), (1, .int l1)]) d_M_find_1 rfl (by decide) rfl ?_
  refine x_sub (lv' := [(0, va_rf (some th)), (1, .int l1), (2, .int 0)]) [1, 2, 0] rfl ?_
  refine w_M_find_L2 F hret th l1 (fun G h => ?_) _ _ _ h
  refine x_iconst F (v := (-1)) d_M_find_48 (by decide) ?_
  exact x_iret F rfl hret d_M_find_49 ⟨_, rfl, h⟩
def p_M_lay_L56 (th : Nat) (l1 : Int32) (l2 : Int32) (K : Unit → xS → Prop) (Kx189 : xS → Prop) : Nat → Int32 → xS → Prop
  | 0, _ => fun _ => False
  | n + 1, l3 => xif (4 ≤ l3) (Kx189) (xgR 10 24 (some th) fun v14 => xgR 10 3 (some th) fun v15 => xal 0 v15 ((4 * l1) + l3) fun v16 => xas 0 v14 ((4 * l2) + l3) v16 (xgR 10 25 (some th) fun v17 => xgR 10 4 (some th) fun v18 => xal 0 v18 ((4 * l1) + l3) fun v19 => xas 0 v17 ((4 * l2) + l3) v19 (xgR 10 26 (some th) fun v20 => xgR 10 5 (some th) fun v21 => xalL 6 v21 ((4 * l1) + l3) fun v22 => xasL 6 v20 ((4 * l2) + l3) v22 (xgR 10 0 (some th) fun v23 => xal 0 v23 l1 fun v24 => xgR 10 3 (some th) fun v25 => xal 0 v25 ((4 * l1) + l3) fun v26 => xif (v26 ≤ 0) (p_M_lay_L56 th l1 l2 K Kx189 n (l3 + 1)) (xgR 10 9 (some th) fun v27 => xal 0 v27 ((4 * v24) + l3) fun v28 => xif (v28 = 0) (xgR 10 9 (some th) fun v29 => xgR 10 3 (some th) fun v30 => xal 0 v30 ((4 * l1) + l3) fun v31 => xas 0 v29 ((4 * v24) + l3) v31 (xgI 10 10 (some th) fun v32 => xpI 10 10 (some th) (v32 + 1) (p_M_lay_L56 th l1 l2 K Kx189 n (l3 + 1)))) (p_M_lay_L56 th l1 l2 K Kx189 n (l3 + 1)))))))
def p_M_lay (th : Nat) (l1 : Int32) (K : Unit → xS → Prop) : xS → Prop := xgI 10 27 (some th) fun v1 => xgR 10 2 (some th) fun v2 => xal 0 v2 l1 fun v3 => xgR 10 22 (some th) fun v4 => xgR 10 0 (some th) fun v5 => xal 0 v5 l1 fun v6 => xas 0 v4 (v1 + v3) v6 (xgR 10 23 (some th) fun v7 => xgR 10 1 (some th) fun v8 => xal 0 v8 l1 fun v9 => xif (0 ≤ v9) (xgR 10 2 (some th) fun v10 => xgR 10 1 (some th) fun v11 => xal 0 v11 l1 fun v12 => xal 0 v10 v12 fun v13 => xas 0 v7 (v1 + v3) v13 (p_M_lay_L56 th l1 (v1 + v3) K (K ()) 1000 0)) (xas 0 v7 (v1 + v3) (-1) (p_M_lay_L56 th l1 (v1 + v3) K (K ()) 1000 0)))
abbrev X_M_lay (p : Program) (l : Launch) (e : Env) (s : State) (m : MethodId) (args : Array Value) (below : List Frame) (meth : Method) (c : Code) (C0 S0 : Nat) (K : Unit → xS → Prop) (D : va_G) (dA : Nat → ClassId) (base : Nat) (sa : Nat → Nat) (pc : Nat) (lv : List (Nat × Value)) (st : List Value) (G : xS) : Prop := xW p l e { frames := 0, cells := C0, slots := S0, locals := 0 } s m args below meth c 5 (MQ below (xQ D dA base (fun v G2 => ∃ r : Unit, v = (none : Option Value) ∧ K r G2)) args s C0 S0 (fun q : Nat => base ≤ q)) D dA base sa pc lv st G
set_option maxHeartbeats 4000000 in
set_option maxRecDepth 100000 in
theorem w_M_lay_L56 {p : Program} {l : Launch} {e : Env} {s : State} {m : MethodId} {args : Array Value} {below : List Frame} {meth : Method} {c : Code} {C0 S0 : Nat} {D : va_G} {dA : Nat → ClassId} {base : Nat} {sa : Nat → Nat} (F : xFix p { frames := 0, cells := C0, slots := S0, locals := 0 } s m args meth c b_M_lay 5 "BlockSearchModel" D dA base sa) (hret : meth.sig.returnType = none) {K : Unit → xS → Prop} {Kx189 : xS → Prop} (th : Nat) (l1 : Int32) (l2 : Int32) (hKx189 : ∀ (G : xS), Kx189  G → X_M_lay p l e s m args below meth c C0 S0 K D dA base sa 189 [] [] G) : ∀ (n : Nat) (l3 : Int32) (G : xS), p_M_lay_L56 th l1 l2 K Kx189 n l3 G → X_M_lay p l e s m args below meth c C0 S0 K D dA base sa 56 [(0, va_rf (some th)), (1, .int l1), (2, .int l2), (3, .int l3)] [] G := by
  intro n
  induction n with
  | zero => intro l3 G h; exact h.elim
  | succ n ih =>
    intro l3 G h
    unfold p_M_lay_L56 at h
    refine x_iload_n F 3 d_M_lay_56 rfl rfl ?_
    refine x_iconst F (v := 4) d_M_lay_57 (by decide) ?_
    refine x_icmp_ge F (tgt := 189) d_M_lay_58 (by decide) h (fun q h => ?_) (fun q h => ?_)
    · refine x_sub (lv' := []) [] rfl ?_
      exact hKx189  _ h
    · refine x_aload_n F 0 d_M_lay_61 rfl rfl ?_
      refine x_getR F cl_M in_M (k := 24) (by decide) k_625 rfl d_M_lay_62 h (fun v14 h => ?_)
      refine x_iconst F (v := 4) d_M_lay_65 (by decide) ?_
      refine x_iload_n F 2 d_M_lay_66 rfl rfl ?_
      refine x_imul F d_M_lay_67 ?_
      refine x_iload_n F 3 d_M_lay_68 rfl rfl ?_
      refine x_iadd F d_M_lay_69 ?_
      refine x_aload_n F 0 d_M_lay_70 rfl rfl ?_
      refine x_getR F cl_M in_M (k := 3) (by decide) k_604 rfl d_M_lay_71 h (fun v15 h => ?_)
      refine x_iconst F (v := 4) d_M_lay_74 (by decide) ?_
      refine x_iload_n F 1 d_M_lay_75 rfl rfl ?_
      refine x_imul F d_M_lay_76 ?_
      refine x_iload_n F 3 d_M_lay_77 rfl rfl ?_
      refine x_iadd F d_M_lay_78 ?_
      refine x_iald F (t := 0) rfl d_M_lay_79 h (fun v16 h => ?_)
      refine x_iast F (t := 0) rfl d_M_lay_80 h (fun G h => ?_)
      refine x_aload_n F 0 d_M_lay_81 rfl rfl ?_
      refine x_getR F cl_M in_M (k := 25) (by decide) k_626 rfl d_M_lay_82 h (fun v17 h => ?_)
      refine x_iconst F (v := 4) d_M_lay_85 (by decide) ?_
      refine x_iload_n F 2 d_M_lay_86 rfl rfl ?_
      refine x_imul F d_M_lay_87 ?_
      refine x_iload_n F 3 d_M_lay_88 rfl rfl ?_
      refine x_iadd F d_M_lay_89 ?_
      refine x_aload_n F 0 d_M_lay_90 rfl rfl ?_
      refine x_getR F cl_M in_M (k := 4) (by decide) k_605 rfl d_M_lay_91 h (fun v18 h => ?_)
      refine x_iconst F (v := 4) d_M_lay_94 (by decide) ?_
      refine x_iload_n F 1 d_M_lay_95 rfl rfl ?_
      refine x_imul F d_M_lay_96 ?_
      refine x_iload_n F 3 d_M_lay_97 rfl rfl ?_
      refine x_iadd F d_M_lay_98 ?_
      refine x_iald F (t := 0) rfl d_M_lay_99 h (fun v19 h => ?_)
      refine x_iast F (t := 0) rfl d_M_lay_100 h (fun G h => ?_)
      refine x_aload_n F 0 d_M_lay_101 rfl rfl ?_
      refine x_getR F cl_M in_M (k := 26) (by decide) k_627 rfl d_M_lay_102 h (fun v20 h => ?_)
      refine x_iconst F (v := 4) d_M_lay_105 (by decide) ?_
      refine x_iload_n F 2 d_M_lay_106 rfl rfl ?_
      refine x_imul F d_M_lay_107 ?_
      refine x_iload_n F 3 d_M_lay_108 rfl rfl ?_
      refine x_iadd F d_M_lay_109 ?_
      refine x_aload_n F 0 d_M_lay_110 rfl rfl ?_
      refine x_getR F cl_M in_M (k := 5) (by decide) k_606 rfl d_M_lay_111 h (fun v21 h => ?_)
      refine x_iconst F (v := 4) d_M_lay_114 (by decide) ?_
      refine x_iload_n F 1 d_M_lay_115 rfl rfl ?_
      refine x_imul F d_M_lay_116 ?_
      refine x_iload_n F 3 d_M_lay_117 rfl rfl ?_
      refine x_iadd F d_M_lay_118 ?_
      refine x_lald F (t := 6) rfl d_M_lay_119 h (fun v22 h => ?_)
      refine x_last F (t := 6) rfl d_M_lay_120 h (fun G h => ?_)
      refine x_iconst F (v := 4) d_M_lay_121 (by decide) ?_
      refine x_aload_n F 0 d_M_lay_122 rfl rfl ?_
      refine x_getR F cl_M in_M (k := 0) (by decide) k_601 rfl d_M_lay_123 h (fun v23 h => ?_)
      refine x_iload_n F 1 d_M_lay_126 rfl rfl ?_
      refine x_iald F (t := 0) rfl d_M_lay_127 h (fun v24 h => ?_)
      refine x_imul F d_M_lay_128 ?_
      refine x_iload_n F 3 d_M_lay_129 rfl rfl ?_
      refine x_iadd F d_M_lay_130 ?_
      refine x_istore F (lv' := [(4, .int ((4 * v24) + l3)), (0, va_rf (some th)), (1, .int l1), (2, .int l2), (3, .int l3)]) d_M_lay_131 (by decide) rfl ?_
      refine x_aload_n F 1 d_M_lay_133 rfl rfl ?_
      refine x_getR F cl_M in_M (k := 3) (by decide) k_604 rfl d_M_lay_134 h (fun v25 h => ?_)
      refine x_iconst F (v := 4) d_M_lay_137 (by decide) ?_
      refine x_iload_n F 2 d_M_lay_138 rfl rfl ?_
      refine x_imul F d_M_lay_139 ?_
      refine x_iload_n F 4 d_M_lay_140 rfl rfl ?_
      refine x_iadd F d_M_lay_141 ?_
      refine x_iald F (t := 0) rfl d_M_lay_142 h (fun v26 h => ?_)
      refine x_if_le F (tgt := 183) d_M_lay_143 (by decide) h (fun q h => ?_) (fun q h => ?_)
      · refine x_iinc F 4 (v := (l3 + 1)) (lv' := [(3, .int (l3 + 1)), (4, .int ((4 * v24) + l3)), (0, va_rf (some th)), (1, .int l1), (2, .int l2)]) d_M_lay_183 rfl (congrArg (fun z : Int32 => l3 + z) (by decide)) (by decide) rfl ?_
        refine x_goto F (tgt := 56) d_M_lay_186 (by decide) ?_
        refine x_sub (lv' := [(0, va_rf (some th)), (1, .int l1), (2, .int l2), (3, .int (l3 + 1))]) [2, 3, 4, 0] rfl ?_
        exact ih _ _ h
      · refine x_aload_n F 1 d_M_lay_146 rfl rfl ?_
        refine x_getR F cl_M in_M (k := 9) (by decide) k_610 rfl d_M_lay_147 h (fun v27 h => ?_)
        refine x_iload F 0 d_M_lay_150 rfl ?_
        refine x_iald F (t := 0) rfl d_M_lay_152 h (fun v28 h => ?_)
        refine x_if_ne F (tgt := 183) d_M_lay_153 (by decide) h (fun q h => ?_) (fun q h => ?_)
        · refine x_iinc F 4 (v := (l3 + 1)) (lv' := [(3, .int (l3 + 1)), (4, .int ((4 * v24) + l3)), (0, va_rf (some th)), (1, .int l1), (2, .int l2)]) d_M_lay_183 rfl (congrArg (fun z : Int32 => l3 + z) (by decide)) (by decide) rfl ?_
          refine x_goto F (tgt := 56) d_M_lay_186 (by decide) ?_
          refine x_sub (lv' := [(0, va_rf (some th)), (1, .int l1), (2, .int l2), (3, .int (l3 + 1))]) [2, 3, 4, 0] rfl ?_
          exact ih _ _ h
        · refine x_aload_n F 1 d_M_lay_156 rfl rfl ?_
          refine x_getR F cl_M in_M (k := 9) (by decide) k_610 rfl d_M_lay_157 h (fun v29 h => ?_)
          refine x_iload F 0 d_M_lay_160 rfl ?_
          refine x_aload_n F 1 d_M_lay_162 rfl rfl ?_
          refine x_getR F cl_M in_M (k := 3) (by decide) k_604 rfl d_M_lay_163 h (fun v30 h => ?_)
          refine x_iconst F (v := 4) d_M_lay_166 (by decide) ?_
          refine x_iload_n F 2 d_M_lay_167 rfl rfl ?_
          refine x_imul F d_M_lay_168 ?_
          refine x_iload_n F 4 d_M_lay_169 rfl rfl ?_
          refine x_iadd F d_M_lay_170 ?_
          refine x_iald F (t := 0) rfl d_M_lay_171 h (fun v31 h => ?_)
          refine x_iast F (t := 0) rfl d_M_lay_172 h (fun G h => ?_)
          refine x_aload_n F 1 d_M_lay_173 rfl rfl ?_
          refine x_dup F (x_cat _) d_M_lay_174 ?_
          refine x_getI F cl_M in_M (k := 10) (by decide) k_611 rfl d_M_lay_175 h (fun v32 h => ?_)
          refine x_iconst F (v := 1) d_M_lay_178 (by decide) ?_
          refine x_iadd F d_M_lay_179 ?_
          refine x_putI F cl_M in_M (k := 10) (by decide) k_611 rfl ty_M n_M rfl rfl d_M_lay_180 h (fun G h => ?_)
          refine x_iinc F 4 (v := (l3 + 1)) (lv' := [(3, .int (l3 + 1)), (4, .int ((4 * v24) + l3)), (0, va_rf (some th)), (1, .int l1), (2, .int l2)]) d_M_lay_183 rfl (congrArg (fun z : Int32 => l3 + z) (by decide)) (by decide) rfl ?_
          refine x_goto F (tgt := 56) d_M_lay_186 (by decide) ?_
          refine x_sub (lv' := [(0, va_rf (some th)), (1, .int l1), (2, .int l2), (3, .int (l3 + 1))]) [2, 3, 4, 0] rfl ?_
          exact ih _ _ h
set_option maxHeartbeats 4000000 in
set_option maxRecDepth 100000 in
theorem c_M_lay (l : Launch) (D : va_G) (dA : Nat → ClassId) (base : Nat) (sa : Nat → Nat) (th : Nat) (l1 : Int32) (K : Unit → xS → Prop) (G : xS) (h : p_M_lay th l1 K G) : xMet l y_M_lay b_M_lay 5 none 0 0 D dA base sa [va_rf (some th), .int l1] G (fun v G2 => ∃ r : Unit, v = none ∧ K r G2) := by
  refine xMet.of (by decide) (by simp [x_cat, x_catI]) (Nat.le_of_ble_eq_true rfl) ?_
  intro p e s m args below meth c F hret hname
  unfold p_M_lay at h
  refine x_sub (lv' := [(0, va_rf (some th)), (1, .int l1)]) [0, 1] rfl ?_
  refine x_aload_n F 0 d_M_lay_0 rfl rfl ?_
  refine x_getI F cl_M in_M (k := 27) (by decide) k_628 rfl d_M_lay_1 h (fun v1 h => ?_)
  refine x_aload_n F 0 d_M_lay_4 rfl rfl ?_
  refine x_getR F cl_M in_M (k := 2) (by decide) k_603 rfl d_M_lay_5 h (fun v2 h => ?_)
  refine x_iload_n F 1 d_M_lay_8 rfl rfl ?_
  refine x_iald F (t := 0) rfl d_M_lay_9 h (fun v3 h => ?_)
  refine x_iadd F d_M_lay_10 ?_
  refine x_istore_n F (lv' := [(2, .int (v1 + v3)), (0, va_rf (some th)), (1, .int l1)]) d_M_lay_11 rfl (by decide) rfl ?_
  refine x_aload_n F 1 d_M_lay_12 rfl rfl ?_
  refine x_getR F cl_M in_M (k := 22) (by decide) k_623 rfl d_M_lay_13 h (fun v4 h => ?_)
  refine x_iload_n F 0 d_M_lay_16 rfl rfl ?_
  refine x_aload_n F 1 d_M_lay_17 rfl rfl ?_
  refine x_getR F cl_M in_M (k := 0) (by decide) k_601 rfl d_M_lay_18 h (fun v5 h => ?_)
  refine x_iload_n F 2 d_M_lay_21 rfl rfl ?_
  refine x_iald F (t := 0) rfl d_M_lay_22 h (fun v6 h => ?_)
  refine x_iast F (t := 0) rfl d_M_lay_23 h (fun G h => ?_)
  refine x_aload_n F 1 d_M_lay_24 rfl rfl ?_
  refine x_getR F cl_M in_M (k := 23) (by decide) k_624 rfl d_M_lay_25 h (fun v7 h => ?_)
  refine x_iload_n F 0 d_M_lay_28 rfl rfl ?_
  refine x_aload_n F 1 d_M_lay_29 rfl rfl ?_
  refine x_getR F cl_M in_M (k := 1) (by decide) k_602 rfl d_M_lay_30 h (fun v8 h => ?_)
  refine x_iload_n F 2 d_M_lay_33 rfl rfl ?_
  refine x_iald F (t := 0) rfl d_M_lay_34 h (fun v9 h => ?_)
  refine x_if_ge F (tgt := 42) d_M_lay_35 (by decide) h (fun q h => ?_) (fun q h => ?_)
  · refine x_aload_n F 1 d_M_lay_42 rfl rfl ?_
    refine x_getR F cl_M in_M (k := 2) (by decide) k_603 rfl d_M_lay_43 h (fun v10 h => ?_)
    refine x_aload_n F 1 d_M_lay_46 rfl rfl ?_
    refine x_getR F cl_M in_M (k := 1) (by decide) k_602 rfl d_M_lay_47 h (fun v11 h => ?_)
    refine x_iload_n F 2 d_M_lay_50 rfl rfl ?_
    refine x_iald F (t := 0) rfl d_M_lay_51 h (fun v12 h => ?_)
    refine x_iald F (t := 0) rfl d_M_lay_52 h (fun v13 h => ?_)
    refine x_iast F (t := 0) rfl d_M_lay_53 h (fun G h => ?_)
    refine x_iconst F (v := 0) d_M_lay_54 (by decide) ?_
    refine x_istore_n F (lv' := [(3, .int 0), (2, .int (v1 + v3)), (0, va_rf (some th)), (1, .int l1)]) d_M_lay_55 rfl (by decide) rfl ?_
    refine x_sub (lv' := [(0, va_rf (some th)), (1, .int l1), (2, .int (v1 + v3)), (3, .int 0)]) [2, 3, 1, 0] rfl ?_
    refine w_M_lay_L56 F hret th l1 (v1 + v3) (fun G h => ?_) _ _ _ h
    exact x_vret F rfl hret d_M_lay_189 ⟨(), rfl, h⟩
  · refine x_iconst F (v := (-1)) d_M_lay_38 (by decide) ?_
    refine x_goto F (tgt := 53) d_M_lay_39 (by decide) ?_
    refine x_iast F (t := 0) rfl d_M_lay_53 h (fun G h => ?_)
    refine x_iconst F (v := 0) d_M_lay_54 (by decide) ?_
    refine x_istore_n F (lv' := [(3, .int 0), (2, .int (v1 + v3)), (0, va_rf (some th)), (1, .int l1)]) d_M_lay_55 rfl (by decide) rfl ?_
    refine x_sub (lv' := [(0, va_rf (some th)), (1, .int l1), (2, .int (v1 + v3)), (3, .int 0)]) [2, 3, 1, 0] rfl ?_
    refine w_M_lay_L56 F hret th l1 (v1 + v3) (fun G h => ?_) _ _ _ h
    exact x_vret F rfl hret d_M_lay_189 ⟨(), rfl, h⟩
def p_M_add_L89 (th : Nat) (l1 : Int32) (K : Int32 → xS → Prop) (Kx110 : xS → Prop) : Nat → Int32 → xS → Prop
  | 0, _ => fun _ => False
  | n + 1, l4 => xgI 10 6 (some th) fun v10 => xif (v10 ≤ l4) (Kx110) (xob 10 (some th) fun b => xcall 0 0 (p_M_lay b l4) fun _ => p_M_add_L89 th l1 K Kx110 n (l4 + 1))
def p_M_add (th : Nat) (l1 : Int32) (K : Int32 → xS → Prop) : xS → Prop := xcall 0 0 (p_M_in l1 0 19) fun v1 => xif (v1 = 0) (K (-1)) (xgI 10 6 (some th) fun v2 => xif (v2 = 0) (K (-2)) (xgI 10 7 (some th) fun v3 => xgI 10 6 (some th) fun v4 => xif (v3 < v4) (K (-2)) (xgI 10 8 (some th) fun v5 => xif (v5 < 0) (xob 10 (some th) fun b => xcall 0 0 (p_M_conflicts b ) fun v6 => xif (v6 = 0) (xob 10 (some th) fun b => xcall 0 0 (p_M_inBuffer b ) fun v7 => xgI 10 6 (some th) fun v8 => xif ((v7 + v8) ≤ 30) (xob 10 (some th) fun b => xcall 0 0 (p_M_find b l1) fun v9 => xif (v9 < 0) (p_M_add_L89 th l1 K (xgR 10 11 (some th) fun v11 => xgI 10 18 (some th) fun v12 => xgI 10 27 (some th) fun v13 => xas 0 v11 v12 v13 (xgR 10 12 (some th) fun v14 => xgI 10 18 (some th) fun v15 => xgI 10 6 (some th) fun v16 => xas 0 v14 v15 v16 (xgR 10 13 (some th) fun v17 => xgI 10 18 (some th) fun v18 => xas 0 v17 v18 l1 (xgR 10 14 (some th) fun v19 => xgI 10 18 (some th) fun v20 => xas 0 v19 v20 (-1) (xgR 10 15 (some th) fun v21 => xgI 10 18 (some th) fun v22 => xas 0 v21 v22 (-2) (xgR 10 16 (some th) fun v23 => xgI 10 18 (some th) fun v24 => xasZ 1 v23 v24 1 (xgI 10 18 (some th) fun v25 => xpI 10 18 (some th) (v25 + 1) (xgI 10 27 (some th) fun v26 => xgI 10 6 (some th) fun v27 => xpI 10 27 (some th) (v26 + v27) (xob 10 (some th) fun b => xcall 0 0 (p_M_wipe b ) fun v28 => xob 10 (some th) fun b => xcall 0 0 (p_M_inBuffer b ) fun v29 => K v29))))))))) 1000 0) (xgR 10 16 (some th) fun v30 => xasZ 1 v30 v9 0 (p_M_add_L89 th l1 K (xgR 10 11 (some th) fun v31 => xgI 10 18 (some th) fun v32 => xgI 10 27 (some th) fun v33 => xas 0 v31 v32 v33 (xgR 10 12 (some th) fun v34 => xgI 10 18 (some th) fun v35 => xgI 10 6 (some th) fun v36 => xas 0 v34 v35 v36 (xgR 10 13 (some th) fun v37 => xgI 10 18 (some th) fun v38 => xas 0 v37 v38 l1 (xgR 10 14 (some th) fun v39 => xgI 10 18 (some th) fun v40 => xas 0 v39 v40 (-1) (xgR 10 15 (some th) fun v41 => xgI 10 18 (some th) fun v42 => xas 0 v41 v42 (-2) (xgR 10 16 (some th) fun v43 => xgI 10 18 (some th) fun v44 => xasZ 1 v43 v44 1 (xgI 10 18 (some th) fun v45 => xpI 10 18 (some th) (v45 + 1) (xgI 10 27 (some th) fun v46 => xgI 10 6 (some th) fun v47 => xpI 10 27 (some th) (v46 + v47) (xob 10 (some th) fun b => xcall 0 0 (p_M_wipe b ) fun v48 => xob 10 (some th) fun b => xcall 0 0 (p_M_inBuffer b ) fun v49 => K v49))))))))) 1000 0))) (K (-3))) (K (-4))) (K (-2)))))
abbrev X_M_add (p : Program) (l : Launch) (e : Env) (s : State) (m : MethodId) (args : Array Value) (below : List Frame) (meth : Method) (c : Code) (C0 S0 : Nat) (K : Int32 → xS → Prop) (D : va_G) (dA : Nat → ClassId) (base : Nat) (sa : Nat → Nat) (pc : Nat) (lv : List (Nat × Value)) (st : List Value) (G : xS) : Prop := xW p l e { frames := 1, cells := C0, slots := S0, locals := 25 } s m args below meth c 5 (MQ below (xQ D dA base (fun v G2 => ∃ r : Int32, v = some (.int r) ∧ K r G2)) args s C0 S0 (fun q : Nat => base ≤ q)) D dA base sa pc lv st G
set_option maxHeartbeats 4000000 in
set_option maxRecDepth 100000 in
theorem w_M_add_L89 {p : Program} {l : Launch} {e : Env} {s : State} {m : MethodId} {args : Array Value} {below : List Frame} {meth : Method} {c : Code} {C0 S0 : Nat} {D : va_G} {dA : Nat → ClassId} {base : Nat} {sa : Nat → Nat} (F : xFix p { frames := 1, cells := C0, slots := S0, locals := 25 } s m args meth c b_M_add 5 "BlockSearchModel" D dA base sa) (hret : meth.sig.returnType = (some FieldType.int)) {K : Int32 → xS → Prop} {Kx110 : xS → Prop} (th : Nat) (l1 : Int32) (hKx110 : ∀ (G : xS), Kx110  G → X_M_add p l e s m args below meth c C0 S0 K D dA base sa 110 [(0, va_rf (some th)), (1, .int l1)] [] G) : ∀ (n : Nat) (l4 : Int32) (G : xS), p_M_add_L89 th l1 K Kx110 n l4 G → X_M_add p l e s m args below meth c C0 S0 K D dA base sa 89 [(0, va_rf (some th)), (1, .int l1), (4, .int l4)] [] G := by
  intro n
  induction n with
  | zero => intro l4 G h; exact h.elim
  | succ n ih =>
    intro l4 G h
    unfold p_M_add_L89 at h
    refine x_iload F 2 d_M_add_89 rfl ?_
    refine x_aload_n F 0 d_M_add_91 rfl rfl ?_
    refine x_getI F cl_M in_M (k := 6) (by decide) k_607 rfl d_M_add_92 h (fun v10 h => ?_)
    refine x_icmp_ge F (tgt := 110) d_M_add_95 (by decide) h (fun q h => ?_) (fun q h => ?_)
    · refine x_sub (lv' := [(0, va_rf (some th)), (1, .int l1)]) [0, 1] rfl ?_
      exact hKx110  _ h
    · refine x_aload_n F 0 d_M_add_98 rfl rfl ?_
      refine x_iload F 2 d_M_add_99 rfl ?_
      refine x_callV F (enc := fun r => none) (P := fun b => p_M_lay b l4) (n := 1) (As := [.int l4]) (st := []) k_783 k_9 k_782 kp_13 k_780 ⟨by decide, by decide, by decide +kernel⟩ rfl ⟨Nat.le_of_ble_eq_true rfl, Nat.le_of_ble_eq_true rfl⟩ (by simp [x_cat, x_catI, x_catL]) cl_M rfl (ro := some th) (fun b K' G' h' _ => c_M_lay l D dA base sa b l4 K' G' h') d_M_add_101 h (fun _ G h => ?_)
      refine x_iinc F 2 (v := (l4 + 1)) (lv' := [(4, .int (l4 + 1)), (0, va_rf (some th)), (1, .int l1)]) d_M_add_104 rfl (congrArg (fun z : Int32 => l4 + z) (by decide)) (by decide) rfl ?_
      refine x_goto F (tgt := 89) d_M_add_107 (by decide) ?_
      refine x_sub (lv' := [(0, va_rf (some th)), (1, .int l1), (4, .int (l4 + 1))]) [1, 2, 0] rfl ?_
      exact ih _ _ h
set_option maxHeartbeats 4000000 in
set_option maxRecDepth 100000 in
theorem c_M_add (l : Launch) (D : va_G) (dA : Nat → ClassId) (base : Nat) (sa : Nat → Nat) (th : Nat) (l1 : Int32) (K : Int32 → xS → Prop) (G : xS) (h : p_M_add th l1 K G) : xMet l y_M_add b_M_add 5 (some FieldType.int) 1 25 D dA base sa [va_rf (some th), .int l1] G (fun v G2 => ∃ r : Int32, v = some (.int r) ∧ K r G2) := by
  refine xMet.of (by decide) (by simp [x_cat, x_catI]) (Nat.le_of_ble_eq_true rfl) ?_
  intro p e s m args below meth c F hret hname
  unfold p_M_add at h
  refine x_sub (lv' := [(0, va_rf (some th)), (1, .int l1)]) [0, 1] rfl ?_
  refine x_iload_n F 1 d_M_add_0 rfl rfl ?_
  refine x_iconst F (v := 0) d_M_add_1 (by decide) ?_
  refine x_bipush F (v := 19) d_M_add_2 (by decide) ?_
  refine x_callS F (enc := fun r => some (.int r)) (P := p_M_in l1 0 19) (n := 3) (As := [.int l1, .int 0, .int 19]) (st := []) k_744 k_9 k_743 k_742 ⟨by decide, by decide, by decide +kernel⟩ rfl ⟨Nat.le_of_ble_eq_true rfl, Nat.le_of_ble_eq_true rfl⟩ (by simp [x_cat, x_catI, x_catL]) (fun K' G' h' _ => c_M_in l D dA base sa l1 0 19 K' G' h') d_M_add_4 h (fun v1 G h => ?_)
  refine x_if_ne F (tgt := 12) d_M_add_7 (by decide) h (fun q h => ?_) (fun q h => ?_)
  · refine x_aload_n F 0 d_M_add_12 rfl rfl ?_
    refine x_getI F cl_M in_M (k := 6) (by decide) k_607 rfl d_M_add_13 h (fun v2 h => ?_)
    refine x_if_eq F (tgt := 37) d_M_add_16 (by decide) h (fun q h => ?_) (fun q h => ?_)
    · refine x_bipush F (v := (-2)) d_M_add_37 (by decide) ?_
      exact x_iret F rfl hret d_M_add_39 ⟨_, rfl, h⟩
    · refine x_aload_n F 0 d_M_add_19 rfl rfl ?_
      refine x_getI F cl_M in_M (k := 7) (by decide) k_608 rfl d_M_add_20 h (fun v3 h => ?_)
      refine x_aload_n F 0 d_M_add_23 rfl rfl ?_
      refine x_getI F cl_M in_M (k := 6) (by decide) k_607 rfl d_M_add_24 h (fun v4 h => ?_)
      refine x_icmp_lt F (tgt := 37) d_M_add_27 (by decide) h (fun q h => ?_) (fun q h => ?_)
      · refine x_bipush F (v := (-2)) d_M_add_37 (by decide) ?_
        exact x_iret F rfl hret d_M_add_39 ⟨_, rfl, h⟩
      · refine x_aload_n F 0 d_M_add_30 rfl rfl ?_
        refine x_getI F cl_M in_M (k := 8) (by decide) k_609 rfl d_M_add_31 h (fun v5 h => ?_)
        refine x_if_lt F (tgt := 40) d_M_add_34 (by decide) h (fun q h => ?_) (fun q h => ?_)
        · refine x_aload_n F 0 d_M_add_40 rfl rfl ?_
          refine x_callV F (enc := fun r => some (.int r)) (P := fun b => p_M_conflicts b ) (n := 0) (As := []) (st := []) k_771 k_9 k_770 kp_10 k_768 ⟨by decide, by decide, by decide +kernel⟩ rfl ⟨Nat.le_of_ble_eq_true rfl, Nat.le_of_ble_eq_true rfl⟩ (by simp [x_cat, x_catI, x_catL]) cl_M rfl (ro := some th) (fun b K' G' h' _ => c_M_conflicts l D dA base sa b  K' G' h') d_M_add_41 h (fun v6 G h => ?_)
          refine x_istore_n F (lv' := [(2, .int v6), (0, va_rf (some th)), (1, .int l1)]) d_M_add_44 rfl (by decide) rfl ?_
          refine x_iload_n F 0 d_M_add_45 rfl rfl ?_
          refine x_if_eq F (tgt := 52) d_M_add_46 (by decide) h (fun q h => ?_) (fun q h => ?_)
          · refine x_aload_n F 1 d_M_add_52 rfl rfl ?_
            refine x_callV F (enc := fun r => some (.int r)) (P := fun b => p_M_inBuffer b ) (n := 0) (As := []) (st := []) k_775 k_9 k_774 kp_11 k_772 ⟨by decide, by decide, by decide +kernel⟩ rfl ⟨Nat.le_of_ble_eq_true rfl, Nat.le_of_ble_eq_true rfl⟩ (by simp [x_cat, x_catI, x_catL]) cl_M rfl (ro := some th) (fun b K' G' h' _ => c_M_inBuffer l D dA base sa b  K' G' h') d_M_add_53 h (fun v7 G h => ?_)
            refine x_aload_n F 1 d_M_add_56 rfl rfl ?_
            refine x_getI F cl_M in_M (k := 6) (by decide) k_607 rfl d_M_add_57 h (fun v8 h => ?_)
            refine x_iadd F d_M_add_60 ?_
            refine x_bipush F (v := 30) d_M_add_61 (by decide) ?_
            refine x_icmp_le F (tgt := 69) d_M_add_63 (by decide) h (fun q h => ?_) (fun q h => ?_)
            · refine x_aload_n F 1 d_M_add_69 rfl rfl ?_
              refine x_iload_n F 2 d_M_add_70 rfl rfl ?_
              refine x_callV F (enc := fun r => some (.int r)) (P := fun b => p_M_find b l1) (n := 1) (As := [.int l1]) (st := []) k_779 k_9 k_778 kp_12 k_776 ⟨by decide, by decide, by decide +kernel⟩ rfl ⟨Nat.le_of_ble_eq_true rfl, Nat.le_of_ble_eq_true rfl⟩ (by simp [x_cat, x_catI, x_catL]) cl_M rfl (ro := some th) (fun b K' G' h' _ => c_M_find l D dA base sa b l1 K' G' h') d_M_add_71 h (fun v9 G h => ?_)
              refine x_istore_n F (lv' := [(3, .int v9), (2, .int v6), (0, va_rf (some th)), (1, .int l1)]) d_M_add_74 rfl (by decide) rfl ?_
              refine x_iload_n F 0 d_M_add_75 rfl rfl ?_
              refine x_if_lt F (tgt := 86) d_M_add_76 (by decide) h (fun q h => ?_) (fun q h => ?_)
              · refine x_iconst F (v := 0) d_M_add_86 (by decide) ?_
                refine x_istore F (lv' := [(4, .int 0), (3, .int v9), (2, .int v6), (0, va_rf (some th)), (1, .int l1)]) d_M_add_87 (by decide) rfl ?_
                refine x_sub (lv' := [(0, va_rf (some th)), (1, .int l1), (4, .int 0)]) [3, 4, 0] rfl ?_
                refine w_M_add_L89 F hret th l1 (fun G h => ?_) _ _ _ h
                refine x_aload_n F 0 d_M_add_110 rfl rfl ?_
                refine x_getR F cl_M in_M (k := 11) (by decide) k_612 rfl d_M_add_111 h (fun v11 h => ?_)
                refine x_aload_n F 0 d_M_add_114 rfl rfl ?_
                refine x_getI F cl_M in_M (k := 18) (by decide) k_619 rfl d_M_add_115 h (fun v12 h => ?_)
                refine x_aload_n F 0 d_M_add_118 rfl rfl ?_
                refine x_getI F cl_M in_M (k := 27) (by decide) k_628 rfl d_M_add_119 h (fun v13 h => ?_)
                refine x_iast F (t := 0) rfl d_M_add_122 h (fun G h => ?_)
                refine x_aload_n F 0 d_M_add_123 rfl rfl ?_
                refine x_getR F cl_M in_M (k := 12) (by decide) k_613 rfl d_M_add_124 h (fun v14 h => ?_)
                refine x_aload_n F 0 d_M_add_127 rfl rfl ?_
                refine x_getI F cl_M in_M (k := 18) (by decide) k_619 rfl d_M_add_128 h (fun v15 h => ?_)
                refine x_aload_n F 0 d_M_add_131 rfl rfl ?_
                refine x_getI F cl_M in_M (k := 6) (by decide) k_607 rfl d_M_add_132 h (fun v16 h => ?_)
                refine x_iast F (t := 0) rfl d_M_add_135 h (fun G h => ?_)
                refine x_aload_n F 0 d_M_add_136 rfl rfl ?_
                refine x_getR F cl_M in_M (k := 13) (by decide) k_614 rfl d_M_add_137 h (fun v17 h => ?_)
                refine x_aload_n F 0 d_M_add_140 rfl rfl ?_
                refine x_getI F cl_M in_M (k := 18) (by decide) k_619 rfl d_M_add_141 h (fun v18 h => ?_)
                refine x_iload_n F 1 d_M_add_144 rfl rfl ?_
                refine x_iast F (t := 0) rfl d_M_add_145 h (fun G h => ?_)
                refine x_aload_n F 0 d_M_add_146 rfl rfl ?_
                refine x_getR F cl_M in_M (k := 14) (by decide) k_615 rfl d_M_add_147 h (fun v19 h => ?_)
                refine x_aload_n F 0 d_M_add_150 rfl rfl ?_
                refine x_getI F cl_M in_M (k := 18) (by decide) k_619 rfl d_M_add_151 h (fun v20 h => ?_)
                refine x_iconst F (v := (-1)) d_M_add_154 (by decide) ?_
                refine x_iast F (t := 0) rfl d_M_add_155 h (fun G h => ?_)
                refine x_aload_n F 0 d_M_add_156 rfl rfl ?_
                refine x_getR F cl_M in_M (k := 15) (by decide) k_616 rfl d_M_add_157 h (fun v21 h => ?_)
                refine x_aload_n F 0 d_M_add_160 rfl rfl ?_
                refine x_getI F cl_M in_M (k := 18) (by decide) k_619 rfl d_M_add_161 h (fun v22 h => ?_)
                refine x_bipush F (v := (-2)) d_M_add_164 (by decide) ?_
                refine x_iast F (t := 0) rfl d_M_add_166 h (fun G h => ?_)
                refine x_aload_n F 0 d_M_add_167 rfl rfl ?_
                refine x_getR F cl_M in_M (k := 16) (by decide) k_617 rfl d_M_add_168 h (fun v23 h => ?_)
                refine x_aload_n F 0 d_M_add_171 rfl rfl ?_
                refine x_getI F cl_M in_M (k := 18) (by decide) k_619 rfl d_M_add_172 h (fun v24 h => ?_)
                refine x_iconst F (v := 1) d_M_add_175 (by decide) ?_
                refine x_zast F (t := 1) rfl d_M_add_176 h (fun G h => ?_)
                refine x_aload_n F 0 d_M_add_177 rfl rfl ?_
                refine x_dup F (x_cat _) d_M_add_178 ?_
                refine x_getI F cl_M in_M (k := 18) (by decide) k_619 rfl d_M_add_179 h (fun v25 h => ?_)
                refine x_iconst F (v := 1) d_M_add_182 (by decide) ?_
                refine x_iadd F d_M_add_183 ?_
                refine x_putI F cl_M in_M (k := 18) (by decide) k_619 rfl ty_M n_M rfl rfl d_M_add_184 h (fun G h => ?_)
                refine x_aload_n F 0 d_M_add_187 rfl rfl ?_
                refine x_dup F (x_cat _) d_M_add_188 ?_
                refine x_getI F cl_M in_M (k := 27) (by decide) k_628 rfl d_M_add_189 h (fun v26 h => ?_)
                refine x_aload_n F 0 d_M_add_192 rfl rfl ?_
                refine x_getI F cl_M in_M (k := 6) (by decide) k_607 rfl d_M_add_193 h (fun v27 h => ?_)
                refine x_iadd F d_M_add_196 ?_
                refine x_putI F cl_M in_M (k := 27) (by decide) k_628 rfl ty_M n_M rfl rfl d_M_add_197 h (fun G h => ?_)
                refine x_aload_n F 0 d_M_add_200 rfl rfl ?_
                refine x_callV F (enc := fun r => some (.int r)) (P := fun b => p_M_wipe b ) (n := 0) (As := []) (st := []) k_763 k_9 k_761 k_762 k_784 ⟨by decide, by decide, by decide +kernel⟩ rfl ⟨Nat.le_of_ble_eq_true rfl, Nat.le_of_ble_eq_true rfl⟩ (by simp [x_cat, x_catI, x_catL]) cl_M rfl (ro := some th) (fun b K' G' h' _ => c_M_wipe l D dA base sa b  K' G' h') d_M_add_201 h (fun v28 G h => ?_)
                refine x_pop F rfl d_M_add_204 ?_
                refine x_aload_n F 0 d_M_add_205 rfl rfl ?_
                refine x_callV F (enc := fun r => some (.int r)) (P := fun b => p_M_inBuffer b ) (n := 0) (As := []) (st := []) k_775 k_9 k_774 kp_11 k_772 ⟨by decide, by decide, by decide +kernel⟩ rfl ⟨Nat.le_of_ble_eq_true rfl, Nat.le_of_ble_eq_true rfl⟩ (by simp [x_cat, x_catI, x_catL]) cl_M rfl (ro := some th) (fun b K' G' h' _ => c_M_inBuffer l D dA base sa b  K' G' h') d_M_add_206 h (fun v29 G h => ?_)
                exact x_iret F rfl hret d_M_add_209 ⟨_, rfl, h⟩
              · refine x_aload_n F 2 d_M_add_79 rfl rfl ?_
                refine x_getR F cl_M in_M (k := 16) (by decide) k_617 rfl d_M_add_80 h (fun v30 h => ?_)
                refine x_iload_n F 0 d_M_add_83 rfl rfl ?_
                refine x_iconst F (v := 0) d_M_add_84 (by decide) ?_
                refine x_zast F (t := 1) rfl d_M_add_85 h (fun G h => ?_)
                refine x_iconst F (v := 0) d_M_add_86 (by decide) ?_
                refine x_istore F (lv' := [(4, .int 0), (3, .int v9), (2, .int v6), (0, va_rf (some th)), (1, .int l1)]) d_M_add_87 (by decide) rfl ?_
                refine x_sub (lv' := [(0, va_rf (some th)), (1, .int l1), (4, .int 0)]) [3, 4, 0] rfl ?_
                refine w_M_add_L89 F hret th l1 (fun G h => ?_) _ _ _ h
                refine x_aload_n F 0 d_M_add_110 rfl rfl ?_
                refine x_getR F cl_M in_M (k := 11) (by decide) k_612 rfl d_M_add_111 h (fun v31 h => ?_)
                refine x_aload_n F 0 d_M_add_114 rfl rfl ?_
                refine x_getI F cl_M in_M (k := 18) (by decide) k_619 rfl d_M_add_115 h (fun v32 h => ?_)
                refine x_aload_n F 0 d_M_add_118 rfl rfl ?_
                refine x_getI F cl_M in_M (k := 27) (by decide) k_628 rfl d_M_add_119 h (fun v33 h => ?_)
                refine x_iast F (t := 0) rfl d_M_add_122 h (fun G h => ?_)
                refine x_aload_n F 0 d_M_add_123 rfl rfl ?_
                refine x_getR F cl_M in_M (k := 12) (by decide) k_613 rfl d_M_add_124 h (fun v34 h => ?_)
                refine x_aload_n F 0 d_M_add_127 rfl rfl ?_
                refine x_getI F cl_M in_M (k := 18) (by decide) k_619 rfl d_M_add_128 h (fun v35 h => ?_)
                refine x_aload_n F 0 d_M_add_131 rfl rfl ?_
                refine x_getI F cl_M in_M (k := 6) (by decide) k_607 rfl d_M_add_132 h (fun v36 h => ?_)
                refine x_iast F (t := 0) rfl d_M_add_135 h (fun G h => ?_)
                refine x_aload_n F 0 d_M_add_136 rfl rfl ?_
                refine x_getR F cl_M in_M (k := 13) (by decide) k_614 rfl d_M_add_137 h (fun v37 h => ?_)
                refine x_aload_n F 0 d_M_add_140 rfl rfl ?_
                refine x_getI F cl_M in_M (k := 18) (by decide) k_619 rfl d_M_add_141 h (fun v38 h => ?_)
                refine x_iload_n F 1 d_M_add_144 rfl rfl ?_
                refine x_iast F (t := 0) rfl d_M_add_145 h (fun G h => ?_)
                refine x_aload_n F 0 d_M_add_146 rfl rfl ?_
                refine x_getR F cl_M in_M (k := 14) (by decide) k_615 rfl d_M_add_147 h (fun v39 h => ?_)
                refine x_aload_n F 0 d_M_add_150 rfl rfl ?_
                refine x_getI F cl_M in_M (k := 18) (by decide) k_619 rfl d_M_add_151 h (fun v40 h => ?_)
                refine x_iconst F (v := (-1)) d_M_add_154 (by decide) ?_
                refine x_iast F (t := 0) rfl d_M_add_155 h (fun G h => ?_)
                refine x_aload_n F 0 d_M_add_156 rfl rfl ?_
                refine x_getR F cl_M in_M (k := 15) (by decide) k_616 rfl d_M_add_157 h (fun v41 h => ?_)
                refine x_aload_n F 0 d_M_add_160 rfl rfl ?_
                refine x_getI F cl_M in_M (k := 18) (by decide) k_619 rfl d_M_add_161 h (fun v42 h => ?_)
                refine x_bipush F (v := (-2)) d_M_add_164 (by decide) ?_
                refine x_iast F (t := 0) rfl d_M_add_166 h (fun G h => ?_)
                refine x_aload_n F 0 d_M_add_167 rfl rfl ?_
                refine x_getR F cl_M in_M (k := 16) (by decide) k_617 rfl d_M_add_168 h (fun v43 h => ?_)
                refine x_aload_n F 0 d_M_add_171 rfl rfl ?_
                refine x_getI F cl_M in_M (k := 18) (by decide) k_619 rfl d_M_add_172 h (fun v44 h => ?_)
                refine x_iconst F (v := 1) d_M_add_175 (by decide) ?_
                refine x_zast F (t := 1) rfl d_M_add_176 h (fun G h => ?_)
                refine x_aload_n F 0 d_M_add_177 rfl rfl ?_
                refine x_dup F (x_cat _) d_M_add_178 ?_
                refine x_getI F cl_M in_M (k := 18) (by decide) k_619 rfl d_M_add_179 h (fun v45 h => ?_)
                refine x_iconst F (v := 1) d_M_add_182 (by decide) ?_
                refine x_iadd F d_M_add_183 ?_
                refine x_putI F cl_M in_M (k := 18) (by decide) k_619 rfl ty_M n_M rfl rfl d_M_add_184 h (fun G h => ?_)
                refine x_aload_n F 0 d_M_add_187 rfl rfl ?_
                refine x_dup F (x_cat _) d_M_add_188 ?_
                refine x_getI F cl_M in_M (k := 27) (by decide) k_628 rfl d_M_add_189 h (fun v46 h => ?_)
                refine x_aload_n F 0 d_M_add_192 rfl rfl ?_
                refine x_getI F cl_M in_M (k := 6) (by decide) k_607 rfl d_M_add_193 h (fun v47 h => ?_)
                refine x_iadd F d_M_add_196 ?_
                refine x_putI F cl_M in_M (k := 27) (by decide) k_628 rfl ty_M n_M rfl rfl d_M_add_197 h (fun G h => ?_)
                refine x_aload_n F 0 d_M_add_200 rfl rfl ?_
                refine x_callV F (enc := fun r => some (.int r)) (P := fun b => p_M_wipe b ) (n := 0) (As := []) (st := []) k_763 k_9 k_761 k_762 k_784 ⟨by decide, by decide, by decide +kernel⟩ rfl ⟨Nat.le_of_ble_eq_true rfl, Nat.le_of_ble_eq_true rfl⟩ (by simp [x_cat, x_catI, x_catL]) cl_M rfl (ro := some th) (fun b K' G' h' _ => c_M_wipe l D dA base sa b  K' G' h') d_M_add_201 h (fun v48 G h => ?_)
                refine x_pop F rfl d_M_add_204 ?_
                refine x_aload_n F 0 d_M_add_205 rfl rfl ?_
                refine x_callV F (enc := fun r => some (.int r)) (P := fun b => p_M_inBuffer b ) (n := 0) (As := []) (st := []) k_775 k_9 k_774 kp_11 k_772 ⟨by decide, by decide, by decide +kernel⟩ rfl ⟨Nat.le_of_ble_eq_true rfl, Nat.le_of_ble_eq_true rfl⟩ (by simp [x_cat, x_catI, x_catL]) cl_M rfl (ro := some th) (fun b K' G' h' _ => c_M_inBuffer l D dA base sa b  K' G' h') d_M_add_206 h (fun v49 G h => ?_)
                exact x_iret F rfl hret d_M_add_209 ⟨_, rfl, h⟩
            · refine x_bipush F (v := (-3)) d_M_add_66 (by decide) ?_
              exact x_iret F rfl hret d_M_add_68 ⟨_, rfl, h⟩
          · refine x_bipush F (v := (-4)) d_M_add_49 (by decide) ?_
            exact x_iret F rfl hret d_M_add_51 ⟨_, rfl, h⟩
        · refine x_bipush F (v := (-2)) d_M_add_37 (by decide) ?_
          exact x_iret F rfl hret d_M_add_39 ⟨_, rfl, h⟩
  · refine x_iconst F (v := (-1)) d_M_add_10 (by decide) ?_
    exact x_iret F rfl hret d_M_add_11 ⟨_, rfl, h⟩
def p_M_remove (th : Nat) (l1 : Int32) (K : Int32 → xS → Prop) : xS → Prop := xob 10 (some th) fun b => xcall 0 0 (p_M_find b l1) fun v1 => xif (v1 < 0) (xif (v1 < 0) (xrz 0 K) (xrz 1 K)) (xgR 10 16 (some th) fun v2 => xasZ 1 v2 v1 0 (xif (v1 < 0) (xrz 0 K) (xrz 1 K)))
abbrev X_M_remove (p : Program) (l : Launch) (e : Env) (s : State) (m : MethodId) (args : Array Value) (below : List Frame) (meth : Method) (c : Code) (C0 S0 : Nat) (K : Int32 → xS → Prop) (D : va_G) (dA : Nat → ClassId) (base : Nat) (sa : Nat → Nat) (pc : Nat) (lv : List (Nat × Value)) (st : List Value) (G : xS) : Prop := xW p l e { frames := 1, cells := C0, slots := S0, locals := 22 } s m args below meth c 3 (MQ below (xQ D dA base (fun v G2 => ∃ r : Int32, v = some (.int r) ∧ K r G2)) args s C0 S0 (fun q : Nat => base ≤ q)) D dA base sa pc lv st G
set_option maxHeartbeats 4000000 in
set_option maxRecDepth 100000 in
theorem c_M_remove (l : Launch) (D : va_G) (dA : Nat → ClassId) (base : Nat) (sa : Nat → Nat) (th : Nat) (l1 : Int32) (K : Int32 → xS → Prop) (G : xS) (h : p_M_remove th l1 K G) : xMet l y_M_remove b_M_remove 3 (some FieldType.boolean) 1 22 D dA base sa [va_rf (some th), .int l1] G (fun v G2 => ∃ r : Int32, v = some (.int r) ∧ K r G2) := by
  refine xMet.of (by decide) (by simp [x_cat, x_catI]) (Nat.le_of_ble_eq_true rfl) ?_
  intro p e s m args below meth c F hret hname
  unfold p_M_remove at h
  refine x_sub (lv' := [(0, va_rf (some th)), (1, .int l1)]) [0, 1] rfl ?_
  refine x_aload_n F 0 d_M_remove_0 rfl rfl ?_
  refine x_iload_n F 1 d_M_remove_1 rfl rfl ?_
  refine x_callV F (enc := fun r => some (.int r)) (P := fun b => p_M_find b l1) (n := 1) (As := [.int l1]) (st := []) k_779 k_9 k_778 kp_12 k_776 ⟨by decide, by decide, by decide +kernel⟩ rfl ⟨Nat.le_of_ble_eq_true rfl, Nat.le_of_ble_eq_true rfl⟩ (by simp [x_cat, x_catI, x_catL]) cl_M rfl (ro := some th) (fun b K' G' h' _ => c_M_find l D dA base sa b l1 K' G' h') d_M_remove_2 h (fun v1 G h => ?_)
  refine x_istore_n F (lv' := [(2, .int v1), (0, va_rf (some th)), (1, .int l1)]) d_M_remove_5 rfl (by decide) rfl ?_
  refine x_iload_n F 0 d_M_remove_6 rfl rfl ?_
  refine x_if_lt F (tgt := 17) d_M_remove_7 (by decide) h (fun q h => ?_) (fun q h => ?_)
  · refine x_iload_n F 0 d_M_remove_17 rfl rfl ?_
    refine x_if_lt F (tgt := 25) d_M_remove_18 (by decide) h (fun q h => ?_) (fun q h => ?_)
    · refine x_iconst F (v := 0) d_M_remove_25 (by decide) ?_
      exact x_zret F rfl hret d_M_remove_26 h (fun h => ⟨_, rfl, h⟩)
    · refine x_iconst F (v := 1) d_M_remove_21 (by decide) ?_
      refine x_goto F (tgt := 26) d_M_remove_22 (by decide) ?_
      exact x_zret F rfl hret d_M_remove_26 h (fun h => ⟨_, rfl, h⟩)
  · refine x_aload_n F 1 d_M_remove_10 rfl rfl ?_
    refine x_getR F cl_M in_M (k := 16) (by decide) k_617 rfl d_M_remove_11 h (fun v2 h => ?_)
    refine x_iload_n F 0 d_M_remove_14 rfl rfl ?_
    refine x_iconst F (v := 0) d_M_remove_15 (by decide) ?_
    refine x_zast F (t := 1) rfl d_M_remove_16 h (fun G h => ?_)
    refine x_iload_n F 0 d_M_remove_17 rfl rfl ?_
    refine x_if_lt F (tgt := 25) d_M_remove_18 (by decide) h (fun q h => ?_) (fun q h => ?_)
    · refine x_iconst F (v := 0) d_M_remove_25 (by decide) ?_
      exact x_zret F rfl hret d_M_remove_26 h (fun h => ⟨_, rfl, h⟩)
    · refine x_iconst F (v := 1) d_M_remove_21 (by decide) ?_
      refine x_goto F (tgt := 26) d_M_remove_22 (by decide) ?_
      exact x_zret F rfl hret d_M_remove_26 h (fun h => ⟨_, rfl, h⟩)
