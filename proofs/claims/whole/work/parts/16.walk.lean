def p_M_flush_L4 (th : Nat) (K : Int32 → xS → Prop) (Kx46 : Int32 → xS → Prop) : Nat → Int32 → Int32 → xS → Prop
  | 0, _, _ => fun _ => False
  | n + 1, l1, l2 => xgI 10 18 (some th) fun v1 => xif (v1 ≤ l2) (Kx46 l1) (xgR 10 14 (some th) fun v2 => xal 0 v2 l2 fun v3 => xif (v3 = (-1)) (xgR 10 16 (some th) fun v4 => xal 1 v4 l2 fun v5 => xif (v5 = 0) (p_M_flush_L4 th K Kx46 n l1 (l2 + 1)) (xgR 10 12 (some th) fun v6 => xal 0 v6 l2 fun v7 => p_M_flush_L4 th K Kx46 n (l1 + v7) (l2 + 1))) (p_M_flush_L4 th K Kx46 n l1 (l2 + 1)))
def p_M_flush_L64 (th : Nat) (l1 : Int32) (K : Int32 → xS → Prop) (Kx112 : xS → Prop) : Nat → Int32 → xS → Prop
  | 0, _ => fun _ => False
  | n + 1, l2 => xgI 10 18 (some th) fun v9 => xif (v9 ≤ l2) (Kx112) (xgR 10 14 (some th) fun v10 => xal 0 v10 l2 fun v11 => xif (v11 = (-1)) (xgR 10 14 (some th) fun v12 => xgR 10 16 (some th) fun v13 => xal 1 v13 l2 fun v14 => xif (v14 = 0) (xas 0 v12 l2 (-2) (p_M_flush_L64 th l1 K Kx112 n (l2 + 1))) (xgI 10 19 (some th) fun v15 => xas 0 v12 l2 v15 (p_M_flush_L64 th l1 K Kx112 n (l2 + 1)))) (p_M_flush_L64 th l1 K Kx112 n (l2 + 1)))
def p_M_flush (th : Nat) (K : Int32 → xS → Prop) : xS → Prop := p_M_flush_L4 th K (fun m8 => xif (m8 ≤ 0) (p_M_flush_L64 th m8 K (xif (m8 ≤ 0) (K m8) (xgI 10 19 (some th) fun v16 => xpI 10 19 (some th) (v16 + 1) (K m8))) 1000 0) (xgI 10 19 (some th) fun v17 => xif (v17 = 6) (K (-3)) (p_M_flush_L64 th m8 K (xif (m8 ≤ 0) (K m8) (xgI 10 19 (some th) fun v18 => xpI 10 19 (some th) (v18 + 1) (K m8))) 1000 0))) 1000 0 0
abbrev X_M_flush (p : Program) (l : Launch) (e : Env) (s : State) (m : MethodId) (args : Array Value) (below : List Frame) (meth : Method) (c : Code) (C0 S0 : Nat) (K : Int32 → xS → Prop) (D : va_G) (dA : Nat → ClassId) (base : Nat) (sa : Nat → Nat) (pc : Nat) (lv : List (Nat × Value)) (st : List Value) (G : xS) : Prop := xW p l e { frames := 0, cells := C0, slots := S0, locals := 0 } s m args below meth c 3 (MQ below (xQ D dA base (fun v G2 => ∃ r : Int32, v = some (.int r) ∧ K r G2)) args s C0 S0 (fun q : Nat => base ≤ q)) D dA base sa pc lv st G
set_option maxHeartbeats 4000000 in
set_option maxRecDepth 100000 in
theorem w_M_flush_L4 {p : Program} {l : Launch} {e : Env} {s : State} {m : MethodId} {args : Array Value} {below : List Frame} {meth : Method} {c : Code} {C0 S0 : Nat} {D : va_G} {dA : Nat → ClassId} {base : Nat} {sa : Nat → Nat} (F : xFix p { frames := 0, cells := C0, slots := S0, locals := 0 } s m args meth c b_M_flush 3 "BlockSearchModel" D dA base sa) (hret : meth.sig.returnType = (some FieldType.int)) {K : Int32 → xS → Prop} {Kx46 : Int32 → xS → Prop} (th : Nat) (hKx46 : ∀ (l1 : Int32) (G : xS), Kx46 l1 G → X_M_flush p l e s m args below meth c C0 S0 K D dA base sa 46 [(0, va_rf (some th)), (1, .int l1)] [] G) : ∀ (n : Nat) (l1 : Int32) (l2 : Int32) (G : xS), p_M_flush_L4 th K Kx46 n l1 l2 G → X_M_flush p l e s m args below meth c C0 S0 K D dA base sa 4 [(0, va_rf (some th)), (1, .int l1), (2, .int l2)] [] G := by
  intro n
  induction n with
  | zero => intro l1 l2 G h; exact h.elim
  | succ n ih =>
    intro l1 l2 G h
    unfold p_M_flush_L4 at h
    refine x_iload_n F 2 d_M_flush_4 rfl rfl ?_
    refine x_aload_n F 0 d_M_flush_5 rfl rfl ?_
    refine x_getI F cl_M in_M (k := 18) (by decide) k_619 rfl d_M_flush_6 h (fun v1 h => ?_)
    refine x_icmp_ge F (tgt := 46) d_M_flush_9 (by decide) h (fun q h => ?_) (fun q h => ?_)
    · refine x_sub (lv' := [(0, va_rf (some th)), (1, .int l1)]) [0, 1] rfl ?_
      exact hKx46 _ _ h
    · refine x_aload_n F 0 d_M_flush_12 rfl rfl ?_
      refine x_getR F cl_M in_M (k := 14) (by decide) k_615 rfl d_M_flush_13 h (fun v2 h => ?_)
      refine x_iload_n F 2 d_M_flush_16 rfl rfl ?_
      refine x_iald F (t := 0) rfl d_M_flush_17 h (fun v3 h => ?_)
      refine x_iconst F (v := (-1)) d_M_flush_18 (by decide) ?_
      refine x_icmp_ne F (tgt := 40) d_M_flush_19 (by decide) h (fun q h => ?_) (fun q h => ?_)
      · refine x_iinc F 2 (v := (l2 + 1)) (lv' := [(2, .int (l2 + 1)), (0, va_rf (some th)), (1, .int l1)]) d_M_flush_40 rfl (congrArg (fun z : Int32 => l2 + z) (by decide)) (by decide) rfl ?_
        refine x_goto F (tgt := 4) d_M_flush_43 (by decide) ?_
        refine x_sub (lv' := [(0, va_rf (some th)), (1, .int l1), (2, .int (l2 + 1))]) [1, 2, 0] rfl ?_
        exact ih _ _ _ h
      · refine x_aload_n F 0 d_M_flush_22 rfl rfl ?_
        refine x_getR F cl_M in_M (k := 16) (by decide) k_617 rfl d_M_flush_23 h (fun v4 h => ?_)
        refine x_iload_n F 2 d_M_flush_26 rfl rfl ?_
        refine x_zald F (t := 1) rfl d_M_flush_27 h (fun v5 h => ?_)
        refine x_if_eq F (tgt := 40) d_M_flush_28 (by decide) h (fun q h => ?_) (fun q h => ?_)
        · refine x_iinc F 2 (v := (l2 + 1)) (lv' := [(2, .int (l2 + 1)), (0, va_rf (some th)), (1, .int l1)]) d_M_flush_40 rfl (congrArg (fun z : Int32 => l2 + z) (by decide)) (by decide) rfl ?_
          refine x_goto F (tgt := 4) d_M_flush_43 (by decide) ?_
          refine x_sub (lv' := [(0, va_rf (some th)), (1, .int l1), (2, .int (l2 + 1))]) [1, 2, 0] rfl ?_
          exact ih _ _ _ h
        · refine x_iload_n F 1 d_M_flush_31 rfl rfl ?_
          refine x_aload_n F 0 d_M_flush_32 rfl rfl ?_
          refine x_getR F cl_M in_M (k := 12) (by decide) k_613 rfl d_M_flush_33 h (fun v6 h => ?_)
          refine x_iload_n F 2 d_M_flush_36 rfl rfl ?_
          refine x_iald F (t := 0) rfl d_M_flush_37 h (fun v7 h => ?_)
          refine x_iadd F d_M_flush_38 ?_
          refine x_istore_n F (lv' := [(1, .int (l1 + v7)), (0, va_rf (some th)), (2, .int l2)]) d_M_flush_39 rfl (by decide) rfl ?_
          refine x_iinc F 2 (v := (l2 + 1)) (lv' := [(2, .int (l2 + 1)), (1, .int (l1 + v7)), (0, va_rf (some th))]) d_M_flush_40 rfl (congrArg (fun z : Int32 => l2 + z) (by decide)) (by decide) rfl ?_
          refine x_goto F (tgt := 4) d_M_flush_43 (by decide) ?_
          refine x_sub (lv' := [(0, va_rf (some th)), (1, .int (l1 + v7)), (2, .int (l2 + 1))]) [2, 1, 0] rfl ?_
          exact ih _ _ _ h
set_option maxHeartbeats 4000000 in
set_option maxRecDepth 100000 in
theorem w_M_flush_L64 {p : Program} {l : Launch} {e : Env} {s : State} {m : MethodId} {args : Array Value} {below : List Frame} {meth : Method} {c : Code} {C0 S0 : Nat} {D : va_G} {dA : Nat → ClassId} {base : Nat} {sa : Nat → Nat} (F : xFix p { frames := 0, cells := C0, slots := S0, locals := 0 } s m args meth c b_M_flush 3 "BlockSearchModel" D dA base sa) (hret : meth.sig.returnType = (some FieldType.int)) {K : Int32 → xS → Prop} {Kx112 : xS → Prop} (th : Nat) (l1 : Int32) (hKx112 : ∀ (G : xS), Kx112  G → X_M_flush p l e s m args below meth c C0 S0 K D dA base sa 112 [(0, va_rf (some th)), (1, .int l1)] [] G) : ∀ (n : Nat) (l2 : Int32) (G : xS), p_M_flush_L64 th l1 K Kx112 n l2 G → X_M_flush p l e s m args below meth c C0 S0 K D dA base sa 64 [(0, va_rf (some th)), (1, .int l1), (2, .int l2)] [] G := by
  intro n
  induction n with
  | zero => intro l2 G h; exact h.elim
  | succ n ih =>
    intro l2 G h
    unfold p_M_flush_L64 at h
    refine x_iload_n F 2 d_M_flush_64 rfl rfl ?_
    refine x_aload_n F 0 d_M_flush_65 rfl rfl ?_
    refine x_getI F cl_M in_M (k := 18) (by decide) k_619 rfl d_M_flush_66 h (fun v9 h => ?_)
    refine x_icmp_ge F (tgt := 112) d_M_flush_69 (by decide) h (fun q h => ?_) (fun q h => ?_)
    · refine x_sub (lv' := [(0, va_rf (some th)), (1, .int l1)]) [0, 1] rfl ?_
      exact hKx112  _ h
    · refine x_aload_n F 0 d_M_flush_72 rfl rfl ?_
      refine x_getR F cl_M in_M (k := 14) (by decide) k_615 rfl d_M_flush_73 h (fun v10 h => ?_)
      refine x_iload_n F 2 d_M_flush_76 rfl rfl ?_
      refine x_iald F (t := 0) rfl d_M_flush_77 h (fun v11 h => ?_)
      refine x_iconst F (v := (-1)) d_M_flush_78 (by decide) ?_
      refine x_icmp_ne F (tgt := 106) d_M_flush_79 (by decide) h (fun q h => ?_) (fun q h => ?_)
      · refine x_iinc F 2 (v := (l2 + 1)) (lv' := [(2, .int (l2 + 1)), (0, va_rf (some th)), (1, .int l1)]) d_M_flush_106 rfl (congrArg (fun z : Int32 => l2 + z) (by decide)) (by decide) rfl ?_
        refine x_goto F (tgt := 64) d_M_flush_109 (by decide) ?_
        refine x_sub (lv' := [(0, va_rf (some th)), (1, .int l1), (2, .int (l2 + 1))]) [1, 2, 0] rfl ?_
        exact ih _ _ h
      · refine x_aload_n F 0 d_M_flush_82 rfl rfl ?_
        refine x_getR F cl_M in_M (k := 14) (by decide) k_615 rfl d_M_flush_83 h (fun v12 h => ?_)
        refine x_iload_n F 2 d_M_flush_86 rfl rfl ?_
        refine x_aload_n F 0 d_M_flush_87 rfl rfl ?_
        refine x_getR F cl_M in_M (k := 16) (by decide) k_617 rfl d_M_flush_88 h (fun v13 h => ?_)
        refine x_iload_n F 2 d_M_flush_91 rfl rfl ?_
        refine x_zald F (t := 1) rfl d_M_flush_92 h (fun v14 h => ?_)
        refine x_if_eq F (tgt := 103) d_M_flush_93 (by decide) h (fun q h => ?_) (fun q h => ?_)
        · refine x_bipush F (v := (-2)) d_M_flush_103 (by decide) ?_
          refine x_iast F (t := 0) rfl d_M_flush_105 h (fun G h => ?_)
          refine x_iinc F 2 (v := (l2 + 1)) (lv' := [(2, .int (l2 + 1)), (0, va_rf (some th)), (1, .int l1)]) d_M_flush_106 rfl (congrArg (fun z : Int32 => l2 + z) (by decide)) (by decide) rfl ?_
          refine x_goto F (tgt := 64) d_M_flush_109 (by decide) ?_
          refine x_sub (lv' := [(0, va_rf (some th)), (1, .int l1), (2, .int (l2 + 1))]) [1, 2, 0] rfl ?_
          exact ih _ _ h
        · refine x_aload_n F 0 d_M_flush_96 rfl rfl ?_
          refine x_getI F cl_M in_M (k := 19) (by decide) k_620 rfl d_M_flush_97 h (fun v15 h => ?_)
          refine x_goto F (tgt := 105) d_M_flush_100 (by decide) ?_
          refine x_iast F (t := 0) rfl d_M_flush_105 h (fun G h => ?_)
          refine x_iinc F 2 (v := (l2 + 1)) (lv' := [(2, .int (l2 + 1)), (0, va_rf (some th)), (1, .int l1)]) d_M_flush_106 rfl (congrArg (fun z : Int32 => l2 + z) (by decide)) (by decide) rfl ?_
          refine x_goto F (tgt := 64) d_M_flush_109 (by decide) ?_
          refine x_sub (lv' := [(0, va_rf (some th)), (1, .int l1), (2, .int (l2 + 1))]) [1, 2, 0] rfl ?_
          exact ih _ _ h
set_option maxHeartbeats 4000000 in
set_option maxRecDepth 100000 in
theorem c_M_flush (l : Launch) (D : va_G) (dA : Nat → ClassId) (base : Nat) (sa : Nat → Nat) (th : Nat) (K : Int32 → xS → Prop) (G : xS) (h : p_M_flush th K G) : xMet l y_M_flush b_M_flush 3 (some FieldType.int) 0 0 D dA base sa [va_rf (some th)] G (fun v G2 => ∃ r : Int32, v = some (.int r) ∧ K r G2) := by
  refine xMet.of (by decide) (by simp [x_cat, x_catI]) (Nat.le_of_ble_eq_true rfl) ?_
  intro p e s m args below meth c F hret hname
  unfold p_M_flush at h
  refine x_sub (lv' := [(0, va_rf (some th))]) [0] rfl ?_
  refine x_iconst F (v := 0) d_M_flush_0 (by decide) ?_
  refine x_istore_n F (lv' := [(1, .int 0), (0, va_rf (some th))]) d_M_flush_1 rfl (by decide) rfl ?_
  refine x_iconst F (v := 0) d_M_flush_2 (by decide) ?_
  refine x_istore_n F (lv' := [(2, .int 0), (1, .int 0), (0, va_rf (some th))]) d_M_flush_3 rfl (by decide) rfl ?_
  refine x_sub (lv' := [(0, va_rf (some th)), (1, .int 0), (2, .int 0)]) [2, 1, 0] rfl ?_
  refine w_M_flush_L4 F hret th (fun m8 G h => ?_) _ _ _ _ h
  refine x_iload_n F 1 d_M_flush_46 rfl rfl ?_
  refine x_if_le F (tgt := 62) d_M_flush_47 (by decide) h (fun q h => ?_) (fun q h => ?_)
  · refine x_iconst F (v := 0) d_M_flush_62 (by decide) ?_
    refine x_istore_n F (lv' := [(2, .int 0), (0, va_rf (some th)), (1, .int m8)]) d_M_flush_63 rfl (by decide) rfl ?_
    refine x_sub (lv' := [(0, va_rf (some th)), (1, .int m8), (2, .int 0)]) [1, 2, 0] rfl ?_
    refine w_M_flush_L64 F hret th m8 (fun G h => ?_) _ _ _ h
    refine x_iload_n F 1 d_M_flush_112 rfl rfl ?_
    refine x_if_le F (tgt := 126) d_M_flush_113 (by decide) h (fun q h => ?_) (fun q h => ?_)
    · refine x_iload_n F 1 d_M_flush_126 rfl rfl ?_
      exact x_iret F rfl hret d_M_flush_127 ⟨_, rfl, h⟩
    · refine x_aload_n F 0 d_M_flush_116 rfl rfl ?_
      refine x_dup F (x_cat _) d_M_flush_117 ?_
      refine x_getI F cl_M in_M (k := 19) (by decide) k_620 rfl d_M_flush_118 h (fun v16 h => ?_)
      refine x_iconst F (v := 1) d_M_flush_121 (by decide) ?_
      refine x_iadd F d_M_flush_122 ?_
      refine x_putI F cl_M in_M (k := 19) (by decide) k_620 rfl ty_M n_M rfl rfl d_M_flush_123 h (fun G h => ?_)
      refine x_iload_n F 1 d_M_flush_126 rfl rfl ?_
      exact x_iret F rfl hret d_M_flush_127 ⟨_, rfl, h⟩
  · refine x_aload_n F 0 d_M_flush_50 rfl rfl ?_
    refine x_getI F cl_M in_M (k := 19) (by decide) k_620 rfl d_M_flush_51 h (fun v17 h => ?_)
    refine x_bipush F (v := 6) d_M_flush_54 (by decide) ?_
    refine x_icmp_ne F (tgt := 62) d_M_flush_56 (by decide) h (fun q h => ?_) (fun q h => ?_)
    · refine x_iconst F (v := 0) d_M_flush_62 (by decide) ?_
      refine x_istore_n F (lv' := [(2, .int 0), (0, va_rf (some th)), (1, .int m8)]) d_M_flush_63 rfl (by decide) rfl ?_
      refine x_sub (lv' := [(0, va_rf (some th)), (1, .int m8), (2, .int 0)]) [1, 2, 0] rfl ?_
      refine w_M_flush_L64 F hret th m8 (fun G h => ?_) _ _ _ h
      refine x_iload_n F 1 d_M_flush_112 rfl rfl ?_
      refine x_if_le F (tgt := 126) d_M_flush_113 (by decide) h (fun q h => ?_) (fun q h => ?_)
      · refine x_iload_n F 1 d_M_flush_126 rfl rfl ?_
        exact x_iret F rfl hret d_M_flush_127 ⟨_, rfl, h⟩
      · refine x_aload_n F 0 d_M_flush_116 rfl rfl ?_
        refine x_dup F (x_cat _) d_M_flush_117 ?_
        refine x_getI F cl_M in_M (k := 19) (by decide) k_620 rfl d_M_flush_118 h (fun v18 h => ?_)
        refine x_iconst F (v := 1) d_M_flush_121 (by decide) ?_
        refine x_iadd F d_M_flush_122 ?_
        refine x_putI F cl_M in_M (k := 19) (by decide) k_620 rfl ty_M n_M rfl rfl d_M_flush_123 h (fun G h => ?_)
        refine x_iload_n F 1 d_M_flush_126 rfl rfl ?_
        exact x_iret F rfl hret d_M_flush_127 ⟨_, rfl, h⟩
    · refine x_bipush F (v := (-3)) d_M_flush_59 (by decide) ?_
      exact x_iret F rfl hret d_M_flush_61 ⟨_, rfl, h⟩
def p_M_merge_L31 (th : Nat) (l1 : Int32) (l2 : Int32) (K : Int32 → xS → Prop) (Kx110 : Int32 → xS → Prop) : Nat → Int32 → Int32 → xS → Prop
  | 0, _, _ => fun _ => False
  | n + 1, l3, l4 => xgI 10 18 (some th) fun v4 => xif (v4 ≤ l4) (Kx110 l3) (xgR 10 14 (some th) fun v5 => xal 0 v5 l4 fun v6 => xcall 0 0 (p_M_in v6 l1 ((l1 + l2) - 1)) fun v7 => xif (v7 = 0) (p_M_merge_L31 th l1 l2 K Kx110 n l3 (l4 + 1)) (xgR 10 16 (some th) fun v8 => xal 1 v8 l4 fun v9 => xif (v9 = 0) (xgR 10 14 (some th) fun v10 => xas 0 v10 l4 (-2) (xgI 10 20 (some th) fun v11 => xpI 10 20 (some th) (v11 + 1) (p_M_merge_L31 th l1 l2 K Kx110 n l3 (l4 + 1)))) (xgR 10 14 (some th) fun v12 => xas 0 v12 l4 l1 (p_M_merge_L31 th l1 l2 K Kx110 n 1 (l4 + 1)))))
def p_M_merge_L126 (th : Nat) (l1 : Int32) (l2 : Int32) (l4 : Int32) (K : Int32 → xS → Prop) (Kx166 : xS → Prop) : Nat → Int32 → xS → Prop
  | 0, _ => fun _ => False
  | n + 1, l5 => xgI 10 18 (some th) fun v14 => xif (v14 ≤ l5) (Kx166) (xgR 10 14 (some th) fun v15 => xal 0 v15 l5 fun v16 => xif (v16 < (l1 + l2)) (p_M_merge_L126 th l1 l2 l4 K Kx166 n (l5 + 1)) (xgR 10 14 (some th) fun v17 => xal 0 v17 l5 fun v18 => xas 0 v17 l5 (v18 - l4) (p_M_merge_L126 th l1 l2 l4 K Kx166 n (l5 + 1))))
def p_M_merge (th : Nat) (l1 : Int32) (l2 : Int32) (K : Int32 → xS → Prop) : xS → Prop := xcall 0 0 (p_M_in l2 2 6) fun v1 => xif (v1 = 0) (K (-1)) (xgI 10 19 (some th) fun v2 => xcall 0 0 (p_M_in l1 0 (v2 - l2)) fun v3 => xif (v3 = 0) (K (-1)) (p_M_merge_L31 th l1 l2 K (fun m13 => xif (m13 = 0) (p_M_merge_L126 th l1 l2 l2 K (xgI 10 19 (some th) fun v19 => xpI 10 19 (some th) (v19 - l2) (xgI 10 19 (some th) fun v20 => K v20)) 1000 0) (p_M_merge_L126 th l1 l2 (l2 - 1) K (xgI 10 19 (some th) fun v21 => xpI 10 19 (some th) (v21 - (l2 - 1)) (xgI 10 19 (some th) fun v22 => K v22)) 1000 0)) 1000 0 0))
abbrev X_M_merge (p : Program) (l : Launch) (e : Env) (s : State) (m : MethodId) (args : Array Value) (below : List Frame) (meth : Method) (c : Code) (C0 S0 : Nat) (K : Int32 → xS → Prop) (D : va_G) (dA : Nat → ClassId) (base : Nat) (sa : Nat → Nat) (pc : Nat) (lv : List (Nat × Value)) (st : List Value) (G : xS) : Prop := xW p l e { frames := 1, cells := C0, slots := S0, locals := 22 } s m args below meth c 6 (MQ below (xQ D dA base (fun v G2 => ∃ r : Int32, v = some (.int r) ∧ K r G2)) args s C0 S0 (fun q : Nat => base ≤ q)) D dA base sa pc lv st G
set_option maxHeartbeats 4000000 in
set_option maxRecDepth 100000 in
theorem w_M_merge_L31 {p : Program} {l : Launch} {e : Env} {s : State} {m : MethodId} {args : Array Value} {below : List Frame} {meth : Method} {c : Code} {C0 S0 : Nat} {D : va_G} {dA : Nat → ClassId} {base : Nat} {sa : Nat → Nat} (F : xFix p { frames := 1, cells := C0, slots := S0, locals := 22 } s m args meth c b_M_merge 6 "BlockSearchModel" D dA base sa) (hret : meth.sig.returnType = (some FieldType.int)) {K : Int32 → xS → Prop} {Kx110 : Int32 → xS → Prop} (th : Nat) (l1 : Int32) (l2 : Int32) (hKx110 : ∀ (l3 : Int32) (G : xS), Kx110 l3 G → X_M_merge p l e s m args below meth c C0 S0 K D dA base sa 110 [(0, va_rf (some th)), (1, .int l1), (2, .int l2), (3, .int l3)] [] G) : ∀ (n : Nat) (l3 : Int32) (l4 : Int32) (G : xS), p_M_merge_L31 th l1 l2 K Kx110 n l3 l4 G → X_M_merge p l e s m args below meth c C0 S0 K D dA base sa 31 [(0, va_rf (some th)), (1, .int l1), (2, .int l2), (3, .int l3), (4, .int l4)] [] G := by
  intro n
  induction n with
  | zero => intro l3 l4 G h; exact h.elim
  | succ n ih =>
    intro l3 l4 G h
    unfold p_M_merge_L31 at h
    refine x_iload F 4 d_M_merge_31 rfl ?_
    refine x_aload_n F 0 d_M_merge_33 rfl rfl ?_
    refine x_getI F cl_M in_M (k := 18) (by decide) k_619 rfl d_M_merge_34 h (fun v4 h => ?_)
    refine x_icmp_ge F (tgt := 110) d_M_merge_37 (by decide) h (fun q h => ?_) (fun q h => ?_)
    · refine x_sub (lv' := [(0, va_rf (some th)), (1, .int l1), (2, .int l2), (3, .int l3)]) [0, 1, 2, 3] rfl ?_
      exact hKx110 _ _ h
    · refine x_aload_n F 0 d_M_merge_40 rfl rfl ?_
      refine x_getR F cl_M in_M (k := 14) (by decide) k_615 rfl d_M_merge_41 h (fun v5 h => ?_)
      refine x_iload F 4 d_M_merge_44 rfl ?_
      refine x_iald F (t := 0) rfl d_M_merge_46 h (fun v6 h => ?_)
      refine x_iload_n F 1 d_M_merge_47 rfl rfl ?_
      refine x_iload_n F 1 d_M_merge_48 rfl rfl ?_
      refine x_iload_n F 2 d_M_merge_49 rfl rfl ?_
      refine x_iadd F d_M_merge_50 ?_
      refine x_iconst F (v := 1) d_M_merge_51 (by decide) ?_
      refine x_isub F d_M_merge_52 ?_
      refine x_callS F (enc := fun r => some (.int r)) (P := p_M_in v6 l1 ((l1 + l2) - 1)) (n := 3) (As := [.int v6, .int l1, .int ((l1 + l2) - 1)]) (st := []) k_744 k_9 k_743 k_742 ⟨by decide, by decide, by decide +kernel⟩ rfl ⟨Nat.le_of_ble_eq_true rfl, Nat.le_of_ble_eq_true rfl⟩ (by simp [x_cat, x_catI, x_catL]) (fun K' G' h' _ => c_M_in l D dA base sa v6 l1 ((l1 + l2) - 1) K' G' h') d_M_merge_53 h (fun v7 G h => ?_)
      refine x_if_ne F (tgt := 62) d_M_merge_56 (by decide) h (fun q h => ?_) (fun q h => ?_)
      · refine x_aload_n F 0 d_M_merge_62 rfl rfl ?_
        refine x_getR F cl_M in_M (k := 16) (by decide) k_617 rfl d_M_merge_63 h (fun v8 h => ?_)
        refine x_iload F 4 d_M_merge_66 rfl ?_
        refine x_zald F (t := 1) rfl d_M_merge_68 h (fun v9 h => ?_)
        refine x_if_eq F (tgt := 85) d_M_merge_69 (by decide) h (fun q h => ?_) (fun q h => ?_)
        · refine x_aload_n F 0 d_M_merge_85 rfl rfl ?_
          refine x_getR F cl_M in_M (k := 14) (by decide) k_615 rfl d_M_merge_86 h (fun v10 h => ?_)
          refine x_iload F 4 d_M_merge_89 rfl ?_
          refine x_bipush F (v := (-2)) d_M_merge_91 (by decide) ?_
          refine x_iast F (t := 0) rfl d_M_merge_93 h (fun G h => ?_)
          refine x_aload_n F 0 d_M_merge_94 rfl rfl ?_
          refine x_dup F (x_cat _) d_M_merge_95 ?_
          refine x_getI F cl_M in_M (k := 20) (by decide) k_621 rfl d_M_merge_96 h (fun v11 h => ?_)
          refine x_iconst F (v := 1) d_M_merge_99 (by decide) ?_
          refine x_iadd F d_M_merge_100 ?_
          refine x_putI F cl_M in_M (k := 20) (by decide) k_621 rfl ty_M n_M rfl rfl d_M_merge_101 h (fun G h => ?_)
          refine x_iinc F 4 (v := (l4 + 1)) (lv' := [(4, .int (l4 + 1)), (0, va_rf (some th)), (1, .int l1), (2, .int l2), (3, .int l3)]) d_M_merge_104 rfl (congrArg (fun z : Int32 => l4 + z) (by decide)) (by decide) rfl ?_
          refine x_goto F (tgt := 31) d_M_merge_107 (by decide) ?_
          refine x_sub (lv' := [(0, va_rf (some th)), (1, .int l1), (2, .int l2), (3, .int l3), (4, .int (l4 + 1))]) [1, 2, 3, 4, 0] rfl ?_
          exact ih _ _ _ h
        · refine x_iconst F (v := 1) d_M_merge_72 (by decide) ?_
          refine x_istore_n F (lv' := [(3, .int 1), (0, va_rf (some th)), (1, .int l1), (2, .int l2), (4, .int l4)]) d_M_merge_73 rfl (by decide) rfl ?_
          refine x_aload_n F 1 d_M_merge_74 rfl rfl ?_
          refine x_getR F cl_M in_M (k := 14) (by decide) k_615 rfl d_M_merge_75 h (fun v12 h => ?_)
          refine x_iload F 4 d_M_merge_78 rfl ?_
          refine x_iload_n F 2 d_M_merge_80 rfl rfl ?_
          refine x_iast F (t := 0) rfl d_M_merge_81 h (fun G h => ?_)
          refine x_goto F (tgt := 104) d_M_merge_82 (by decide) ?_
          refine x_iinc F 4 (v := (l4 + 1)) (lv' := [(4, .int (l4 + 1)), (3, .int 1), (0, va_rf (some th)), (1, .int l1), (2, .int l2)]) d_M_merge_104 rfl (congrArg (fun z : Int32 => l4 + z) (by decide)) (by decide) rfl ?_
          refine x_goto F (tgt := 31) d_M_merge_107 (by decide) ?_
          refine x_sub (lv' := [(0, va_rf (some th)), (1, .int l1), (2, .int l2), (3, .int 1), (4, .int (l4 + 1))]) [2, 3, 4, 1, 0] rfl ?_
          exact ih _ _ _ h
      · refine x_goto F (tgt := 104) d_M_merge_59 (by decide) ?_
        refine x_iinc F 4 (v := (l4 + 1)) (lv' := [(4, .int (l4 + 1)), (0, va_rf (some th)), (1, .int l1), (2, .int l2), (3, .int l3)]) d_M_merge_104 rfl (congrArg (fun z : Int32 => l4 + z) (by decide)) (by decide) rfl ?_
        refine x_goto F (tgt := 31) d_M_merge_107 (by decide) ?_
        refine x_sub (lv' := [(0, va_rf (some th)), (1, .int l1), (2, .int l2), (3, .int l3), (4, .int (l4 + 1))]) [1, 2, 3, 4, 0] rfl ?_
        exact ih _ _ _ h
set_option maxHeartbeats 4000000 in
set_option maxRecDepth 100000 in
theorem w_M_merge_L126 {p : Program} {l : Launch} {e : Env} {s : State} {m : MethodId} {args : Array Value} {below : List Frame} {meth : Method} {c : Code} {C0 S0 : Nat} {D : va_G} {dA : Nat → ClassId} {base : Nat} {sa : Nat → Nat} (F : xFix p { frames := 1, cells := C0, slots := S0, locals := 22 } s m args meth c b_M_merge 6 "BlockSearchModel" D dA base sa) (hret : meth.sig.returnType = (some FieldType.int)) {K : Int32 → xS → Prop} {Kx166 : xS → Prop} (th : Nat) (l1 : Int32) (l2 : Int32) (l4 : Int32) (hKx166 : ∀ (G : xS), Kx166  G → X_M_merge p l e s m args below meth c C0 S0 K D dA base sa 166 [(0, va_rf (some th)), (4, .int l4)] [] G) : ∀ (n : Nat) (l5 : Int32) (G : xS), p_M_merge_L126 th l1 l2 l4 K Kx166 n l5 G → X_M_merge p l e s m args below meth c C0 S0 K D dA base sa 126 [(0, va_rf (some th)), (1, .int l1), (2, .int l2), (4, .int l4), (5, .int l5)] [] G := by
  intro n
  induction n with
  | zero => intro l5 G h; exact h.elim
  | succ n ih =>
    intro l5 G h
    unfold p_M_merge_L126 at h
    refine x_iload F 4 d_M_merge_126 rfl ?_
    refine x_aload_n F 0 d_M_merge_128 rfl rfl ?_
    refine x_getI F cl_M in_M (k := 18) (by decide) k_619 rfl d_M_merge_129 h (fun v14 h => ?_)
    refine x_icmp_ge F (tgt := 166) d_M_merge_132 (by decide) h (fun q h => ?_) (fun q h => ?_)
    · refine x_sub (lv' := [(0, va_rf (some th)), (4, .int l4)]) [0, 3] rfl ?_
      exact hKx166  _ h
    · refine x_aload_n F 0 d_M_merge_135 rfl rfl ?_
      refine x_getR F cl_M in_M (k := 14) (by decide) k_615 rfl d_M_merge_136 h (fun v15 h => ?_)
      refine x_iload F 4 d_M_merge_139 rfl ?_
      refine x_iald F (t := 0) rfl d_M_merge_141 h (fun v16 h => ?_)
      refine x_iload_n F 1 d_M_merge_142 rfl rfl ?_
      refine x_iload_n F 2 d_M_merge_143 rfl rfl ?_
      refine x_iadd F d_M_merge_144 ?_
      refine x_icmp_lt F (tgt := 160) d_M_merge_145 (by decide) h (fun q h => ?_) (fun q h => ?_)
      · refine x_iinc F 4 (v := (l5 + 1)) (lv' := [(5, .int (l5 + 1)), (0, va_rf (some th)), (1, .int l1), (2, .int l2), (4, .int l4)]) d_M_merge_160 rfl (congrArg (fun z : Int32 => l5 + z) (by decide)) (by decide) rfl ?_
        refine x_goto F (tgt := 126) d_M_merge_163 (by decide) ?_
        refine x_sub (lv' := [(0, va_rf (some th)), (1, .int l1), (2, .int l2), (4, .int l4), (5, .int (l5 + 1))]) [1, 2, 3, 4, 0] rfl ?_
        exact ih _ _ h
      · refine x_aload_n F 0 d_M_merge_148 rfl rfl ?_
        refine x_getR F cl_M in_M (k := 14) (by decide) k_615 rfl d_M_merge_149 h (fun v17 h => ?_)
        refine x_iload F 4 d_M_merge_152 rfl ?_
        refine x_dup2 F rfl (x_cat _) d_M_merge_154 ?_
        refine x_iald F (t := 0) rfl d_M_merge_155 h (fun v18 h => ?_)
        refine x_iload F 3 d_M_merge_156 rfl ?_
        refine x_isub F d_M_merge_158 ?_
        refine x_iast F (t := 0) rfl d_M_merge_159 h (fun G h => ?_)
        refine x_iinc F 4 (v := (l5 + 1)) (lv' := [(5, .int (l5 + 1)), (0, va_rf (some th)), (1, .int l1), (2, .int l2), (4, .int l4)]) d_M_merge_160 rfl (congrArg (fun z : Int32 => l5 + z) (by decide)) (by decide) rfl ?_
        refine x_goto F (tgt := 126) d_M_merge_163 (by decide) ?_
        refine x_sub (lv' := [(0, va_rf (some th)), (1, .int l1), (2, .int l2), (4, .int l4), (5, .int (l5 + 1))]) [1, 2, 3, 4, 0] rfl ?_
        exact ih _ _ h
set_option maxHeartbeats 4000000 in
set_option maxRecDepth 100000 in
theorem c_M_merge (l : Launch) (D : va_G) (dA : Nat → ClassId) (base : Nat) (sa : Nat → Nat) (th : Nat) (l1 : Int32) (l2 : Int32) (K : Int32 → xS → Prop) (G : xS) (h : p_M_merge th l1 l2 K G) : xMet l y_M_merge b_M_merge 6 (some FieldType.int) 1 22 D dA base sa [va_rf (some th), .int l1, .int l2] G (fun v G2 => ∃ r : Int32, v = some (.int r) ∧ K r G2) := by
  refine xMet.of (by decide) (by simp [x_cat, x_catI]) (Nat.le_of_ble_eq_true rfl) ?_
  intro p e s m args below meth c F hret hname
  unfold p_M_merge at h
  refine x_sub (lv' := [(0, va_rf (some th)), (1, .int l1), (2, .int l2)]) [0, 1, 2] rfl ?_
  refine x_iload_n F 2 d_M_merge_0 rfl rfl ?_
  refine x_iconst F (v := 2) d_M_merge_1 (by decide) ?_
  refine x_bipush F (v := 6) d_M_merge_2 (by decide) ?_
  refine x_callS F (enc := fun r => some (.int r)) (P := p_M_in l2 2 6) (n := 3) (As := [.int l2, .int 2, .int 6]) (st := []) k_744 k_9 k_743 k_742 ⟨by decide, by decide, by decide +kernel⟩ rfl ⟨Nat.le_of_ble_eq_true rfl, Nat.le_of_ble_eq_true rfl⟩ (by simp [x_cat, x_catI, x_catL]) (fun K' G' h' _ => c_M_in l D dA base sa l2 2 6 K' G' h') d_M_merge_4 h (fun v1 G h => ?_)
  refine x_if_eq F (tgt := 24) d_M_merge_7 (by decide) h (fun q h => ?_) (fun q h => ?_)
  · refine x_iconst F (v := (-1)) d_M_merge_24 (by decide) ?_
    exact x_iret F rfl hret d_M_merge_25 ⟨_, rfl, h⟩
  · refine x_iload_n F 1 d_M_merge_10 rfl rfl ?_
    refine x_iconst F (v := 0) d_M_merge_11 (by decide) ?_
    refine x_aload_n F 0 d_M_merge_12 rfl rfl ?_
    refine x_getI F cl_M in_M (k := 19) (by decide) k_620 rfl d_M_merge_13 h (fun v2 h => ?_)
    refine x_iload_n F 2 d_M_merge_16 rfl rfl ?_
    refine x_isub F d_M_merge_17 ?_
    refine x_callS F (enc := fun r => some (.int r)) (P := p_M_in l1 0 (v2 - l2)) (n := 3) (As := [.int l1, .int 0, .int (v2 - l2)]) (st := []) k_744 k_9 k_743 k_742 ⟨by decide, by decide, by decide +kernel⟩ rfl ⟨Nat.le_of_ble_eq_true rfl, Nat.le_of_ble_eq_true rfl⟩ (by simp [x_cat, x_catI, x_catL]) (fun K' G' h' _ => c_M_in l D dA base sa l1 0 (v2 - l2) K' G' h') d_M_merge_18 h (fun v3 G h => ?_)
    refine x_if_ne F (tgt := 26) d_M_merge_21 (by decide) h (fun q h => ?_) (fun q h => ?_)
    · refine x_iconst F (v := 0) d_M_merge_26 (by decide) ?_
      refine x_istore_n F (lv' := [(3, .int 0), (0, va_rf (some th)), (1, .int l1), (2, .int l2)]) d_M_merge_27 rfl (by decide) rfl ?_
      refine x_iconst F (v := 0) d_M_merge_28 (by decide) ?_
      refine x_istore F (lv' := [(4, .int 0), (3, .int 0), (0, va_rf (some th)), (1, .int l1), (2, .int l2)]) d_M_merge_29 (by decide) rfl ?_
      refine x_sub (lv' := [(0, va_rf (some th)), (1, .int l1), (2, .int l2), (3, .int 0), (4, .int 0)]) [2, 3, 4, 1, 0] rfl ?_
      refine w_M_merge_L31 F hret th l1 l2 (fun m13 G h => ?_) _ _ _ _ h
      refine x_iload_n F 3 d_M_merge_110 rfl rfl ?_
      refine x_if_eq F (tgt := 120) d_M_merge_111 (by decide) h (fun q h => ?_) (fun q h => ?_)
      · refine x_iload_n F 2 d_M_merge_120 rfl rfl ?_
        refine x_istore F (lv' := [(4, .int l2), (0, va_rf (some th)), (1, .int l1), (2, .int l2), (3, .int m13)]) d_M_merge_121 (by decide) rfl ?_
        refine x_iconst F (v := 0) d_M_merge_123 (by decide) ?_
        refine x_istore F (lv' := [(5, .int 0), (4, .int l2), (0, va_rf (some th)), (1, .int l1), (2, .int l2), (3, .int m13)]) d_M_merge_124 (by decide) rfl ?_
        refine x_sub (lv' := [(0, va_rf (some th)), (1, .int l1), (2, .int l2), (4, .int l2), (5, .int 0)]) [2, 3, 4, 1, 0] rfl ?_
        refine w_M_merge_L126 F hret th l1 l2 l2 (fun G h => ?_) _ _ _ h
        refine x_aload_n F 0 d_M_merge_166 rfl rfl ?_
        refine x_dup F (x_cat _) d_M_merge_167 ?_
        refine x_getI F cl_M in_M (k := 19) (by decide) k_620 rfl d_M_merge_168 h (fun v19 h => ?_)
        refine x_iload F 1 d_M_merge_171 rfl ?_
        refine x_isub F d_M_merge_173 ?_
        refine x_putI F cl_M in_M (k := 19) (by decide) k_620 rfl ty_M n_M rfl rfl d_M_merge_174 h (fun G h => ?_)
        refine x_aload_n F 0 d_M_merge_177 rfl rfl ?_
        refine x_getI F cl_M in_M (k := 19) (by decide) k_620 rfl d_M_merge_178 h (fun v20 h => ?_)
        exact x_iret F rfl hret d_M_merge_181 ⟨_, rfl, h⟩
      · refine x_iload_n F 2 d_M_merge_114 rfl rfl ?_
        refine x_iconst F (v := 1) d_M_merge_115 (by decide) ?_
        refine x_isub F d_M_merge_116 ?_
        refine x_goto F (tgt := 121) d_M_merge_117 (by decide) ?_
        refine x_istore F (lv' := [(4, .int (l2 - 1)), (0, va_rf (some th)), (1, .int l1), (2, .int l2), (3, .int m13)]) d_M_merge_121 (by decide) rfl ?_
        refine x_iconst F (v := 0) d_M_merge_123 (by decide) ?_
        refine x_istore F (lv' := [(5, .int 0), (4, .int (l2 - 1)), (0, va_rf (some th)), (1, .int l1), (2, .int l2), (3, .int m13)]) d_M_merge_124 (by decide) rfl ?_
        refine x_sub (lv' := [(0, va_rf (some th)), (1, .int l1), (2, .int l2), (4, .int (l2 - 1)), (5, .int 0)]) [2, 3, 4, 1, 0] rfl ?_
        refine w_M_merge_L126 F hret th l1 l2 (l2 - 1) (fun G h => ?_) _ _ _ h
        refine x_aload_n F 0 d_M_merge_166 rfl rfl ?_
        refine x_dup F (x_cat _) d_M_merge_167 ?_
        refine x_getI F cl_M in_M (k := 19) (by decide) k_620 rfl d_M_merge_168 h (fun v21 h => ?_)
        refine x_iload F 1 d_M_merge_171 rfl ?_
        refine x_isub F d_M_merge_173 ?_
        refine x_putI F cl_M in_M (k := 19) (by decide) k_620 rfl ty_M n_M rfl rfl d_M_merge_174 h (fun G h => ?_)
        refine x_aload_n F 0 d_M_merge_177 rfl rfl ?_
        refine x_getI F cl_M in_M (k := 19) (by decide) k_620 rfl d_M_merge_178 h (fun v22 h => ?_)
        exact x_iret F rfl hret d_M_merge_181 ⟨_, rfl, h⟩
    · refine x_iconst F (v := (-1)) d_M_merge_24 (by decide) ?_
      exact x_iret F rfl hret d_M_merge_25 ⟨_, rfl, h⟩
def p_M_refresh_B42 (th : Nat) (l1 : Int32) (l2 : Int32) (s0 : Int32) (s1 : Int32) (s2 : Option Nat) (K : Int32 → xS → Prop) (Kb9 : Int32 → Int32 → xS → Prop) (Kx90 : Int32 → xS → Prop) : xS → Prop := xas 0 s2 s1 s0 (xgR 10 17 (some th) fun v7 => xgR 10 14 (some th) fun v8 => xal 0 v8 l2 fun v9 => xif (v9 < 0) (xasZ 1 v7 l2 0 (xgR 10 17 (some th) fun v10 => xal 1 v10 l2 fun v11 => xif (v11 = 0) (Kb9 l1 (l2 + 1)) (Kb9 (l1 + 1) (l2 + 1)))) (xgR 10 16 (some th) fun v12 => xal 1 v12 l2 fun v13 => xif (v13 = 0) (xasZ 1 v7 l2 0 (xgR 10 17 (some th) fun v14 => xal 1 v14 l2 fun v15 => xif (v15 = 0) (Kb9 l1 (l2 + 1)) (Kb9 (l1 + 1) (l2 + 1)))) (xasZ 1 v7 l2 1 (xgR 10 17 (some th) fun v16 => xal 1 v16 l2 fun v17 => xif (v17 = 0) (Kb9 l1 (l2 + 1)) (Kb9 (l1 + 1) (l2 + 1))))))
def p_M_refresh_L9 (th : Nat) (K : Int32 → xS → Prop) (Kx90 : Int32 → xS → Prop) : Nat → Int32 → Int32 → xS → Prop
  | 0, _, _ => fun _ => False
  | n + 1, l1, l2 => xgI 10 18 (some th) fun v1 => xif (v1 ≤ l2) (Kx90 l1) (xgR 10 15 (some th) fun v2 => xgR 10 14 (some th) fun v3 => xal 0 v3 l2 fun v4 => xif (0 ≤ v4) (xgR 10 14 (some th) fun v5 => xal 0 v5 l2 fun v6 => p_M_refresh_B42 th l1 l2 v6 l2 v2 K (p_M_refresh_L9 th K Kx90 n) Kx90) (p_M_refresh_B42 th l1 l2 (-2) l2 v2 K (p_M_refresh_L9 th K Kx90 n) Kx90))
def p_M_refresh (th : Nat) (K : Int32 → xS → Prop) : xS → Prop := xpZ 10 21 (some th) 1 (p_M_refresh_L9 th K (fun m18 => K m18) 1000 0 0)
abbrev X_M_refresh (p : Program) (l : Launch) (e : Env) (s : State) (m : MethodId) (args : Array Value) (below : List Frame) (meth : Method) (c : Code) (C0 S0 : Nat) (K : Int32 → xS → Prop) (D : va_G) (dA : Nat → ClassId) (base : Nat) (sa : Nat → Nat) (pc : Nat) (lv : List (Nat × Value)) (st : List Value) (G : xS) : Prop := xW p l e { frames := 0, cells := C0, slots := S0, locals := 0 } s m args below meth c 3 (MQ below (xQ D dA base (fun v G2 => ∃ r : Int32, v = some (.int r) ∧ K r G2)) args s C0 S0 (fun q : Nat => base ≤ q)) D dA base sa pc lv st G
set_option maxHeartbeats 4000000 in
set_option maxRecDepth 100000 in
theorem w_M_refresh_B42 {p : Program} {l : Launch} {e : Env} {s : State} {m : MethodId} {args : Array Value} {below : List Frame} {meth : Method} {c : Code} {C0 S0 : Nat} {D : va_G} {dA : Nat → ClassId} {base : Nat} {sa : Nat → Nat} (F : xFix p { frames := 0, cells := C0, slots := S0, locals := 0 } s m args meth c b_M_refresh 3 "BlockSearchModel" D dA base sa) (hret : meth.sig.returnType = (some FieldType.int)) {K : Int32 → xS → Prop} {Kb9 : Int32 → Int32 → xS → Prop} {Kx90 : Int32 → xS → Prop} (th : Nat) (l1 : Int32) (l2 : Int32) (s0 : Int32) (s1 : Int32) (s2 : Option Nat) (hKb9 : ∀ (m1 : Int32) (m2 : Int32) (G : xS), Kb9 m1 m2 G → X_M_refresh p l e s m args below meth c C0 S0 K D dA base sa 9 [(0, va_rf (some th)), (1, .int m1), (2, .int m2)] [] G) (hKx90 : ∀ (m1 : Int32) (G : xS), Kx90 m1 G → X_M_refresh p l e s m args below meth c C0 S0 K D dA base sa 90 [(1, .int m1)] [] G) {G : xS} (h : p_M_refresh_B42 th l1 l2 s0 s1 s2 K Kb9 Kx90 G) : X_M_refresh p l e s m args below meth c C0 S0 K D dA base sa 42 [(0, va_rf (some th)), (1, .int l1), (2, .int l2)] [.int s0, .int s1, va_rf s2] G := by
  unfold p_M_refresh_B42 at h
  refine x_iast F (t := 0) rfl d_M_refresh_42 h (fun G h => ?_)
  refine x_aload_n F 0 d_M_refresh_43 rfl rfl ?_
  refine x_getR F cl_M in_M (k := 17) (by decide) k_618 rfl d_M_refresh_44 h (fun v7 h => ?_)
  refine x_iload_n F 2 d_M_refresh_47 rfl rfl ?_
  refine x_aload_n F 0 d_M_refresh_48 rfl rfl ?_
  refine x_getR F cl_M in_M (k := 14) (by decide) k_615 rfl d_M_refresh_49 h (fun v8 h => ?_)
  refine x_iload_n F 2 d_M_refresh_52 rfl rfl ?_
  refine x_iald F (t := 0) rfl d_M_refresh_53 h (fun v9 h => ?_)
  refine x_if_lt F (tgt := 70) d_M_refresh_54 (by decide) h (fun q h => ?_) (fun q h => ?_)
  · refine x_iconst F (v := 0) d_M_refresh_70 (by decide) ?_
    refine x_zast F (t := 1) rfl d_M_refresh_71 h (fun G h => ?_)
    refine x_aload_n F 0 d_M_refresh_72 rfl rfl ?_
    refine x_getR F cl_M in_M (k := 17) (by decide) k_618 rfl d_M_refresh_73 h (fun v10 h => ?_)
    refine x_iload_n F 2 d_M_refresh_76 rfl rfl ?_
    refine x_zald F (t := 1) rfl d_M_refresh_77 h (fun v11 h => ?_)
    refine x_if_eq F (tgt := 84) d_M_refresh_78 (by decide) h (fun q h => ?_) (fun q h => ?_)
    · refine x_iinc F 2 (v := (l2 + 1)) (lv' := [(2, .int (l2 + 1)), (0, va_rf (some th)), (1, .int l1)]) d_M_refresh_84 rfl (congrArg (fun z : Int32 => l2 + z) (by decide)) (by decide) rfl ?_
      refine x_goto F (tgt := 9) d_M_refresh_87 (by decide) ?_
      refine x_sub (lv' := [(0, va_rf (some th)), (1, .int l1), (2, .int (l2 + 1))]) [1, 2, 0] rfl ?_
      exact hKb9 _ _ _ h
    · refine x_iinc F 1 (v := (l1 + 1)) (lv' := [(1, .int (l1 + 1)), (0, va_rf (some th)), (2, .int l2)]) d_M_refresh_81 rfl (congrArg (fun z : Int32 => l1 + z) (by decide)) (by decide) rfl ?_
      refine x_iinc F 2 (v := (l2 + 1)) (lv' := [(2, .int (l2 + 1)), (1, .int (l1 + 1)), (0, va_rf (some th))]) d_M_refresh_84 rfl (congrArg (fun z : Int32 => l2 + z) (by decide)) (by decide) rfl ?_
      refine x_goto F (tgt := 9) d_M_refresh_87 (by decide) ?_
      refine x_sub (lv' := [(0, va_rf (some th)), (1, .int (l1 + 1)), (2, .int (l2 + 1))]) [2, 1, 0] rfl ?_
      exact hKb9 _ _ _ h
  · refine x_aload_n F 0 d_M_refresh_57 rfl rfl ?_
    refine x_getR F cl_M in_M (k := 16) (by decide) k_617 rfl d_M_refresh_58 h (fun v12 h => ?_)
    refine x_iload_n F 2 d_M_refresh_61 rfl rfl ?_
    refine x_zald F (t := 1) rfl d_M_refresh_62 h (fun v13 h => ?_)
    refine x_if_eq F (tgt := 70) d_M_refresh_63 (by decide) h (fun q h => ?_) (fun q h => ?_)
    · refine x_iconst F (v := 0) d_M_refresh_70 (by decide) ?_
      refine x_zast F (t := 1) rfl d_M_refresh_71 h (fun G h => ?_)
      refine x_aload_n F 0 d_M_refresh_72 rfl rfl ?_
      refine x_getR F cl_M in_M (k := 17) (by decide) k_618 rfl d_M_refresh_73 h (fun v14 h => ?_)
      refine x_iload_n F 2 d_M_refresh_76 rfl rfl ?_
      refine x_zald F (t := 1) rfl d_M_refresh_77 h (fun v15 h => ?_)
      refine x_if_eq F (tgt := 84) d_M_refresh_78 (by decide) h (fun q h => ?_) (fun q h => ?_)
      · refine x_iinc F 2 (v := (l2 + 1)) (lv' := [(2, .int (l2 + 1)), (0, va_rf (some th)), (1, .int l1)]) d_M_refresh_84 rfl (congrArg (fun z : Int32 => l2 + z) (by decide)) (by decide) rfl ?_
        refine x_goto F (tgt := 9) d_M_refresh_87 (by decide) ?_
        refine x_sub (lv' := [(0, va_rf (some th)), (1, .int l1), (2, .int (l2 + 1))]) [1, 2, 0] rfl ?_
        exact hKb9 _ _ _ h
      · refine x_iinc F 1 (v := (l1 + 1)) (lv' := [(1, .int (l1 + 1)), (0, va_rf (some th)), (2, .int l2)]) d_M_refresh_81 rfl (congrArg (fun z : Int32 => l1 + z) (by decide)) (by decide) rfl ?_
        refine x_iinc F 2 (v := (l2 + 1)) (lv' := [(2, .int (l2 + 1)), (1, .int (l1 + 1)), (0, va_rf (some th))]) d_M_refresh_84 rfl (congrArg (fun z : Int32 => l2 + z) (by decide)) (by decide) rfl ?_
        refine x_goto F (tgt := 9) d_M_refresh_87 (by decide) ?_
        refine x_sub (lv' := [(0, va_rf (some th)), (1, .int (l1 + 1)), (2, .int (l2 + 1))]) [2, 1, 0] rfl ?_
        exact hKb9 _ _ _ h
    · refine x_iconst F (v := 1) d_M_refresh_66 (by decide) ?_
      refine x_goto F (tgt := 71) d_M_refresh_67 (by decide) ?_
      refine x_zast F (t := 1) rfl d_M_refresh_71 h (fun G h => ?_)
      refine x_aload_n F 0 d_M_refresh_72 rfl rfl ?_
      refine x_getR F cl_M in_M (k := 17) (by decide) k_618 rfl d_M_refresh_73 h (fun v16 h => ?_)
      refine x_iload_n F 2 d_M_refresh_76 rfl rfl ?_
      refine x_zald F (t := 1) rfl d_M_refresh_77 h (fun v17 h => ?_)
      refine x_if_eq F (tgt := 84) d_M_refresh_78 (by decide) h (fun q h => ?_) (fun q h => ?_)
      · refine x_iinc F 2 (v := (l2 + 1)) (lv' := [(2, .int (l2 + 1)), (0, va_rf (some th)), (1, .int l1)]) d_M_refresh_84 rfl (congrArg (fun z : Int32 => l2 + z) (by decide)) (by decide) rfl ?_
        refine x_goto F (tgt := 9) d_M_refresh_87 (by decide) ?_
        refine x_sub (lv' := [(0, va_rf (some th)), (1, .int l1), (2, .int (l2 + 1))]) [1, 2, 0] rfl ?_
        exact hKb9 _ _ _ h
      · refine x_iinc F 1 (v := (l1 + 1)) (lv' := [(1, .int (l1 + 1)), (0, va_rf (some th)), (2, .int l2)]) d_M_refresh_81 rfl (congrArg (fun z : Int32 => l1 + z) (by decide)) (by decide) rfl ?_
        refine x_iinc F 2 (v := (l2 + 1)) (lv' := [(2, .int (l2 + 1)), (1, .int (l1 + 1)), (0, va_rf (some th))]) d_M_refresh_84 rfl (congrArg (fun z : Int32 => l2 + z) (by decide)) (by decide) rfl ?_
        refine x_goto F (tgt := 9) d_M_refresh_87 (by decide) ?_
        refine x_sub (lv' := [(0, va_rf (some th)), (1, .int (l1 + 1)), (2, .int (l2 + 1))]) [2, 1, 0] rfl ?_
        exact hKb9 _ _ _ h
set_option maxHeartbeats 4000000 in
set_option maxRecDepth 100000 in
theorem w_M_refresh_L9 {p : Program} {l : Launch} {e : Env} {s : State} {m : MethodId} {args : Array Value} {below : List Frame} {meth : Method} {c : Code} {C0 S0 : Nat} {D : va_G} {dA : Nat → ClassId} {base : Nat} {sa : Nat → Nat} (F : xFix p { frames := 0, cells := C0, slots := S0, locals := 0 } s m args meth c b_M_refresh 3 "BlockSearchModel" D dA base sa) (hret : meth.sig.returnType = (some FieldType.int)) {K : Int32 → xS → Prop} {Kx90 : Int32 → xS → Prop} (th : Nat) (hKx90 : ∀ (l1 : Int32) (G : xS), Kx90 l1 G → X_M_refresh p l e s m args below meth c C0 S0 K D dA base sa 90 [(1, .int l1)] [] G) : ∀ (n : Nat) (l1 : Int32) (l2 : Int32) (G : xS), p_M_refresh_L9 th K Kx90 n l1 l2 G → X_M_refresh p l e s m args below meth c C0 S0 K D dA base sa 9 [(0, va_rf (some th)), (1, .int l1), (2, .int l2)] [] G := by
  intro n
  induction n with
  | zero => intro l1 l2 G h; exact h.elim
  | succ n ih =>
    intro l1 l2 G h
    unfold p_M_refresh_L9 at h
    refine x_iload_n F 2 d_M_refresh_9 rfl rfl ?_
    refine x_aload_n F 0 d_M_refresh_10 rfl rfl ?_
    refine x_getI F cl_M in_M (k := 18) (by decide) k_619 rfl d_M_refresh_11 h (fun v1 h => ?_)
    refine x_icmp_ge F (tgt := 90) d_M_refresh_14 (by decide) h (fun q h => ?_) (fun q h => ?_)
    · refine x_sub (lv' := [(1, .int l1)]) [1] rfl ?_
      exact hKx90 _ _ h
    · refine x_aload_n F 0 d_M_refresh_17 rfl rfl ?_
      refine x_getR F cl_M in_M (k := 15) (by decide) k_616 rfl d_M_refresh_18 h (fun v2 h => ?_)
      refine x_iload_n F 2 d_M_refresh_21 rfl rfl ?_
      refine x_aload_n F 0 d_M_refresh_22 rfl rfl ?_
      refine x_getR F cl_M in_M (k := 14) (by decide) k_615 rfl d_M_refresh_23 h (fun v3 h => ?_)
      refine x_iload_n F 2 d_M_refresh_26 rfl rfl ?_
      refine x_iald F (t := 0) rfl d_M_refresh_27 h (fun v4 h => ?_)
      refine x_if_ge F (tgt := 36) d_M_refresh_28 (by decide) h (fun q h => ?_) (fun q h => ?_)
      · refine x_aload_n F 0 d_M_refresh_36 rfl rfl ?_
        refine x_getR F cl_M in_M (k := 14) (by decide) k_615 rfl d_M_refresh_37 h (fun v5 h => ?_)
        refine x_iload_n F 2 d_M_refresh_40 rfl rfl ?_
        refine x_iald F (t := 0) rfl d_M_refresh_41 h (fun v6 h => ?_)
        exact w_M_refresh_B42 F hret th l1 l2 v6 l2 v2 ih hKx90 h
      · refine x_bipush F (v := (-2)) d_M_refresh_31 (by decide) ?_
        refine x_goto F (tgt := 42) d_M_refresh_33 (by decide) ?_
        exact w_M_refresh_B42 F hret th l1 l2 (-2) l2 v2 ih hKx90 h
set_option maxHeartbeats 4000000 in
set_option maxRecDepth 100000 in
theorem c_M_refresh (l : Launch) (D : va_G) (dA : Nat → ClassId) (base : Nat) (sa : Nat → Nat) (th : Nat) (K : Int32 → xS → Prop) (G : xS) (h : p_M_refresh th K G) : xMet l y_M_refresh b_M_refresh 3 (some FieldType.int) 0 0 D dA base sa [va_rf (some th)] G (fun v G2 => ∃ r : Int32, v = some (.int r) ∧ K r G2) := by
  refine xMet.of (by decide) (by simp [x_cat, x_catI]) (Nat.le_of_ble_eq_true rfl) ?_
  intro p e s m args below meth c F hret hname
  unfold p_M_refresh at h
  refine x_sub (lv' := [(0, va_rf (some th))]) [0] rfl ?_
  refine x_iconst F (v := 0) d_M_refresh_0 (by decide) ?_
  refine x_istore_n F (lv' := [(1, .int 0), (0, va_rf (some th))]) d_M_refresh_1 rfl (by decide) rfl ?_
  refine x_aload_n F 1 d_M_refresh_2 rfl rfl ?_
  refine x_iconst F (v := 1) d_M_refresh_3 (by decide) ?_
  refine x_putZ F cl_M in_M (k := 21) (by decide) k_622 rfl ty_M n_M rfl rfl d_M_refresh_4 h (fun G h => ?_)
  refine x_iconst F (v := 0) d_M_refresh_7 (by decide) ?_
  refine x_istore_n F (lv' := [(2, .int 0), (1, .int 0), (0, va_rf (some th))]) d_M_refresh_8 rfl (by decide) rfl ?_
  refine x_sub (lv' := [(0, va_rf (some th)), (1, .int 0), (2, .int 0)]) [2, 1, 0] rfl ?_
  refine w_M_refresh_L9 F hret th (fun m18 G h => ?_) _ _ _ _ h
  refine x_iload_n F 0 d_M_refresh_90 rfl rfl ?_
  exact x_iret F rfl hret d_M_refresh_91 ⟨_, rfl, h⟩
def p_M_parts (l0 : Int32) (K : Int32 → xS → Prop) : xS → Prop := xif (l0 = 5) (K 2) (xif (l0 = 6) (K 2) (xif (l0 ≤ 6) (K 0) (K 1)))
abbrev X_M_parts (p : Program) (l : Launch) (e : Env) (s : State) (m : MethodId) (args : Array Value) (below : List Frame) (meth : Method) (c : Code) (C0 S0 : Nat) (K : Int32 → xS → Prop) (D : va_G) (dA : Nat → ClassId) (base : Nat) (sa : Nat → Nat) (pc : Nat) (lv : List (Nat × Value)) (st : List Value) (G : xS) : Prop := xW p l e { frames := 0, cells := C0, slots := S0, locals := 0 } s m args below meth c 1 (MQ below (xQ D dA base (fun v G2 => ∃ r : Int32, v = some (.int r) ∧ K r G2)) args s C0 S0 (fun q : Nat => base ≤ q)) D dA base sa pc lv st G
set_option maxHeartbeats 4000000 in
set_option maxRecDepth 100000 in
theorem c_M_parts (l : Launch) (D : va_G) (dA : Nat → ClassId) (base : Nat) (sa : Nat → Nat) (l0 : Int32) (K : Int32 → xS → Prop) (G : xS) (h : p_M_parts l0 K G) : xMet l y_M_parts b_M_parts 1 (some FieldType.int) 0 0 D dA base sa [.int l0] G (fun v G2 => ∃ r : Int32, v = some (.int r) ∧ K r G2) := by
  refine xMet.of (by decide) (by simp [x_cat, x_catI]) (Nat.le_of_ble_eq_true rfl) ?_
  intro p e s m args below meth c F hret hname
  unfold p_M_parts at h
  refine x_sub (lv' := [(0, .int l0)]) [0] rfl ?_
  refine x_iload_n F 0 d_M_parts_0 rfl rfl ?_
  refine x_iconst F (v := 5) d_M_parts_1 (by decide) ?_
  refine x_icmp_eq F (tgt := 11) d_M_parts_2 (by decide) h (fun q h => ?_) (fun q h => ?_)
  · refine x_iconst F (v := 2) d_M_parts_11 (by decide) ?_
    refine x_goto F (tgt := 26) d_M_parts_12 (by decide) ?_
    exact x_iret F rfl hret d_M_parts_26 ⟨_, rfl, h⟩
  · refine x_iload_n F 0 d_M_parts_5 rfl rfl ?_
    refine x_bipush F (v := 6) d_M_parts_6 (by decide) ?_
    refine x_icmp_ne F (tgt := 15) d_M_parts_8 (by decide) h (fun q h => ?_) (fun q h => ?_)
    · refine x_iload_n F 0 d_M_parts_15 rfl rfl ?_
      refine x_bipush F (v := 6) d_M_parts_16 (by decide) ?_
      refine x_icmp_le F (tgt := 25) d_M_parts_18 (by decide) h (fun q h => ?_) (fun q h => ?_)
      · refine x_iconst F (v := 0) d_M_parts_25 (by decide) ?_
        exact x_iret F rfl hret d_M_parts_26 ⟨_, rfl, h⟩
      · refine x_iconst F (v := 1) d_M_parts_21 (by decide) ?_
        refine x_goto F (tgt := 26) d_M_parts_22 (by decide) ?_
        exact x_iret F rfl hret d_M_parts_26 ⟨_, rfl, h⟩
    · refine x_iconst F (v := 2) d_M_parts_11 (by decide) ?_
      refine x_goto F (tgt := 26) d_M_parts_12 (by decide) ?_
      exact x_iret F rfl hret d_M_parts_26 ⟨_, rfl, h⟩
def p_M_isToken (l0 : Int32) (l1 : Int32) (l2 : Int32) (K : Int32 → xS → Prop) : xS → Prop := xif (l0 = 0) (xcall 0 0 (p_M_in l1 0 3) fun v1 => xif (v1 = 0) (xrz 0 K) (xcall 0 0 (p_M_in l2 0 25) fun v2 => xif (v2 = 0) (xrz 0 K) (xrz 1 K))) (xif (l0 = 1) (xcall 0 0 (p_M_in l1 0 3) fun v3 => xif (v3 = 0) (xrz 0 K) (xcall 0 0 (p_M_in l2 (-1000) 1000) fun v4 => xif (v4 = 0) (xrz 0 K) (xrz 1 K))) (xif (l0 = 2) (xcall 0 0 (p_M_in l1 0 3) fun v5 => xif (v5 = 0) (xrz 0 K) (xcall 0 0 (p_M_in l2 (-1000) 1000) fun v6 => xif (v6 = 0) (xrz 0 K) (xrz 1 K))) (xif (l0 = 3) (xcall 0 0 (p_M_in l1 0 3) fun v7 => xrz v7 K) (xif (l0 = 4) (xcall 0 0 (p_M_in l0 4 7) fun v8 => xrz v8 K) (xif (l0 = 5) (xcall 0 0 (p_M_in l0 4 7) fun v9 => xrz v9 K) (xif (l0 = 6) (xcall 0 0 (p_M_in l0 4 7) fun v10 => xrz v10 K) (xif (l0 = 7) (xcall 0 0 (p_M_in l0 4 7) fun v11 => xrz v11 K) (xif (l0 = 8) (xcall 0 0 (p_M_in l1 0 3) fun v12 => xif (v12 = 0) (xrz 0 K) (xcall 0 0 (p_M_in l2 0 4) fun v13 => xif (v13 = 0) (xrz 0 K) (xrz 1 K))) (xcall 0 0 (p_M_in l0 4 7) fun v14 => xrz v14 K)))))))))
abbrev X_M_isToken (p : Program) (l : Launch) (e : Env) (s : State) (m : MethodId) (args : Array Value) (below : List Frame) (meth : Method) (c : Code) (C0 S0 : Nat) (K : Int32 → xS → Prop) (D : va_G) (dA : Nat → ClassId) (base : Nat) (sa : Nat → Nat) (pc : Nat) (lv : List (Nat × Value)) (st : List Value) (G : xS) : Prop := xW p l e { frames := 1, cells := C0, slots := S0, locals := 22 } s m args below meth c 3 (MQ below (xQ D dA base (fun v G2 => ∃ r : Int32, v = some (.int r) ∧ K r G2)) args s C0 S0 (fun q : Nat => base ≤ q)) D dA base sa pc lv st G
set_option maxHeartbeats 4000000 in
set_option maxRecDepth 100000 in
theorem c_M_isToken (l : Launch) (D : va_G) (dA : Nat → ClassId) (base : Nat) (sa : Nat → Nat) (l0 : Int32) (l1 : Int32) (l2 : Int32) (K : Int32 → xS → Prop) (G : xS) (h : p_M_isToken l0 l1 l2 K G) : xMet l y_M_isToken b_M_isToken 3 (some FieldType.boolean) 1 22 D dA base sa [.int l0, .int l1, .int l2] G (fun v G2 => ∃ r : Int32, v = some (.int r) ∧ K r G2) := by
  refine xMet.of (by decide) (by simp [x_cat, x_catI]) (Nat.le_of_ble_eq_true rfl) ?_
  intro p e s m args below meth c F hret hname
  unfold p_M_isToken at h
  refine x_sub (lv' := [(0, .int l0), (1, .int l1), (2, .int l2)]) [0, 1, 2] rfl ?_
  refine x_iload_n F 0 d_M_isToken_0 rfl rfl ?_
  by_cases q0 : l0 = 0
  · have h := h.1 q0
    refine x_tabIn F (off := 51) (tgt := 52) d_M_isToken_1 q0 (by decide) (by decide) (by decide) (by decide) ?_
    refine x_iload_n F 1 d_M_isToken_52 rfl rfl ?_
    refine x_iconst F (v := 0) d_M_isToken_53 (by decide) ?_
    refine x_iconst F (v := 3) d_M_isToken_54 (by decide) ?_
    refine x_callS F (enc := fun r => some (.int r)) (P := p_M_in l1 0 3) (n := 3) (As := [.int l1, .int 0, .int 3]) (st := []) k_744 k_9 k_743 k_742 ⟨by decide, by decide, by decide +kernel⟩ rfl ⟨Nat.le_of_ble_eq_true rfl, Nat.le_of_ble_eq_true rfl⟩ (by simp [x_cat, x_catI, x_catL]) (fun K' G' h' _ => c_M_in l D dA base sa l1 0 3 K' G' h') d_M_isToken_55 h (fun v1 G h => ?_)
    refine x_if_eq F (tgt := 75) d_M_isToken_58 (by decide) h (fun q h => ?_) (fun q h => ?_)
    · refine x_iconst F (v := 0) d_M_isToken_75 (by decide) ?_
      exact x_zret F rfl hret d_M_isToken_76 h (fun h => ⟨_, rfl, h⟩)
    · refine x_iload_n F 2 d_M_isToken_61 rfl rfl ?_
      refine x_iconst F (v := 0) d_M_isToken_62 (by decide) ?_
      refine x_bipush F (v := 25) d_M_isToken_63 (by decide) ?_
      refine x_callS F (enc := fun r => some (.int r)) (P := p_M_in l2 0 25) (n := 3) (As := [.int l2, .int 0, .int 25]) (st := []) k_744 k_9 k_743 k_742 ⟨by decide, by decide, by decide +kernel⟩ rfl ⟨Nat.le_of_ble_eq_true rfl, Nat.le_of_ble_eq_true rfl⟩ (by simp [x_cat, x_catI, x_catL]) (fun K' G' h' _ => c_M_in l D dA base sa l2 0 25 K' G' h') d_M_isToken_65 h (fun v2 G h => ?_)
      refine x_if_eq F (tgt := 75) d_M_isToken_68 (by decide) h (fun q h => ?_) (fun q h => ?_)
      · refine x_iconst F (v := 0) d_M_isToken_75 (by decide) ?_
        exact x_zret F rfl hret d_M_isToken_76 h (fun h => ⟨_, rfl, h⟩)
      · refine x_iconst F (v := 1) d_M_isToken_71 (by decide) ?_
        refine x_goto F (tgt := 76) d_M_isToken_72 (by decide) ?_
        exact x_zret F rfl hret d_M_isToken_76 h (fun h => ⟨_, rfl, h⟩)
  have h := h.2 q0
  by_cases q1 : l0 = 1
  · have h := h.1 q1
    refine x_tabIn F (off := 76) (tgt := 77) d_M_isToken_1 q1 (by decide) (by decide) (by decide) (by decide) ?_
    refine x_iload_n F 1 d_M_isToken_77 rfl rfl ?_
    refine x_iconst F (v := 0) d_M_isToken_78 (by decide) ?_
    refine x_iconst F (v := 3) d_M_isToken_79 (by decide) ?_
    refine x_callS F (enc := fun r => some (.int r)) (P := p_M_in l1 0 3) (n := 3) (As := [.int l1, .int 0, .int 3]) (st := []) k_744 k_9 k_743 k_742 ⟨by decide, by decide, by decide +kernel⟩ rfl ⟨Nat.le_of_ble_eq_true rfl, Nat.le_of_ble_eq_true rfl⟩ (by simp [x_cat, x_catI, x_catL]) (fun K' G' h' _ => c_M_in l D dA base sa l1 0 3 K' G' h') d_M_isToken_80 h (fun v3 G h => ?_)
    refine x_if_eq F (tgt := 103) d_M_isToken_83 (by decide) h (fun q h => ?_) (fun q h => ?_)
    · refine x_iconst F (v := 0) d_M_isToken_103 (by decide) ?_
      exact x_zret F rfl hret d_M_isToken_104 h (fun h => ⟨_, rfl, h⟩)
    · refine x_iload_n F 2 d_M_isToken_86 rfl rfl ?_
      refine x_sipush F (v := (-1000)) d_M_isToken_87 (by decide) ?_
      refine x_sipush F (v := 1000) d_M_isToken_90 (by decide) ?_
      refine x_callS F (enc := fun r => some (.int r)) (P := p_M_in l2 (-1000) 1000) (n := 3) (As := [.int l2, .int (-1000), .int 1000]) (st := []) k_744 k_9 k_743 k_742 ⟨by decide, by decide, by decide +kernel⟩ rfl ⟨Nat.le_of_ble_eq_true rfl, Nat.le_of_ble_eq_true rfl⟩ (by simp [x_cat, x_catI, x_catL]) (fun K' G' h' _ => c_M_in l D dA base sa l2 (-1000) 1000 K' G' h') d_M_isToken_93 h (fun v4 G h => ?_)
      refine x_if_eq F (tgt := 103) d_M_isToken_96 (by decide) h (fun q h => ?_) (fun q h => ?_)
      · refine x_iconst F (v := 0) d_M_isToken_103 (by decide) ?_
        exact x_zret F rfl hret d_M_isToken_104 h (fun h => ⟨_, rfl, h⟩)
      · refine x_iconst F (v := 1) d_M_isToken_99 (by decide) ?_
        refine x_goto F (tgt := 104) d_M_isToken_100 (by decide) ?_
        exact x_zret F rfl hret d_M_isToken_104 h (fun h => ⟨_, rfl, h⟩)
  have h := h.2 q1
  by_cases q2 : l0 = 2
  · have h := h.1 q2
    refine x_tabIn F (off := 76) (tgt := 77) d_M_isToken_1 q2 (by decide) (by decide) (by decide) (by decide) ?_
    refine x_iload_n F 1 d_M_isToken_77 rfl rfl ?_
    refine x_iconst F (v := 0) d_M_isToken_78 (by decide) ?_
    refine x_iconst F (v := 3) d_M_isToken_79 (by decide) ?_
    refine x_callS F (enc := fun r => some (.int r)) (P := p_M_in l1 0 3) (n := 3) (As := [.int l1, .int 0, .int 3]) (st := []) k_744 k_9 k_743 k_742 ⟨by decide, by decide, by decide +kernel⟩ rfl ⟨Nat.le_of_ble_eq_true rfl, Nat.le_of_ble_eq_true rfl⟩ (by simp [x_cat, x_catI, x_catL]) (fun K' G' h' _ => c_M_in l D dA base sa l1 0 3 K' G' h') d_M_isToken_80 h (fun v5 G h => ?_)
    refine x_if_eq F (tgt := 103) d_M_isToken_83 (by decide) h (fun q h => ?_) (fun q h => ?_)
    · refine x_iconst F (v := 0) d_M_isToken_103 (by decide) ?_
      exact x_zret F rfl hret d_M_isToken_104 h (fun h => ⟨_, rfl, h⟩)
    · refine x_iload_n F 2 d_M_isToken_86 rfl rfl ?_
      refine x_sipush F (v := (-1000)) d_M_isToken_87 (by decide) ?_
      refine x_sipush F (v := 1000) d_M_isToken_90 (by decide) ?_
      refine x_callS F (enc := fun r => some (.int r)) (P := p_M_in l2 (-1000) 1000) (n := 3) (As := [.int l2, .int (-1000), .int 1000]) (st := []) k_744 k_9 k_743 k_742 ⟨by decide, by decide, by decide +kernel⟩ rfl ⟨Nat.le_of_ble_eq_true rfl, Nat.le_of_ble_eq_true rfl⟩ (by simp [x_cat, x_catI, x_catL]) (fun K' G' h' _ => c_M_in l D dA base sa l2 (-1000) 1000 K' G' h') d_M_isToken_93 h (fun v6 G h => ?_)
      refine x_if_eq F (tgt := 103) d_M_isToken_96 (by decide) h (fun q h => ?_) (fun q h => ?_)
      · refine x_iconst F (v := 0) d_M_isToken_103 (by decide) ?_
        exact x_zret F rfl hret d_M_isToken_104 h (fun h => ⟨_, rfl, h⟩)
      · refine x_iconst F (v := 1) d_M_isToken_99 (by decide) ?_
        refine x_goto F (tgt := 104) d_M_isToken_100 (by decide) ?_
        exact x_zret F rfl hret d_M_isToken_104 h (fun h => ⟨_, rfl, h⟩)
  have h := h.2 q2
  by_cases q3 : l0 = 3
  · have h := h.1 q3
    refine x_tabIn F (off := 104) (tgt := 105) d_M_isToken_1 q3 (by decide) (by decide) (by decide) (by decide) ?_
    refine x_iload_n F 1 d_M_isToken_105 rfl rfl ?_
    refine x_iconst F (v := 0) d_M_isToken_106 (by decide) ?_
    refine x_iconst F (v := 3) d_M_isToken_107 (by decide) ?_
    refine x_callS F (enc := fun r => some (.int r)) (P := p_M_in l1 0 3) (n := 3) (As := [.int l1, .int 0, .int 3]) (st := []) k_744 k_9 k_743 k_742 ⟨by decide, by decide, by decide +kernel⟩ rfl ⟨Nat.le_of_ble_eq_true rfl, Nat.le_of_ble_eq_true rfl⟩ (by simp [x_cat, x_catI, x_catL]) (fun K' G' h' _ => c_M_in l D dA base sa l1 0 3 K' G' h') d_M_isToken_108 h (fun v7 G h => ?_)
    exact x_zret F rfl hret d_M_isToken_111 h (fun h => ⟨_, rfl, h⟩)
  have h := h.2 q3
  by_cases q4 : l0 = 4
  · have h := h.1 q4
    refine x_tabIn F (off := 135) (tgt := 136) d_M_isToken_1 q4 (by decide) (by decide) (by decide) (by decide) ?_
    refine x_iload_n F 0 d_M_isToken_136 rfl rfl ?_
    refine x_iconst F (v := 4) d_M_isToken_137 (by decide) ?_
    refine x_bipush F (v := 7) d_M_isToken_138 (by decide) ?_
    refine x_callS F (enc := fun r => some (.int r)) (P := p_M_in l0 4 7) (n := 3) (As := [.int l0, .int 4, .int 7]) (st := []) k_744 k_9 k_743 k_742 ⟨by decide, by decide, by decide +kernel⟩ rfl ⟨Nat.le_of_ble_eq_true rfl, Nat.le_of_ble_eq_true rfl⟩ (by simp [x_cat, x_catI, x_catL]) (fun K' G' h' _ => c_M_in l D dA base sa l0 4 7 K' G' h') d_M_isToken_140 h (fun v8 G h => ?_)
    exact x_zret F rfl hret d_M_isToken_143 h (fun h => ⟨_, rfl, h⟩)
  have h := h.2 q4
  by_cases q5 : l0 = 5
  · have h := h.1 q5
    refine x_tabIn F (off := 135) (tgt := 136) d_M_isToken_1 q5 (by decide) (by decide) (by decide) (by decide) ?_
    refine x_iload_n F 0 d_M_isToken_136 rfl rfl ?_
    refine x_iconst F (v := 4) d_M_isToken_137 (by decide) ?_
    refine x_bipush F (v := 7) d_M_isToken_138 (by decide) ?_
    refine x_callS F (enc := fun r => some (.int r)) (P := p_M_in l0 4 7) (n := 3) (As := [.int l0, .int 4, .int 7]) (st := []) k_744 k_9 k_743 k_742 ⟨by decide, by decide, by decide +kernel⟩ rfl ⟨Nat.le_of_ble_eq_true rfl, Nat.le_of_ble_eq_true rfl⟩ (by simp [x_cat, x_catI, x_catL]) (fun K' G' h' _ => c_M_in l D dA base sa l0 4 7 K' G' h') d_M_isToken_140 h (fun v9 G h => ?_)
    exact x_zret F rfl hret d_M_isToken_143 h (fun h => ⟨_, rfl, h⟩)
  have h := h.2 q5
  by_cases q6 : l0 = 6
  · have h := h.1 q6
    refine x_tabIn F (off := 135) (tgt := 136) d_M_isToken_1 q6 (by decide) (by decide) (by decide) (by decide) ?_
    refine x_iload_n F 0 d_M_isToken_136 rfl rfl ?_
    refine x_iconst F (v := 4) d_M_isToken_137 (by decide) ?_
    refine x_bipush F (v := 7) d_M_isToken_138 (by decide) ?_
    refine x_callS F (enc := fun r => some (.int r)) (P := p_M_in l0 4 7) (n := 3) (As := [.int l0, .int 4, .int 7]) (st := []) k_744 k_9 k_743 k_742 ⟨by decide, by decide, by decide +kernel⟩ rfl ⟨Nat.le_of_ble_eq_true rfl, Nat.le_of_ble_eq_true rfl⟩ (by simp [x_cat, x_catI, x_catL]) (fun K' G' h' _ => c_M_in l D dA base sa l0 4 7 K' G' h') d_M_isToken_140 h (fun v10 G h => ?_)
    exact x_zret F rfl hret d_M_isToken_143 h (fun h => ⟨_, rfl, h⟩)
  have h := h.2 q6
  by_cases q7 : l0 = 7
  · have h := h.1 q7
    refine x_tabIn F (off := 135) (tgt := 136) d_M_isToken_1 q7 (by decide) (by decide) (by decide) (by decide) ?_
    refine x_iload_n F 0 d_M_isToken_136 rfl rfl ?_
    refine x_iconst F (v := 4) d_M_isToken_137 (by decide) ?_
    refine x_bipush F (v := 7) d_M_isToken_138 (by decide) ?_
    refine x_callS F (enc := fun r => some (.int r)) (P := p_M_in l0 4 7) (n := 3) (As := [.int l0, .int 4, .int 7]) (st := []) k_744 k_9 k_743 k_742 ⟨by decide, by decide, by decide +kernel⟩ rfl ⟨Nat.le_of_ble_eq_true rfl, Nat.le_of_ble_eq_true rfl⟩ (by simp [x_cat, x_catI, x_catL]) (fun K' G' h' _ => c_M_in l D dA base sa l0 4 7 K' G' h') d_M_isToken_140 h (fun v11 G h => ?_)
    exact x_zret F rfl hret d_M_isToken_143 h (fun h => ⟨_, rfl, h⟩)
  have h := h.2 q7
  by_cases q8 : l0 = 8
  · have h := h.1 q8
    refine x_tabIn F (off := 111) (tgt := 112) d_M_isToken_1 q8 (by decide) (by decide) (by decide) (by decide) ?_
    refine x_iload_n F 1 d_M_isToken_112 rfl rfl ?_
    refine x_iconst F (v := 0) d_M_isToken_113 (by decide) ?_
    refine x_iconst F (v := 3) d_M_isToken_114 (by decide) ?_
    refine x_callS F (enc := fun r => some (.int r)) (P := p_M_in l1 0 3) (n := 3) (As := [.int l1, .int 0, .int 3]) (st := []) k_744 k_9 k_743 k_742 ⟨by decide, by decide, by decide +kernel⟩ rfl ⟨Nat.le_of_ble_eq_true rfl, Nat.le_of_ble_eq_true rfl⟩ (by simp [x_cat, x_catI, x_catL]) (fun K' G' h' _ => c_M_in l D dA base sa l1 0 3 K' G' h') d_M_isToken_115 h (fun v12 G h => ?_)
    refine x_if_eq F (tgt := 134) d_M_isToken_118 (by decide) h (fun q h => ?_) (fun q h => ?_)
    · refine x_iconst F (v := 0) d_M_isToken_134 (by decide) ?_
      exact x_zret F rfl hret d_M_isToken_135 h (fun h => ⟨_, rfl, h⟩)
    · refine x_iload_n F 2 d_M_isToken_121 rfl rfl ?_
      refine x_iconst F (v := 0) d_M_isToken_122 (by decide) ?_
      refine x_iconst F (v := 4) d_M_isToken_123 (by decide) ?_
      refine x_callS F (enc := fun r => some (.int r)) (P := p_M_in l2 0 4) (n := 3) (As := [.int l2, .int 0, .int 4]) (st := []) k_744 k_9 k_743 k_742 ⟨by decide, by decide, by decide +kernel⟩ rfl ⟨Nat.le_of_ble_eq_true rfl, Nat.le_of_ble_eq_true rfl⟩ (by simp [x_cat, x_catI, x_catL]) (fun K' G' h' _ => c_M_in l D dA base sa l2 0 4 K' G' h') d_M_isToken_124 h (fun v13 G h => ?_)
      refine x_if_eq F (tgt := 134) d_M_isToken_127 (by decide) h (fun q h => ?_) (fun q h => ?_)
      · refine x_iconst F (v := 0) d_M_isToken_134 (by decide) ?_
        exact x_zret F rfl hret d_M_isToken_135 h (fun h => ⟨_, rfl, h⟩)
      · refine x_iconst F (v := 1) d_M_isToken_130 (by decide) ?_
        refine x_goto F (tgt := 135) d_M_isToken_131 (by decide) ?_
        exact x_zret F rfl hret d_M_isToken_135 h (fun h => ⟨_, rfl, h⟩)
  have h := h.2 q8
  refine x_tabOut F (tgt := 136) d_M_isToken_1 (by have a0 := lv_neT (a := 0) q0 (by decide); have a1 := lv_neT (a := 1) q1 (by decide); have a2 := lv_neT (a := 2) q2 (by decide); have a3 := lv_neT (a := 3) q3 (by decide); have a4 := lv_neT (a := 4) q4 (by decide); have a5 := lv_neT (a := 5) q5 (by decide); have a6 := lv_neT (a := 6) q6 (by decide); have a7 := lv_neT (a := 7) q7 (by decide); have a8 := lv_neT (a := 8) q8 (by decide); omega) (by decide) ?_
  refine x_iload_n F 0 d_M_isToken_136 rfl rfl ?_
  refine x_iconst F (v := 4) d_M_isToken_137 (by decide) ?_
  refine x_bipush F (v := 7) d_M_isToken_138 (by decide) ?_
  refine x_callS F (enc := fun r => some (.int r)) (P := p_M_in l0 4 7) (n := 3) (As := [.int l0, .int 4, .int 7]) (st := []) k_744 k_9 k_743 k_742 ⟨by decide, by decide, by decide +kernel⟩ rfl ⟨Nat.le_of_ble_eq_true rfl, Nat.le_of_ble_eq_true rfl⟩ (by simp [x_cat, x_catI, x_catL]) (fun K' G' h' _ => c_M_in l D dA base sa l0 4 7 K' G' h') d_M_isToken_140 h (fun v14 G h => ?_)
  exact x_zret F rfl hret d_M_isToken_143 h (fun h => ⟨_, rfl, h⟩)
def p_M_pathOfNext_L7 (th : Nat) (K : Int32 → xS → Prop) (Kx53 : xS → Prop) : Nat → Int32 → xS → Prop
  | 0, _ => fun _ => False
  | n + 1, l1 => xif (l1 < 0) (Kx53) (xgR 10 33 (some th) fun v2 => xal 0 v2 l1 fun v3 => xif (v3 ≤ 0) (p_M_pathOfNext_L7 th K Kx53 n (l1 + (-1))) (xgR 10 28 (some th) fun v4 => xal 0 v4 l1 fun v5 => xif (v5 = 8) (xgR 10 29 (some th) fun v8 => xal 0 v8 l1 fun v9 => K v9) (xgR 10 31 (some th) fun v6 => xal 0 v6 l1 fun v7 => K v7)))
def p_M_pathOfNext (th : Nat) (K : Int32 → xS → Prop) : xS → Prop := xgI 10 36 (some th) fun v1 => p_M_pathOfNext_L7 th K (K 0) 1000 (v1 - 1)
abbrev X_M_pathOfNext (p : Program) (l : Launch) (e : Env) (s : State) (m : MethodId) (args : Array Value) (below : List Frame) (meth : Method) (c : Code) (C0 S0 : Nat) (K : Int32 → xS → Prop) (D : va_G) (dA : Nat → ClassId) (base : Nat) (sa : Nat → Nat) (pc : Nat) (lv : List (Nat × Value)) (st : List Value) (G : xS) : Prop := xW p l e { frames := 0, cells := C0, slots := S0, locals := 0 } s m args below meth c 2 (MQ below (xQ D dA base (fun v G2 => ∃ r : Int32, v = some (.int r) ∧ K r G2)) args s C0 S0 (fun q : Nat => base ≤ q)) D dA base sa pc lv st G
set_option maxHeartbeats 4000000 in
set_option maxRecDepth 100000 in
theorem w_M_pathOfNext_L7 {p : Program} {l : Launch} {e : Env} {s : State} {m : MethodId} {args : Array Value} {below : List Frame} {meth : Method} {c : Code} {C0 S0 : Nat} {D : va_G} {dA : Nat → ClassId} {base : Nat} {sa : Nat → Nat} (F : xFix p { frames := 0, cells := C0, slots := S0, locals := 0 } s m args meth c b_M_pathOfNext 2 "BlockSearchModel" D dA base sa) (hret : meth.sig.returnType = (some FieldType.int)) {K : Int32 → xS → Prop} {Kx53 : xS → Prop} (th : Nat) (hKx53 : ∀ (G : xS), Kx53  G → X_M_pathOfNext p l e s m args below meth c C0 S0 K D dA base sa 53 [] [] G) : ∀ (n : Nat) (l1 : Int32) (G : xS), p_M_pathOfNext_L7 th K Kx53 n l1 G → X_M_pathOfNext p l e s m args below meth c C0 S0 K D dA base sa 7 [(0, va_rf (some th)), (1, .int l1)] [] G := by
  intro n
  induction n with
  | zero => intro l1 G h; exact h.elim
  | succ n ih =>
    intro l1 G h
    unfold p_M_pathOfNext_L7 at h
    refine x_iload_n F 1 d_M_pathOfNext_7 rfl rfl ?_
    refine x_if_lt F (tgt := 53) d_M_pathOfNext_8 (by decide) h (fun q h => ?_) (fun q h => ?_)
    · refine x_sub (lv' := []) [] rfl ?_
      exact hKx53  _ h
    · refine x_aload_n F 0 d_M_pathOfNext_11 rfl rfl ?_
      refine x_getR F cl_M in_M (k := 33) (by decide) k_634 rfl d_M_pathOfNext_12 h (fun v2 h => ?_)
      refine x_iload_n F 1 d_M_pathOfNext_15 rfl rfl ?_
      refine x_iald F (t := 0) rfl d_M_pathOfNext_16 h (fun v3 h => ?_)
      refine x_if_le F (tgt := 47) d_M_pathOfNext_17 (by decide) h (fun q h => ?_) (fun q h => ?_)
      · refine x_iinc F 1 (v := (l1 + (-1))) (lv' := [(1, .int (l1 + (-1))), (0, va_rf (some th))]) d_M_pathOfNext_47 rfl (congrArg (fun z : Int32 => l1 + z) (by decide)) (by decide) rfl ?_
        refine x_goto F (tgt := 7) d_M_pathOfNext_50 (by decide) ?_
        refine x_sub (lv' := [(0, va_rf (some th)), (1, .int (l1 + (-1)))]) [1, 0] rfl ?_
        exact ih _ _ h
      · refine x_aload_n F 0 d_M_pathOfNext_20 rfl rfl ?_
        refine x_getR F cl_M in_M (k := 28) (by decide) k_629 rfl d_M_pathOfNext_21 h (fun v4 h => ?_)
        refine x_iload_n F 1 d_M_pathOfNext_24 rfl rfl ?_
        refine x_iald F (t := 0) rfl d_M_pathOfNext_25 h (fun v5 h => ?_)
        refine x_bipush F (v := 8) d_M_pathOfNext_26 (by decide) ?_
        refine x_icmp_ne F (tgt := 40) d_M_pathOfNext_28 (by decide) h (fun q h => ?_) (fun q h => ?_)
        · refine x_aload_n F 0 d_M_pathOfNext_40 rfl rfl ?_
          refine x_getR F cl_M in_M (k := 31) (by decide) k_632 rfl d_M_pathOfNext_41 h (fun v6 h => ?_)
          refine x_iload_n F 1 d_M_pathOfNext_44 rfl rfl ?_
          refine x_iald F (t := 0) rfl d_M_pathOfNext_45 h (fun v7 h => ?_)
          exact x_iret F rfl hret d_M_pathOfNext_46 ⟨_, rfl, h⟩
        · refine x_aload_n F 0 d_M_pathOfNext_31 rfl rfl ?_
          refine x_getR F cl_M in_M (k := 29) (by decide) k_630 rfl d_M_pathOfNext_32 h (fun v8 h => ?_)
          refine x_iload_n F 1 d_M_pathOfNext_35 rfl rfl ?_
          refine x_iald F (t := 0) rfl d_M_pathOfNext_36 h (fun v9 h => ?_)
          refine x_goto F (tgt := 46) d_M_pathOfNext_37 (by decide) ?_
          exact x_iret F rfl hret d_M_pathOfNext_46 ⟨_, rfl, h⟩
set_option maxHeartbeats 4000000 in
set_option maxRecDepth 100000 in
theorem c_M_pathOfNext (l : Launch) (D : va_G) (dA : Nat → ClassId) (base : Nat) (sa : Nat → Nat) (th : Nat) (K : Int32 → xS → Prop) (G : xS) (h : p_M_pathOfNext th K G) : xMet l y_M_pathOfNext b_M_pathOfNext 2 (some FieldType.int) 0 0 D dA base sa [va_rf (some th)] G (fun v G2 => ∃ r : Int32, v = some (.int r) ∧ K r G2) := by
  refine xMet.of (by decide) (by simp [x_cat, x_catI]) (Nat.le_of_ble_eq_true rfl) ?_
  intro p e s m args below meth c F hret hname
  unfold p_M_pathOfNext at h
  refine x_sub (lv' := [(0, va_rf (some th))]) [0] rfl ?_
  refine x_aload_n F 0 d_M_pathOfNext_0 rfl rfl ?_
  refine x_getI F cl_M in_M (k := 36) (by decide) k_637 rfl d_M_pathOfNext_1 h (fun v1 h => ?_)
  refine x_iconst F (v := 1) d_M_pathOfNext_4 (by decide) ?_
  refine x_isub F d_M_pathOfNext_5 ?_
  refine x_istore_n F (lv' := [(1, .int (v1 - 1)), (0, va_rf (some th))]) d_M_pathOfNext_6 rfl (by decide) rfl ?_
  refine x_sub (lv' := [(0, va_rf (some th)), (1, .int (v1 - 1))]) [1, 0] rfl ?_
  refine w_M_pathOfNext_L7 F hret th (fun G h => ?_) _ _ _ h
  refine x_iconst F (v := 0) d_M_pathOfNext_53 (by decide) ?_
  exact x_iret F rfl hret d_M_pathOfNext_54 ⟨_, rfl, h⟩
def p_M_token_B94 (th : Nat) (l1 : Int32) (l2 : Int32) (l3 : Int32) (l5 : Int32) (l7 : Int32) (s0 : Int32) (K : Int32 → xS → Prop) (Kb69 : Int32 → Int32 → xS → Prop) (Kx118 : xS → Prop) : xS → Prop := xif (s0 = 0) (Kb69 s0 (l7 + (-1))) (xgR 10 33 (some th) fun v8 => xal 0 v8 l7 fun v9 => xas 0 v8 l7 (v9 - 1) (Kb69 s0 (l7 + (-1))))
def p_M_token_L69 (th : Nat) (l1 : Int32) (l2 : Int32) (l3 : Int32) (l5 : Int32) (K : Int32 → xS → Prop) (Kx118 : xS → Prop) : Nat → Int32 → Int32 → xS → Prop
  | 0, _, _ => fun _ => False
  | n + 1, l6, l7 => xif (l7 < 0) (Kx118) (xif (l6 = 0) (xgR 10 33 (some th) fun v6 => xal 0 v6 l7 fun v7 => xif (v7 ≤ 0) (p_M_token_B94 th l1 l2 l3 l5 l7 0 K (p_M_token_L69 th l1 l2 l3 l5 K Kx118 n) Kx118) (p_M_token_B94 th l1 l2 l3 l5 l7 1 K (p_M_token_L69 th l1 l2 l3 l5 K Kx118 n) Kx118)) (Kx118))
def p_M_token_B118 (th : Nat) (l1 : Int32) (l2 : Int32) (l3 : Int32) (l5 : Int32)  (K : Int32 → xS → Prop) : xS → Prop := xgR 10 28 (some th) fun v10 => xgI 10 36 (some th) fun v11 => xas 0 v10 v11 l1 (xgR 10 29 (some th) fun v12 => xgI 10 36 (some th) fun v13 => xas 0 v12 v13 l2 (xgR 10 30 (some th) fun v14 => xgI 10 36 (some th) fun v15 => xas 0 v14 v15 l3 (xgR 10 31 (some th) fun v16 => xgI 10 36 (some th) fun v17 => xas 0 v16 v17 l5 (xgR 10 33 (some th) fun v18 => xgI 10 36 (some th) fun v19 => xcall 0 0 (p_M_parts l1) fun v20 => xas 0 v18 v19 v20 (xgI 10 36 (some th) fun v21 => xpI 10 36 (some th) (v21 + 1) (xgI 10 37 (some th) fun v22 => xcall 0 0 (p_M_parts l1) fun v23 => xpI 10 37 (some th) (v22 + (v23 - 1)) (xgI 10 37 (some th) fun v24 => K v24)))))))
def p_M_token_B46 (th : Nat) (l1 : Int32) (l2 : Int32) (l3 : Int32) (l5 : Int32)  (K : Int32 → xS → Prop) : xS → Prop := xgI 10 36 (some th) fun v4 => xif (v4 = 12) (K (-3)) (xgI 10 36 (some th) fun v5 => p_M_token_L69 th l1 l2 l3 l5 K (p_M_token_B118 th l1 l2 l3 l5 K) 1000 0 (v5 - 1))
def p_M_token (th : Nat) (l1 : Int32) (l2 : Int32) (l3 : Int32) (K : Int32 → xS → Prop) : xS → Prop := xcall 0 0 (p_M_isToken l1 l2 l3) fun v1 => xif (v1 = 0) (K (-1)) (xob 10 (some th) fun b => xcall 0 0 (p_M_pathOfNext b ) fun v2 => xgI 10 37 (some th) fun v3 => xif (v3 = 0) (K (-2)) (xif (l1 = 8) (xcall 0 0 (p_M_parentOf l2) fun v25 => xif (v25 = v2) (p_M_token_B46 th l1 l2 l3 v2 K) (K (-2))) (p_M_token_B46 th l1 l2 l3 v2 K)))
abbrev X_M_token (p : Program) (l : Launch) (e : Env) (s : State) (m : MethodId) (args : Array Value) (below : List Frame) (meth : Method) (c : Code) (C0 S0 : Nat) (K : Int32 → xS → Prop) (D : va_G) (dA : Nat → ClassId) (base : Nat) (sa : Nat → Nat) (pc : Nat) (lv : List (Nat × Value)) (st : List Value) (G : xS) : Prop := xW p l e { frames := 2, cells := C0, slots := S0, locals := 44 } s m args below meth c 8 (MQ below (xQ D dA base (fun v G2 => ∃ r : Int32, v = some (.int r) ∧ K r G2)) args s C0 S0 (fun q : Nat => base ≤ q)) D dA base sa pc lv st G
set_option maxHeartbeats 4000000 in
set_option maxRecDepth 100000 in
theorem w_M_token_B94 {p : Program} {l : Launch} {e : Env} {s : State} {m : MethodId} {args : Array Value} {below : List Frame} {meth : Method} {c : Code} {C0 S0 : Nat} {D : va_G} {dA : Nat → ClassId} {base : Nat} {sa : Nat → Nat} (F : xFix p { frames := 2, cells := C0, slots := S0, locals := 44 } s m args meth c b_M_token 8 "BlockSearchModel" D dA base sa) (hret : meth.sig.returnType = (some FieldType.int)) {K : Int32 → xS → Prop} {Kb69 : Int32 → Int32 → xS → Prop} {Kx118 : xS → Prop} (th : Nat) (l1 : Int32) (l2 : Int32) (l3 : Int32) (l5 : Int32) (l7 : Int32) (s0 : Int32) (hKb69 : ∀ (m6 : Int32) (m7 : Int32) (G : xS), Kb69 m6 m7 G → X_M_token p l e s m args below meth c C0 S0 K D dA base sa 69 [(0, va_rf (some th)), (1, .int l1), (2, .int l2), (3, .int l3), (5, .int l5), (6, .int m6), (7, .int m7)] [] G) (hKx118 : ∀ (G : xS), Kx118  G → X_M_token p l e s m args below meth c C0 S0 K D dA base sa 118 [(0, va_rf (some th)), (1, .int l1), (2, .int l2), (3, .int l3), (5, .int l5)] [] G) {G : xS} (h : p_M_token_B94 th l1 l2 l3 l5 l7 s0 K Kb69 Kx118 G) : X_M_token p l e s m args below meth c C0 S0 K D dA base sa 94 [(0, va_rf (some th)), (1, .int l1), (2, .int l2), (3, .int l3), (5, .int l5), (7, .int l7)] [.int s0] G := by
  unfold p_M_token_B94 at h
  refine x_istore F (lv' := [(6, .int s0), (0, va_rf (some th)), (1, .int l1), (2, .int l2), (3, .int l3), (5, .int l5), (7, .int l7)]) d_M_token_94 (by decide) rfl ?_
  refine x_iload F 0 d_M_token_96 rfl ?_
  refine x_if_eq F (tgt := 112) d_M_token_98 (by decide) h (fun q h => ?_) (fun q h => ?_)
  · refine x_iinc F 6 (v := (l7 + (-1))) (lv' := [(7, .int (l7 + (-1))), (6, .int s0), (0, va_rf (some th)), (1, .int l1), (2, .int l2), (3, .int l3), (5, .int l5)]) d_M_token_112 rfl (congrArg (fun z : Int32 => l7 + z) (by decide)) (by decide) rfl ?_
    refine x_goto F (tgt := 69) d_M_token_115 (by decide) ?_
    refine x_sub (lv' := [(0, va_rf (some th)), (1, .int l1), (2, .int l2), (3, .int l3), (5, .int l5), (6, .int s0), (7, .int (l7 + (-1)))]) [2, 3, 4, 5, 6, 1, 0] rfl ?_
    exact hKb69 _ _ _ h
  · refine x_aload_n F 1 d_M_token_101 rfl rfl ?_
    refine x_getR F cl_M in_M (k := 33) (by decide) k_634 rfl d_M_token_102 h (fun v8 h => ?_)
    refine x_iload F 6 d_M_token_105 rfl ?_
    refine x_dup2 F rfl (x_cat _) d_M_token_107 ?_
    refine x_iald F (t := 0) rfl d_M_token_108 h (fun v9 h => ?_)
    refine x_iconst F (v := 1) d_M_token_109 (by decide) ?_
    refine x_isub F d_M_token_110 ?_
    refine x_iast F (t := 0) rfl d_M_token_111 h (fun G h => ?_)
    refine x_iinc F 6 (v := (l7 + (-1))) (lv' := [(7, .int (l7 + (-1))), (6, .int s0), (0, va_rf (some th)), (1, .int l1), (2, .int l2), (3, .int l3), (5, .int l5)]) d_M_token_112 rfl (congrArg (fun z : Int32 => l7 + z) (by decide)) (by decide) rfl ?_
    refine x_goto F (tgt := 69) d_M_token_115 (by decide) ?_
    refine x_sub (lv' := [(0, va_rf (some th)), (1, .int l1), (2, .int l2), (3, .int l3), (5, .int l5), (6, .int s0), (7, .int (l7 + (-1)))]) [2, 3, 4, 5, 6, 1, 0] rfl ?_
    exact hKb69 _ _ _ h
set_option maxHeartbeats 4000000 in
set_option maxRecDepth 100000 in
theorem w_M_token_L69 {p : Program} {l : Launch} {e : Env} {s : State} {m : MethodId} {args : Array Value} {below : List Frame} {meth : Method} {c : Code} {C0 S0 : Nat} {D : va_G} {dA : Nat → ClassId} {base : Nat} {sa : Nat → Nat} (F : xFix p { frames := 2, cells := C0, slots := S0, locals := 44 } s m args meth c b_M_token 8 "BlockSearchModel" D dA base sa) (hret : meth.sig.returnType = (some FieldType.int)) {K : Int32 → xS → Prop} {Kx118 : xS → Prop} (th : Nat) (l1 : Int32) (l2 : Int32) (l3 : Int32) (l5 : Int32) (hKx118 : ∀ (G : xS), Kx118  G → X_M_token p l e s m args below meth c C0 S0 K D dA base sa 118 [(0, va_rf (some th)), (1, .int l1), (2, .int l2), (3, .int l3), (5, .int l5)] [] G) : ∀ (n : Nat) (l6 : Int32) (l7 : Int32) (G : xS), p_M_token_L69 th l1 l2 l3 l5 K Kx118 n l6 l7 G → X_M_token p l e s m args below meth c C0 S0 K D dA base sa 69 [(0, va_rf (some th)), (1, .int l1), (2, .int l2), (3, .int l3), (5, .int l5), (6, .int l6), (7, .int l7)] [] G := by
  intro n
  induction n with
  | zero => intro l6 l7 G h; exact h.elim
  | succ n ih =>
    intro l6 l7 G h
    unfold p_M_token_L69 at h
    refine x_iload F 6 d_M_token_69 rfl ?_
    refine x_if_lt F (tgt := 118) d_M_token_71 (by decide) h (fun q h => ?_) (fun q h => ?_)
    · refine x_sub (lv' := [(0, va_rf (some th)), (1, .int l1), (2, .int l2), (3, .int l3), (5, .int l5)]) [0, 1, 2, 3, 4] rfl ?_
      exact hKx118  _ h
    · refine x_iload F 5 d_M_token_74 rfl ?_
      refine x_if_ne F (tgt := 118) d_M_token_76 (by decide) h (fun q h => ?_) (fun q h => ?_)
      · refine x_sub (lv' := [(0, va_rf (some th)), (1, .int l1), (2, .int l2), (3, .int l3), (5, .int l5)]) [0, 1, 2, 3, 4] rfl ?_
        exact hKx118  _ h
      · refine x_aload_n F 0 d_M_token_79 rfl rfl ?_
        refine x_getR F cl_M in_M (k := 33) (by decide) k_634 rfl d_M_token_80 h (fun v6 h => ?_)
        refine x_iload F 6 d_M_token_83 rfl ?_
        refine x_iald F (t := 0) rfl d_M_token_85 h (fun v7 h => ?_)
        refine x_if_le F (tgt := 93) d_M_token_86 (by decide) h (fun q h => ?_) (fun q h => ?_)
        · refine x_iconst F (v := 0) d_M_token_93 (by decide) ?_
          refine x_sub (lv' := [(0, va_rf (some th)), (1, .int l1), (2, .int l2), (3, .int l3), (5, .int l5), (7, .int l7)]) [0, 1, 2, 3, 4, 6] rfl ?_
          exact w_M_token_B94 F hret th l1 l2 l3 l5 l7 0 ih hKx118 h
        · refine x_iconst F (v := 1) d_M_token_89 (by decide) ?_
          refine x_goto F (tgt := 94) d_M_token_90 (by decide) ?_
          refine x_sub (lv' := [(0, va_rf (some th)), (1, .int l1), (2, .int l2), (3, .int l3), (5, .int l5), (7, .int l7)]) [0, 1, 2, 3, 4, 6] rfl ?_
          exact w_M_token_B94 F hret th l1 l2 l3 l5 l7 1 ih hKx118 h
set_option maxHeartbeats 4000000 in
set_option maxRecDepth 100000 in
theorem w_M_token_B118 {p : Program} {l : Launch} {e : Env} {s : State} {m : MethodId} {args : Array Value} {below : List Frame} {meth : Method} {c : Code} {C0 S0 : Nat} {D : va_G} {dA : Nat → ClassId} {base : Nat} {sa : Nat → Nat} (F : xFix p { frames := 2, cells := C0, slots := S0, locals := 44 } s m args meth c b_M_token 8 "BlockSearchModel" D dA base sa) (hret : meth.sig.returnType = (some FieldType.int)) {K : Int32 → xS → Prop} (th : Nat) (l1 : Int32) (l2 : Int32) (l3 : Int32) (l5 : Int32)  {G : xS} (h : p_M_token_B118 th l1 l2 l3 l5 K  G) : X_M_token p l e s m args below meth c C0 S0 K D dA base sa 118 [(0, va_rf (some th)), (1, .int l1), (2, .int l2), (3, .int l3), (5, .int l5)] [] G := by
  unfold p_M_token_B118 at h
  refine x_aload_n F 0 d_M_token_118 rfl rfl ?_
  refine x_getR F cl_M in_M (k := 28) (by decide) k_629 rfl d_M_token_119 h (fun v10 h => ?_)
  refine x_aload_n F 0 d_M_token_122 rfl rfl ?_
  refine x_getI F cl_M in_M (k := 36) (by decide) k_637 rfl d_M_token_123 h (fun v11 h => ?_)
  refine x_iload_n F 1 d_M_token_126 rfl rfl ?_
  refine x_iast F (t := 0) rfl d_M_token_127 h (fun G h => ?_)
  refine x_aload_n F 0 d_M_token_128 rfl rfl ?_
  refine x_getR F cl_M in_M (k := 29) (by decide) k_630 rfl d_M_token_129 h (fun v12 h => ?_)
  refine x_aload_n F 0 d_M_token_132 rfl rfl ?_
  refine x_getI F cl_M in_M (k := 36) (by decide) k_637 rfl d_M_token_133 h (fun v13 h => ?_)
  refine x_iload_n F 2 d_M_token_136 rfl rfl ?_
  refine x_iast F (t := 0) rfl d_M_token_137 h (fun G h => ?_)
  refine x_aload_n F 0 d_M_token_138 rfl rfl ?_
  refine x_getR F cl_M in_M (k := 30) (by decide) k_631 rfl d_M_token_139 h (fun v14 h => ?_)
  refine x_aload_n F 0 d_M_token_142 rfl rfl ?_
  refine x_getI F cl_M in_M (k := 36) (by decide) k_637 rfl d_M_token_143 h (fun v15 h => ?_)
  refine x_iload_n F 3 d_M_token_146 rfl rfl ?_
  refine x_iast F (t := 0) rfl d_M_token_147 h (fun G h => ?_)
  refine x_aload_n F 0 d_M_token_148 rfl rfl ?_
  refine x_getR F cl_M in_M (k := 31) (by decide) k_632 rfl d_M_token_149 h (fun v16 h => ?_)
  refine x_aload_n F 0 d_M_token_152 rfl rfl ?_
  refine x_getI F cl_M in_M (k := 36) (by decide) k_637 rfl d_M_token_153 h (fun v17 h => ?_)
  refine x_iload F 4 d_M_token_156 rfl ?_
  refine x_iast F (t := 0) rfl d_M_token_158 h (fun G h => ?_)
  refine x_aload_n F 0 d_M_token_159 rfl rfl ?_
  refine x_getR F cl_M in_M (k := 33) (by decide) k_634 rfl d_M_token_160 h (fun v18 h => ?_)
  refine x_aload_n F 0 d_M_token_163 rfl rfl ?_
  refine x_getI F cl_M in_M (k := 36) (by decide) k_637 rfl d_M_token_164 h (fun v19 h => ?_)
  refine x_iload_n F 1 d_M_token_167 rfl rfl ?_
  refine x_callS F (enc := fun r => some (.int r)) (P := p_M_parts l1) (n := 1) (As := [.int l1]) (st := [.int v19, va_rf v18]) k_814 k_9 k_813 k_812 ⟨by decide, by decide, by decide +kernel⟩ rfl ⟨Nat.le_of_ble_eq_true rfl, Nat.le_of_ble_eq_true rfl⟩ (by simp [x_cat, x_catI, x_catL]) (fun K' G' h' _ => c_M_parts l D dA base sa l1 K' G' h') d_M_token_168 h (fun v20 G h => ?_)
  refine x_iast F (t := 0) rfl d_M_token_171 h (fun G h => ?_)
  refine x_aload_n F 0 d_M_token_172 rfl rfl ?_
  refine x_dup F (x_cat _) d_M_token_173 ?_
  refine x_getI F cl_M in_M (k := 36) (by decide) k_637 rfl d_M_token_174 h (fun v21 h => ?_)
  refine x_iconst F (v := 1) d_M_token_177 (by decide) ?_
  refine x_iadd F d_M_token_178 ?_
  refine x_putI F cl_M in_M (k := 36) (by decide) k_637 rfl ty_M n_M rfl rfl d_M_token_179 h (fun G h => ?_)
  refine x_aload_n F 0 d_M_token_182 rfl rfl ?_
  refine x_dup F (x_cat _) d_M_token_183 ?_
  refine x_getI F cl_M in_M (k := 37) (by decide) k_638 rfl d_M_token_184 h (fun v22 h => ?_)
  refine x_iload_n F 1 d_M_token_187 rfl rfl ?_
  refine x_callS F (enc := fun r => some (.int r)) (P := p_M_parts l1) (n := 1) (As := [.int l1]) (st := [.int v22, va_rf (some th)]) k_814 k_9 k_813 k_812 ⟨by decide, by decide, by decide +kernel⟩ rfl ⟨Nat.le_of_ble_eq_true rfl, Nat.le_of_ble_eq_true rfl⟩ (by simp [x_cat, x_catI, x_catL]) (fun K' G' h' _ => c_M_parts l D dA base sa l1 K' G' h') d_M_token_188 h (fun v23 G h => ?_)
  refine x_iconst F (v := 1) d_M_token_191 (by decide) ?_
  refine x_isub F d_M_token_192 ?_
  refine x_iadd F d_M_token_193 ?_
  refine x_putI F cl_M in_M (k := 37) (by decide) k_638 rfl ty_M n_M rfl rfl d_M_token_194 h (fun G h => ?_)
  refine x_aload_n F 0 d_M_token_197 rfl rfl ?_
  refine x_getI F cl_M in_M (k := 37) (by decide) k_638 rfl d_M_token_198 h (fun v24 h => ?_)
  exact x_iret F rfl hret d_M_token_201 ⟨_, rfl, h⟩
set_option maxHeartbeats 4000000 in
set_option maxRecDepth 100000 in
theorem w_M_token_B46 {p : Program} {l : Launch} {e : Env} {s : State} {m : MethodId} {args : Array Value} {below : List Frame} {meth : Method} {c : Code} {C0 S0 : Nat} {D : va_G} {dA : Nat → ClassId} {base : Nat} {sa : Nat → Nat} (F : xFix p { frames := 2, cells := C0, slots := S0, locals := 44 } s m args meth c b_M_token 8 "BlockSearchModel" D dA base sa) (hret : meth.sig.returnType = (some FieldType.int)) {K : Int32 → xS → Prop} (th : Nat) (l1 : Int32) (l2 : Int32) (l3 : Int32) (l5 : Int32)  {G : xS} (h : p_M_token_B46 th l1 l2 l3 l5 K  G) : X_M_token p l e s m args below meth c C0 S0 K D dA base sa 46 [(0, va_rf (some th)), (1, .int l1), (2, .int l2), (3, .int l3), (5, .int l5)] [] G := by
  unfold p_M_token_B46 at h
  refine x_aload_n F 0 d_M_token_46 rfl rfl ?_
  refine x_getI F cl_M in_M (k := 36) (by decide) k_637 rfl d_M_token_47 h (fun v4 h => ?_)
  refine x_bipush F (v := 12) d_M_token_50 (by decide) ?_
  refine x_icmp_ne F (tgt := 58) d_M_token_52 (by decide) h (fun q h => ?_) (fun q h => ?_)
  · refine x_iconst F (v := 0) d_M_token_58 (by decide) ?_
    refine x_istore F (lv' := [(6, .int 0), (0, va_rf (some th)), (1, .int l1), (2, .int l2), (3, .int l3), (5, .int l5)]) d_M_token_59 (by decide) rfl ?_
    refine x_aload_n F 1 d_M_token_61 rfl rfl ?_
    refine x_getI F cl_M in_M (k := 36) (by decide) k_637 rfl d_M_token_62 h (fun v5 h => ?_)
    refine x_iconst F (v := 1) d_M_token_65 (by decide) ?_
    refine x_isub F d_M_token_66 ?_
    refine x_istore F (lv' := [(7, .int (v5 - 1)), (6, .int 0), (0, va_rf (some th)), (1, .int l1), (2, .int l2), (3, .int l3), (5, .int l5)]) d_M_token_67 (by decide) rfl ?_
    refine x_sub (lv' := [(0, va_rf (some th)), (1, .int l1), (2, .int l2), (3, .int l3), (5, .int l5), (6, .int 0), (7, .int (v5 - 1))]) [2, 3, 4, 5, 6, 1, 0] rfl ?_
    refine w_M_token_L69 F hret th l1 l2 l3 l5 (fun G h => ?_) _ _ _ _ h
    exact w_M_token_B118 F hret th l1 l2 l3 l5 h
  · refine x_bipush F (v := (-3)) d_M_token_55 (by decide) ?_
    exact x_iret F rfl hret d_M_token_57 ⟨_, rfl, h⟩
set_option maxHeartbeats 4000000 in
set_option maxRecDepth 100000 in
theorem c_M_token (l : Launch) (D : va_G) (dA : Nat → ClassId) (base : Nat) (sa : Nat → Nat) (th : Nat) (l1 : Int32) (l2 : Int32) (l3 : Int32) (K : Int32 → xS → Prop) (G : xS) (h : p_M_token th l1 l2 l3 K G) : xMet l y_M_token b_M_token 8 (some FieldType.int) 2 44 D dA base sa [va_rf (some th), .int l1, .int l2, .int l3] G (fun v G2 => ∃ r : Int32, v = some (.int r) ∧ K r G2) := by
  refine xMet.of (by decide) (by simp [x_cat, x_catI]) (Nat.le_of_ble_eq_true rfl) ?_
  intro p e s m args below meth c F hret hname
  unfold p_M_token at h
  refine x_sub (lv' := [(0, va_rf (some th)), (1, .int l1), (2, .int l2), (3, .int l3)]) [0, 1, 2, 3] rfl ?_
  refine x_iload_n F 1 d_M_token_0 rfl rfl ?_
  refine x_iload_n F 2 d_M_token_1 rfl rfl ?_
  refine x_iload_n F 3 d_M_token_2 rfl rfl ?_
  refine x_callS F (enc := fun r => some (.int r)) (P := p_M_isToken l1 l2 l3) (n := 3) (As := [.int l1, .int l2, .int l3]) (st := []) k_807 k_9 k_806 k_805 ⟨by decide, by decide, by decide +kernel⟩ rfl ⟨Nat.le_of_ble_eq_true rfl, Nat.le_of_ble_eq_true rfl⟩ (by simp [x_cat, x_catI, x_catL]) (fun K' G' h' _ => c_M_isToken l D dA base sa l1 l2 l3 K' G' h') d_M_token_3 h (fun v1 G h => ?_)
  refine x_istore F (lv' := [(4, .int v1), (0, va_rf (some th)), (1, .int l1), (2, .int l2), (3, .int l3)]) d_M_token_6 (by decide) rfl ?_
  refine x_iload F 0 d_M_token_8 rfl ?_
  refine x_if_ne F (tgt := 15) d_M_token_10 (by decide) h (fun q h => ?_) (fun q h => ?_)
  · refine x_aload_n F 1 d_M_token_15 rfl rfl ?_
    refine x_callV F (enc := fun r => some (.int r)) (P := fun b => p_M_pathOfNext b ) (n := 0) (As := []) (st := []) k_811 k_9 k_810 kp_14 k_808 ⟨by decide, by decide, by decide +kernel⟩ rfl ⟨Nat.le_of_ble_eq_true rfl, Nat.le_of_ble_eq_true rfl⟩ (by simp [x_cat, x_catI, x_catL]) cl_M rfl (ro := some th) (fun b K' G' h' _ => c_M_pathOfNext l D dA base sa b  K' G' h') d_M_token_16 h (fun v2 G h => ?_)
    refine x_istore F (lv' := [(5, .int v2), (4, .int v1), (0, va_rf (some th)), (1, .int l1), (2, .int l2), (3, .int l3)]) d_M_token_19 (by decide) rfl ?_
    refine x_aload_n F 2 d_M_token_21 rfl rfl ?_
    refine x_getI F cl_M in_M (k := 37) (by decide) k_638 rfl d_M_token_22 h (fun v3 h => ?_)
    refine x_if_eq F (tgt := 43) d_M_token_25 (by decide) h (fun q h => ?_) (fun q h => ?_)
    · refine x_bipush F (v := (-2)) d_M_token_43 (by decide) ?_
      exact x_iret F rfl hret d_M_token_45 ⟨_, rfl, h⟩
    · refine x_iload_n F 3 d_M_token_28 rfl rfl ?_
      refine x_bipush F (v := 8) d_M_token_29 (by decide) ?_
      refine x_icmp_ne F (tgt := 46) d_M_token_31 (by decide) h (fun q h => ?_) (fun q h => ?_)
      · refine x_sub (lv' := [(0, va_rf (some th)), (1, .int l1), (2, .int l2), (3, .int l3), (5, .int v2)]) [2, 3, 4, 5, 0] rfl ?_
        exact w_M_token_B46 F hret th l1 l2 l3 v2 h
      · refine x_iload_n F 4 d_M_token_34 rfl rfl ?_
        refine x_callS F (enc := fun r => some (.int r)) (P := p_M_parentOf l2) (n := 1) (As := [.int l2]) (st := []) k_747 k_9 k_746 k_745 ⟨by decide, by decide, by decide +kernel⟩ rfl ⟨Nat.le_of_ble_eq_true rfl, Nat.le_of_ble_eq_true rfl⟩ (by simp [x_cat, x_catI, x_catL]) (fun K' G' h' _ => c_M_parentOf l D dA base sa l2 K' G' h') d_M_token_35 h (fun v25 G h => ?_)
        refine x_iload F 0 d_M_token_38 rfl ?_
        refine x_icmp_eq F (tgt := 46) d_M_token_40 (by decide) h (fun q h => ?_) (fun q h => ?_)
        · refine x_sub (lv' := [(0, va_rf (some th)), (1, .int l1), (2, .int l2), (3, .int l3), (5, .int v2)]) [2, 3, 4, 5, 0] rfl ?_
          exact w_M_token_B46 F hret th l1 l2 l3 v2 h
        · refine x_bipush F (v := (-2)) d_M_token_43 (by decide) ?_
          exact x_iret F rfl hret d_M_token_45 ⟨_, rfl, h⟩
  · refine x_iconst F (v := (-1)) d_M_token_13 (by decide) ?_
    exact x_iret F rfl hret d_M_token_14 ⟨_, rfl, h⟩
def p_M_clear (th : Nat) (K : Int32 → xS → Prop) : xS → Prop := xgI 10 36 (some th) fun v1 => xpI 10 36 (some th) 0 (xpI 10 37 (some th) 1 (K v1))
abbrev X_M_clear (p : Program) (l : Launch) (e : Env) (s : State) (m : MethodId) (args : Array Value) (below : List Frame) (meth : Method) (c : Code) (C0 S0 : Nat) (K : Int32 → xS → Prop) (D : va_G) (dA : Nat → ClassId) (base : Nat) (sa : Nat → Nat) (pc : Nat) (lv : List (Nat × Value)) (st : List Value) (G : xS) : Prop := xW p l e { frames := 0, cells := C0, slots := S0, locals := 0 } s m args below meth c 2 (MQ below (xQ D dA base (fun v G2 => ∃ r : Int32, v = some (.int r) ∧ K r G2)) args s C0 S0 (fun q : Nat => base ≤ q)) D dA base sa pc lv st G
set_option maxHeartbeats 4000000 in
set_option maxRecDepth 100000 in
theorem c_M_clear (l : Launch) (D : va_G) (dA : Nat → ClassId) (base : Nat) (sa : Nat → Nat) (th : Nat) (K : Int32 → xS → Prop) (G : xS) (h : p_M_clear th K G) : xMet l y_M_clear b_M_clear 2 (some FieldType.int) 0 0 D dA base sa [va_rf (some th)] G (fun v G2 => ∃ r : Int32, v = some (.int r) ∧ K r G2) := by
  refine xMet.of (by decide) (by simp [x_cat, x_catI]) (Nat.le_of_ble_eq_true rfl) ?_
  intro p e s m args below meth c F hret hname
  unfold p_M_clear at h
  refine x_sub (lv' := [(0, va_rf (some th))]) [0] rfl ?_
  refine x_aload_n F 0 d_M_clear_0 rfl rfl ?_
  refine x_getI F cl_M in_M (k := 36) (by decide) k_637 rfl d_M_clear_1 h (fun v1 h => ?_)
  refine x_istore_n F (lv' := [(1, .int v1), (0, va_rf (some th))]) d_M_clear_4 rfl (by decide) rfl ?_
  refine x_aload_n F 1 d_M_clear_5 rfl rfl ?_
  refine x_iconst F (v := 0) d_M_clear_6 (by decide) ?_
  refine x_putI F cl_M in_M (k := 36) (by decide) k_637 rfl ty_M n_M rfl rfl d_M_clear_7 h (fun G h => ?_)
  refine x_aload_n F 1 d_M_clear_10 rfl rfl ?_
  refine x_iconst F (v := 1) d_M_clear_11 (by decide) ?_
  refine x_putI F cl_M in_M (k := 37) (by decide) k_638 rfl ty_M n_M rfl rfl d_M_clear_12 h (fun G h => ?_)
  refine x_iload_n F 0 d_M_clear_15 rfl rfl ?_
  exact x_iret F rfl hret d_M_clear_16 ⟨_, rfl, h⟩
def p_M_isWhole (th : Nat) (K : Int32 → xS → Prop) : xS → Prop := xgI 10 36 (some th) fun v1 => xif (v1 ≤ 0) (xrz 0 K) (xgI 10 37 (some th) fun v2 => xif (v2 = 0) (xrz 1 K) (xrz 0 K))
abbrev X_M_isWhole (p : Program) (l : Launch) (e : Env) (s : State) (m : MethodId) (args : Array Value) (below : List Frame) (meth : Method) (c : Code) (C0 S0 : Nat) (K : Int32 → xS → Prop) (D : va_G) (dA : Nat → ClassId) (base : Nat) (sa : Nat → Nat) (pc : Nat) (lv : List (Nat × Value)) (st : List Value) (G : xS) : Prop := xW p l e { frames := 0, cells := C0, slots := S0, locals := 0 } s m args below meth c 1 (MQ below (xQ D dA base (fun v G2 => ∃ r : Int32, v = some (.int r) ∧ K r G2)) args s C0 S0 (fun q : Nat => base ≤ q)) D dA base sa pc lv st G
set_option maxHeartbeats 4000000 in
set_option maxRecDepth 100000 in
theorem c_M_isWhole (l : Launch) (D : va_G) (dA : Nat → ClassId) (base : Nat) (sa : Nat → Nat) (th : Nat) (K : Int32 → xS → Prop) (G : xS) (h : p_M_isWhole th K G) : xMet l y_M_isWhole b_M_isWhole 1 (some FieldType.boolean) 0 0 D dA base sa [va_rf (some th)] G (fun v G2 => ∃ r : Int32, v = some (.int r) ∧ K r G2) := by
  refine xMet.of (by decide) (by simp [x_cat, x_catI]) (Nat.le_of_ble_eq_true rfl) ?_
  intro p e s m args below meth c F hret hname
  unfold p_M_isWhole at h
  refine x_sub (lv' := [(0, va_rf (some th))]) [0] rfl ?_
  refine x_aload_n F 0 d_M_isWhole_0 rfl rfl ?_
  refine x_getI F cl_M in_M (k := 36) (by decide) k_637 rfl d_M_isWhole_1 h (fun v1 h => ?_)
  refine x_if_le F (tgt := 18) d_M_isWhole_4 (by decide) h (fun q h => ?_) (fun q h => ?_)
  · refine x_iconst F (v := 0) d_M_isWhole_18 (by decide) ?_
    exact x_zret F rfl hret d_M_isWhole_19 h (fun h => ⟨_, rfl, h⟩)
  · refine x_aload_n F 0 d_M_isWhole_7 rfl rfl ?_
    refine x_getI F cl_M in_M (k := 37) (by decide) k_638 rfl d_M_isWhole_8 h (fun v2 h => ?_)
    refine x_if_ne F (tgt := 18) d_M_isWhole_11 (by decide) h (fun q h => ?_) (fun q h => ?_)
    · refine x_iconst F (v := 0) d_M_isWhole_18 (by decide) ?_
      exact x_zret F rfl hret d_M_isWhole_19 h (fun h => ⟨_, rfl, h⟩)
    · refine x_iconst F (v := 1) d_M_isWhole_14 (by decide) ?_
      refine x_goto F (tgt := 19) d_M_isWhole_15 (by decide) ?_
      exact x_zret F rfl hret d_M_isWhole_19 h (fun h => ⟨_, rfl, h⟩)
