def p_Sn_begin (th : Nat) (K : Unit → xS → Prop) : xS → Prop := xpZ 4 0 (some th) 1 (xpI 4 1 (some th) 0 (K ()))
abbrev X_Sn_begin (p : Program) (l : Launch) (e : Env) (s : State) (m : MethodId) (args : Array Value) (below : List Frame) (meth : Method) (c : Code) (C0 S0 : Nat) (K : Unit → xS → Prop) (D : va_G) (dA : Nat → ClassId) (base : Nat) (sa : Nat → Nat) (pc : Nat) (lv : List (Nat × Value)) (st : List Value) (G : xS) : Prop := xW p l e { frames := 0, cells := C0, slots := S0, locals := 0 } s m args below meth c 1 (MQ below (xQ D dA base (fun v G2 => ∃ r : Unit, v = (none : Option Value) ∧ K r G2)) args s C0 S0 (fun q : Nat => base ≤ q)) D dA base sa pc lv st G
set_option maxHeartbeats 4000000 in
set_option maxRecDepth 100000 in
theorem c_Sn_begin (l : Launch) (D : va_G) (dA : Nat → ClassId) (base : Nat) (sa : Nat → Nat) (th : Nat) (K : Unit → xS → Prop) (G : xS) (h : p_Sn_begin th K G) : xMet l y_Sn_begin b_Sn_begin 1 none 0 0 D dA base sa [va_rf (some th)] G (fun v G2 => ∃ r : Unit, v = none ∧ K r G2) := by
  refine xMet.of (by decide) (by simp [x_cat, x_catI]) (Nat.le_of_ble_eq_true rfl) ?_
  intro p e s m args below meth c F hret hname
  unfold p_Sn_begin at h
  refine x_sub (lv' := [(0, va_rf (some th))]) [0] rfl ?_
  refine x_aload_n F 0 d_Sn_begin_0 rfl rfl ?_
  refine x_iconst F (v := 1) d_Sn_begin_1 (by decide) ?_
  refine x_putZ F cl_Sn in_Sn (k := 0) (by decide) k_100 rfl ty_Sn n_Sn rfl rfl d_Sn_begin_2 h (fun G h => ?_)
  refine x_aload_n F 0 d_Sn_begin_5 rfl rfl ?_
  refine x_iconst F (v := 0) d_Sn_begin_6 (by decide) ?_
  refine x_putI F cl_Sn in_Sn (k := 1) (by decide) k_102 rfl ty_Sn n_Sn rfl rfl d_Sn_begin_7 h (fun G h => ?_)
  exact x_vret F rfl hret d_Sn_begin_10 ⟨(), rfl, h⟩
def p_Sn_takeIn_L5 (th : Nat) (l1 : Int32) (l2 : Option Nat) (K : Unit → xS → Prop) (Kx104 : xS → Prop) : Nat → Int32 → Int32 → xS → Prop
  | 0, _, _ => fun _ => False
  | n + 1, l3, l4 => xgI 8 1 l2 fun v1 => xif (v1 ≤ l4) (Kx104) (xgI 4 1 (some th) fun v2 => xif (120 ≤ v2) (Kx104) (xgR 8 0 l2 fun v3 => xalR 4 v3 l4 fun v4 => xgR 5 1 v4 fun v5 => xlen 3 v5 fun v6 => xgR 4 2 (some th) fun v7 => xgI 4 1 (some th) fun v8 => xasR 4 5 v7 v8 v4 (xgR 4 3 (some th) fun v9 => xgI 4 1 (some th) fun v10 => xgI 5 2 v4 fun v11 => xasZ 1 v9 v10 v11 (xgR 4 4 (some th) fun v12 => xgI 4 1 (some th) fun v13 => xas 0 v12 v13 l1 (xgR 4 5 (some th) fun v14 => xgI 4 1 (some th) fun v15 => xas 0 v14 v15 ((l3 + v6) - 1) (xgI 4 1 (some th) fun v16 => xpI 4 1 (some th) (v16 + 1) (p_Sn_takeIn_L5 th l1 l2 K Kx104 n (l3 + v6) (l4 + 1))))))))
def p_Sn_takeIn (th : Nat) (l1 : Int32) (l2 : Option Nat) (K : Unit → xS → Prop) : xS → Prop := p_Sn_takeIn_L5 th l1 l2 K (K ()) 1000 0 0
abbrev X_Sn_takeIn (p : Program) (l : Launch) (e : Env) (s : State) (m : MethodId) (args : Array Value) (below : List Frame) (meth : Method) (c : Code) (C0 S0 : Nat) (K : Unit → xS → Prop) (D : va_G) (dA : Nat → ClassId) (base : Nat) (sa : Nat → Nat) (pc : Nat) (lv : List (Nat × Value)) (st : List Value) (G : xS) : Prop := xW p l e { frames := 0, cells := C0, slots := S0, locals := 0 } s m args below meth c 6 (MQ below (xQ D dA base (fun v G2 => ∃ r : Unit, v = (none : Option Value) ∧ K r G2)) args s C0 S0 (fun q : Nat => base ≤ q)) D dA base sa pc lv st G
set_option maxHeartbeats 4000000 in
set_option maxRecDepth 100000 in
theorem w_Sn_takeIn_L5 {p : Program} {l : Launch} {e : Env} {s : State} {m : MethodId} {args : Array Value} {below : List Frame} {meth : Method} {c : Code} {C0 S0 : Nat} {D : va_G} {dA : Nat → ClassId} {base : Nat} {sa : Nat → Nat} (F : xFix p { frames := 0, cells := C0, slots := S0, locals := 0 } s m args meth c b_Sn_takeIn 6 "BlockSearch$Snapshot" D dA base sa) (hret : meth.sig.returnType = none) {K : Unit → xS → Prop} {Kx104 : xS → Prop} (th : Nat) (l1 : Int32) (l2 : Option Nat) (hKx104 : ∀ (G : xS), Kx104  G → X_Sn_takeIn p l e s m args below meth c C0 S0 K D dA base sa 104 [] [] G) : ∀ (n : Nat) (l3 : Int32) (l4 : Int32) (G : xS), p_Sn_takeIn_L5 th l1 l2 K Kx104 n l3 l4 G → X_Sn_takeIn p l e s m args below meth c C0 S0 K D dA base sa 5 [(0, va_rf (some th)), (1, .int l1), (2, va_rf l2), (3, .int l3), (4, .int l4)] [] G := by
  intro n
  induction n with
  | zero => intro l3 l4 G h; exact h.elim
  | succ n ih =>
    intro l3 l4 G h
    unfold p_Sn_takeIn_L5 at h
    refine x_iload F 4 d_Sn_takeIn_5 rfl ?_
    refine x_aload_n F 2 d_Sn_takeIn_7 rfl rfl ?_
    refine x_getI F cl_Rw in_Rw (k := 1) (by decide) k_82 rfl d_Sn_takeIn_8 h (fun v1 h => ?_)
    refine x_icmp_ge F (tgt := 104) d_Sn_takeIn_11 (by decide) h (fun q h => ?_) (fun q h => ?_)
    · refine x_sub (lv' := []) [] rfl ?_
      exact hKx104  _ h
    · refine x_aload_n F 0 d_Sn_takeIn_14 rfl rfl ?_
      refine x_getI F cl_Sn in_Sn (k := 1) (by decide) k_102 rfl d_Sn_takeIn_15 h (fun v2 h => ?_)
      refine x_bipush F (v := 120) d_Sn_takeIn_18 (by decide) ?_
      refine x_icmp_ge F (tgt := 104) d_Sn_takeIn_20 (by decide) h (fun q h => ?_) (fun q h => ?_)
      · refine x_sub (lv' := []) [] rfl ?_
        exact hKx104  _ h
      · refine x_aload_n F 2 d_Sn_takeIn_23 rfl rfl ?_
        refine x_getR F cl_Rw in_Rw (k := 0) (by decide) k_80 rfl d_Sn_takeIn_24 h (fun v3 h => ?_)
        refine x_iload F 4 d_Sn_takeIn_27 rfl ?_
        refine x_aald F (t := 4) rfl rfl d_Sn_takeIn_29 h (fun v4 h => ?_)
        refine x_astore F (lv' := [(5, va_rf v4), (0, va_rf (some th)), (1, .int l1), (2, va_rf l2), (3, .int l3), (4, .int l4)]) d_Sn_takeIn_30 (by decide) rfl ?_
        refine x_iload_n F 4 d_Sn_takeIn_32 rfl rfl ?_
        refine x_aload F 0 d_Sn_takeIn_33 rfl ?_
        refine x_getR F cl_Do in_Do (k := 1) (by decide) k_383 rfl d_Sn_takeIn_35 h (fun v5 h => ?_)
        refine x_len F (t := 3) rfl d_Sn_takeIn_38 h (fun v6 h => ?_)
        refine x_iadd F d_Sn_takeIn_39 ?_
        refine x_istore_n F (lv' := [(3, .int (l3 + v6)), (5, va_rf v4), (0, va_rf (some th)), (1, .int l1), (2, va_rf l2), (4, .int l4)]) d_Sn_takeIn_40 rfl (by decide) rfl ?_
        refine x_aload_n F 2 d_Sn_takeIn_41 rfl rfl ?_
        refine x_getR F cl_Sn in_Sn (k := 2) (by decide) k_105 rfl d_Sn_takeIn_42 h (fun v7 h => ?_)
        refine x_aload_n F 2 d_Sn_takeIn_45 rfl rfl ?_
        refine x_getI F cl_Sn in_Sn (k := 1) (by decide) k_102 rfl d_Sn_takeIn_46 h (fun v8 h => ?_)
        refine x_aload F 1 d_Sn_takeIn_49 rfl ?_
        refine x_aast F cl_Do (t := 4) rfl d_Sn_takeIn_51 h (fun G h => ?_)
        refine x_aload_n F 2 d_Sn_takeIn_52 rfl rfl ?_
        refine x_getR F cl_Sn in_Sn (k := 3) (by decide) k_109 rfl d_Sn_takeIn_53 h (fun v9 h => ?_)
        refine x_aload_n F 2 d_Sn_takeIn_56 rfl rfl ?_
        refine x_getI F cl_Sn in_Sn (k := 1) (by decide) k_102 rfl d_Sn_takeIn_57 h (fun v10 h => ?_)
        refine x_aload F 1 d_Sn_takeIn_60 rfl ?_
        refine x_getI F cl_Do in_Do (k := 2) (by decide) k_387 rfl d_Sn_takeIn_62 h (fun v11 h => ?_)
        refine x_zast F (t := 1) rfl d_Sn_takeIn_65 h (fun G h => ?_)
        refine x_aload_n F 2 d_Sn_takeIn_66 rfl rfl ?_
        refine x_getR F cl_Sn in_Sn (k := 4) (by decide) k_111 rfl d_Sn_takeIn_67 h (fun v12 h => ?_)
        refine x_aload_n F 2 d_Sn_takeIn_70 rfl rfl ?_
        refine x_getI F cl_Sn in_Sn (k := 1) (by decide) k_102 rfl d_Sn_takeIn_71 h (fun v13 h => ?_)
        refine x_iload_n F 3 d_Sn_takeIn_74 rfl rfl ?_
        refine x_iast F (t := 0) rfl d_Sn_takeIn_75 h (fun G h => ?_)
        refine x_aload_n F 2 d_Sn_takeIn_76 rfl rfl ?_
        refine x_getR F cl_Sn in_Sn (k := 5) (by decide) k_113 rfl d_Sn_takeIn_77 h (fun v14 h => ?_)
        refine x_aload_n F 2 d_Sn_takeIn_80 rfl rfl ?_
        refine x_getI F cl_Sn in_Sn (k := 1) (by decide) k_102 rfl d_Sn_takeIn_81 h (fun v15 h => ?_)
        refine x_iload_n F 0 d_Sn_takeIn_84 rfl rfl ?_
        refine x_iconst F (v := 1) d_Sn_takeIn_85 (by decide) ?_
        refine x_isub F d_Sn_takeIn_86 ?_
        refine x_iast F (t := 0) rfl d_Sn_takeIn_87 h (fun G h => ?_)
        refine x_aload_n F 2 d_Sn_takeIn_88 rfl rfl ?_
        refine x_dup F (x_cat _) d_Sn_takeIn_89 ?_
        refine x_getI F cl_Sn in_Sn (k := 1) (by decide) k_102 rfl d_Sn_takeIn_90 h (fun v16 h => ?_)
        refine x_iconst F (v := 1) d_Sn_takeIn_93 (by decide) ?_
        refine x_iadd F d_Sn_takeIn_94 ?_
        refine x_putI F cl_Sn in_Sn (k := 1) (by decide) k_102 rfl ty_Sn n_Sn rfl rfl d_Sn_takeIn_95 h (fun G h => ?_)
        refine x_iinc F 5 (v := (l4 + 1)) (lv' := [(4, .int (l4 + 1)), (3, .int (l3 + v6)), (5, va_rf v4), (0, va_rf (some th)), (1, .int l1), (2, va_rf l2)]) d_Sn_takeIn_98 rfl (congrArg (fun z : Int32 => l4 + z) (by decide)) (by decide) rfl ?_
        refine x_goto F (tgt := 5) d_Sn_takeIn_101 (by decide) ?_
        refine x_sub (lv' := [(0, va_rf (some th)), (1, .int l1), (2, va_rf l2), (3, .int (l3 + v6)), (4, .int (l4 + 1))]) [3, 4, 5, 1, 0] rfl ?_
        exact ih _ _ _ h
set_option maxHeartbeats 4000000 in
set_option maxRecDepth 100000 in
theorem c_Sn_takeIn (l : Launch) (D : va_G) (dA : Nat → ClassId) (base : Nat) (sa : Nat → Nat) (th : Nat) (l1 : Int32) (l2 : Option Nat) (K : Unit → xS → Prop) (G : xS) (h : p_Sn_takeIn th l1 l2 K G) : xMet l y_Sn_takeIn b_Sn_takeIn 6 none 0 0 D dA base sa [va_rf (some th), .int l1, va_rf l2] G (fun v G2 => ∃ r : Unit, v = none ∧ K r G2) := by
  refine xMet.of (by decide) (by simp [x_cat, x_catI]) (Nat.le_of_ble_eq_true rfl) ?_
  intro p e s m args below meth c F hret hname
  unfold p_Sn_takeIn at h
  refine x_sub (lv' := [(0, va_rf (some th)), (1, .int l1), (2, va_rf l2)]) [0, 1, 2] rfl ?_
  refine x_iconst F (v := 0) d_Sn_takeIn_0 (by decide) ?_
  refine x_istore_n F (lv' := [(3, .int 0), (0, va_rf (some th)), (1, .int l1), (2, va_rf l2)]) d_Sn_takeIn_1 rfl (by decide) rfl ?_
  refine x_iconst F (v := 0) d_Sn_takeIn_2 (by decide) ?_
  refine x_istore F (lv' := [(4, .int 0), (3, .int 0), (0, va_rf (some th)), (1, .int l1), (2, va_rf l2)]) d_Sn_takeIn_3 (by decide) rfl ?_
  refine x_sub (lv' := [(0, va_rf (some th)), (1, .int l1), (2, va_rf l2), (3, .int 0), (4, .int 0)]) [2, 3, 4, 1, 0] rfl ?_
  refine w_Sn_takeIn_L5 F hret th l1 l2 (fun G h => ?_) _ _ _ _ h
  exact x_vret F rfl hret d_Sn_takeIn_104 ⟨(), rfl, h⟩
def p_Sn_liveCount_L4 (th : Nat) (K : Int32 → xS → Prop) (Kx30 : Int32 → xS → Prop) : Nat → Int32 → Int32 → xS → Prop
  | 0, _, _ => fun _ => False
  | n + 1, l1, l2 => xgI 4 1 (some th) fun v1 => xif (v1 ≤ l2) (Kx30 l1) (xgR 4 3 (some th) fun v2 => xal 1 v2 l2 fun v3 => xif (v3 = 0) (p_Sn_liveCount_L4 th K Kx30 n l1 (l2 + 1)) (p_Sn_liveCount_L4 th K Kx30 n (l1 + 1) (l2 + 1)))
def p_Sn_liveCount (th : Nat) (K : Int32 → xS → Prop) : xS → Prop := p_Sn_liveCount_L4 th K (fun m4 => K m4) 1000 0 0
abbrev X_Sn_liveCount (p : Program) (l : Launch) (e : Env) (s : State) (m : MethodId) (args : Array Value) (below : List Frame) (meth : Method) (c : Code) (C0 S0 : Nat) (K : Int32 → xS → Prop) (D : va_G) (dA : Nat → ClassId) (base : Nat) (sa : Nat → Nat) (pc : Nat) (lv : List (Nat × Value)) (st : List Value) (G : xS) : Prop := xW p l e { frames := 0, cells := C0, slots := S0, locals := 0 } s m args below meth c 3 (MQ below (xQ D dA base (fun v G2 => ∃ r : Int32, v = some (.int r) ∧ K r G2)) args s C0 S0 (fun q : Nat => base ≤ q)) D dA base sa pc lv st G
set_option maxHeartbeats 4000000 in
set_option maxRecDepth 100000 in
theorem w_Sn_liveCount_L4 {p : Program} {l : Launch} {e : Env} {s : State} {m : MethodId} {args : Array Value} {below : List Frame} {meth : Method} {c : Code} {C0 S0 : Nat} {D : va_G} {dA : Nat → ClassId} {base : Nat} {sa : Nat → Nat} (F : xFix p { frames := 0, cells := C0, slots := S0, locals := 0 } s m args meth c b_Sn_liveCount 3 "BlockSearch$Snapshot" D dA base sa) (hret : meth.sig.returnType = (some FieldType.int)) {K : Int32 → xS → Prop} {Kx30 : Int32 → xS → Prop} (th : Nat) (hKx30 : ∀ (l1 : Int32) (G : xS), Kx30 l1 G → X_Sn_liveCount p l e s m args below meth c C0 S0 K D dA base sa 30 [(1, .int l1)] [] G) : ∀ (n : Nat) (l1 : Int32) (l2 : Int32) (G : xS), p_Sn_liveCount_L4 th K Kx30 n l1 l2 G → X_Sn_liveCount p l e s m args below meth c C0 S0 K D dA base sa 4 [(0, va_rf (some th)), (1, .int l1), (2, .int l2)] [] G := by
  intro n
  induction n with
  | zero => intro l1 l2 G h; exact h.elim
  | succ n ih =>
    intro l1 l2 G h
    unfold p_Sn_liveCount_L4 at h
    refine x_iload_n F 2 d_Sn_liveCount_4 rfl rfl ?_
    refine x_aload_n F 0 d_Sn_liveCount_5 rfl rfl ?_
    refine x_getI F cl_Sn in_Sn (k := 1) (by decide) k_102 rfl d_Sn_liveCount_6 h (fun v1 h => ?_)
    refine x_icmp_ge F (tgt := 30) d_Sn_liveCount_9 (by decide) h (fun q h => ?_) (fun q h => ?_)
    · refine x_sub (lv' := [(1, .int l1)]) [1] rfl ?_
      exact hKx30 _ _ h
    · refine x_aload_n F 0 d_Sn_liveCount_12 rfl rfl ?_
      refine x_getR F cl_Sn in_Sn (k := 3) (by decide) k_109 rfl d_Sn_liveCount_13 h (fun v2 h => ?_)
      refine x_iload_n F 2 d_Sn_liveCount_16 rfl rfl ?_
      refine x_zald F (t := 1) rfl d_Sn_liveCount_17 h (fun v3 h => ?_)
      refine x_if_eq F (tgt := 24) d_Sn_liveCount_18 (by decide) h (fun q h => ?_) (fun q h => ?_)
      · refine x_iinc F 2 (v := (l2 + 1)) (lv' := [(2, .int (l2 + 1)), (0, va_rf (some th)), (1, .int l1)]) d_Sn_liveCount_24 rfl (congrArg (fun z : Int32 => l2 + z) (by decide)) (by decide) rfl ?_
        refine x_goto F (tgt := 4) d_Sn_liveCount_27 (by decide) ?_
        refine x_sub (lv' := [(0, va_rf (some th)), (1, .int l1), (2, .int (l2 + 1))]) [1, 2, 0] rfl ?_
        exact ih _ _ _ h
      · refine x_iinc F 1 (v := (l1 + 1)) (lv' := [(1, .int (l1 + 1)), (0, va_rf (some th)), (2, .int l2)]) d_Sn_liveCount_21 rfl (congrArg (fun z : Int32 => l1 + z) (by decide)) (by decide) rfl ?_
        refine x_iinc F 2 (v := (l2 + 1)) (lv' := [(2, .int (l2 + 1)), (1, .int (l1 + 1)), (0, va_rf (some th))]) d_Sn_liveCount_24 rfl (congrArg (fun z : Int32 => l2 + z) (by decide)) (by decide) rfl ?_
        refine x_goto F (tgt := 4) d_Sn_liveCount_27 (by decide) ?_
        refine x_sub (lv' := [(0, va_rf (some th)), (1, .int (l1 + 1)), (2, .int (l2 + 1))]) [2, 1, 0] rfl ?_
        exact ih _ _ _ h
set_option maxHeartbeats 4000000 in
set_option maxRecDepth 100000 in
theorem c_Sn_liveCount (l : Launch) (D : va_G) (dA : Nat → ClassId) (base : Nat) (sa : Nat → Nat) (th : Nat) (K : Int32 → xS → Prop) (G : xS) (h : p_Sn_liveCount th K G) : xMet l y_Sn_liveCount b_Sn_liveCount 3 (some FieldType.int) 0 0 D dA base sa [va_rf (some th)] G (fun v G2 => ∃ r : Int32, v = some (.int r) ∧ K r G2) := by
  refine xMet.of (by decide) (by simp [x_cat, x_catI]) (Nat.le_of_ble_eq_true rfl) ?_
  intro p e s m args below meth c F hret hname
  unfold p_Sn_liveCount at h
  refine x_sub (lv' := [(0, va_rf (some th))]) [0] rfl ?_
  refine x_iconst F (v := 0) d_Sn_liveCount_0 (by decide) ?_
  refine x_istore_n F (lv' := [(1, .int 0), (0, va_rf (some th))]) d_Sn_liveCount_1 rfl (by decide) rfl ?_
  refine x_iconst F (v := 0) d_Sn_liveCount_2 (by decide) ?_
  refine x_istore_n F (lv' := [(2, .int 0), (1, .int 0), (0, va_rf (some th))]) d_Sn_liveCount_3 rfl (by decide) rfl ?_
  refine x_sub (lv' := [(0, va_rf (some th)), (1, .int 0), (2, .int 0)]) [2, 1, 0] rfl ?_
  refine w_Sn_liveCount_L4 F hret th (fun m4 G h => ?_) _ _ _ _ h
  refine x_iload_n F 0 d_Sn_liveCount_30 rfl rfl ?_
  exact x_iret F rfl hret d_Sn_liveCount_31 ⟨_, rfl, h⟩
def p_B_refresh_L9 (th : Nat) (K : Int32 → xS → Prop) (Kx37 : xS → Prop) : Nat → Int32 → xS → Prop
  | 0, _ => fun _ => False
  | n + 1, l1 => xgI 9 8 (some th) fun v2 => xif (v2 ≤ l1) (Kx37) (xgR 9 4 (some th) fun v3 => xgR 9 3 (some th) fun v4 => xalR 5 v4 l1 fun v5 => xob 4 v3 fun b => xcall 0 0 (p_Sn_takeIn b l1 v5) fun _ => p_B_refresh_L9 th K Kx37 n (l1 + 1))
def p_B_refresh (th : Nat) (K : Int32 → xS → Prop) : xS → Prop := xgR 9 4 (some th) fun v1 => xob 4 v1 fun b => xcall 0 0 (p_Sn_begin b ) fun _ => p_B_refresh_L9 th K (xgR 9 4 (some th) fun v6 => xob 4 v6 fun b => xcall 0 0 (p_Sn_liveCount b ) fun v7 => K v7) 1000 0
abbrev X_B_refresh (p : Program) (l : Launch) (e : Env) (s : State) (m : MethodId) (args : Array Value) (below : List Frame) (meth : Method) (c : Code) (C0 S0 : Nat) (K : Int32 → xS → Prop) (D : va_G) (dA : Nat → ClassId) (base : Nat) (sa : Nat → Nat) (pc : Nat) (lv : List (Nat × Value)) (st : List Value) (G : xS) : Prop := xW p l e { frames := 1, cells := C0, slots := S0, locals := 25 } s m args below meth c 2 (MQ below (xQ D dA base (fun v G2 => ∃ r : Int32, v = some (.int r) ∧ K r G2)) args s C0 S0 (fun q : Nat => base ≤ q)) D dA base sa pc lv st G
set_option maxHeartbeats 4000000 in
set_option maxRecDepth 100000 in
theorem w_B_refresh_L9 {p : Program} {l : Launch} {e : Env} {s : State} {m : MethodId} {args : Array Value} {below : List Frame} {meth : Method} {c : Code} {C0 S0 : Nat} {D : va_G} {dA : Nat → ClassId} {base : Nat} {sa : Nat → Nat} (F : xFix p { frames := 1, cells := C0, slots := S0, locals := 25 } s m args meth c b_B_refresh 2 "BlockSearch" D dA base sa) (hret : meth.sig.returnType = (some FieldType.int)) {K : Int32 → xS → Prop} {Kx37 : xS → Prop} (th : Nat) (hKx37 : ∀ (G : xS), Kx37  G → X_B_refresh p l e s m args below meth c C0 S0 K D dA base sa 37 [(0, va_rf (some th))] [] G) : ∀ (n : Nat) (l1 : Int32) (G : xS), p_B_refresh_L9 th K Kx37 n l1 G → X_B_refresh p l e s m args below meth c C0 S0 K D dA base sa 9 [(0, va_rf (some th)), (1, .int l1)] [] G := by
  intro n
  induction n with
  | zero => intro l1 G h; exact h.elim
  | succ n ih =>
    intro l1 G h
    unfold p_B_refresh_L9 at h
    refine x_iload_n F 1 d_B_refresh_9 rfl rfl ?_
    refine x_aload_n F 0 d_B_refresh_10 rfl rfl ?_
    refine x_getI F cl_B in_B (k := 8) (by decide) k_205 rfl d_B_refresh_11 h (fun v2 h => ?_)
    refine x_icmp_ge F (tgt := 37) d_B_refresh_14 (by decide) h (fun q h => ?_) (fun q h => ?_)
    · refine x_sub (lv' := [(0, va_rf (some th))]) [0] rfl ?_
      exact hKx37  _ h
    · refine x_aload_n F 0 d_B_refresh_17 rfl rfl ?_
      refine x_getR F cl_B in_B (k := 4) (by decide) k_201 rfl d_B_refresh_18 h (fun v3 h => ?_)
      refine x_iload_n F 1 d_B_refresh_21 rfl rfl ?_
      refine x_aload_n F 0 d_B_refresh_22 rfl rfl ?_
      refine x_getR F cl_B in_B (k := 3) (by decide) k_200 rfl d_B_refresh_23 h (fun v4 h => ?_)
      refine x_iload_n F 1 d_B_refresh_26 rfl rfl ?_
      refine x_aald F (t := 5) rfl rfl d_B_refresh_27 h (fun v5 h => ?_)
      refine x_callV F (enc := fun r => none) (P := fun b => p_Sn_takeIn b l1 v5) (n := 2) (As := [.int l1, va_rf v5]) (st := []) k_449 k_5 k_447 k_448 k_446 ⟨by decide, by decide, by decide +kernel⟩ rfl ⟨Nat.le_of_ble_eq_true rfl, Nat.le_of_ble_eq_true rfl⟩ (by simp [x_cat, x_catI, x_catL]) cl_Sn rfl (ro := v3) (fun b K' G' h' _ => c_Sn_takeIn l D dA base sa b l1 v5 K' G' h') d_B_refresh_28 h (fun _ G h => ?_)
      refine x_iinc F 1 (v := (l1 + 1)) (lv' := [(1, .int (l1 + 1)), (0, va_rf (some th))]) d_B_refresh_31 rfl (congrArg (fun z : Int32 => l1 + z) (by decide)) (by decide) rfl ?_
      refine x_goto F (tgt := 9) d_B_refresh_34 (by decide) ?_
      refine x_sub (lv' := [(0, va_rf (some th)), (1, .int (l1 + 1))]) [1, 0] rfl ?_
      exact ih _ _ h
set_option maxHeartbeats 4000000 in
set_option maxRecDepth 100000 in
theorem c_B_refresh (l : Launch) (D : va_G) (dA : Nat → ClassId) (base : Nat) (sa : Nat → Nat) (th : Nat) (K : Int32 → xS → Prop) (G : xS) (h : p_B_refresh th K G) : xMet l y_B_refresh b_B_refresh 2 (some FieldType.int) 1 25 D dA base sa [va_rf (some th)] G (fun v G2 => ∃ r : Int32, v = some (.int r) ∧ K r G2) := by
  refine xMet.of (by decide) (by simp [x_cat, x_catI]) (Nat.le_of_ble_eq_true rfl) ?_
  intro p e s m args below meth c F hret hname
  unfold p_B_refresh at h
  refine x_sub (lv' := [(0, va_rf (some th))]) [0] rfl ?_
  refine x_aload_n F 0 d_B_refresh_0 rfl rfl ?_
  refine x_getR F cl_B in_B (k := 4) (by decide) k_201 rfl d_B_refresh_1 h (fun v1 h => ?_)
  refine x_callV F (enc := fun r => none) (P := fun b => p_Sn_begin b ) (n := 0) (As := []) (st := []) k_445 k_5 k_443 k_444 k_442 ⟨by decide, by decide, by decide +kernel⟩ rfl ⟨Nat.le_of_ble_eq_true rfl, Nat.le_of_ble_eq_true rfl⟩ (by simp [x_cat, x_catI, x_catL]) cl_Sn rfl (ro := v1) (fun b K' G' h' _ => c_Sn_begin l D dA base sa b  K' G' h') d_B_refresh_4 h (fun _ G h => ?_)
  refine x_iconst F (v := 0) d_B_refresh_7 (by decide) ?_
  refine x_istore_n F (lv' := [(1, .int 0), (0, va_rf (some th))]) d_B_refresh_8 rfl (by decide) rfl ?_
  refine x_sub (lv' := [(0, va_rf (some th)), (1, .int 0)]) [1, 0] rfl ?_
  refine w_B_refresh_L9 F hret th (fun G h => ?_) _ _ _ h
  refine x_aload_n F 0 d_B_refresh_37 rfl rfl ?_
  refine x_getR F cl_B in_B (k := 4) (by decide) k_201 rfl d_B_refresh_38 h (fun v6 h => ?_)
  refine x_callV F (enc := fun r => some (.int r)) (P := fun b => p_Sn_liveCount b ) (n := 0) (As := []) (st := []) k_453 k_5 k_451 k_452 k_450 ⟨by decide, by decide, by decide +kernel⟩ rfl ⟨Nat.le_of_ble_eq_true rfl, Nat.le_of_ble_eq_true rfl⟩ (by simp [x_cat, x_catI, x_catL]) cl_Sn rfl (ro := v6) (fun b K' G' h' _ => c_Sn_liveCount l D dA base sa b  K' G' h') d_B_refresh_41 h (fun v7 G h => ?_)
  exact x_iret F rfl hret d_B_refresh_44 ⟨_, rfl, h⟩
def p_B_isToken (l0 : Int32) (l1 : Int32) (l2 : Int32) (K : Int32 → xS → Prop) : xS → Prop := xif (l0 = 0) (xcall 0 0 (p_B_isField l1) fun v1 => xif (v1 = 0) (xrz 0 K) (xcall 0 0 (p_B_isWord l2) fun v2 => xif (v2 = 0) (xrz 0 K) (xrz 1 K))) (xif (l0 = 1) (xcall 0 0 (p_B_isField l1) fun v3 => xif (v3 = 0) (xrz 0 K) (xcall 0 0 (p_B_isNumber l2) fun v4 => xif (v4 = 0) (xrz 0 K) (xrz 1 K))) (xif (l0 = 2) (xcall 0 0 (p_B_isField l1) fun v5 => xif (v5 = 0) (xrz 0 K) (xcall 0 0 (p_B_isNumber l2) fun v6 => xif (v6 = 0) (xrz 0 K) (xrz 1 K))) (xif (l0 = 3) (xcall 0 0 (p_B_isField l1) fun v7 => xrz v7 K) (xif (l0 = 4) (xrz 1 K) (xif (l0 = 5) (xrz 1 K) (xif (l0 = 6) (xrz 1 K) (xif (l0 = 7) (xrz 1 K) (xif (l0 = 8) (xcall 0 0 (p_B_isPath l1) fun v8 => xif (v8 = 0) (xrz 0 K) (xif (l2 < 0) (xrz 0 K) (xif (4 < l2) (xrz 0 K) (xrz 1 K)))) (xrz 0 K)))))))))
abbrev X_B_isToken (p : Program) (l : Launch) (e : Env) (s : State) (m : MethodId) (args : Array Value) (below : List Frame) (meth : Method) (c : Code) (C0 S0 : Nat) (K : Int32 → xS → Prop) (D : va_G) (dA : Nat → ClassId) (base : Nat) (sa : Nat → Nat) (pc : Nat) (lv : List (Nat × Value)) (st : List Value) (G : xS) : Prop := xW p l e { frames := 1, cells := C0, slots := S0, locals := 20 } s m args below meth c 3 (MQ below (xQ D dA base (fun v G2 => ∃ r : Int32, v = some (.int r) ∧ K r G2)) args s C0 S0 (fun q : Nat => base ≤ q)) D dA base sa pc lv st G
set_option maxHeartbeats 4000000 in
set_option maxRecDepth 100000 in
theorem c_B_isToken (l : Launch) (D : va_G) (dA : Nat → ClassId) (base : Nat) (sa : Nat → Nat) (l0 : Int32) (l1 : Int32) (l2 : Int32) (K : Int32 → xS → Prop) (G : xS) (h : p_B_isToken l0 l1 l2 K G) : xMet l y_B_isToken b_B_isToken 3 (some FieldType.boolean) 1 20 D dA base sa [.int l0, .int l1, .int l2] G (fun v G2 => ∃ r : Int32, v = some (.int r) ∧ K r G2) := by
  refine xMet.of (by decide) (by simp [x_cat, x_catI]) (Nat.le_of_ble_eq_true rfl) ?_
  intro p e s m args below meth c F hret hname
  unfold p_B_isToken at h
  refine x_sub (lv' := [(0, .int l0), (1, .int l1), (2, .int l2)]) [0, 1, 2] rfl ?_
  refine x_iload_n F 0 d_B_isToken_0 rfl rfl ?_
  by_cases q0 : l0 = 0
  · have h := h.1 q0
    refine x_tabIn F (off := 51) (tgt := 52) d_B_isToken_1 q0 (by decide) (by decide) (by decide) (by decide) ?_
    refine x_iload_n F 1 d_B_isToken_52 rfl rfl ?_
    refine x_callS F (enc := fun r => some (.int r)) (P := p_B_isField l1) (n := 1) (As := [.int l1]) (st := []) k_296 k_1 k_295 k_294 ⟨by decide, by decide, by decide +kernel⟩ rfl ⟨Nat.le_of_ble_eq_true rfl, Nat.le_of_ble_eq_true rfl⟩ (by simp [x_cat, x_catI, x_catL]) (fun K' G' h' _ => c_B_isField l D dA base sa l1 K' G' h') d_B_isToken_53 h (fun v1 G h => ?_)
    refine x_if_eq F (tgt := 70) d_B_isToken_56 (by decide) h (fun q h => ?_) (fun q h => ?_)
    · refine x_iconst F (v := 0) d_B_isToken_70 (by decide) ?_
      exact x_zret F rfl hret d_B_isToken_71 h (fun h => ⟨_, rfl, h⟩)
    · refine x_iload_n F 2 d_B_isToken_59 rfl rfl ?_
      refine x_callS F (enc := fun r => some (.int r)) (P := p_B_isWord l2) (n := 1) (As := [.int l2]) (st := []) k_310 k_1 k_309 k_308 ⟨by decide, by decide, by decide +kernel⟩ rfl ⟨Nat.le_of_ble_eq_true rfl, Nat.le_of_ble_eq_true rfl⟩ (by simp [x_cat, x_catI, x_catL]) (fun K' G' h' _ => c_B_isWord l D dA base sa l2 K' G' h') d_B_isToken_60 h (fun v2 G h => ?_)
      refine x_if_eq F (tgt := 70) d_B_isToken_63 (by decide) h (fun q h => ?_) (fun q h => ?_)
      · refine x_iconst F (v := 0) d_B_isToken_70 (by decide) ?_
        exact x_zret F rfl hret d_B_isToken_71 h (fun h => ⟨_, rfl, h⟩)
      · refine x_iconst F (v := 1) d_B_isToken_66 (by decide) ?_
        refine x_goto F (tgt := 71) d_B_isToken_67 (by decide) ?_
        exact x_zret F rfl hret d_B_isToken_71 h (fun h => ⟨_, rfl, h⟩)
  have h := h.2 q0
  by_cases q1 : l0 = 1
  · have h := h.1 q1
    refine x_tabIn F (off := 71) (tgt := 72) d_B_isToken_1 q1 (by decide) (by decide) (by decide) (by decide) ?_
    refine x_iload_n F 1 d_B_isToken_72 rfl rfl ?_
    refine x_callS F (enc := fun r => some (.int r)) (P := p_B_isField l1) (n := 1) (As := [.int l1]) (st := []) k_296 k_1 k_295 k_294 ⟨by decide, by decide, by decide +kernel⟩ rfl ⟨Nat.le_of_ble_eq_true rfl, Nat.le_of_ble_eq_true rfl⟩ (by simp [x_cat, x_catI, x_catL]) (fun K' G' h' _ => c_B_isField l D dA base sa l1 K' G' h') d_B_isToken_73 h (fun v3 G h => ?_)
    refine x_if_eq F (tgt := 90) d_B_isToken_76 (by decide) h (fun q h => ?_) (fun q h => ?_)
    · refine x_iconst F (v := 0) d_B_isToken_90 (by decide) ?_
      exact x_zret F rfl hret d_B_isToken_91 h (fun h => ⟨_, rfl, h⟩)
    · refine x_iload_n F 2 d_B_isToken_79 rfl rfl ?_
      refine x_callS F (enc := fun r => some (.int r)) (P := p_B_isNumber l2) (n := 1) (As := [.int l2]) (st := []) k_299 k_1 k_298 k_297 ⟨by decide, by decide, by decide +kernel⟩ rfl ⟨Nat.le_of_ble_eq_true rfl, Nat.le_of_ble_eq_true rfl⟩ (by simp [x_cat, x_catI, x_catL]) (fun K' G' h' _ => c_B_isNumber l D dA base sa l2 K' G' h') d_B_isToken_80 h (fun v4 G h => ?_)
      refine x_if_eq F (tgt := 90) d_B_isToken_83 (by decide) h (fun q h => ?_) (fun q h => ?_)
      · refine x_iconst F (v := 0) d_B_isToken_90 (by decide) ?_
        exact x_zret F rfl hret d_B_isToken_91 h (fun h => ⟨_, rfl, h⟩)
      · refine x_iconst F (v := 1) d_B_isToken_86 (by decide) ?_
        refine x_goto F (tgt := 91) d_B_isToken_87 (by decide) ?_
        exact x_zret F rfl hret d_B_isToken_91 h (fun h => ⟨_, rfl, h⟩)
  have h := h.2 q1
  by_cases q2 : l0 = 2
  · have h := h.1 q2
    refine x_tabIn F (off := 71) (tgt := 72) d_B_isToken_1 q2 (by decide) (by decide) (by decide) (by decide) ?_
    refine x_iload_n F 1 d_B_isToken_72 rfl rfl ?_
    refine x_callS F (enc := fun r => some (.int r)) (P := p_B_isField l1) (n := 1) (As := [.int l1]) (st := []) k_296 k_1 k_295 k_294 ⟨by decide, by decide, by decide +kernel⟩ rfl ⟨Nat.le_of_ble_eq_true rfl, Nat.le_of_ble_eq_true rfl⟩ (by simp [x_cat, x_catI, x_catL]) (fun K' G' h' _ => c_B_isField l D dA base sa l1 K' G' h') d_B_isToken_73 h (fun v5 G h => ?_)
    refine x_if_eq F (tgt := 90) d_B_isToken_76 (by decide) h (fun q h => ?_) (fun q h => ?_)
    · refine x_iconst F (v := 0) d_B_isToken_90 (by decide) ?_
      exact x_zret F rfl hret d_B_isToken_91 h (fun h => ⟨_, rfl, h⟩)
    · refine x_iload_n F 2 d_B_isToken_79 rfl rfl ?_
      refine x_callS F (enc := fun r => some (.int r)) (P := p_B_isNumber l2) (n := 1) (As := [.int l2]) (st := []) k_299 k_1 k_298 k_297 ⟨by decide, by decide, by decide +kernel⟩ rfl ⟨Nat.le_of_ble_eq_true rfl, Nat.le_of_ble_eq_true rfl⟩ (by simp [x_cat, x_catI, x_catL]) (fun K' G' h' _ => c_B_isNumber l D dA base sa l2 K' G' h') d_B_isToken_80 h (fun v6 G h => ?_)
      refine x_if_eq F (tgt := 90) d_B_isToken_83 (by decide) h (fun q h => ?_) (fun q h => ?_)
      · refine x_iconst F (v := 0) d_B_isToken_90 (by decide) ?_
        exact x_zret F rfl hret d_B_isToken_91 h (fun h => ⟨_, rfl, h⟩)
      · refine x_iconst F (v := 1) d_B_isToken_86 (by decide) ?_
        refine x_goto F (tgt := 91) d_B_isToken_87 (by decide) ?_
        exact x_zret F rfl hret d_B_isToken_91 h (fun h => ⟨_, rfl, h⟩)
  have h := h.2 q2
  by_cases q3 : l0 = 3
  · have h := h.1 q3
    refine x_tabIn F (off := 91) (tgt := 92) d_B_isToken_1 q3 (by decide) (by decide) (by decide) (by decide) ?_
    refine x_iload_n F 1 d_B_isToken_92 rfl rfl ?_
    refine x_callS F (enc := fun r => some (.int r)) (P := p_B_isField l1) (n := 1) (As := [.int l1]) (st := []) k_296 k_1 k_295 k_294 ⟨by decide, by decide, by decide +kernel⟩ rfl ⟨Nat.le_of_ble_eq_true rfl, Nat.le_of_ble_eq_true rfl⟩ (by simp [x_cat, x_catI, x_catL]) (fun K' G' h' _ => c_B_isField l D dA base sa l1 K' G' h') d_B_isToken_93 h (fun v7 G h => ?_)
    exact x_zret F rfl hret d_B_isToken_96 h (fun h => ⟨_, rfl, h⟩)
  have h := h.2 q3
  by_cases q4 : l0 = 4
  · have h := h.1 q4
    refine x_tabIn F (off := 96) (tgt := 97) d_B_isToken_1 q4 (by decide) (by decide) (by decide) (by decide) ?_
    refine x_iconst F (v := 1) d_B_isToken_97 (by decide) ?_
    exact x_zret F rfl hret d_B_isToken_98 h (fun h => ⟨_, rfl, h⟩)
  have h := h.2 q4
  by_cases q5 : l0 = 5
  · have h := h.1 q5
    refine x_tabIn F (off := 96) (tgt := 97) d_B_isToken_1 q5 (by decide) (by decide) (by decide) (by decide) ?_
    refine x_iconst F (v := 1) d_B_isToken_97 (by decide) ?_
    exact x_zret F rfl hret d_B_isToken_98 h (fun h => ⟨_, rfl, h⟩)
  have h := h.2 q5
  by_cases q6 : l0 = 6
  · have h := h.1 q6
    refine x_tabIn F (off := 96) (tgt := 97) d_B_isToken_1 q6 (by decide) (by decide) (by decide) (by decide) ?_
    refine x_iconst F (v := 1) d_B_isToken_97 (by decide) ?_
    exact x_zret F rfl hret d_B_isToken_98 h (fun h => ⟨_, rfl, h⟩)
  have h := h.2 q6
  by_cases q7 : l0 = 7
  · have h := h.1 q7
    refine x_tabIn F (off := 96) (tgt := 97) d_B_isToken_1 q7 (by decide) (by decide) (by decide) (by decide) ?_
    refine x_iconst F (v := 1) d_B_isToken_97 (by decide) ?_
    exact x_zret F rfl hret d_B_isToken_98 h (fun h => ⟨_, rfl, h⟩)
  have h := h.2 q7
  by_cases q8 : l0 = 8
  · have h := h.1 q8
    refine x_tabIn F (off := 98) (tgt := 99) d_B_isToken_1 q8 (by decide) (by decide) (by decide) (by decide) ?_
    refine x_iload_n F 1 d_B_isToken_99 rfl rfl ?_
    refine x_callS F (enc := fun r => some (.int r)) (P := p_B_isPath l1) (n := 1) (As := [.int l1]) (st := []) k_237 k_1 k_236 k_235 ⟨by decide, by decide, by decide +kernel⟩ rfl ⟨Nat.le_of_ble_eq_true rfl, Nat.le_of_ble_eq_true rfl⟩ (by simp [x_cat, x_catI, x_catL]) (fun K' G' h' _ => c_B_isPath l D dA base sa l1 K' G' h') d_B_isToken_100 h (fun v8 G h => ?_)
    refine x_if_eq F (tgt := 119) d_B_isToken_103 (by decide) h (fun q h => ?_) (fun q h => ?_)
    · refine x_iconst F (v := 0) d_B_isToken_119 (by decide) ?_
      exact x_zret F rfl hret d_B_isToken_120 h (fun h => ⟨_, rfl, h⟩)
    · refine x_iload_n F 2 d_B_isToken_106 rfl rfl ?_
      refine x_if_lt F (tgt := 119) d_B_isToken_107 (by decide) h (fun q h => ?_) (fun q h => ?_)
      · refine x_iconst F (v := 0) d_B_isToken_119 (by decide) ?_
        exact x_zret F rfl hret d_B_isToken_120 h (fun h => ⟨_, rfl, h⟩)
      · refine x_iload_n F 2 d_B_isToken_110 rfl rfl ?_
        refine x_iconst F (v := 4) d_B_isToken_111 (by decide) ?_
        refine x_icmp_gt F (tgt := 119) d_B_isToken_112 (by decide) h (fun q h => ?_) (fun q h => ?_)
        · refine x_iconst F (v := 0) d_B_isToken_119 (by decide) ?_
          exact x_zret F rfl hret d_B_isToken_120 h (fun h => ⟨_, rfl, h⟩)
        · refine x_iconst F (v := 1) d_B_isToken_115 (by decide) ?_
          refine x_goto F (tgt := 120) d_B_isToken_116 (by decide) ?_
          exact x_zret F rfl hret d_B_isToken_120 h (fun h => ⟨_, rfl, h⟩)
  have h := h.2 q8
  refine x_tabOut F (tgt := 121) d_B_isToken_1 (by have a0 := lv_neT (a := 0) q0 (by decide); have a1 := lv_neT (a := 1) q1 (by decide); have a2 := lv_neT (a := 2) q2 (by decide); have a3 := lv_neT (a := 3) q3 (by decide); have a4 := lv_neT (a := 4) q4 (by decide); have a5 := lv_neT (a := 5) q5 (by decide); have a6 := lv_neT (a := 6) q6 (by decide); have a7 := lv_neT (a := 7) q7 (by decide); have a8 := lv_neT (a := 8) q8 (by decide); omega) (by decide) ?_
  refine x_iconst F (v := 0) d_B_isToken_121 (by decide) ?_
  exact x_zret F rfl hret d_B_isToken_122 h (fun h => ⟨_, rfl, h⟩)
def p_Qu_isComplete (th : Nat) (K : Int32 → xS → Prop) : xS → Prop := xgI 3 6 (some th) fun v1 => xif (v1 = 0) (xrz 1 K) (xrz 0 K)
abbrev X_Qu_isComplete (p : Program) (l : Launch) (e : Env) (s : State) (m : MethodId) (args : Array Value) (below : List Frame) (meth : Method) (c : Code) (C0 S0 : Nat) (K : Int32 → xS → Prop) (D : va_G) (dA : Nat → ClassId) (base : Nat) (sa : Nat → Nat) (pc : Nat) (lv : List (Nat × Value)) (st : List Value) (G : xS) : Prop := xW p l e { frames := 0, cells := C0, slots := S0, locals := 0 } s m args below meth c 1 (MQ below (xQ D dA base (fun v G2 => ∃ r : Int32, v = some (.int r) ∧ K r G2)) args s C0 S0 (fun q : Nat => base ≤ q)) D dA base sa pc lv st G
set_option maxHeartbeats 4000000 in
set_option maxRecDepth 100000 in
theorem c_Qu_isComplete (l : Launch) (D : va_G) (dA : Nat → ClassId) (base : Nat) (sa : Nat → Nat) (th : Nat) (K : Int32 → xS → Prop) (G : xS) (h : p_Qu_isComplete th K G) : xMet l y_Qu_isComplete b_Qu_isComplete 1 (some FieldType.boolean) 0 0 D dA base sa [va_rf (some th)] G (fun v G2 => ∃ r : Int32, v = some (.int r) ∧ K r G2) := by
  refine xMet.of (by decide) (by simp [x_cat, x_catI]) (Nat.le_of_ble_eq_true rfl) ?_
  intro p e s m args below meth c F hret hname
  unfold p_Qu_isComplete at h
  refine x_sub (lv' := [(0, va_rf (some th))]) [0] rfl ?_
  refine x_aload_n F 0 d_Qu_isComplete_0 rfl rfl ?_
  refine x_getI F cl_Qu in_Qu (k := 6) (by decide) k_147 rfl d_Qu_isComplete_1 h (fun v1 h => ?_)
  refine x_if_ne F (tgt := 11) d_Qu_isComplete_4 (by decide) h (fun q h => ?_) (fun q h => ?_)
  · refine x_iconst F (v := 0) d_Qu_isComplete_11 (by decide) ?_
    exact x_zret F rfl hret d_Qu_isComplete_12 h (fun h => ⟨_, rfl, h⟩)
  · refine x_iconst F (v := 1) d_Qu_isComplete_7 (by decide) ?_
    refine x_goto F (tgt := 12) d_Qu_isComplete_8 (by decide) ?_
    exact x_zret F rfl hret d_Qu_isComplete_12 h (fun h => ⟨_, rfl, h⟩)
def p_Qu_nextPath (th : Nat) (K : Int32 → xS → Prop) : xS → Prop := xgI 3 6 (some th) fun v1 => xif (v1 ≤ 0) (K 0) (xgR 3 5 (some th) fun v2 => xgI 3 6 (some th) fun v3 => xal 0 v2 (v3 - 1) fun v4 => K v4)
abbrev X_Qu_nextPath (p : Program) (l : Launch) (e : Env) (s : State) (m : MethodId) (args : Array Value) (below : List Frame) (meth : Method) (c : Code) (C0 S0 : Nat) (K : Int32 → xS → Prop) (D : va_G) (dA : Nat → ClassId) (base : Nat) (sa : Nat → Nat) (pc : Nat) (lv : List (Nat × Value)) (st : List Value) (G : xS) : Prop := xW p l e { frames := 0, cells := C0, slots := S0, locals := 0 } s m args below meth c 1 (MQ below (xQ D dA base (fun v G2 => ∃ r : Int32, v = some (.int r) ∧ K r G2)) args s C0 S0 (fun q : Nat => base ≤ q)) D dA base sa pc lv st G
set_option maxHeartbeats 4000000 in
set_option maxRecDepth 100000 in
theorem c_Qu_nextPath (l : Launch) (D : va_G) (dA : Nat → ClassId) (base : Nat) (sa : Nat → Nat) (th : Nat) (K : Int32 → xS → Prop) (G : xS) (h : p_Qu_nextPath th K G) : xMet l y_Qu_nextPath b_Qu_nextPath 1 (some FieldType.int) 0 0 D dA base sa [va_rf (some th)] G (fun v G2 => ∃ r : Int32, v = some (.int r) ∧ K r G2) := by
  refine xMet.of (by decide) (by simp [x_cat, x_catI]) (Nat.le_of_ble_eq_true rfl) ?_
  intro p e s m args below meth c F hret hname
  unfold p_Qu_nextPath at h
  refine x_sub (lv' := [(0, va_rf (some th))]) [0] rfl ?_
  refine x_aload_n F 0 d_Qu_nextPath_0 rfl rfl ?_
  refine x_getI F cl_Qu in_Qu (k := 6) (by decide) k_147 rfl d_Qu_nextPath_1 h (fun v1 h => ?_)
  refine x_if_le F (tgt := 21) d_Qu_nextPath_4 (by decide) h (fun q h => ?_) (fun q h => ?_)
  · refine x_iconst F (v := 0) d_Qu_nextPath_21 (by decide) ?_
    exact x_iret F rfl hret d_Qu_nextPath_22 ⟨_, rfl, h⟩
  · refine x_aload_n F 0 d_Qu_nextPath_7 rfl rfl ?_
    refine x_getR F cl_Qu in_Qu (k := 5) (by decide) k_146 rfl d_Qu_nextPath_8 h (fun v2 h => ?_)
    refine x_aload_n F 0 d_Qu_nextPath_11 rfl rfl ?_
    refine x_getI F cl_Qu in_Qu (k := 6) (by decide) k_147 rfl d_Qu_nextPath_12 h (fun v3 h => ?_)
    refine x_iconst F (v := 1) d_Qu_nextPath_15 (by decide) ?_
    refine x_isub F d_Qu_nextPath_16 ?_
    refine x_iald F (t := 0) rfl d_Qu_nextPath_17 h (fun v4 h => ?_)
    refine x_goto F (tgt := 22) d_Qu_nextPath_18 (by decide) ?_
    exact x_iret F rfl hret d_Qu_nextPath_22 ⟨_, rfl, h⟩
def p_Qu_partsOf (l0 : Int32) (K : Int32 → xS → Prop) : xS → Prop := xif (l0 = 5) (K 2) (xif (l0 = 6) (K 2) (xif (l0 = 7) (K 1) (xif (l0 = 8) (K 1) (K 0))))
abbrev X_Qu_partsOf (p : Program) (l : Launch) (e : Env) (s : State) (m : MethodId) (args : Array Value) (below : List Frame) (meth : Method) (c : Code) (C0 S0 : Nat) (K : Int32 → xS → Prop) (D : va_G) (dA : Nat → ClassId) (base : Nat) (sa : Nat → Nat) (pc : Nat) (lv : List (Nat × Value)) (st : List Value) (G : xS) : Prop := xW p l e { frames := 0, cells := C0, slots := S0, locals := 0 } s m args below meth c 1 (MQ below (xQ D dA base (fun v G2 => ∃ r : Int32, v = some (.int r) ∧ K r G2)) args s C0 S0 (fun q : Nat => base ≤ q)) D dA base sa pc lv st G
set_option maxHeartbeats 4000000 in
set_option maxRecDepth 100000 in
theorem c_Qu_partsOf (l : Launch) (D : va_G) (dA : Nat → ClassId) (base : Nat) (sa : Nat → Nat) (l0 : Int32) (K : Int32 → xS → Prop) (G : xS) (h : p_Qu_partsOf l0 K G) : xMet l y_Qu_partsOf b_Qu_partsOf 1 (some FieldType.int) 0 0 D dA base sa [.int l0] G (fun v G2 => ∃ r : Int32, v = some (.int r) ∧ K r G2) := by
  refine xMet.of (by decide) (by simp [x_cat, x_catI]) (Nat.le_of_ble_eq_true rfl) ?_
  intro p e s m args below meth c F hret hname
  unfold p_Qu_partsOf at h
  refine x_sub (lv' := [(0, .int l0)]) [0] rfl ?_
  refine x_iload_n F 0 d_Qu_partsOf_0 rfl rfl ?_
  by_cases q5 : l0 = 5
  · have h := h.1 q5
    refine x_tabIn F (off := 31) (tgt := 32) d_Qu_partsOf_1 q5 (by decide) (by decide) (by decide) (by decide) ?_
    refine x_iconst F (v := 2) d_Qu_partsOf_32 (by decide) ?_
    exact x_iret F rfl hret d_Qu_partsOf_33 ⟨_, rfl, h⟩
  have h := h.2 q5
  by_cases q6 : l0 = 6
  · have h := h.1 q6
    refine x_tabIn F (off := 31) (tgt := 32) d_Qu_partsOf_1 q6 (by decide) (by decide) (by decide) (by decide) ?_
    refine x_iconst F (v := 2) d_Qu_partsOf_32 (by decide) ?_
    exact x_iret F rfl hret d_Qu_partsOf_33 ⟨_, rfl, h⟩
  have h := h.2 q6
  by_cases q7 : l0 = 7
  · have h := h.1 q7
    refine x_tabIn F (off := 33) (tgt := 34) d_Qu_partsOf_1 q7 (by decide) (by decide) (by decide) (by decide) ?_
    refine x_iconst F (v := 1) d_Qu_partsOf_34 (by decide) ?_
    exact x_iret F rfl hret d_Qu_partsOf_35 ⟨_, rfl, h⟩
  have h := h.2 q7
  by_cases q8 : l0 = 8
  · have h := h.1 q8
    refine x_tabIn F (off := 33) (tgt := 34) d_Qu_partsOf_1 q8 (by decide) (by decide) (by decide) (by decide) ?_
    refine x_iconst F (v := 1) d_Qu_partsOf_34 (by decide) ?_
    exact x_iret F rfl hret d_Qu_partsOf_35 ⟨_, rfl, h⟩
  have h := h.2 q8
  refine x_tabOut F (tgt := 36) d_Qu_partsOf_1 (by have a5 := lv_neT (a := 5) q5 (by decide); have a6 := lv_neT (a := 6) q6 (by decide); have a7 := lv_neT (a := 7) q7 (by decide); have a8 := lv_neT (a := 8) q8 (by decide); omega) (by decide) ?_
  refine x_iconst F (v := 0) d_Qu_partsOf_36 (by decide) ?_
  exact x_iret F rfl hret d_Qu_partsOf_37 ⟨_, rfl, h⟩
def p_Qu_append_L76 (th : Nat) (l1 : Int32) (l2 : Int32) (l4 : Int32) (l5 : Int32) (K : Unit → xS → Prop) (Kx120 : xS → Prop) : Nat → Int32 → xS → Prop
  | 0, _ => fun _ => False
  | n + 1, l6 => xif (l5 ≤ l6) (Kx120) (xgR 3 5 (some th) fun v13 => xgI 3 6 (some th) fun v14 => xif (l1 = 8) (xas 0 v13 v14 l2 (xgI 3 6 (some th) fun v16 => xpI 3 6 (some th) (v16 + 1) (p_Qu_append_L76 th l1 l2 l4 l5 K Kx120 n (l6 + 1)))) (xas 0 v13 v14 l4 (xgI 3 6 (some th) fun v15 => xpI 3 6 (some th) (v15 + 1) (p_Qu_append_L76 th l1 l2 l4 l5 K Kx120 n (l6 + 1)))))
def p_Qu_append (th : Nat) (l1 : Int32) (l2 : Int32) (l3 : Int32) (K : Unit → xS → Prop) : xS → Prop := xob 3 (some th) fun b => xcall 0 0 (p_Qu_nextPath b ) fun v1 => xgR 3 0 (some th) fun v2 => xgI 3 4 (some th) fun v3 => xas 0 v2 v3 l1 (xgR 3 1 (some th) fun v4 => xgI 3 4 (some th) fun v5 => xas 0 v4 v5 l2 (xgR 3 2 (some th) fun v6 => xgI 3 4 (some th) fun v7 => xas 0 v6 v7 l3 (xgR 3 3 (some th) fun v8 => xgI 3 4 (some th) fun v9 => xas 0 v8 v9 v1 (xgI 3 4 (some th) fun v10 => xpI 3 4 (some th) (v10 + 1) (xgI 3 6 (some th) fun v11 => xpI 3 6 (some th) (v11 - 1) (xcall 0 0 (p_Qu_partsOf l1) fun v12 => p_Qu_append_L76 th l1 l2 v1 v12 K (K ()) 1000 0))))))
abbrev X_Qu_append (p : Program) (l : Launch) (e : Env) (s : State) (m : MethodId) (args : Array Value) (below : List Frame) (meth : Method) (c : Code) (C0 S0 : Nat) (K : Unit → xS → Prop) (D : va_G) (dA : Nat → ClassId) (base : Nat) (sa : Nat → Nat) (pc : Nat) (lv : List (Nat × Value)) (st : List Value) (G : xS) : Prop := xW p l e { frames := 1, cells := C0, slots := S0, locals := 20 } s m args below meth c 7 (MQ below (xQ D dA base (fun v G2 => ∃ r : Unit, v = (none : Option Value) ∧ K r G2)) args s C0 S0 (fun q : Nat => base ≤ q)) D dA base sa pc lv st G
set_option maxHeartbeats 4000000 in
set_option maxRecDepth 100000 in
theorem w_Qu_append_L76 {p : Program} {l : Launch} {e : Env} {s : State} {m : MethodId} {args : Array Value} {below : List Frame} {meth : Method} {c : Code} {C0 S0 : Nat} {D : va_G} {dA : Nat → ClassId} {base : Nat} {sa : Nat → Nat} (F : xFix p { frames := 1, cells := C0, slots := S0, locals := 20 } s m args meth c b_Qu_append 7 "BlockSearch$Query" D dA base sa) (hret : meth.sig.returnType = none) {K : Unit → xS → Prop} {Kx120 : xS → Prop} (th : Nat) (l1 : Int32) (l2 : Int32) (l4 : Int32) (l5 : Int32) (hKx120 : ∀ (G : xS), Kx120  G → X_Qu_append p l e s m args below meth c C0 S0 K D dA base sa 120 [] [] G) : ∀ (n : Nat) (l6 : Int32) (G : xS), p_Qu_append_L76 th l1 l2 l4 l5 K Kx120 n l6 G → X_Qu_append p l e s m args below meth c C0 S0 K D dA base sa 76 [(0, va_rf (some th)), (1, .int l1), (2, .int l2), (4, .int l4), (5, .int l5), (6, .int l6)] [] G := by
  intro n
  induction n with
  | zero => intro l6 G h; exact h.elim
  | succ n ih =>
    intro l6 G h
    unfold p_Qu_append_L76 at h
    refine x_iload F 5 d_Qu_append_76 rfl ?_
    refine x_iload F 4 d_Qu_append_78 rfl ?_
    refine x_icmp_ge F (tgt := 120) d_Qu_append_80 (by decide) h (fun q h => ?_) (fun q h => ?_)
    · refine x_sub (lv' := []) [] rfl ?_
      exact hKx120  _ h
    · refine x_aload_n F 0 d_Qu_append_83 rfl rfl ?_
      refine x_getR F cl_Qu in_Qu (k := 5) (by decide) k_146 rfl d_Qu_append_84 h (fun v13 h => ?_)
      refine x_aload_n F 0 d_Qu_append_87 rfl rfl ?_
      refine x_getI F cl_Qu in_Qu (k := 6) (by decide) k_147 rfl d_Qu_append_88 h (fun v14 h => ?_)
      refine x_iload_n F 1 d_Qu_append_91 rfl rfl ?_
      refine x_bipush F (v := 8) d_Qu_append_92 (by decide) ?_
      refine x_icmp_ne F (tgt := 101) d_Qu_append_94 (by decide) h (fun q h => ?_) (fun q h => ?_)
      · refine x_iload F 3 d_Qu_append_101 rfl ?_
        refine x_iast F (t := 0) rfl d_Qu_append_103 h (fun G h => ?_)
        refine x_aload_n F 0 d_Qu_append_104 rfl rfl ?_
        refine x_dup F (x_cat _) d_Qu_append_105 ?_
        refine x_getI F cl_Qu in_Qu (k := 6) (by decide) k_147 rfl d_Qu_append_106 h (fun v15 h => ?_)
        refine x_iconst F (v := 1) d_Qu_append_109 (by decide) ?_
        refine x_iadd F d_Qu_append_110 ?_
        refine x_putI F cl_Qu in_Qu (k := 6) (by decide) k_147 rfl ty_Qu n_Qu rfl rfl d_Qu_append_111 h (fun G h => ?_)
        refine x_iinc F 5 (v := (l6 + 1)) (lv' := [(6, .int (l6 + 1)), (0, va_rf (some th)), (1, .int l1), (2, .int l2), (4, .int l4), (5, .int l5)]) d_Qu_append_114 rfl (congrArg (fun z : Int32 => l6 + z) (by decide)) (by decide) rfl ?_
        refine x_goto F (tgt := 76) d_Qu_append_117 (by decide) ?_
        refine x_sub (lv' := [(0, va_rf (some th)), (1, .int l1), (2, .int l2), (4, .int l4), (5, .int l5), (6, .int (l6 + 1))]) [1, 2, 3, 4, 5, 0] rfl ?_
        exact ih _ _ h
      · refine x_iload_n F 2 d_Qu_append_97 rfl rfl ?_
        refine x_goto F (tgt := 103) d_Qu_append_98 (by decide) ?_
        refine x_iast F (t := 0) rfl d_Qu_append_103 h (fun G h => ?_)
        refine x_aload_n F 0 d_Qu_append_104 rfl rfl ?_
        refine x_dup F (x_cat _) d_Qu_append_105 ?_
        refine x_getI F cl_Qu in_Qu (k := 6) (by decide) k_147 rfl d_Qu_append_106 h (fun v16 h => ?_)
        refine x_iconst F (v := 1) d_Qu_append_109 (by decide) ?_
        refine x_iadd F d_Qu_append_110 ?_
        refine x_putI F cl_Qu in_Qu (k := 6) (by decide) k_147 rfl ty_Qu n_Qu rfl rfl d_Qu_append_111 h (fun G h => ?_)
        refine x_iinc F 5 (v := (l6 + 1)) (lv' := [(6, .int (l6 + 1)), (0, va_rf (some th)), (1, .int l1), (2, .int l2), (4, .int l4), (5, .int l5)]) d_Qu_append_114 rfl (congrArg (fun z : Int32 => l6 + z) (by decide)) (by decide) rfl ?_
        refine x_goto F (tgt := 76) d_Qu_append_117 (by decide) ?_
        refine x_sub (lv' := [(0, va_rf (some th)), (1, .int l1), (2, .int l2), (4, .int l4), (5, .int l5), (6, .int (l6 + 1))]) [1, 2, 3, 4, 5, 0] rfl ?_
        exact ih _ _ h
set_option maxHeartbeats 4000000 in
set_option maxRecDepth 100000 in
theorem c_Qu_append (l : Launch) (D : va_G) (dA : Nat → ClassId) (base : Nat) (sa : Nat → Nat) (th : Nat) (l1 : Int32) (l2 : Int32) (l3 : Int32) (K : Unit → xS → Prop) (G : xS) (h : p_Qu_append th l1 l2 l3 K G) : xMet l y_Qu_append b_Qu_append 7 none 1 20 D dA base sa [va_rf (some th), .int l1, .int l2, .int l3] G (fun v G2 => ∃ r : Unit, v = none ∧ K r G2) := by
  refine xMet.of (by decide) (by simp [x_cat, x_catI]) (Nat.le_of_ble_eq_true rfl) ?_
  intro p e s m args below meth c F hret hname
  unfold p_Qu_append at h
  refine x_sub (lv' := [(0, va_rf (some th)), (1, .int l1), (2, .int l2), (3, .int l3)]) [0, 1, 2, 3] rfl ?_
  refine x_aload_n F 0 d_Qu_append_0 rfl rfl ?_
  refine x_callV F (enc := fun r => some (.int r)) (P := fun b => p_Qu_nextPath b ) (n := 0) (As := []) (st := []) k_469 k_6 k_467 k_468 k_474 ⟨by decide, by decide, by decide +kernel⟩ rfl ⟨Nat.le_of_ble_eq_true rfl, Nat.le_of_ble_eq_true rfl⟩ (by simp [x_cat, x_catI, x_catL]) cl_Qu rfl (ro := some th) (fun b K' G' h' _ => c_Qu_nextPath l D dA base sa b  K' G' h') d_Qu_append_1 h (fun v1 G h => ?_)
  refine x_istore F (lv' := [(4, .int v1), (0, va_rf (some th)), (1, .int l1), (2, .int l2), (3, .int l3)]) d_Qu_append_4 (by decide) rfl ?_
  refine x_aload_n F 1 d_Qu_append_6 rfl rfl ?_
  refine x_getR F cl_Qu in_Qu (k := 0) (by decide) k_135 rfl d_Qu_append_7 h (fun v2 h => ?_)
  refine x_aload_n F 1 d_Qu_append_10 rfl rfl ?_
  refine x_getI F cl_Qu in_Qu (k := 4) (by decide) k_143 rfl d_Qu_append_11 h (fun v3 h => ?_)
  refine x_iload_n F 2 d_Qu_append_14 rfl rfl ?_
  refine x_iast F (t := 0) rfl d_Qu_append_15 h (fun G h => ?_)
  refine x_aload_n F 1 d_Qu_append_16 rfl rfl ?_
  refine x_getR F cl_Qu in_Qu (k := 1) (by decide) k_137 rfl d_Qu_append_17 h (fun v4 h => ?_)
  refine x_aload_n F 1 d_Qu_append_20 rfl rfl ?_
  refine x_getI F cl_Qu in_Qu (k := 4) (by decide) k_143 rfl d_Qu_append_21 h (fun v5 h => ?_)
  refine x_iload_n F 3 d_Qu_append_24 rfl rfl ?_
  refine x_iast F (t := 0) rfl d_Qu_append_25 h (fun G h => ?_)
  refine x_aload_n F 1 d_Qu_append_26 rfl rfl ?_
  refine x_getR F cl_Qu in_Qu (k := 2) (by decide) k_139 rfl d_Qu_append_27 h (fun v6 h => ?_)
  refine x_aload_n F 1 d_Qu_append_30 rfl rfl ?_
  refine x_getI F cl_Qu in_Qu (k := 4) (by decide) k_143 rfl d_Qu_append_31 h (fun v7 h => ?_)
  refine x_iload_n F 4 d_Qu_append_34 rfl rfl ?_
  refine x_iast F (t := 0) rfl d_Qu_append_35 h (fun G h => ?_)
  refine x_aload_n F 1 d_Qu_append_36 rfl rfl ?_
  refine x_getR F cl_Qu in_Qu (k := 3) (by decide) k_141 rfl d_Qu_append_37 h (fun v8 h => ?_)
  refine x_aload_n F 1 d_Qu_append_40 rfl rfl ?_
  refine x_getI F cl_Qu in_Qu (k := 4) (by decide) k_143 rfl d_Qu_append_41 h (fun v9 h => ?_)
  refine x_iload F 0 d_Qu_append_44 rfl ?_
  refine x_iast F (t := 0) rfl d_Qu_append_46 h (fun G h => ?_)
  refine x_aload_n F 1 d_Qu_append_47 rfl rfl ?_
  refine x_dup F (x_cat _) d_Qu_append_48 ?_
  refine x_getI F cl_Qu in_Qu (k := 4) (by decide) k_143 rfl d_Qu_append_49 h (fun v10 h => ?_)
  refine x_iconst F (v := 1) d_Qu_append_52 (by decide) ?_
  refine x_iadd F d_Qu_append_53 ?_
  refine x_putI F cl_Qu in_Qu (k := 4) (by decide) k_143 rfl ty_Qu n_Qu rfl rfl d_Qu_append_54 h (fun G h => ?_)
  refine x_aload_n F 1 d_Qu_append_57 rfl rfl ?_
  refine x_dup F (x_cat _) d_Qu_append_58 ?_
  refine x_getI F cl_Qu in_Qu (k := 6) (by decide) k_147 rfl d_Qu_append_59 h (fun v11 h => ?_)
  refine x_iconst F (v := 1) d_Qu_append_62 (by decide) ?_
  refine x_isub F d_Qu_append_63 ?_
  refine x_putI F cl_Qu in_Qu (k := 6) (by decide) k_147 rfl ty_Qu n_Qu rfl rfl d_Qu_append_64 h (fun G h => ?_)
  refine x_iload_n F 2 d_Qu_append_67 rfl rfl ?_
  refine x_callS F (enc := fun r => some (.int r)) (P := p_Qu_partsOf l1) (n := 1) (As := [.int l1]) (st := []) k_477 k_6 k_476 k_475 ⟨by decide, by decide, by decide +kernel⟩ rfl ⟨Nat.le_of_ble_eq_true rfl, Nat.le_of_ble_eq_true rfl⟩ (by simp [x_cat, x_catI, x_catL]) (fun K' G' h' _ => c_Qu_partsOf l D dA base sa l1 K' G' h') d_Qu_append_68 h (fun v12 G h => ?_)
  refine x_istore F (lv' := [(5, .int v12), (4, .int v1), (0, va_rf (some th)), (1, .int l1), (2, .int l2), (3, .int l3)]) d_Qu_append_71 (by decide) rfl ?_
  refine x_iconst F (v := 0) d_Qu_append_73 (by decide) ?_
  refine x_istore F (lv' := [(6, .int 0), (5, .int v12), (4, .int v1), (0, va_rf (some th)), (1, .int l1), (2, .int l2), (3, .int l3)]) d_Qu_append_74 (by decide) rfl ?_
  refine x_sub (lv' := [(0, va_rf (some th)), (1, .int l1), (2, .int l2), (4, .int v1), (5, .int v12), (6, .int 0)]) [3, 4, 5, 2, 1, 0] rfl ?_
  refine w_Qu_append_L76 F hret th l1 l2 v1 v12 (fun G h => ?_) _ _ _ h
  exact x_vret F rfl hret d_Qu_append_120 ⟨(), rfl, h⟩
def p_B_token_B45 (th : Nat) (l1 : Int32) (l2 : Int32) (l3 : Int32)  (K : Int32 → xS → Prop) : xS → Prop := xgR 9 5 (some th) fun v4 => xgI 3 4 v4 fun v5 => xif (v5 < 12) (xgR 9 5 (some th) fun v6 => xob 3 v6 fun b => xcall 0 0 (p_Qu_append b l1 l2 l3) fun _ => xgR 9 5 (some th) fun v7 => xgI 3 6 v7 fun v8 => K v8) (K (-3))
def p_B_token (th : Nat) (l1 : Int32) (l2 : Int32) (l3 : Int32) (K : Int32 → xS → Prop) : xS → Prop := xcall 0 0 (p_B_isToken l1 l2 l3) fun v1 => xif (v1 = 0) (K (-1)) (xgR 9 5 (some th) fun v2 => xob 3 v2 fun b => xcall 0 0 (p_Qu_isComplete b ) fun v3 => xif (v3 = 0) (xif (l1 = 8) (xtab 4 xPar l2 fun v9 => xgR 9 5 (some th) fun v10 => xob 3 v10 fun b => xcall 0 0 (p_Qu_nextPath b ) fun v11 => xif (v9 = v11) (p_B_token_B45 th l1 l2 l3 K) (K (-2))) (p_B_token_B45 th l1 l2 l3 K)) (K (-2)))
abbrev X_B_token (p : Program) (l : Launch) (e : Env) (s : State) (m : MethodId) (args : Array Value) (below : List Frame) (meth : Method) (c : Code) (C0 S0 : Nat) (K : Int32 → xS → Prop) (D : va_G) (dA : Nat → ClassId) (base : Nat) (sa : Nat → Nat) (pc : Nat) (lv : List (Nat × Value)) (st : List Value) (G : xS) : Prop := xW p l e { frames := 2, cells := C0, slots := S0, locals := 46 } s m args below meth c 4 (MQ below (xQ D dA base (fun v G2 => ∃ r : Int32, v = some (.int r) ∧ K r G2)) args s C0 S0 (fun q : Nat => base ≤ q)) D dA base sa pc lv st G
set_option maxHeartbeats 4000000 in
set_option maxRecDepth 100000 in
theorem w_B_token_B45 {p : Program} {l : Launch} {e : Env} {s : State} {m : MethodId} {args : Array Value} {below : List Frame} {meth : Method} {c : Code} {C0 S0 : Nat} {D : va_G} {dA : Nat → ClassId} {base : Nat} {sa : Nat → Nat} (F : xFix p { frames := 2, cells := C0, slots := S0, locals := 46 } s m args meth c b_B_token 4 "BlockSearch" D dA base sa) (hret : meth.sig.returnType = (some FieldType.int)) {K : Int32 → xS → Prop} (th : Nat) (l1 : Int32) (l2 : Int32) (l3 : Int32)  {G : xS} (h : p_B_token_B45 th l1 l2 l3 K  G) : X_B_token p l e s m args below meth c C0 S0 K D dA base sa 45 [(0, va_rf (some th)), (1, .int l1), (2, .int l2), (3, .int l3)] [] G := by
  unfold p_B_token_B45 at h
  refine x_aload_n F 0 d_B_token_45 rfl rfl ?_
  refine x_getR F cl_B in_B (k := 5) (by decide) k_202 rfl d_B_token_46 h (fun v4 h => ?_)
  refine x_getI F cl_Qu in_Qu (k := 4) (by decide) k_145 rfl d_B_token_49 h (fun v5 h => ?_)
  refine x_bipush F (v := 12) d_B_token_52 (by decide) ?_
  refine x_icmp_lt F (tgt := 60) d_B_token_54 (by decide) h (fun q h => ?_) (fun q h => ?_)
  · refine x_aload_n F 0 d_B_token_60 rfl rfl ?_
    refine x_getR F cl_B in_B (k := 5) (by decide) k_202 rfl d_B_token_61 h (fun v6 h => ?_)
    refine x_iload_n F 1 d_B_token_64 rfl rfl ?_
    refine x_iload_n F 2 d_B_token_65 rfl rfl ?_
    refine x_iload_n F 3 d_B_token_66 rfl rfl ?_
    refine x_callV F (enc := fun r => none) (P := fun b => p_Qu_append b l1 l2 l3) (n := 3) (As := [.int l1, .int l2, .int l3]) (st := []) k_473 k_6 k_471 k_472 k_470 ⟨by decide, by decide, by decide +kernel⟩ rfl ⟨Nat.le_of_ble_eq_true rfl, Nat.le_of_ble_eq_true rfl⟩ (by simp [x_cat, x_catI, x_catL]) cl_Qu rfl (ro := v6) (fun b K' G' h' _ => c_Qu_append l D dA base sa b l1 l2 l3 K' G' h') d_B_token_67 h (fun _ G h => ?_)
    refine x_aload_n F 0 d_B_token_70 rfl rfl ?_
    refine x_getR F cl_B in_B (k := 5) (by decide) k_202 rfl d_B_token_71 h (fun v7 h => ?_)
    refine x_getI F cl_Qu in_Qu (k := 6) (by decide) k_148 rfl d_B_token_74 h (fun v8 h => ?_)
    exact x_iret F rfl hret d_B_token_77 ⟨_, rfl, h⟩
  · refine x_bipush F (v := (-3)) d_B_token_57 (by decide) ?_
    exact x_iret F rfl hret d_B_token_59 ⟨_, rfl, h⟩
set_option maxHeartbeats 4000000 in
set_option maxRecDepth 100000 in
theorem c_B_token (l : Launch) (D : va_G) (dA : Nat → ClassId) (base : Nat) (sa : Nat → Nat) (th : Nat) (l1 : Int32) (l2 : Int32) (l3 : Int32) (K : Int32 → xS → Prop) (G : xS) (h : p_B_token th l1 l2 l3 K G) : xMet l y_B_token b_B_token 4 (some FieldType.int) 2 46 D dA base sa [va_rf (some th), .int l1, .int l2, .int l3] G (fun v G2 => ∃ r : Int32, v = some (.int r) ∧ K r G2) := by
  refine xMet.of (by decide) (by simp [x_cat, x_catI]) (Nat.le_of_ble_eq_true rfl) ?_
  intro p e s m args below meth c F hret hname
  unfold p_B_token at h
  refine x_sub (lv' := [(0, va_rf (some th)), (1, .int l1), (2, .int l2), (3, .int l3)]) [0, 1, 2, 3] rfl ?_
  refine x_iload_n F 1 d_B_token_0 rfl rfl ?_
  refine x_iload_n F 2 d_B_token_1 rfl rfl ?_
  refine x_iload_n F 3 d_B_token_2 rfl rfl ?_
  refine x_callS F (enc := fun r => some (.int r)) (P := p_B_isToken l1 l2 l3) (n := 3) (As := [.int l1, .int l2, .int l3]) (st := []) k_460 k_1 k_459 k_458 ⟨by decide, by decide, by decide +kernel⟩ rfl ⟨Nat.le_of_ble_eq_true rfl, Nat.le_of_ble_eq_true rfl⟩ (by simp [x_cat, x_catI, x_catL]) (fun K' G' h' _ => c_B_isToken l D dA base sa l1 l2 l3 K' G' h') d_B_token_3 h (fun v1 G h => ?_)
  refine x_if_ne F (tgt := 11) d_B_token_6 (by decide) h (fun q h => ?_) (fun q h => ?_)
  · refine x_aload_n F 0 d_B_token_11 rfl rfl ?_
    refine x_getR F cl_B in_B (k := 5) (by decide) k_202 rfl d_B_token_12 h (fun v2 h => ?_)
    refine x_callV F (enc := fun r => some (.int r)) (P := fun b => p_Qu_isComplete b ) (n := 0) (As := []) (st := []) k_464 k_6 k_462 k_463 k_461 ⟨by decide, by decide, by decide +kernel⟩ rfl ⟨Nat.le_of_ble_eq_true rfl, Nat.le_of_ble_eq_true rfl⟩ (by simp [x_cat, x_catI, x_catL]) cl_Qu rfl (ro := v2) (fun b K' G' h' _ => c_Qu_isComplete l D dA base sa b  K' G' h') d_B_token_15 h (fun v3 G h => ?_)
    refine x_if_ne F (tgt := 42) d_B_token_18 (by decide) h (fun q h => ?_) (fun q h => ?_)
    · refine x_bipush F (v := (-2)) d_B_token_42 (by decide) ?_
      exact x_iret F rfl hret d_B_token_44 ⟨_, rfl, h⟩
    · refine x_iload_n F 1 d_B_token_21 rfl rfl ?_
      refine x_bipush F (v := 8) d_B_token_22 (by decide) ?_
      refine x_icmp_ne F (tgt := 45) d_B_token_24 (by decide) h (fun q h => ?_) (fun q h => ?_)
      · exact w_B_token_B45 F hret th l1 l2 l3 h
      · refine x_gets F k_465 d_B_token_27 ?_
        refine x_iload_n F 2 d_B_token_30 rfl rfl ?_
        refine x_tab F d_B_token_31 h (fun v9 h => ?_)
        refine x_aload_n F 0 d_B_token_32 rfl rfl ?_
        refine x_getR F cl_B in_B (k := 5) (by decide) k_202 rfl d_B_token_33 h (fun v10 h => ?_)
        refine x_callV F (enc := fun r => some (.int r)) (P := fun b => p_Qu_nextPath b ) (n := 0) (As := []) (st := [.int v9]) k_469 k_6 k_467 k_468 k_466 ⟨by decide, by decide, by decide +kernel⟩ rfl ⟨Nat.le_of_ble_eq_true rfl, Nat.le_of_ble_eq_true rfl⟩ (by simp [x_cat, x_catI, x_catL]) cl_Qu rfl (ro := v10) (fun b K' G' h' _ => c_Qu_nextPath l D dA base sa b  K' G' h') d_B_token_36 h (fun v11 G h => ?_)
        refine x_icmp_eq F (tgt := 45) d_B_token_39 (by decide) h (fun q h => ?_) (fun q h => ?_)
        · exact w_B_token_B45 F hret th l1 l2 l3 h
        · refine x_bipush F (v := (-2)) d_B_token_42 (by decide) ?_
          exact x_iret F rfl hret d_B_token_44 ⟨_, rfl, h⟩
  · refine x_iconst F (v := (-1)) d_B_token_9 (by decide) ?_
    exact x_iret F rfl hret d_B_token_10 ⟨_, rfl, h⟩
def p_Qu_drop (th : Nat) (K : Unit → xS → Prop) : xS → Prop := xpI 3 4 (some th) 0 (xgR 3 5 (some th) fun v1 => xas 0 v1 0 0 (xpI 3 6 (some th) 1 (K ())))
abbrev X_Qu_drop (p : Program) (l : Launch) (e : Env) (s : State) (m : MethodId) (args : Array Value) (below : List Frame) (meth : Method) (c : Code) (C0 S0 : Nat) (K : Unit → xS → Prop) (D : va_G) (dA : Nat → ClassId) (base : Nat) (sa : Nat → Nat) (pc : Nat) (lv : List (Nat × Value)) (st : List Value) (G : xS) : Prop := xW p l e { frames := 0, cells := C0, slots := S0, locals := 0 } s m args below meth c 1 (MQ below (xQ D dA base (fun v G2 => ∃ r : Unit, v = (none : Option Value) ∧ K r G2)) args s C0 S0 (fun q : Nat => base ≤ q)) D dA base sa pc lv st G
set_option maxHeartbeats 4000000 in
set_option maxRecDepth 100000 in
theorem c_Qu_drop (l : Launch) (D : va_G) (dA : Nat → ClassId) (base : Nat) (sa : Nat → Nat) (th : Nat) (K : Unit → xS → Prop) (G : xS) (h : p_Qu_drop th K G) : xMet l y_Qu_drop b_Qu_drop 1 none 0 0 D dA base sa [va_rf (some th)] G (fun v G2 => ∃ r : Unit, v = none ∧ K r G2) := by
  refine xMet.of (by decide) (by simp [x_cat, x_catI]) (Nat.le_of_ble_eq_true rfl) ?_
  intro p e s m args below meth c F hret hname
  unfold p_Qu_drop at h
  refine x_sub (lv' := [(0, va_rf (some th))]) [0] rfl ?_
  refine x_aload_n F 0 d_Qu_drop_0 rfl rfl ?_
  refine x_iconst F (v := 0) d_Qu_drop_1 (by decide) ?_
  refine x_putI F cl_Qu in_Qu (k := 4) (by decide) k_143 rfl ty_Qu n_Qu rfl rfl d_Qu_drop_2 h (fun G h => ?_)
  refine x_aload_n F 0 d_Qu_drop_5 rfl rfl ?_
  refine x_getR F cl_Qu in_Qu (k := 5) (by decide) k_146 rfl d_Qu_drop_6 h (fun v1 h => ?_)
  refine x_iconst F (v := 0) d_Qu_drop_9 (by decide) ?_
  refine x_iconst F (v := 0) d_Qu_drop_10 (by decide) ?_
  refine x_iast F (t := 0) rfl d_Qu_drop_11 h (fun G h => ?_)
  refine x_aload_n F 0 d_Qu_drop_12 rfl rfl ?_
  refine x_iconst F (v := 1) d_Qu_drop_13 (by decide) ?_
  refine x_putI F cl_Qu in_Qu (k := 6) (by decide) k_147 rfl ty_Qu n_Qu rfl rfl d_Qu_drop_14 h (fun G h => ?_)
  exact x_vret F rfl hret d_Qu_drop_17 ⟨(), rfl, h⟩
def p_B_clear (th : Nat) (K : Int32 → xS → Prop) : xS → Prop := xgR 9 5 (some th) fun v1 => xgI 3 4 v1 fun v2 => xgR 9 5 (some th) fun v3 => xob 3 v3 fun b => xcall 0 0 (p_Qu_drop b ) fun _ => K v2
abbrev X_B_clear (p : Program) (l : Launch) (e : Env) (s : State) (m : MethodId) (args : Array Value) (below : List Frame) (meth : Method) (c : Code) (C0 S0 : Nat) (K : Int32 → xS → Prop) (D : va_G) (dA : Nat → ClassId) (base : Nat) (sa : Nat → Nat) (pc : Nat) (lv : List (Nat × Value)) (st : List Value) (G : xS) : Prop := xW p l e { frames := 1, cells := C0, slots := S0, locals := 20 } s m args below meth c 2 (MQ below (xQ D dA base (fun v G2 => ∃ r : Int32, v = some (.int r) ∧ K r G2)) args s C0 S0 (fun q : Nat => base ≤ q)) D dA base sa pc lv st G
set_option maxHeartbeats 4000000 in
set_option maxRecDepth 100000 in
theorem c_B_clear (l : Launch) (D : va_G) (dA : Nat → ClassId) (base : Nat) (sa : Nat → Nat) (th : Nat) (K : Int32 → xS → Prop) (G : xS) (h : p_B_clear th K G) : xMet l y_B_clear b_B_clear 2 (some FieldType.int) 1 20 D dA base sa [va_rf (some th)] G (fun v G2 => ∃ r : Int32, v = some (.int r) ∧ K r G2) := by
  refine xMet.of (by decide) (by simp [x_cat, x_catI]) (Nat.le_of_ble_eq_true rfl) ?_
  intro p e s m args below meth c F hret hname
  unfold p_B_clear at h
  refine x_sub (lv' := [(0, va_rf (some th))]) [0] rfl ?_
  refine x_aload_n F 0 d_B_clear_0 rfl rfl ?_
  refine x_getR F cl_B in_B (k := 5) (by decide) k_202 rfl d_B_clear_1 h (fun v1 h => ?_)
  refine x_getI F cl_Qu in_Qu (k := 4) (by decide) k_145 rfl d_B_clear_4 h (fun v2 h => ?_)
  refine x_istore_n F (lv' := [(1, .int v2), (0, va_rf (some th))]) d_B_clear_7 rfl (by decide) rfl ?_
  refine x_aload_n F 1 d_B_clear_8 rfl rfl ?_
  refine x_getR F cl_B in_B (k := 5) (by decide) k_202 rfl d_B_clear_9 h (fun v3 h => ?_)
  refine x_callV F (enc := fun r => none) (P := fun b => p_Qu_drop b ) (n := 0) (As := []) (st := []) k_485 k_6 k_483 k_484 k_482 ⟨by decide, by decide, by decide +kernel⟩ rfl ⟨Nat.le_of_ble_eq_true rfl, Nat.le_of_ble_eq_true rfl⟩ (by simp [x_cat, x_catI, x_catL]) cl_Qu rfl (ro := v3) (fun b K' G' h' _ => c_Qu_drop l D dA base sa b  K' G' h') d_B_clear_12 h (fun _ G h => ?_)
  refine x_iload_n F 0 d_B_clear_15 rfl rfl ?_
  exact x_iret F rfl hret d_B_clear_16 ⟨_, rfl, h⟩
def p_Nd_timesOf_L17 (th : Nat) (l1 : Int32) (l2 : Int32) (K : Int32 → xS → Prop) (Kx53 : Int32 → xS → Prop) : Nat → Int32 → Int32 → xS → Prop
  | 0, _, _ => fun _ => False
  | n + 1, l3, l4 => xgR 2 5 (some th) fun v3 => xal 0 v3 l1 fun v4 => xif (v4 ≤ l4) (Kx53 l3) (xgR 2 6 (some th) fun v5 => xal 0 v5 ((l1 * 8) + l4) fun v6 => xif (v6 = l2) (p_Nd_timesOf_L17 th l1 l2 K Kx53 n (l3 + 1) (l4 + 1)) (p_Nd_timesOf_L17 th l1 l2 K Kx53 n l3 (l4 + 1)))
def p_Nd_timesOf (th : Nat) (l1 : Int32) (l2 : Int32) (K : Int32 → xS → Prop) : xS → Prop := xgR 2 4 (some th) fun v1 => xal 0 v1 l1 fun v2 => xif (v2 = 2) (p_Nd_timesOf_L17 th l1 l2 K (fun m7 => K m7) 1000 0 0) (K 0)
abbrev X_Nd_timesOf (p : Program) (l : Launch) (e : Env) (s : State) (m : MethodId) (args : Array Value) (below : List Frame) (meth : Method) (c : Code) (C0 S0 : Nat) (K : Int32 → xS → Prop) (D : va_G) (dA : Nat → ClassId) (base : Nat) (sa : Nat → Nat) (pc : Nat) (lv : List (Nat × Value)) (st : List Value) (G : xS) : Prop := xW p l e { frames := 0, cells := C0, slots := S0, locals := 0 } s m args below meth c 5 (MQ below (xQ D dA base (fun v G2 => ∃ r : Int32, v = some (.int r) ∧ K r G2)) args s C0 S0 (fun q : Nat => base ≤ q)) D dA base sa pc lv st G
set_option maxHeartbeats 4000000 in
set_option maxRecDepth 100000 in
theorem w_Nd_timesOf_L17 {p : Program} {l : Launch} {e : Env} {s : State} {m : MethodId} {args : Array Value} {below : List Frame} {meth : Method} {c : Code} {C0 S0 : Nat} {D : va_G} {dA : Nat → ClassId} {base : Nat} {sa : Nat → Nat} (F : xFix p { frames := 0, cells := C0, slots := S0, locals := 0 } s m args meth c b_Nd_timesOf 5 "BlockSearch$Node" D dA base sa) (hret : meth.sig.returnType = (some FieldType.int)) {K : Int32 → xS → Prop} {Kx53 : Int32 → xS → Prop} (th : Nat) (l1 : Int32) (l2 : Int32) (hKx53 : ∀ (l3 : Int32) (G : xS), Kx53 l3 G → X_Nd_timesOf p l e s m args below meth c C0 S0 K D dA base sa 53 [(3, .int l3)] [] G) : ∀ (n : Nat) (l3 : Int32) (l4 : Int32) (G : xS), p_Nd_timesOf_L17 th l1 l2 K Kx53 n l3 l4 G → X_Nd_timesOf p l e s m args below meth c C0 S0 K D dA base sa 17 [(0, va_rf (some th)), (1, .int l1), (2, .int l2), (3, .int l3), (4, .int l4)] [] G := by
  intro n
  induction n with
  | zero => intro l3 l4 G h; exact h.elim
  | succ n ih =>
    intro l3 l4 G h
    unfold p_Nd_timesOf_L17 at h
    refine x_iload F 4 d_Nd_timesOf_17 rfl ?_
    refine x_aload_n F 0 d_Nd_timesOf_19 rfl rfl ?_
    refine x_getR F cl_Nd in_Nd (k := 5) (by decide) k_272 rfl d_Nd_timesOf_20 h (fun v3 h => ?_)
    refine x_iload_n F 1 d_Nd_timesOf_23 rfl rfl ?_
    refine x_iald F (t := 0) rfl d_Nd_timesOf_24 h (fun v4 h => ?_)
    refine x_icmp_ge F (tgt := 53) d_Nd_timesOf_25 (by decide) h (fun q h => ?_) (fun q h => ?_)
    · refine x_sub (lv' := [(3, .int l3)]) [3] rfl ?_
      exact hKx53 _ _ h
    · refine x_aload_n F 0 d_Nd_timesOf_28 rfl rfl ?_
      refine x_getR F cl_Nd in_Nd (k := 6) (by decide) k_274 rfl d_Nd_timesOf_29 h (fun v5 h => ?_)
      refine x_iload_n F 1 d_Nd_timesOf_32 rfl rfl ?_
      refine x_bipush F (v := 8) d_Nd_timesOf_33 (by decide) ?_
      refine x_imul F d_Nd_timesOf_35 ?_
      refine x_iload F 4 d_Nd_timesOf_36 rfl ?_
      refine x_iadd F d_Nd_timesOf_38 ?_
      refine x_iald F (t := 0) rfl d_Nd_timesOf_39 h (fun v6 h => ?_)
      refine x_iload_n F 2 d_Nd_timesOf_40 rfl rfl ?_
      refine x_icmp_ne F (tgt := 47) d_Nd_timesOf_41 (by decide) h (fun q h => ?_) (fun q h => ?_)
      · refine x_iinc F 4 (v := (l4 + 1)) (lv' := [(4, .int (l4 + 1)), (0, va_rf (some th)), (1, .int l1), (2, .int l2), (3, .int l3)]) d_Nd_timesOf_47 rfl (congrArg (fun z : Int32 => l4 + z) (by decide)) (by decide) rfl ?_
        refine x_goto F (tgt := 17) d_Nd_timesOf_50 (by decide) ?_
        refine x_sub (lv' := [(0, va_rf (some th)), (1, .int l1), (2, .int l2), (3, .int l3), (4, .int (l4 + 1))]) [1, 2, 3, 4, 0] rfl ?_
        exact ih _ _ _ h
      · refine x_iinc F 3 (v := (l3 + 1)) (lv' := [(3, .int (l3 + 1)), (0, va_rf (some th)), (1, .int l1), (2, .int l2), (4, .int l4)]) d_Nd_timesOf_44 rfl (congrArg (fun z : Int32 => l3 + z) (by decide)) (by decide) rfl ?_
        refine x_iinc F 4 (v := (l4 + 1)) (lv' := [(4, .int (l4 + 1)), (3, .int (l3 + 1)), (0, va_rf (some th)), (1, .int l1), (2, .int l2)]) d_Nd_timesOf_47 rfl (congrArg (fun z : Int32 => l4 + z) (by decide)) (by decide) rfl ?_
        refine x_goto F (tgt := 17) d_Nd_timesOf_50 (by decide) ?_
        refine x_sub (lv' := [(0, va_rf (some th)), (1, .int l1), (2, .int l2), (3, .int (l3 + 1)), (4, .int (l4 + 1))]) [2, 3, 4, 1, 0] rfl ?_
        exact ih _ _ _ h
set_option maxHeartbeats 4000000 in
set_option maxRecDepth 100000 in
theorem c_Nd_timesOf (l : Launch) (D : va_G) (dA : Nat → ClassId) (base : Nat) (sa : Nat → Nat) (th : Nat) (l1 : Int32) (l2 : Int32) (K : Int32 → xS → Prop) (G : xS) (h : p_Nd_timesOf th l1 l2 K G) : xMet l y_Nd_timesOf b_Nd_timesOf 5 (some FieldType.int) 0 0 D dA base sa [va_rf (some th), .int l1, .int l2] G (fun v G2 => ∃ r : Int32, v = some (.int r) ∧ K r G2) := by
  refine xMet.of (by decide) (by simp [x_cat, x_catI]) (Nat.le_of_ble_eq_true rfl) ?_
  intro p e s m args below meth c F hret hname
  unfold p_Nd_timesOf at h
  refine x_sub (lv' := [(0, va_rf (some th)), (1, .int l1), (2, .int l2)]) [0, 1, 2] rfl ?_
  refine x_aload_n F 0 d_Nd_timesOf_0 rfl rfl ?_
  refine x_getR F cl_Nd in_Nd (k := 4) (by decide) k_268 rfl d_Nd_timesOf_1 h (fun v1 h => ?_)
  refine x_iload_n F 1 d_Nd_timesOf_4 rfl rfl ?_
  refine x_iald F (t := 0) rfl d_Nd_timesOf_5 h (fun v2 h => ?_)
  refine x_iconst F (v := 2) d_Nd_timesOf_6 (by decide) ?_
  refine x_icmp_eq F (tgt := 12) d_Nd_timesOf_7 (by decide) h (fun q h => ?_) (fun q h => ?_)
  · refine x_iconst F (v := 0) d_Nd_timesOf_12 (by decide) ?_
    refine x_istore_n F (lv' := [(3, .int 0), (0, va_rf (some th)), (1, .int l1), (2, .int l2)]) d_Nd_timesOf_13 rfl (by decide) rfl ?_
    refine x_iconst F (v := 0) d_Nd_timesOf_14 (by decide) ?_
    refine x_istore F (lv' := [(4, .int 0), (3, .int 0), (0, va_rf (some th)), (1, .int l1), (2, .int l2)]) d_Nd_timesOf_15 (by decide) rfl ?_
    refine x_sub (lv' := [(0, va_rf (some th)), (1, .int l1), (2, .int l2), (3, .int 0), (4, .int 0)]) [2, 3, 4, 1, 0] rfl ?_
    refine w_Nd_timesOf_L17 F hret th l1 l2 (fun m7 G h => ?_) _ _ _ _ h
    refine x_iload_n F 0 d_Nd_timesOf_53 rfl rfl ?_
    exact x_iret F rfl hret d_Nd_timesOf_54 ⟨_, rfl, h⟩
  · refine x_iconst F (v := 0) d_Nd_timesOf_10 (by decide) ?_
    exact x_iret F rfl hret d_Nd_timesOf_11 ⟨_, rfl, h⟩
def p_Sc_weightOf_L37 (l0 : Option Nat) (l1 : Int32) (l2 : Option Nat) (l5 : Int32) (l6 : Option Nat) (l7 : Int32) (K : Int32 → xS → Prop) (Kx97 : Int32 → Int32 → xS → Prop) : Nat → Int32 → Int32 → Int32 → xS → Prop
  | 0, _, _, _ => fun _ => False
  | n + 1, l3, l4, l8 => xif (l7 ≤ l8) (Kx97 l3 l4) (xalR 3 l6 l8 fun v6 => xgI 2 0 v6 fun v7 => xgR 3 3 l0 fun v8 => xal 0 v8 l1 fun v9 => xif (v7 = v9) (xgR 3 1 l0 fun v10 => xal 0 v10 l1 fun v11 => xgR 3 2 l0 fun v12 => xal 0 v12 l1 fun v13 => xob 2 v6 fun b => xcall 0 0 (p_Nd_timesOf b v11 v13) fun v14 => xif (v14 ≤ 0) (p_Sc_weightOf_L37 l0 l1 l2 l5 l6 l7 K Kx97 n (l3 + 1) l4 (l8 + 1)) (p_Sc_weightOf_L37 l0 l1 l2 l5 l6 l7 K Kx97 n (l3 + 1) (l4 + 1) (l8 + 1))) (p_Sc_weightOf_L37 l0 l1 l2 l5 l6 l7 K Kx97 n l3 l4 (l8 + 1)))
def p_Sc_weightOf_L8 (l0 : Option Nat) (l1 : Int32) (l2 : Option Nat) (K : Int32 → xS → Prop) (Kx103 : Int32 → Int32 → xS → Prop) : Nat → Int32 → Int32 → Int32 → xS → Prop
  | 0, _, _, _ => fun _ => False
  | n + 1, l3, l4, l5 => xgI 4 1 l2 fun v1 => xif (v1 ≤ l5) (Kx103 l3 l4) (xgR 4 2 l2 fun v2 => xalR 4 v2 l5 fun v3 => xgR 5 1 v3 fun v4 => xlen 3 v4 fun v5 => p_Sc_weightOf_L37 l0 l1 l2 l5 v4 v5 K (fun m15 m16 => p_Sc_weightOf_L8 l0 l1 l2 K Kx103 n m15 m16 (l5 + 1)) 1000 l3 l4 0)
def p_Sc_weightOf (l0 : Option Nat) (l1 : Int32) (l2 : Option Nat) (K : Int32 → xS → Prop) : xS → Prop := p_Sc_weightOf_L8 l0 l1 l2 K (fun m17 m18 => xif (m18 = 0) (K 0) (xdiv m17 m18 fun _ => K (1 + (m17 / m18)))) 1000 0 0 0
abbrev X_Sc_weightOf (p : Program) (l : Launch) (e : Env) (s : State) (m : MethodId) (args : Array Value) (below : List Frame) (meth : Method) (c : Code) (C0 S0 : Nat) (K : Int32 → xS → Prop) (D : va_G) (dA : Nat → ClassId) (base : Nat) (sa : Nat → Nat) (pc : Nat) (lv : List (Nat × Value)) (st : List Value) (G : xS) : Prop := xW p l e { frames := 1, cells := C0, slots := S0, locals := 24 } s m args below meth c 10 (MQ below (xQ D dA base (fun v G2 => ∃ r : Int32, v = some (.int r) ∧ K r G2)) args s C0 S0 (fun q : Nat => base ≤ q)) D dA base sa pc lv st G
set_option maxHeartbeats 4000000 in
set_option maxRecDepth 100000 in
theorem w_Sc_weightOf_L37 {p : Program} {l : Launch} {e : Env} {s : State} {m : MethodId} {args : Array Value} {below : List Frame} {meth : Method} {c : Code} {C0 S0 : Nat} {D : va_G} {dA : Nat → ClassId} {base : Nat} {sa : Nat → Nat} (F : xFix p { frames := 1, cells := C0, slots := S0, locals := 24 } s m args meth c b_Sc_weightOf 10 "BlockSearch$Scorer" D dA base sa) (hret : meth.sig.returnType = (some FieldType.int)) {K : Int32 → xS → Prop} {Kx97 : Int32 → Int32 → xS → Prop} (l0 : Option Nat) (l1 : Int32) (l2 : Option Nat) (l5 : Int32) (l6 : Option Nat) (l7 : Int32) (hKx97 : ∀ (l3 : Int32) (l4 : Int32) (G : xS), Kx97 l3 l4 G → X_Sc_weightOf p l e s m args below meth c C0 S0 K D dA base sa 97 [(0, va_rf l0), (1, .int l1), (2, va_rf l2), (3, .int l3), (4, .int l4), (5, .int l5)] [] G) : ∀ (n : Nat) (l3 : Int32) (l4 : Int32) (l8 : Int32) (G : xS), p_Sc_weightOf_L37 l0 l1 l2 l5 l6 l7 K Kx97 n l3 l4 l8 G → X_Sc_weightOf p l e s m args below meth c C0 S0 K D dA base sa 37 [(0, va_rf l0), (1, .int l1), (2, va_rf l2), (3, .int l3), (4, .int l4), (5, .int l5), (6, va_rf l6), (7, .int l7), (8, .int l8)] [] G := by
  intro n
  induction n with
  | zero => intro l3 l4 l8 G h; exact h.elim
  | succ n ih =>
    intro l3 l4 l8 G h
    unfold p_Sc_weightOf_L37 at h
    refine x_iload F 8 d_Sc_weightOf_37 rfl ?_
    refine x_iload F 7 d_Sc_weightOf_39 rfl ?_
    refine x_icmp_ge F (tgt := 97) d_Sc_weightOf_41 (by decide) h (fun q h => ?_) (fun q h => ?_)
    · refine x_sub (lv' := [(0, va_rf l0), (1, .int l1), (2, va_rf l2), (3, .int l3), (4, .int l4), (5, .int l5)]) [0, 1, 2, 3, 4, 5] rfl ?_
      exact hKx97 _ _ _ h
    · refine x_aload F 6 d_Sc_weightOf_44 rfl ?_
      refine x_iload F 8 d_Sc_weightOf_46 rfl ?_
      refine x_aald F (t := 3) rfl rfl d_Sc_weightOf_48 h (fun v6 h => ?_)
      refine x_astore F (lv' := [(9, va_rf v6), (0, va_rf l0), (1, .int l1), (2, va_rf l2), (3, .int l3), (4, .int l4), (5, .int l5), (6, va_rf l6), (7, .int l7), (8, .int l8)]) d_Sc_weightOf_49 (by decide) rfl ?_
      refine x_aload F 0 d_Sc_weightOf_51 rfl ?_
      refine x_getI F cl_Nd in_Nd (k := 0) (by decide) k_257 rfl d_Sc_weightOf_53 h (fun v7 h => ?_)
      refine x_aload_n F 1 d_Sc_weightOf_56 rfl rfl ?_
      refine x_getR F cl_Qu in_Qu (k := 3) (by decide) k_142 rfl d_Sc_weightOf_57 h (fun v8 h => ?_)
      refine x_iload_n F 2 d_Sc_weightOf_60 rfl rfl ?_
      refine x_iald F (t := 0) rfl d_Sc_weightOf_61 h (fun v9 h => ?_)
      refine x_icmp_ne F (tgt := 91) d_Sc_weightOf_62 (by decide) h (fun q h => ?_) (fun q h => ?_)
      · refine x_iinc F 9 (v := (l8 + 1)) (lv' := [(8, .int (l8 + 1)), (9, va_rf v6), (0, va_rf l0), (1, .int l1), (2, va_rf l2), (3, .int l3), (4, .int l4), (5, .int l5), (6, va_rf l6), (7, .int l7)]) d_Sc_weightOf_91 rfl (congrArg (fun z : Int32 => l8 + z) (by decide)) (by decide) rfl ?_
        refine x_goto F (tgt := 37) d_Sc_weightOf_94 (by decide) ?_
        refine x_sub (lv' := [(0, va_rf l0), (1, .int l1), (2, va_rf l2), (3, .int l3), (4, .int l4), (5, .int l5), (6, va_rf l6), (7, .int l7), (8, .int (l8 + 1))]) [2, 3, 4, 5, 6, 7, 8, 9, 0] rfl ?_
        exact ih _ _ _ _ h
      · refine x_iinc F 4 (v := (l3 + 1)) (lv' := [(3, .int (l3 + 1)), (9, va_rf v6), (0, va_rf l0), (1, .int l1), (2, va_rf l2), (4, .int l4), (5, .int l5), (6, va_rf l6), (7, .int l7), (8, .int l8)]) d_Sc_weightOf_65 rfl (congrArg (fun z : Int32 => l3 + z) (by decide)) (by decide) rfl ?_
        refine x_aload F 1 d_Sc_weightOf_68 rfl ?_
        refine x_aload_n F 2 d_Sc_weightOf_70 rfl rfl ?_
        refine x_getR F cl_Qu in_Qu (k := 1) (by decide) k_138 rfl d_Sc_weightOf_71 h (fun v10 h => ?_)
        refine x_iload_n F 3 d_Sc_weightOf_74 rfl rfl ?_
        refine x_iald F (t := 0) rfl d_Sc_weightOf_75 h (fun v11 h => ?_)
        refine x_aload_n F 2 d_Sc_weightOf_76 rfl rfl ?_
        refine x_getR F cl_Qu in_Qu (k := 2) (by decide) k_140 rfl d_Sc_weightOf_77 h (fun v12 h => ?_)
        refine x_iload_n F 3 d_Sc_weightOf_80 rfl rfl ?_
        refine x_iald F (t := 0) rfl d_Sc_weightOf_81 h (fun v13 h => ?_)
        refine x_callV F (enc := fun r => some (.int r)) (P := fun b => p_Nd_timesOf b v11 v13) (n := 2) (As := [.int v11, .int v13]) (st := []) k_500 k_10 k_498 k_499 k_497 ⟨by decide, by decide, by decide +kernel⟩ rfl ⟨Nat.le_of_ble_eq_true rfl, Nat.le_of_ble_eq_true rfl⟩ (by simp [x_cat, x_catI, x_catL]) cl_Nd rfl (ro := v6) (fun b K' G' h' _ => c_Nd_timesOf l D dA base sa b v11 v13 K' G' h') d_Sc_weightOf_82 h (fun v14 G h => ?_)
        refine x_if_le F (tgt := 91) d_Sc_weightOf_85 (by decide) h (fun q h => ?_) (fun q h => ?_)
        · refine x_iinc F 9 (v := (l8 + 1)) (lv' := [(8, .int (l8 + 1)), (3, .int (l3 + 1)), (9, va_rf v6), (0, va_rf l0), (1, .int l1), (2, va_rf l2), (4, .int l4), (5, .int l5), (6, va_rf l6), (7, .int l7)]) d_Sc_weightOf_91 rfl (congrArg (fun z : Int32 => l8 + z) (by decide)) (by decide) rfl ?_
          refine x_goto F (tgt := 37) d_Sc_weightOf_94 (by decide) ?_
          refine x_sub (lv' := [(0, va_rf l0), (1, .int l1), (2, va_rf l2), (3, .int (l3 + 1)), (4, .int l4), (5, .int l5), (6, va_rf l6), (7, .int l7), (8, .int (l8 + 1))]) [3, 4, 5, 1, 6, 7, 8, 9, 0] rfl ?_
          exact ih _ _ _ _ h
        · refine x_iinc F 5 (v := (l4 + 1)) (lv' := [(4, .int (l4 + 1)), (3, .int (l3 + 1)), (9, va_rf v6), (0, va_rf l0), (1, .int l1), (2, va_rf l2), (5, .int l5), (6, va_rf l6), (7, .int l7), (8, .int l8)]) d_Sc_weightOf_88 rfl (congrArg (fun z : Int32 => l4 + z) (by decide)) (by decide) rfl ?_
          refine x_iinc F 9 (v := (l8 + 1)) (lv' := [(8, .int (l8 + 1)), (4, .int (l4 + 1)), (3, .int (l3 + 1)), (9, va_rf v6), (0, va_rf l0), (1, .int l1), (2, va_rf l2), (5, .int l5), (6, va_rf l6), (7, .int l7)]) d_Sc_weightOf_91 rfl (congrArg (fun z : Int32 => l8 + z) (by decide)) (by decide) rfl ?_
          refine x_goto F (tgt := 37) d_Sc_weightOf_94 (by decide) ?_
          refine x_sub (lv' := [(0, va_rf l0), (1, .int l1), (2, va_rf l2), (3, .int (l3 + 1)), (4, .int (l4 + 1)), (5, .int l5), (6, va_rf l6), (7, .int l7), (8, .int (l8 + 1))]) [4, 5, 6, 2, 1, 7, 8, 9, 0] rfl ?_
          exact ih _ _ _ _ h
set_option maxHeartbeats 4000000 in
set_option maxRecDepth 100000 in
theorem w_Sc_weightOf_L8 {p : Program} {l : Launch} {e : Env} {s : State} {m : MethodId} {args : Array Value} {below : List Frame} {meth : Method} {c : Code} {C0 S0 : Nat} {D : va_G} {dA : Nat → ClassId} {base : Nat} {sa : Nat → Nat} (F : xFix p { frames := 1, cells := C0, slots := S0, locals := 24 } s m args meth c b_Sc_weightOf 10 "BlockSearch$Scorer" D dA base sa) (hret : meth.sig.returnType = (some FieldType.int)) {K : Int32 → xS → Prop} {Kx103 : Int32 → Int32 → xS → Prop} (l0 : Option Nat) (l1 : Int32) (l2 : Option Nat) (hKx103 : ∀ (l3 : Int32) (l4 : Int32) (G : xS), Kx103 l3 l4 G → X_Sc_weightOf p l e s m args below meth c C0 S0 K D dA base sa 103 [(3, .int l3), (4, .int l4)] [] G) : ∀ (n : Nat) (l3 : Int32) (l4 : Int32) (l5 : Int32) (G : xS), p_Sc_weightOf_L8 l0 l1 l2 K Kx103 n l3 l4 l5 G → X_Sc_weightOf p l e s m args below meth c C0 S0 K D dA base sa 8 [(0, va_rf l0), (1, .int l1), (2, va_rf l2), (3, .int l3), (4, .int l4), (5, .int l5)] [] G := by
  intro n
  induction n with
  | zero => intro l3 l4 l5 G h; exact h.elim
  | succ n ih =>
    intro l3 l4 l5 G h
    unfold p_Sc_weightOf_L8 at h
    refine x_iload F 5 d_Sc_weightOf_8 rfl ?_
    refine x_aload_n F 2 d_Sc_weightOf_10 rfl rfl ?_
    refine x_getI F cl_Sn in_Sn (k := 1) (by decide) k_103 rfl d_Sc_weightOf_11 h (fun v1 h => ?_)
    refine x_icmp_ge F (tgt := 103) d_Sc_weightOf_14 (by decide) h (fun q h => ?_) (fun q h => ?_)
    · refine x_sub (lv' := [(3, .int l3), (4, .int l4)]) [3, 4] rfl ?_
      exact hKx103 _ _ _ h
    · refine x_aload_n F 2 d_Sc_weightOf_17 rfl rfl ?_
      refine x_getR F cl_Sn in_Sn (k := 2) (by decide) k_106 rfl d_Sc_weightOf_18 h (fun v2 h => ?_)
      refine x_iload F 5 d_Sc_weightOf_21 rfl ?_
      refine x_aald F (t := 4) rfl rfl d_Sc_weightOf_23 h (fun v3 h => ?_)
      refine x_getR F cl_Do in_Do (k := 1) (by decide) k_382 rfl d_Sc_weightOf_24 h (fun v4 h => ?_)
      refine x_astore F (lv' := [(6, va_rf v4), (0, va_rf l0), (1, .int l1), (2, va_rf l2), (3, .int l3), (4, .int l4), (5, .int l5)]) d_Sc_weightOf_27 (by decide) rfl ?_
      refine x_aload F 0 d_Sc_weightOf_29 rfl ?_
      refine x_len F (t := 3) rfl d_Sc_weightOf_31 h (fun v5 h => ?_)
      refine x_istore F (lv' := [(7, .int v5), (6, va_rf v4), (0, va_rf l0), (1, .int l1), (2, va_rf l2), (3, .int l3), (4, .int l4), (5, .int l5)]) d_Sc_weightOf_32 (by decide) rfl ?_
      refine x_iconst F (v := 0) d_Sc_weightOf_34 (by decide) ?_
      refine x_istore F (lv' := [(8, .int 0), (7, .int v5), (6, va_rf v4), (0, va_rf l0), (1, .int l1), (2, va_rf l2), (3, .int l3), (4, .int l4), (5, .int l5)]) d_Sc_weightOf_35 (by decide) rfl ?_
      refine x_sub (lv' := [(0, va_rf l0), (1, .int l1), (2, va_rf l2), (3, .int l3), (4, .int l4), (5, .int l5), (6, va_rf v4), (7, .int v5), (8, .int 0)]) [3, 4, 5, 6, 7, 8, 2, 1, 0] rfl ?_
      refine w_Sc_weightOf_L37 F hret l0 l1 l2 l5 v4 v5 (fun m15 m16 G h => ?_) _ _ _ _ _ h
      refine x_iinc F 5 (v := (l5 + 1)) (lv' := [(5, .int (l5 + 1)), (0, va_rf l0), (1, .int l1), (2, va_rf l2), (3, .int m15), (4, .int m16)]) d_Sc_weightOf_97 rfl (congrArg (fun z : Int32 => l5 + z) (by decide)) (by decide) rfl ?_
      refine x_goto F (tgt := 8) d_Sc_weightOf_100 (by decide) ?_
      refine x_sub (lv' := [(0, va_rf l0), (1, .int l1), (2, va_rf l2), (3, .int m15), (4, .int m16), (5, .int (l5 + 1))]) [1, 2, 3, 4, 5, 0] rfl ?_
      exact ih _ _ _ _ h
set_option maxHeartbeats 4000000 in
set_option maxRecDepth 100000 in
theorem c_Sc_weightOf (l : Launch) (D : va_G) (dA : Nat → ClassId) (base : Nat) (sa : Nat → Nat) (l0 : Option Nat) (l1 : Int32) (l2 : Option Nat) (K : Int32 → xS → Prop) (G : xS) (h : p_Sc_weightOf l0 l1 l2 K G) : xMet l y_Sc_weightOf b_Sc_weightOf 10 (some FieldType.int) 1 24 D dA base sa [va_rf l0, .int l1, va_rf l2] G (fun v G2 => ∃ r : Int32, v = some (.int r) ∧ K r G2) := by
  refine xMet.of (by decide) (by simp [x_cat, x_catI]) (Nat.le_of_ble_eq_true rfl) ?_
  intro p e s m args below meth c F hret hname
  unfold p_Sc_weightOf at h
  refine x_sub (lv' := [(0, va_rf l0), (1, .int l1), (2, va_rf l2)]) [0, 1, 2] rfl ?_
  refine x_iconst F (v := 0) d_Sc_weightOf_0 (by decide) ?_
  refine x_istore_n F (lv' := [(3, .int 0), (0, va_rf l0), (1, .int l1), (2, va_rf l2)]) d_Sc_weightOf_1 rfl (by decide) rfl ?_
  refine x_iconst F (v := 0) d_Sc_weightOf_2 (by decide) ?_
  refine x_istore F (lv' := [(4, .int 0), (3, .int 0), (0, va_rf l0), (1, .int l1), (2, va_rf l2)]) d_Sc_weightOf_3 (by decide) rfl ?_
  refine x_iconst F (v := 0) d_Sc_weightOf_5 (by decide) ?_
  refine x_istore F (lv' := [(5, .int 0), (4, .int 0), (3, .int 0), (0, va_rf l0), (1, .int l1), (2, va_rf l2)]) d_Sc_weightOf_6 (by decide) rfl ?_
  refine x_sub (lv' := [(0, va_rf l0), (1, .int l1), (2, va_rf l2), (3, .int 0), (4, .int 0), (5, .int 0)]) [3, 4, 5, 2, 1, 0] rfl ?_
  refine w_Sc_weightOf_L8 F hret l0 l1 l2 (fun m17 m18 G h => ?_) _ _ _ _ _ h
  refine x_iload F 1 d_Sc_weightOf_103 rfl ?_
  refine x_if_ne F (tgt := 112) d_Sc_weightOf_105 (by decide) h (fun q h => ?_) (fun q h => ?_)
  · refine x_iconst F (v := 1) d_Sc_weightOf_112 (by decide) ?_
    refine x_iload_n F 0 d_Sc_weightOf_113 rfl rfl ?_
    refine x_iload F 1 d_Sc_weightOf_114 rfl ?_
    refine x_idiv F d_Sc_weightOf_116 h (fun h => ?_)
    refine x_iadd F d_Sc_weightOf_117 ?_
    exact x_iret F rfl hret d_Sc_weightOf_118 ⟨_, rfl, h⟩
  · refine x_iconst F (v := 0) d_Sc_weightOf_108 (by decide) ?_
    refine x_goto F (tgt := 118) d_Sc_weightOf_109 (by decide) ?_
    exact x_iret F rfl hret d_Sc_weightOf_118 ⟨_, rfl, h⟩
def p_Qu_behind_L4 (th : Nat) (K : Int32 → xS → Prop) (Kx36 : Int32 → xS → Prop) : Nat → Int32 → Int32 → xS → Prop
  | 0, _, _ => fun _ => False
  | n + 1, l2, l3 => xif (l3 ≤ 0) (Kx36 l2) (xgI 3 4 (some th) fun v1 => xif (v1 ≤ l2) (Kx36 l2) (xgR 3 0 (some th) fun v2 => xal 0 v2 l2 fun v3 => xcall 0 0 (p_Qu_partsOf v3) fun v4 => p_Qu_behind_L4 th K Kx36 n (l2 + 1) (l3 + (v4 - 1))))
def p_Qu_behind (th : Nat) (l1 : Int32) (K : Int32 → xS → Prop) : xS → Prop := p_Qu_behind_L4 th K (fun m5 => K m5) 1000 l1 1
abbrev X_Qu_behind (p : Program) (l : Launch) (e : Env) (s : State) (m : MethodId) (args : Array Value) (below : List Frame) (meth : Method) (c : Code) (C0 S0 : Nat) (K : Int32 → xS → Prop) (D : va_G) (dA : Nat → ClassId) (base : Nat) (sa : Nat → Nat) (pc : Nat) (lv : List (Nat × Value)) (st : List Value) (G : xS) : Prop := xW p l e { frames := 1, cells := C0, slots := S0, locals := 20 } s m args below meth c 4 (MQ below (xQ D dA base (fun v G2 => ∃ r : Int32, v = some (.int r) ∧ K r G2)) args s C0 S0 (fun q : Nat => base ≤ q)) D dA base sa pc lv st G
set_option maxHeartbeats 4000000 in
set_option maxRecDepth 100000 in
theorem w_Qu_behind_L4 {p : Program} {l : Launch} {e : Env} {s : State} {m : MethodId} {args : Array Value} {below : List Frame} {meth : Method} {c : Code} {C0 S0 : Nat} {D : va_G} {dA : Nat → ClassId} {base : Nat} {sa : Nat → Nat} (F : xFix p { frames := 1, cells := C0, slots := S0, locals := 20 } s m args meth c b_Qu_behind 4 "BlockSearch$Query" D dA base sa) (hret : meth.sig.returnType = (some FieldType.int)) {K : Int32 → xS → Prop} {Kx36 : Int32 → xS → Prop} (th : Nat) (hKx36 : ∀ (l2 : Int32) (G : xS), Kx36 l2 G → X_Qu_behind p l e s m args below meth c C0 S0 K D dA base sa 36 [(2, .int l2)] [] G) : ∀ (n : Nat) (l2 : Int32) (l3 : Int32) (G : xS), p_Qu_behind_L4 th K Kx36 n l2 l3 G → X_Qu_behind p l e s m args below meth c C0 S0 K D dA base sa 4 [(0, va_rf (some th)), (2, .int l2), (3, .int l3)] [] G := by
  intro n
  induction n with
  | zero => intro l2 l3 G h; exact h.elim
  | succ n ih =>
    intro l2 l3 G h
    unfold p_Qu_behind_L4 at h
    refine x_iload_n F 2 d_Qu_behind_4 rfl rfl ?_
    refine x_if_le F (tgt := 36) d_Qu_behind_5 (by decide) h (fun q h => ?_) (fun q h => ?_)
    · refine x_sub (lv' := [(2, .int l2)]) [1] rfl ?_
      exact hKx36 _ _ h
    · refine x_iload_n F 1 d_Qu_behind_8 rfl rfl ?_
      refine x_aload_n F 0 d_Qu_behind_9 rfl rfl ?_
      refine x_getI F cl_Qu in_Qu (k := 4) (by decide) k_143 rfl d_Qu_behind_10 h (fun v1 h => ?_)
      refine x_icmp_ge F (tgt := 36) d_Qu_behind_13 (by decide) h (fun q h => ?_) (fun q h => ?_)
      · refine x_sub (lv' := [(2, .int l2)]) [1] rfl ?_
        exact hKx36 _ _ h
      · refine x_iload_n F 2 d_Qu_behind_16 rfl rfl ?_
        refine x_aload_n F 0 d_Qu_behind_17 rfl rfl ?_
        refine x_getR F cl_Qu in_Qu (k := 0) (by decide) k_135 rfl d_Qu_behind_18 h (fun v2 h => ?_)
        refine x_iload_n F 1 d_Qu_behind_21 rfl rfl ?_
        refine x_iald F (t := 0) rfl d_Qu_behind_22 h (fun v3 h => ?_)
        refine x_callS F (enc := fun r => some (.int r)) (P := p_Qu_partsOf v3) (n := 1) (As := [.int v3]) (st := [.int l3]) k_477 k_6 k_476 k_475 ⟨by decide, by decide, by decide +kernel⟩ rfl ⟨Nat.le_of_ble_eq_true rfl, Nat.le_of_ble_eq_true rfl⟩ (by simp [x_cat, x_catI, x_catL]) (fun K' G' h' _ => c_Qu_partsOf l D dA base sa v3 K' G' h') d_Qu_behind_23 h (fun v4 G h => ?_)
        refine x_iconst F (v := 1) d_Qu_behind_26 (by decide) ?_
        refine x_isub F d_Qu_behind_27 ?_
        refine x_iadd F d_Qu_behind_28 ?_
        refine x_istore_n F (lv' := [(3, .int (l3 + (v4 - 1))), (0, va_rf (some th)), (2, .int l2)]) d_Qu_behind_29 rfl (by decide) rfl ?_
        refine x_iinc F 2 (v := (l2 + 1)) (lv' := [(2, .int (l2 + 1)), (3, .int (l3 + (v4 - 1))), (0, va_rf (some th))]) d_Qu_behind_30 rfl (congrArg (fun z : Int32 => l2 + z) (by decide)) (by decide) rfl ?_
        refine x_goto F (tgt := 4) d_Qu_behind_33 (by decide) ?_
        refine x_sub (lv' := [(0, va_rf (some th)), (2, .int (l2 + 1)), (3, .int (l3 + (v4 - 1)))]) [2, 0, 1] rfl ?_
        exact ih _ _ _ h
set_option maxHeartbeats 4000000 in
set_option maxRecDepth 100000 in
theorem c_Qu_behind (l : Launch) (D : va_G) (dA : Nat → ClassId) (base : Nat) (sa : Nat → Nat) (th : Nat) (l1 : Int32) (K : Int32 → xS → Prop) (G : xS) (h : p_Qu_behind th l1 K G) : xMet l y_Qu_behind b_Qu_behind 4 (some FieldType.int) 1 20 D dA base sa [va_rf (some th), .int l1] G (fun v G2 => ∃ r : Int32, v = some (.int r) ∧ K r G2) := by
  refine xMet.of (by decide) (by simp [x_cat, x_catI]) (Nat.le_of_ble_eq_true rfl) ?_
  intro p e s m args below meth c F hret hname
  unfold p_Qu_behind at h
  refine x_sub (lv' := [(0, va_rf (some th)), (1, .int l1)]) [0, 1] rfl ?_
  refine x_iload_n F 1 d_Qu_behind_0 rfl rfl ?_
  refine x_istore_n F (lv' := [(2, .int l1), (0, va_rf (some th)), (1, .int l1)]) d_Qu_behind_1 rfl (by decide) rfl ?_
  refine x_iconst F (v := 1) d_Qu_behind_2 (by decide) ?_
  refine x_istore_n F (lv' := [(3, .int 1), (2, .int l1), (0, va_rf (some th)), (1, .int l1)]) d_Qu_behind_3 rfl (by decide) rfl ?_
  refine x_sub (lv' := [(0, va_rf (some th)), (2, .int l1), (3, .int 1)]) [2, 1, 0] rfl ?_
  refine w_Qu_behind_L4 F hret th (fun m5 G h => ?_) _ _ _ _ h
  refine x_iload_n F 0 d_Qu_behind_36 rfl rfl ?_
  exact x_iret F rfl hret d_Qu_behind_37 ⟨_, rfl, h⟩
def p_Sc_prepare_B48 (th : Nat) (l1 : Option Nat) (l2 : Option Nat) (l3 : Int32)  (K : Unit → xS → Prop) (Kb2 : Int32 → xS → Prop) (Kx67 : xS → Prop) : xS → Prop := xgR 7 1 (some th) fun v4 => xob 3 l1 fun b => xcall 0 0 (p_Qu_behind b (l3 + 1)) fun v5 => xas 0 v4 l3 v5 (Kb2 (l3 + 1))
def p_Sc_prepare_B35 (th : Nat) (l1 : Option Nat) (l2 : Option Nat) (l3 : Int32) (l4 : Int32)  (K : Unit → xS → Prop) (Kb2 : Int32 → xS → Prop) (Kx67 : xS → Prop) : xS → Prop := xif (l4 = 5) (p_Sc_prepare_B48 th l1 l2 l3 K (Kb2) Kx67) (xif (l4 = 6) (p_Sc_prepare_B48 th l1 l2 l3 K (Kb2) Kx67) (Kb2 (l3 + 1)))
def p_Sc_prepare_L2 (th : Nat) (l1 : Option Nat) (l2 : Option Nat) (K : Unit → xS → Prop) (Kx67 : xS → Prop) : Nat → Int32 → xS → Prop
  | 0, _ => fun _ => False
  | n + 1, l3 => xgI 3 4 l1 fun v1 => xif (v1 ≤ l3) (Kx67) (xgR 3 0 l1 fun v2 => xal 0 v2 l3 fun v3 => xif (v3 = 0) (xgR 7 0 (some th) fun v6 => xcall 0 0 (p_Sc_weightOf l1 l3 l2) fun v7 => xas 0 v6 l3 v7 (p_Sc_prepare_B35 th l1 l2 l3 v3 K (p_Sc_prepare_L2 th l1 l2 K Kx67 n) Kx67)) (p_Sc_prepare_B35 th l1 l2 l3 v3 K (p_Sc_prepare_L2 th l1 l2 K Kx67 n) Kx67))
def p_Sc_prepare (th : Nat) (l1 : Option Nat) (l2 : Option Nat) (K : Unit → xS → Prop) : xS → Prop := p_Sc_prepare_L2 th l1 l2 K (K ()) 1000 0
abbrev X_Sc_prepare (p : Program) (l : Launch) (e : Env) (s : State) (m : MethodId) (args : Array Value) (below : List Frame) (meth : Method) (c : Code) (C0 S0 : Nat) (K : Unit → xS → Prop) (D : va_G) (dA : Nat → ClassId) (base : Nat) (sa : Nat → Nat) (pc : Nat) (lv : List (Nat × Value)) (st : List Value) (G : xS) : Prop := xW p l e { frames := 2, cells := C0, slots := S0, locals := 53 } s m args below meth c 5 (MQ below (xQ D dA base (fun v G2 => ∃ r : Unit, v = (none : Option Value) ∧ K r G2)) args s C0 S0 (fun q : Nat => base ≤ q)) D dA base sa pc lv st G
set_option maxHeartbeats 4000000 in
set_option maxRecDepth 100000 in
theorem w_Sc_prepare_B48 {p : Program} {l : Launch} {e : Env} {s : State} {m : MethodId} {args : Array Value} {below : List Frame} {meth : Method} {c : Code} {C0 S0 : Nat} {D : va_G} {dA : Nat → ClassId} {base : Nat} {sa : Nat → Nat} (F : xFix p { frames := 2, cells := C0, slots := S0, locals := 53 } s m args meth c b_Sc_prepare 5 "BlockSearch$Scorer" D dA base sa) (hret : meth.sig.returnType = none) {K : Unit → xS → Prop} {Kb2 : Int32 → xS → Prop} {Kx67 : xS → Prop} (th : Nat) (l1 : Option Nat) (l2 : Option Nat) (l3 : Int32)  (hKb2 : ∀ (m3 : Int32) (G : xS), Kb2 m3 G → X_Sc_prepare p l e s m args below meth c C0 S0 K D dA base sa 2 [(0, va_rf (some th)), (1, va_rf l1), (2, va_rf l2), (3, .int m3)] [] G) (hKx67 : ∀ (G : xS), Kx67  G → X_Sc_prepare p l e s m args below meth c C0 S0 K D dA base sa 67 [] [] G) {G : xS} (h : p_Sc_prepare_B48 th l1 l2 l3 K Kb2 Kx67 G) : X_Sc_prepare p l e s m args below meth c C0 S0 K D dA base sa 48 [(0, va_rf (some th)), (1, va_rf l1), (2, va_rf l2), (3, .int l3)] [] G := by
  unfold p_Sc_prepare_B48 at h
  refine x_aload_n F 0 d_Sc_prepare_48 rfl rfl ?_
  refine x_getR F cl_Sc in_Sc (k := 1) (by decide) k_172 rfl d_Sc_prepare_49 h (fun v4 h => ?_)
  refine x_iload_n F 3 d_Sc_prepare_52 rfl rfl ?_
  refine x_aload_n F 1 d_Sc_prepare_53 rfl rfl ?_
  refine x_iload_n F 3 d_Sc_prepare_54 rfl rfl ?_
  refine x_iconst F (v := 1) d_Sc_prepare_55 (by decide) ?_
  refine x_iadd F d_Sc_prepare_56 ?_
  refine x_callV F (enc := fun r => some (.int r)) (P := fun b => p_Qu_behind b (l3 + 1)) (n := 1) (As := [.int (l3 + 1)]) (st := [.int l3, va_rf v4]) k_504 k_6 k_502 k_503 k_501 ⟨by decide, by decide, by decide +kernel⟩ rfl ⟨Nat.le_of_ble_eq_true rfl, Nat.le_of_ble_eq_true rfl⟩ (by simp [x_cat, x_catI, x_catL]) cl_Qu rfl (ro := l1) (fun b K' G' h' _ => c_Qu_behind l D dA base sa b (l3 + 1) K' G' h') d_Sc_prepare_57 h (fun v5 G h => ?_)
  refine x_iast F (t := 0) rfl d_Sc_prepare_60 h (fun G h => ?_)
  refine x_iinc F 3 (v := (l3 + 1)) (lv' := [(3, .int (l3 + 1)), (0, va_rf (some th)), (1, va_rf l1), (2, va_rf l2)]) d_Sc_prepare_61 rfl (congrArg (fun z : Int32 => l3 + z) (by decide)) (by decide) rfl ?_
  refine x_goto F (tgt := 2) d_Sc_prepare_64 (by decide) ?_
  refine x_sub (lv' := [(0, va_rf (some th)), (1, va_rf l1), (2, va_rf l2), (3, .int (l3 + 1))]) [1, 2, 3, 0] rfl ?_
  exact hKb2 _ _ h
set_option maxHeartbeats 4000000 in
set_option maxRecDepth 100000 in
theorem w_Sc_prepare_B35 {p : Program} {l : Launch} {e : Env} {s : State} {m : MethodId} {args : Array Value} {below : List Frame} {meth : Method} {c : Code} {C0 S0 : Nat} {D : va_G} {dA : Nat → ClassId} {base : Nat} {sa : Nat → Nat} (F : xFix p { frames := 2, cells := C0, slots := S0, locals := 53 } s m args meth c b_Sc_prepare 5 "BlockSearch$Scorer" D dA base sa) (hret : meth.sig.returnType = none) {K : Unit → xS → Prop} {Kb2 : Int32 → xS → Prop} {Kx67 : xS → Prop} (th : Nat) (l1 : Option Nat) (l2 : Option Nat) (l3 : Int32) (l4 : Int32)  (hKb2 : ∀ (m3 : Int32) (G : xS), Kb2 m3 G → X_Sc_prepare p l e s m args below meth c C0 S0 K D dA base sa 2 [(0, va_rf (some th)), (1, va_rf l1), (2, va_rf l2), (3, .int m3)] [] G) (hKx67 : ∀ (G : xS), Kx67  G → X_Sc_prepare p l e s m args below meth c C0 S0 K D dA base sa 67 [] [] G) {G : xS} (h : p_Sc_prepare_B35 th l1 l2 l3 l4 K Kb2 Kx67 G) : X_Sc_prepare p l e s m args below meth c C0 S0 K D dA base sa 35 [(0, va_rf (some th)), (1, va_rf l1), (2, va_rf l2), (3, .int l3), (4, .int l4)] [] G := by
  unfold p_Sc_prepare_B35 at h
  refine x_iload F 4 d_Sc_prepare_35 rfl ?_
  refine x_iconst F (v := 5) d_Sc_prepare_37 (by decide) ?_
  refine x_icmp_eq F (tgt := 48) d_Sc_prepare_38 (by decide) h (fun q h => ?_) (fun q h => ?_)
  · refine x_sub (lv' := [(0, va_rf (some th)), (1, va_rf l1), (2, va_rf l2), (3, .int l3)]) [0, 1, 2, 3] rfl ?_
    exact w_Sc_prepare_B48 F hret th l1 l2 l3 hKb2 hKx67 h
  · refine x_iload F 4 d_Sc_prepare_41 rfl ?_
    refine x_bipush F (v := 6) d_Sc_prepare_43 (by decide) ?_
    refine x_icmp_ne F (tgt := 61) d_Sc_prepare_45 (by decide) h (fun q h => ?_) (fun q h => ?_)
    · refine x_iinc F 3 (v := (l3 + 1)) (lv' := [(3, .int (l3 + 1)), (0, va_rf (some th)), (1, va_rf l1), (2, va_rf l2), (4, .int l4)]) d_Sc_prepare_61 rfl (congrArg (fun z : Int32 => l3 + z) (by decide)) (by decide) rfl ?_
      refine x_goto F (tgt := 2) d_Sc_prepare_64 (by decide) ?_
      refine x_sub (lv' := [(0, va_rf (some th)), (1, va_rf l1), (2, va_rf l2), (3, .int (l3 + 1))]) [1, 2, 3, 0] rfl ?_
      exact hKb2 _ _ h
    · refine x_sub (lv' := [(0, va_rf (some th)), (1, va_rf l1), (2, va_rf l2), (3, .int l3)]) [0, 1, 2, 3] rfl ?_
      exact w_Sc_prepare_B48 F hret th l1 l2 l3 hKb2 hKx67 h
set_option maxHeartbeats 4000000 in
set_option maxRecDepth 100000 in
theorem w_Sc_prepare_L2 {p : Program} {l : Launch} {e : Env} {s : State} {m : MethodId} {args : Array Value} {below : List Frame} {meth : Method} {c : Code} {C0 S0 : Nat} {D : va_G} {dA : Nat → ClassId} {base : Nat} {sa : Nat → Nat} (F : xFix p { frames := 2, cells := C0, slots := S0, locals := 53 } s m args meth c b_Sc_prepare 5 "BlockSearch$Scorer" D dA base sa) (hret : meth.sig.returnType = none) {K : Unit → xS → Prop} {Kx67 : xS → Prop} (th : Nat) (l1 : Option Nat) (l2 : Option Nat) (hKx67 : ∀ (G : xS), Kx67  G → X_Sc_prepare p l e s m args below meth c C0 S0 K D dA base sa 67 [] [] G) : ∀ (n : Nat) (l3 : Int32) (G : xS), p_Sc_prepare_L2 th l1 l2 K Kx67 n l3 G → X_Sc_prepare p l e s m args below meth c C0 S0 K D dA base sa 2 [(0, va_rf (some th)), (1, va_rf l1), (2, va_rf l2), (3, .int l3)] [] G := by
  intro n
  induction n with
  | zero => intro l3 G h; exact h.elim
  | succ n ih =>
    intro l3 G h
    unfold p_Sc_prepare_L2 at h
    refine x_iload_n F 3 d_Sc_prepare_2 rfl rfl ?_
    refine x_aload_n F 1 d_Sc_prepare_3 rfl rfl ?_
    refine x_getI F cl_Qu in_Qu (k := 4) (by decide) k_144 rfl d_Sc_prepare_4 h (fun v1 h => ?_)
    refine x_icmp_ge F (tgt := 67) d_Sc_prepare_7 (by decide) h (fun q h => ?_) (fun q h => ?_)
    · refine x_sub (lv' := []) [] rfl ?_
      exact hKx67  _ h
    · refine x_aload_n F 1 d_Sc_prepare_10 rfl rfl ?_
      refine x_getR F cl_Qu in_Qu (k := 0) (by decide) k_136 rfl d_Sc_prepare_11 h (fun v2 h => ?_)
      refine x_iload_n F 3 d_Sc_prepare_14 rfl rfl ?_
      refine x_iald F (t := 0) rfl d_Sc_prepare_15 h (fun v3 h => ?_)
      refine x_istore F (lv' := [(4, .int v3), (0, va_rf (some th)), (1, va_rf l1), (2, va_rf l2), (3, .int l3)]) d_Sc_prepare_16 (by decide) rfl ?_
      refine x_iload F 0 d_Sc_prepare_18 rfl ?_
      refine x_if_ne F (tgt := 35) d_Sc_prepare_20 (by decide) h (fun q h => ?_) (fun q h => ?_)
      · refine x_sub (lv' := [(0, va_rf (some th)), (1, va_rf l1), (2, va_rf l2), (3, .int l3), (4, .int v3)]) [1, 2, 3, 4, 0] rfl ?_
        exact w_Sc_prepare_B35 F hret th l1 l2 l3 v3 ih hKx67 h
      · refine x_aload_n F 1 d_Sc_prepare_23 rfl rfl ?_
        refine x_getR F cl_Sc in_Sc (k := 0) (by decide) k_171 rfl d_Sc_prepare_24 h (fun v6 h => ?_)
        refine x_iload_n F 4 d_Sc_prepare_27 rfl rfl ?_
        refine x_aload_n F 2 d_Sc_prepare_28 rfl rfl ?_
        refine x_iload_n F 4 d_Sc_prepare_29 rfl rfl ?_
        refine x_aload_n F 3 d_Sc_prepare_30 rfl rfl ?_
        refine x_callS F (enc := fun r => some (.int r)) (P := p_Sc_weightOf l1 l3 l2) (n := 3) (As := [va_rf l1, .int l3, va_rf l2]) (st := [.int l3, va_rf v6]) k_496 k_7 k_495 k_494 ⟨by decide, by decide, by decide +kernel⟩ rfl ⟨Nat.le_of_ble_eq_true rfl, Nat.le_of_ble_eq_true rfl⟩ (by simp [x_cat, x_catI, x_catL]) (fun K' G' h' _ => c_Sc_weightOf l D dA base sa l1 l3 l2 K' G' h') d_Sc_prepare_31 h (fun v7 G h => ?_)
        refine x_iast F (t := 0) rfl d_Sc_prepare_34 h (fun G h => ?_)
        refine x_sub (lv' := [(0, va_rf (some th)), (1, va_rf l1), (2, va_rf l2), (3, .int l3), (4, .int v3)]) [1, 2, 3, 4, 0] rfl ?_
        exact w_Sc_prepare_B35 F hret th l1 l2 l3 v3 ih hKx67 h
set_option maxHeartbeats 4000000 in
set_option maxRecDepth 100000 in
theorem c_Sc_prepare (l : Launch) (D : va_G) (dA : Nat → ClassId) (base : Nat) (sa : Nat → Nat) (th : Nat) (l1 : Option Nat) (l2 : Option Nat) (K : Unit → xS → Prop) (G : xS) (h : p_Sc_prepare th l1 l2 K G) : xMet l y_Sc_prepare b_Sc_prepare 5 none 2 53 D dA base sa [va_rf (some th), va_rf l1, va_rf l2] G (fun v G2 => ∃ r : Unit, v = none ∧ K r G2) := by
  refine xMet.of (by decide) (by simp [x_cat, x_catI]) (Nat.le_of_ble_eq_true rfl) ?_
  intro p e s m args below meth c F hret hname
  unfold p_Sc_prepare at h
  refine x_sub (lv' := [(0, va_rf (some th)), (1, va_rf l1), (2, va_rf l2)]) [0, 1, 2] rfl ?_
  refine x_iconst F (v := 0) d_Sc_prepare_0 (by decide) ?_
  refine x_istore_n F (lv' := [(3, .int 0), (0, va_rf (some th)), (1, va_rf l1), (2, va_rf l2)]) d_Sc_prepare_1 rfl (by decide) rfl ?_
  refine x_sub (lv' := [(0, va_rf (some th)), (1, va_rf l1), (2, va_rf l2), (3, .int 0)]) [1, 2, 3, 0] rfl ?_
  refine w_Sc_prepare_L2 F hret th l1 l2 (fun G h => ?_) _ _ _ h
  exact x_vret F rfl hret d_Sc_prepare_67 ⟨(), rfl, h⟩
