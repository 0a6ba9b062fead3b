def p_M_times_L6 (th : Nat) (l1 : Int32) (l2 : Int32) (l3 : Int32) (K : Int32 → xS → Prop) (Kx69 : Int32 → xS → Prop) : Nat → Int32 → Int32 → xS → Prop
  | 0, _, _ => fun _ => False
  | n + 1, l4, l5 => xgR 10 25 (some th) fun v1 => xal 0 v1 ((4 * l1) + l2) fun v2 => xif (v2 ≤ l5) (Kx69 l4) (xgR 10 24 (some th) fun v3 => xal 0 v3 ((4 * l1) + l2) fun v4 => xif (v4 = 2) (xgR 10 26 (some th) fun v5 => xalL 6 v5 ((4 * l1) + l2) fun v6 => xif ((lg_cmp ((v6 >>> ((5 * l5).toInt64 &&& 63)) &&& 31) l3.toInt64) = 0) (p_M_times_L6 th l1 l2 l3 K Kx69 n (l4 + 1) (l5 + 1)) (p_M_times_L6 th l1 l2 l3 K Kx69 n l4 (l5 + 1))) (Kx69 l4))
def p_M_times (th : Nat) (l1 : Int32) (l2 : Int32) (l3 : Int32) (K : Int32 → xS → Prop) : xS → Prop := p_M_times_L6 th l1 l2 l3 K (fun m7 => K m7) 1000 0 0
abbrev X_M_times (p : Program) (l : Launch) (e : Env) (s : State) (m : MethodId) (args : Array Value) (below : List Frame) (meth : Method) (c : Code) (C0 S0 : Nat) (K : Int32 → xS → Prop) (D : va_G) (dA : Nat → ClassId) (base : Nat) (sa : Nat → Nat) (pc : Nat) (lv : List (Nat × Value)) (st : List Value) (G : xS) : Prop := xW p l e { frames := 0, cells := C0, slots := S0, locals := 0 } s m args below meth c 6 (MQ below (xQ D dA base (fun v G2 => ∃ r : Int32, v = some (.int r) ∧ K r G2)) args s C0 S0 (fun q : Nat => base ≤ q)) D dA base sa pc lv st G
set_option maxHeartbeats 4000000 in
set_option maxRecDepth 100000 in
theorem w_M_times_L6 {p : Program} {l : Launch} {e : Env} {s : State} {m : MethodId} {args : Array Value} {below : List Frame} {meth : Method} {c : Code} {C0 S0 : Nat} {D : va_G} {dA : Nat → ClassId} {base : Nat} {sa : Nat → Nat} (F : xFix p { frames := 0, cells := C0, slots := S0, locals := 0 } s m args meth c b_M_times 6 "BlockSearchModel" D dA base sa) (hret : meth.sig.returnType = (some FieldType.int)) {K : Int32 → xS → Prop} {Kx69 : Int32 → xS → Prop} (th : Nat) (l1 : Int32) (l2 : Int32) (l3 : Int32) (hKx69 : ∀ (l4 : Int32) (G : xS), Kx69 l4 G → X_M_times p l e s m args below meth c C0 S0 K D dA base sa 69 [(4, .int l4)] [] G) : ∀ (n : Nat) (l4 : Int32) (l5 : Int32) (G : xS), p_M_times_L6 th l1 l2 l3 K Kx69 n l4 l5 G → X_M_times p l e s m args below meth c C0 S0 K D dA base sa 6 [(0, va_rf (some th)), (1, .int l1), (2, .int l2), (3, .int l3), (4, .int l4), (5, .int l5)] [] G := by
  intro n
  induction n with
  | zero => intro l4 l5 G h; exact h.elim
  | succ n ih =>
    intro l4 l5 G h
    unfold p_M_times_L6 at h
    refine x_iload F 5 d_M_times_6 rfl ?_
    refine x_aload_n F 0 d_M_times_8 rfl rfl ?_
    refine x_getR F cl_M in_M (k := 25) (by decide) k_626 rfl d_M_times_9 h (fun v1 h => ?_)
    refine x_iconst F (v := 4) d_M_times_12 (by decide) ?_
    refine x_iload_n F 1 d_M_times_13 rfl rfl ?_
    refine x_imul F d_M_times_14 ?_
    refine x_iload_n F 2 d_M_times_15 rfl rfl ?_
    refine x_iadd F d_M_times_16 ?_
    refine x_iald F (t := 0) rfl d_M_times_17 h (fun v2 h => ?_)
    refine x_icmp_ge F (tgt := 69) d_M_times_18 (by decide) h (fun q h => ?_) (fun q h => ?_)
    · refine x_sub (lv' := [(4, .int l4)]) [4] rfl ?_
      exact hKx69 _ _ h
    · refine x_aload_n F 0 d_M_times_21 rfl rfl ?_
      refine x_getR F cl_M in_M (k := 24) (by decide) k_625 rfl d_M_times_22 h (fun v3 h => ?_)
      refine x_iconst F (v := 4) d_M_times_25 (by decide) ?_
      refine x_iload_n F 1 d_M_times_26 rfl rfl ?_
      refine x_imul F d_M_times_27 ?_
      refine x_iload_n F 2 d_M_times_28 rfl rfl ?_
      refine x_iadd F d_M_times_29 ?_
      refine x_iald F (t := 0) rfl d_M_times_30 h (fun v4 h => ?_)
      refine x_iconst F (v := 2) d_M_times_31 (by decide) ?_
      refine x_icmp_ne F (tgt := 69) d_M_times_32 (by decide) h (fun q h => ?_) (fun q h => ?_)
      · refine x_sub (lv' := [(4, .int l4)]) [4] rfl ?_
        exact hKx69 _ _ h
      · refine x_aload_n F 0 d_M_times_35 rfl rfl ?_
        refine x_getR F cl_M in_M (k := 26) (by decide) k_627 rfl d_M_times_36 h (fun v5 h => ?_)
        refine x_iconst F (v := 4) d_M_times_39 (by decide) ?_
        refine x_iload_n F 1 d_M_times_40 rfl rfl ?_
        refine x_imul F d_M_times_41 ?_
        refine x_iload_n F 2 d_M_times_42 rfl rfl ?_
        refine x_iadd F d_M_times_43 ?_
        refine x_lald F (t := 6) rfl d_M_times_44 h (fun v6 h => ?_)
        refine x_iconst F (v := 5) d_M_times_45 (by decide) ?_
        refine x_iload F 5 d_M_times_46 rfl ?_
        refine x_imul F d_M_times_48 ?_
        refine x_lshr F d_M_times_49 ?_
        refine x_ldc2 F k_835 d_M_times_50 ?_
        refine x_land F d_M_times_53 ?_
        refine x_iload_n F 3 d_M_times_54 rfl rfl ?_
        refine x_i2l F d_M_times_55 ?_
        refine x_lcmp F d_M_times_56 ?_
        refine x_if_ne F (tgt := 63) d_M_times_57 (by decide) h (fun q h => ?_) (fun q h => ?_)
        · refine x_iinc F 5 (v := (l5 + 1)) (lv' := [(5, .int (l5 + 1)), (0, va_rf (some th)), (1, .int l1), (2, .int l2), (3, .int l3), (4, .int l4)]) d_M_times_63 rfl (congrArg (fun z : Int32 => l5 + z) (by decide)) (by decide) rfl ?_
          refine x_goto F (tgt := 6) d_M_times_66 (by decide) ?_
          refine x_sub (lv' := [(0, va_rf (some th)), (1, .int l1), (2, .int l2), (3, .int l3), (4, .int l4), (5, .int (l5 + 1))]) [1, 2, 3, 4, 5, 0] rfl ?_
          exact ih _ _ _ h
        · refine x_iinc F 4 (v := (l4 + 1)) (lv' := [(4, .int (l4 + 1)), (0, va_rf (some th)), (1, .int l1), (2, .int l2), (3, .int l3), (5, .int l5)]) d_M_times_60 rfl (congrArg (fun z : Int32 => l4 + z) (by decide)) (by decide) rfl ?_
          refine x_iinc F 5 (v := (l5 + 1)) (lv' := [(5, .int (l5 + 1)), (4, .int (l4 + 1)), (0, va_rf (some th)), (1, .int l1), (2, .int l2), (3, .int l3)]) d_M_times_63 rfl (congrArg (fun z : Int32 => l5 + z) (by decide)) (by decide) rfl ?_
          refine x_goto F (tgt := 6) d_M_times_66 (by decide) ?_
          refine x_sub (lv' := [(0, va_rf (some th)), (1, .int l1), (2, .int l2), (3, .int l3), (4, .int (l4 + 1)), (5, .int (l5 + 1))]) [2, 3, 4, 5, 1, 0] rfl ?_
          exact ih _ _ _ h
set_option maxHeartbeats 4000000 in
set_option maxRecDepth 100000 in
theorem c_M_times (l : Launch) (D : va_G) (dA : Nat → ClassId) (base : Nat) (sa : Nat → Nat) (th : Nat) (l1 : Int32) (l2 : Int32) (l3 : Int32) (K : Int32 → xS → Prop) (G : xS) (h : p_M_times th l1 l2 l3 K G) : xMet l y_M_times b_M_times 6 (some FieldType.int) 0 0 D dA base sa [va_rf (some th), .int l1, .int l2, .int l3] G (fun v G2 => ∃ r : Int32, v = some (.int r) ∧ K r G2) := by
  refine xMet.of (by decide) (by simp [x_cat, x_catI]) (Nat.le_of_ble_eq_true rfl) ?_
  intro p e s m args below meth c F hret hname
  unfold p_M_times at h
  refine x_sub (lv' := [(0, va_rf (some th)), (1, .int l1), (2, .int l2), (3, .int l3)]) [0, 1, 2, 3] rfl ?_
  refine x_iconst F (v := 0) d_M_times_0 (by decide) ?_
  refine x_istore F (lv' := [(4, .int 0), (0, va_rf (some th)), (1, .int l1), (2, .int l2), (3, .int l3)]) d_M_times_1 (by decide) rfl ?_
  refine x_iconst F (v := 0) d_M_times_3 (by decide) ?_
  refine x_istore F (lv' := [(5, .int 0), (4, .int 0), (0, va_rf (some th)), (1, .int l1), (2, .int l2), (3, .int l3)]) d_M_times_4 (by decide) rfl ?_
  refine x_sub (lv' := [(0, va_rf (some th)), (1, .int l1), (2, .int l2), (3, .int l3), (4, .int 0), (5, .int 0)]) [2, 3, 4, 5, 1, 0] rfl ?_
  refine w_M_times_L6 F hret th l1 l2 l3 (fun m7 G h => ?_) _ _ _ _ h
  refine x_iload F 0 d_M_times_69 rfl ?_
  exact x_iret F rfl hret d_M_times_71 ⟨_, rfl, h⟩
def p_M_prepare_L17 (th : Nat) (l1 : Int32) (K : Unit → xS → Prop) (Kx43 : Int32 → xS → Prop) : Nat → Int32 → Int32 → xS → Prop
  | 0, _, _ => fun _ => False
  | n + 1, l2, l3 => xgR 10 28 (some th) fun v2 => xal 0 v2 l1 fun v3 => xcall 0 0 (p_M_parts v3) fun v4 => xif (v4 ≤ l3) (Kx43 l2) (xgR 10 32 (some th) fun v5 => xal 0 v5 l2 fun v6 => p_M_prepare_L17 th l1 K Kx43 n v6 (l3 + 1))
def p_M_prepare_L91 (th : Nat) (l1 : Int32) (l3 : Int32) (K : Unit → xS → Prop) (Kx184 : xS → Prop) : Nat → Int32 → xS → Prop
  | 0, _ => fun _ => False
  | n + 1, l4 => xgR 10 11 (some th) fun v16 => xal 0 v16 l3 fun v17 => xgR 10 12 (some th) fun v18 => xal 0 v18 l3 fun v19 => xif ((v17 + v19) ≤ l4) (Kx184) (xgR 10 15 (some th) fun v20 => xal 0 v20 l3 fun v21 => xif (v21 < 0) (Kx184) (xgR 10 22 (some th) fun v22 => xal 0 v22 l4 fun v23 => xgR 10 31 (some th) fun v24 => xal 0 v24 l1 fun v25 => xif (v23 = v25) (xgR 10 34 (some th) fun v26 => xal 0 v26 l1 fun v27 => xas 0 v26 l1 (v27 + 1) (xgR 10 29 (some th) fun v28 => xal 0 v28 l1 fun v29 => xgR 10 30 (some th) fun v30 => xal 0 v30 l1 fun v31 => xob 10 (some th) fun b => xcall 0 0 (p_M_times b l4 v29 v31) fun v32 => xif (v32 ≤ 0) (p_M_prepare_L91 th l1 l3 K Kx184 n (l4 + 1)) (xgR 10 35 (some th) fun v33 => xal 0 v33 l1 fun v34 => xas 0 v33 l1 (v34 + 1) (p_M_prepare_L91 th l1 l3 K Kx184 n (l4 + 1))))) (p_M_prepare_L91 th l1 l3 K Kx184 n (l4 + 1))))
def p_M_prepare_L66 (th : Nat) (l1 : Int32) (K : Unit → xS → Prop) (Kx190 : xS → Prop) : Nat → Int32 → xS → Prop
  | 0, _ => fun _ => False
  | n + 1, l3 => xgI 10 18 (some th) fun v11 => xif (v11 ≤ l3) (Kx190) (xgR 10 28 (some th) fun v12 => xal 0 v12 l1 fun v13 => xif (v13 = 0) (xgR 10 11 (some th) fun v14 => xal 0 v14 l3 fun v15 => p_M_prepare_L91 th l1 l3 K (p_M_prepare_L66 th l1 K Kx190 n (l3 + 1)) 1000 v15) (Kx190))
def p_M_prepare_L7 (th : Nat) (K : Unit → xS → Prop) (Kx196 : xS → Prop) : Nat → Int32 → xS → Prop
  | 0, _ => fun _ => False
  | n + 1, l1 => xif (l1 < 0) (Kx196) (p_M_prepare_L17 th l1 K (fun m7 => xgR 10 32 (some th) fun v8 => xas 0 v8 l1 m7 (xgR 10 34 (some th) fun v9 => xas 0 v9 l1 0 (xgR 10 35 (some th) fun v10 => xas 0 v10 l1 0 (p_M_prepare_L66 th l1 K (p_M_prepare_L7 th K Kx196 n (l1 + (-1))) 1000 0)))) 1000 (l1 + 1) 0)
def p_M_prepare (th : Nat) (K : Unit → xS → Prop) : xS → Prop := xgI 10 36 (some th) fun v1 => p_M_prepare_L7 th K (K ()) 1000 (v1 - 1)
abbrev X_M_prepare (p : Program) (l : Launch) (e : Env) (s : State) (m : MethodId) (args : Array Value) (below : List Frame) (meth : Method) (c : Code) (C0 S0 : Nat) (K : Unit → xS → Prop) (D : va_G) (dA : Nat → ClassId) (base : Nat) (sa : Nat → Nat) (pc : Nat) (lv : List (Nat × Value)) (st : List Value) (G : xS) : Prop := xW p l e { frames := 1, cells := C0, slots := S0, locals := 25 } s m args below meth c 5 (MQ below (xQ D dA base (fun v G2 => ∃ r : Unit, v = (none : Option Value) ∧ K r G2)) args s C0 S0 (fun q : Nat => base ≤ q)) D dA base sa pc lv st G
set_option maxHeartbeats 4000000 in
set_option maxRecDepth 100000 in
theorem w_M_prepare_L17 {p : Program} {l : Launch} {e : Env} {s : State} {m : MethodId} {args : Array Value} {below : List Frame} {meth : Method} {c : Code} {C0 S0 : Nat} {D : va_G} {dA : Nat → ClassId} {base : Nat} {sa : Nat → Nat} (F : xFix p { frames := 1, cells := C0, slots := S0, locals := 25 } s m args meth c b_M_prepare 5 "BlockSearchModel" D dA base sa) (hret : meth.sig.returnType = none) {K : Unit → xS → Prop} {Kx43 : Int32 → xS → Prop} (th : Nat) (l1 : Int32) (hKx43 : ∀ (l2 : Int32) (G : xS), Kx43 l2 G → X_M_prepare p l e s m args below meth c C0 S0 K D dA base sa 43 [(0, va_rf (some th)), (1, .int l1), (2, .int l2)] [] G) : ∀ (n : Nat) (l2 : Int32) (l3 : Int32) (G : xS), p_M_prepare_L17 th l1 K Kx43 n l2 l3 G → X_M_prepare p l e s m args below meth c C0 S0 K D dA base sa 17 [(0, va_rf (some th)), (1, .int l1), (2, .int l2), (3, .int l3)] [] G := by
  intro n
  induction n with
  | zero => intro l2 l3 G h; exact h.elim
  | succ n ih =>
    intro l2 l3 G h
    unfold p_M_prepare_L17 at h
    refine x_iload_n F 3 d_M_prepare_17 rfl rfl ?_
    refine x_aload_n F 0 d_M_prepare_18 rfl rfl ?_
    refine x_getR F cl_M in_M (k := 28) (by decide) k_629 rfl d_M_prepare_19 h (fun v2 h => ?_)
    refine x_iload_n F 1 d_M_prepare_22 rfl rfl ?_
    refine x_iald F (t := 0) rfl d_M_prepare_23 h (fun v3 h => ?_)
    refine x_callS F (enc := fun r => some (.int r)) (P := p_M_parts v3) (n := 1) (As := [.int v3]) (st := [.int l3]) k_814 k_9 k_813 k_812 ⟨by decide, by decide, by decide +kernel⟩ rfl ⟨Nat.le_of_ble_eq_true rfl, Nat.le_of_ble_eq_true rfl⟩ (by simp [x_cat, x_catI, x_catL]) (fun K' G' h' _ => c_M_parts l D dA base sa v3 K' G' h') d_M_prepare_24 h (fun v4 G h => ?_)
    refine x_icmp_ge F (tgt := 43) d_M_prepare_27 (by decide) h (fun q h => ?_) (fun q h => ?_)
    · refine x_sub (lv' := [(0, va_rf (some th)), (1, .int l1), (2, .int l2)]) [0, 1, 2] rfl ?_
      exact hKx43 _ _ h
    · refine x_aload_n F 0 d_M_prepare_30 rfl rfl ?_
      refine x_getR F cl_M in_M (k := 32) (by decide) k_633 rfl d_M_prepare_31 h (fun v5 h => ?_)
      refine x_iload_n F 2 d_M_prepare_34 rfl rfl ?_
      refine x_iald F (t := 0) rfl d_M_prepare_35 h (fun v6 h => ?_)
      refine x_istore_n F (lv' := [(2, .int v6), (0, va_rf (some th)), (1, .int l1), (3, .int l3)]) d_M_prepare_36 rfl (by decide) rfl ?_
      refine x_iinc F 3 (v := (l3 + 1)) (lv' := [(3, .int (l3 + 1)), (2, .int v6), (0, va_rf (some th)), (1, .int l1)]) d_M_prepare_37 rfl (congrArg (fun z : Int32 => l3 + z) (by decide)) (by decide) rfl ?_
      refine x_goto F (tgt := 17) d_M_prepare_40 (by decide) ?_
      refine x_sub (lv' := [(0, va_rf (some th)), (1, .int l1), (2, .int v6), (3, .int (l3 + 1))]) [2, 3, 1, 0] rfl ?_
      exact ih _ _ _ h
set_option maxHeartbeats 4000000 in
set_option maxRecDepth 100000 in
theorem w_M_prepare_L91 {p : Program} {l : Launch} {e : Env} {s : State} {m : MethodId} {args : Array Value} {below : List Frame} {meth : Method} {c : Code} {C0 S0 : Nat} {D : va_G} {dA : Nat → ClassId} {base : Nat} {sa : Nat → Nat} (F : xFix p { frames := 1, cells := C0, slots := S0, locals := 25 } s m args meth c b_M_prepare 5 "BlockSearchModel" D dA base sa) (hret : meth.sig.returnType = none) {K : Unit → xS → Prop} {Kx184 : xS → Prop} (th : Nat) (l1 : Int32) (l3 : Int32) (hKx184 : ∀ (G : xS), Kx184  G → X_M_prepare p l e s m args below meth c C0 S0 K D dA base sa 184 [(0, va_rf (some th)), (1, .int l1), (3, .int l3)] [] G) : ∀ (n : Nat) (l4 : Int32) (G : xS), p_M_prepare_L91 th l1 l3 K Kx184 n l4 G → X_M_prepare p l e s m args below meth c C0 S0 K D dA base sa 91 [(0, va_rf (some th)), (1, .int l1), (3, .int l3), (4, .int l4)] [] G := by
  intro n
  induction n with
  | zero => intro l4 G h; exact h.elim
  | succ n ih =>
    intro l4 G h
    unfold p_M_prepare_L91 at h
    refine x_iload F 3 d_M_prepare_91 rfl ?_
    refine x_aload_n F 0 d_M_prepare_93 rfl rfl ?_
    refine x_getR F cl_M in_M (k := 11) (by decide) k_612 rfl d_M_prepare_94 h (fun v16 h => ?_)
    refine x_iload_n F 2 d_M_prepare_97 rfl rfl ?_
    refine x_iald F (t := 0) rfl d_M_prepare_98 h (fun v17 h => ?_)
    refine x_aload_n F 0 d_M_prepare_99 rfl rfl ?_
    refine x_getR F cl_M in_M (k := 12) (by decide) k_613 rfl d_M_prepare_100 h (fun v18 h => ?_)
    refine x_iload_n F 2 d_M_prepare_103 rfl rfl ?_
    refine x_iald F (t := 0) rfl d_M_prepare_104 h (fun v19 h => ?_)
    refine x_iadd F d_M_prepare_105 ?_
    refine x_icmp_ge F (tgt := 184) d_M_prepare_106 (by decide) h (fun q h => ?_) (fun q h => ?_)
    · refine x_sub (lv' := [(0, va_rf (some th)), (1, .int l1), (3, .int l3)]) [0, 1, 2] rfl ?_
      exact hKx184  _ h
    · refine x_aload_n F 0 d_M_prepare_109 rfl rfl ?_
      refine x_getR F cl_M in_M (k := 15) (by decide) k_616 rfl d_M_prepare_110 h (fun v20 h => ?_)
      refine x_iload_n F 2 d_M_prepare_113 rfl rfl ?_
      refine x_iald F (t := 0) rfl d_M_prepare_114 h (fun v21 h => ?_)
      refine x_if_lt F (tgt := 184) d_M_prepare_115 (by decide) h (fun q h => ?_) (fun q h => ?_)
      · refine x_sub (lv' := [(0, va_rf (some th)), (1, .int l1), (3, .int l3)]) [0, 1, 2] rfl ?_
        exact hKx184  _ h
      · refine x_aload_n F 0 d_M_prepare_118 rfl rfl ?_
        refine x_getR F cl_M in_M (k := 22) (by decide) k_623 rfl d_M_prepare_119 h (fun v22 h => ?_)
        refine x_iload F 3 d_M_prepare_122 rfl ?_
        refine x_iald F (t := 0) rfl d_M_prepare_124 h (fun v23 h => ?_)
        refine x_aload_n F 0 d_M_prepare_125 rfl rfl ?_
        refine x_getR F cl_M in_M (k := 31) (by decide) k_632 rfl d_M_prepare_126 h (fun v24 h => ?_)
        refine x_iload_n F 1 d_M_prepare_129 rfl rfl ?_
        refine x_iald F (t := 0) rfl d_M_prepare_130 h (fun v25 h => ?_)
        refine x_icmp_eq F (tgt := 137) d_M_prepare_131 (by decide) h (fun q h => ?_) (fun q h => ?_)
        · refine x_aload_n F 0 d_M_prepare_137 rfl rfl ?_
          refine x_getR F cl_M in_M (k := 34) (by decide) k_635 rfl d_M_prepare_138 h (fun v26 h => ?_)
          refine x_iload_n F 1 d_M_prepare_141 rfl rfl ?_
          refine x_dup2 F rfl (x_cat _) d_M_prepare_142 ?_
          refine x_iald F (t := 0) rfl d_M_prepare_143 h (fun v27 h => ?_)
          refine x_iconst F (v := 1) d_M_prepare_144 (by decide) ?_
          refine x_iadd F d_M_prepare_145 ?_
          refine x_iast F (t := 0) rfl d_M_prepare_146 h (fun G h => ?_)
          refine x_aload_n F 0 d_M_prepare_147 rfl rfl ?_
          refine x_iload F 3 d_M_prepare_148 rfl ?_
          refine x_aload_n F 0 d_M_prepare_150 rfl rfl ?_
          refine x_getR F cl_M in_M (k := 29) (by decide) k_630 rfl d_M_prepare_151 h (fun v28 h => ?_)
          refine x_iload_n F 1 d_M_prepare_154 rfl rfl ?_
          refine x_iald F (t := 0) rfl d_M_prepare_155 h (fun v29 h => ?_)
          refine x_aload_n F 0 d_M_prepare_156 rfl rfl ?_
          refine x_getR F cl_M in_M (k := 30) (by decide) k_631 rfl d_M_prepare_157 h (fun v30 h => ?_)
          refine x_iload_n F 1 d_M_prepare_160 rfl rfl ?_
          refine x_iald F (t := 0) rfl d_M_prepare_161 h (fun v31 h => ?_)
          refine x_callV F (enc := fun r => some (.int r)) (P := fun b => p_M_times b l4 v29 v31) (n := 3) (As := [.int l4, .int v29, .int v31]) (st := []) k_834 k_9 k_833 kp_17 k_831 ⟨by decide, by decide, by decide +kernel⟩ rfl ⟨Nat.le_of_ble_eq_true rfl, Nat.le_of_ble_eq_true rfl⟩ (by simp [x_cat, x_catI, x_catL]) cl_M rfl (ro := some th) (fun b K' G' h' _ => c_M_times l D dA base sa b l4 v29 v31 K' G' h') d_M_prepare_162 h (fun v32 G h => ?_)
          refine x_if_le F (tgt := 178) d_M_prepare_165 (by decide) h (fun q h => ?_) (fun q h => ?_)
          · refine x_iinc F 3 (v := (l4 + 1)) (lv' := [(4, .int (l4 + 1)), (0, va_rf (some th)), (1, .int l1), (3, .int l3)]) d_M_prepare_178 rfl (congrArg (fun z : Int32 => l4 + z) (by decide)) (by decide) rfl ?_
            refine x_goto F (tgt := 91) d_M_prepare_181 (by decide) ?_
            refine x_sub (lv' := [(0, va_rf (some th)), (1, .int l1), (3, .int l3), (4, .int (l4 + 1))]) [1, 2, 3, 0] rfl ?_
            exact ih _ _ h
          · refine x_aload_n F 0 d_M_prepare_168 rfl rfl ?_
            refine x_getR F cl_M in_M (k := 35) (by decide) k_636 rfl d_M_prepare_169 h (fun v33 h => ?_)
            refine x_iload_n F 1 d_M_prepare_172 rfl rfl ?_
            refine x_dup2 F rfl (x_cat _) d_M_prepare_173 ?_
            refine x_iald F (t := 0) rfl d_M_prepare_174 h (fun v34 h => ?_)
            refine x_iconst F (v := 1) d_M_prepare_175 (by decide) ?_
            refine x_iadd F d_M_prepare_176 ?_
            refine x_iast F (t := 0) rfl d_M_prepare_177 h (fun G h => ?_)
            refine x_iinc F 3 (v := (l4 + 1)) (lv' := [(4, .int (l4 + 1)), (0, va_rf (some th)), (1, .int l1), (3, .int l3)]) d_M_prepare_178 rfl (congrArg (fun z : Int32 => l4 + z) (by decide)) (by decide) rfl ?_
            refine x_goto F (tgt := 91) d_M_prepare_181 (by decide) ?_
            refine x_sub (lv' := [(0, va_rf (some th)), (1, .int l1), (3, .int l3), (4, .int (l4 + 1))]) [1, 2, 3, 0] rfl ?_
            exact ih _ _ h
        · refine x_goto F (tgt := 178) d_M_prepare_134 (by decide) ?_
          refine x_iinc F 3 (v := (l4 + 1)) (lv' := [(4, .int (l4 + 1)), (0, va_rf (some th)), (1, .int l1), (3, .int l3)]) d_M_prepare_178 rfl (congrArg (fun z : Int32 => l4 + z) (by decide)) (by decide) rfl ?_
          refine x_goto F (tgt := 91) d_M_prepare_181 (by decide) ?_
          refine x_sub (lv' := [(0, va_rf (some th)), (1, .int l1), (3, .int l3), (4, .int (l4 + 1))]) [1, 2, 3, 0] rfl ?_
          exact ih _ _ h
set_option maxHeartbeats 4000000 in
set_option maxRecDepth 100000 in
theorem w_M_prepare_L66 {p : Program} {l : Launch} {e : Env} {s : State} {m : MethodId} {args : Array Value} {below : List Frame} {meth : Method} {c : Code} {C0 S0 : Nat} {D : va_G} {dA : Nat → ClassId} {base : Nat} {sa : Nat → Nat} (F : xFix p { frames := 1, cells := C0, slots := S0, locals := 25 } s m args meth c b_M_prepare 5 "BlockSearchModel" D dA base sa) (hret : meth.sig.returnType = none) {K : Unit → xS → Prop} {Kx190 : xS → Prop} (th : Nat) (l1 : Int32) (hKx190 : ∀ (G : xS), Kx190  G → X_M_prepare p l e s m args below meth c C0 S0 K D dA base sa 190 [(0, va_rf (some th)), (1, .int l1)] [] G) : ∀ (n : Nat) (l3 : Int32) (G : xS), p_M_prepare_L66 th l1 K Kx190 n l3 G → X_M_prepare p l e s m args below meth c C0 S0 K D dA base sa 66 [(0, va_rf (some th)), (1, .int l1), (3, .int l3)] [] G := by
  intro n
  induction n with
  | zero => intro l3 G h; exact h.elim
  | succ n ih =>
    intro l3 G h
    unfold p_M_prepare_L66 at h
    refine x_iload_n F 2 d_M_prepare_66 rfl rfl ?_
    refine x_aload_n F 0 d_M_prepare_67 rfl rfl ?_
    refine x_getI F cl_M in_M (k := 18) (by decide) k_619 rfl d_M_prepare_68 h (fun v11 h => ?_)
    refine x_icmp_ge F (tgt := 190) d_M_prepare_71 (by decide) h (fun q h => ?_) (fun q h => ?_)
    · refine x_sub (lv' := [(0, va_rf (some th)), (1, .int l1)]) [0, 1] rfl ?_
      exact hKx190  _ h
    · refine x_aload_n F 0 d_M_prepare_74 rfl rfl ?_
      refine x_getR F cl_M in_M (k := 28) (by decide) k_629 rfl d_M_prepare_75 h (fun v12 h => ?_)
      refine x_iload_n F 1 d_M_prepare_78 rfl rfl ?_
      refine x_iald F (t := 0) rfl d_M_prepare_79 h (fun v13 h => ?_)
      refine x_if_ne F (tgt := 190) d_M_prepare_80 (by decide) h (fun q h => ?_) (fun q h => ?_)
      · refine x_sub (lv' := [(0, va_rf (some th)), (1, .int l1)]) [0, 1] rfl ?_
        exact hKx190  _ h
      · refine x_aload_n F 0 d_M_prepare_83 rfl rfl ?_
        refine x_getR F cl_M in_M (k := 11) (by decide) k_612 rfl d_M_prepare_84 h (fun v14 h => ?_)
        refine x_iload_n F 2 d_M_prepare_87 rfl rfl ?_
        refine x_iald F (t := 0) rfl d_M_prepare_88 h (fun v15 h => ?_)
        refine x_istore F (lv' := [(4, .int v15), (0, va_rf (some th)), (1, .int l1), (3, .int l3)]) d_M_prepare_89 (by decide) rfl ?_
        refine x_sub (lv' := [(0, va_rf (some th)), (1, .int l1), (3, .int l3), (4, .int v15)]) [1, 2, 3, 0] rfl ?_
        refine w_M_prepare_L91 F hret th l1 l3 (fun G h => ?_) _ _ _ h
        refine x_iinc F 2 (v := (l3 + 1)) (lv' := [(3, .int (l3 + 1)), (0, va_rf (some th)), (1, .int l1)]) d_M_prepare_184 rfl (congrArg (fun z : Int32 => l3 + z) (by decide)) (by decide) rfl ?_
        refine x_goto F (tgt := 66) d_M_prepare_187 (by decide) ?_
        refine x_sub (lv' := [(0, va_rf (some th)), (1, .int l1), (3, .int (l3 + 1))]) [1, 2, 0] rfl ?_
        exact ih _ _ h
set_option maxHeartbeats 4000000 in
set_option maxRecDepth 100000 in
theorem w_M_prepare_L7 {p : Program} {l : Launch} {e : Env} {s : State} {m : MethodId} {args : Array Value} {below : List Frame} {meth : Method} {c : Code} {C0 S0 : Nat} {D : va_G} {dA : Nat → ClassId} {base : Nat} {sa : Nat → Nat} (F : xFix p { frames := 1, cells := C0, slots := S0, locals := 25 } s m args meth c b_M_prepare 5 "BlockSearchModel" D dA base sa) (hret : meth.sig.returnType = none) {K : Unit → xS → Prop} {Kx196 : xS → Prop} (th : Nat) (hKx196 : ∀ (G : xS), Kx196  G → X_M_prepare p l e s m args below meth c C0 S0 K D dA base sa 196 [] [] G) : ∀ (n : Nat) (l1 : Int32) (G : xS), p_M_prepare_L7 th K Kx196 n l1 G → X_M_prepare p l e s m args below meth c C0 S0 K D dA base sa 7 [(0, va_rf (some th)), (1, .int l1)] [] G := by
  intro n
  induction n with
  | zero => intro l1 G h; exact h.elim
  | succ n ih =>
    intro l1 G h
    unfold p_M_prepare_L7 at h
    refine x_iload_n F 1 d_M_prepare_7 rfl rfl ?_
    refine x_if_lt F (tgt := 196) d_M_prepare_8 (by decide) h (fun q h => ?_) (fun q h => ?_)
    · refine x_sub (lv' := []) [] rfl ?_
      exact hKx196  _ h
    · refine x_iload_n F 1 d_M_prepare_11 rfl rfl ?_
      refine x_iconst F (v := 1) d_M_prepare_12 (by decide) ?_
      refine x_iadd F d_M_prepare_13 ?_
      refine x_istore_n F (lv' := [(2, .int (l1 + 1)), (0, va_rf (some th)), (1, .int l1)]) d_M_prepare_14 rfl (by decide) rfl ?_
      refine x_iconst F (v := 0) d_M_prepare_15 (by decide) ?_
      refine x_istore_n F (lv' := [(3, .int 0), (2, .int (l1 + 1)), (0, va_rf (some th)), (1, .int l1)]) d_M_prepare_16 rfl (by decide) rfl ?_
      refine x_sub (lv' := [(0, va_rf (some th)), (1, .int l1), (2, .int (l1 + 1)), (3, .int 0)]) [2, 3, 1, 0] rfl ?_
      refine w_M_prepare_L17 F hret th l1 (fun m7 G h => ?_) _ _ _ _ h
      refine x_aload_n F 0 d_M_prepare_43 rfl rfl ?_
      refine x_getR F cl_M in_M (k := 32) (by decide) k_633 rfl d_M_prepare_44 h (fun v8 h => ?_)
      refine x_iload_n F 1 d_M_prepare_47 rfl rfl ?_
      refine x_iload_n F 2 d_M_prepare_48 rfl rfl ?_
      refine x_iast F (t := 0) rfl d_M_prepare_49 h (fun G h => ?_)
      refine x_aload_n F 0 d_M_prepare_50 rfl rfl ?_
      refine x_getR F cl_M in_M (k := 34) (by decide) k_635 rfl d_M_prepare_51 h (fun v9 h => ?_)
      refine x_iload_n F 1 d_M_prepare_54 rfl rfl ?_
      refine x_iconst F (v := 0) d_M_prepare_55 (by decide) ?_
      refine x_iast F (t := 0) rfl d_M_prepare_56 h (fun G h => ?_)
      refine x_aload_n F 0 d_M_prepare_57 rfl rfl ?_
      refine x_getR F cl_M in_M (k := 35) (by decide) k_636 rfl d_M_prepare_58 h (fun v10 h => ?_)
      refine x_iload_n F 1 d_M_prepare_61 rfl rfl ?_
      refine x_iconst F (v := 0) d_M_prepare_62 (by decide) ?_
      refine x_iast F (t := 0) rfl d_M_prepare_63 h (fun G h => ?_)
      refine x_iconst F (v := 0) d_M_prepare_64 (by decide) ?_
      refine x_istore_n F (lv' := [(3, .int 0), (0, va_rf (some th)), (1, .int l1), (2, .int m7)]) d_M_prepare_65 rfl (by decide) rfl ?_
      refine x_sub (lv' := [(0, va_rf (some th)), (1, .int l1), (3, .int 0)]) [1, 2, 0] rfl ?_
      refine w_M_prepare_L66 F hret th l1 (fun G h => ?_) _ _ _ h
      refine x_iinc F 1 (v := (l1 + (-1))) (lv' := [(1, .int (l1 + (-1))), (0, va_rf (some th))]) d_M_prepare_190 rfl (congrArg (fun z : Int32 => l1 + z) (by decide)) (by decide) rfl ?_
      refine x_goto F (tgt := 7) d_M_prepare_193 (by decide) ?_
      refine x_sub (lv' := [(0, va_rf (some th)), (1, .int (l1 + (-1)))]) [1, 0] rfl ?_
      exact ih _ _ h
set_option maxHeartbeats 4000000 in
set_option maxRecDepth 100000 in
theorem c_M_prepare (l : Launch) (D : va_G) (dA : Nat → ClassId) (base : Nat) (sa : Nat → Nat) (th : Nat) (K : Unit → xS → Prop) (G : xS) (h : p_M_prepare th K G) : xMet l y_M_prepare b_M_prepare 5 none 1 25 D dA base sa [va_rf (some th)] G (fun v G2 => ∃ r : Unit, v = none ∧ K r G2) := by
  refine xMet.of (by decide) (by simp [x_cat, x_catI]) (Nat.le_of_ble_eq_true rfl) ?_
  intro p e s m args below meth c F hret hname
  unfold p_M_prepare at h
  refine x_sub (lv' := [(0, va_rf (some th))]) [0] rfl ?_
  refine x_aload_n F 0 d_M_prepare_0 rfl rfl ?_
  refine x_getI F cl_M in_M (k := 36) (by decide) k_637 rfl d_M_prepare_1 h (fun v1 h => ?_)
  refine x_iconst F (v := 1) d_M_prepare_4 (by decide) ?_
  refine x_isub F d_M_prepare_5 ?_
  refine x_istore_n F (lv' := [(1, .int (v1 - 1)), (0, va_rf (some th))]) d_M_prepare_6 rfl (by decide) rfl ?_
  refine x_sub (lv' := [(0, va_rf (some th)), (1, .int (v1 - 1))]) [1, 0] rfl ?_
  refine w_M_prepare_L7 F hret th (fun G h => ?_) _ _ _ h
  exact x_vret F rfl hret d_M_prepare_196 ⟨(), rfl, h⟩
def p_M_set (th : Nat) (l1 : Int32) (l2 : Int32) (l3 : Int32) (l4 : Int32) (K : Unit → xS → Prop) : xS → Prop := xgR 10 38 (some th) fun v1 => xasZ 1 v1 ((10 * l1) + l2) l3 (xgR 10 39 (some th) fun v2 => xif (l3 = 0) (xas 0 v2 ((10 * l1) + l2) 0 (K ())) (xas 0 v2 ((10 * l1) + l2) l4 (K ())))
abbrev X_M_set (p : Program) (l : Launch) (e : Env) (s : State) (m : MethodId) (args : Array Value) (below : List Frame) (meth : Method) (c : Code) (C0 S0 : Nat) (K : Unit → xS → Prop) (D : va_G) (dA : Nat → ClassId) (base : Nat) (sa : Nat → Nat) (pc : Nat) (lv : List (Nat × Value)) (st : List Value) (G : xS) : Prop := xW p l e { frames := 0, cells := C0, slots := S0, locals := 0 } s m args below meth c 5 (MQ below (xQ D dA base (fun v G2 => ∃ r : Unit, v = (none : Option Value) ∧ K r G2)) args s C0 S0 (fun q : Nat => base ≤ q)) D dA base sa pc lv st G
set_option maxHeartbeats 4000000 in
set_option maxRecDepth 100000 in
theorem c_M_set (l : Launch) (D : va_G) (dA : Nat → ClassId) (base : Nat) (sa : Nat → Nat) (th : Nat) (l1 : Int32) (l2 : Int32) (l3 : Int32) (l4 : Int32) (K : Unit → xS → Prop) (G : xS) (h : p_M_set th l1 l2 l3 l4 K G) : xMet l y_M_set b_M_set 5 none 0 0 D dA base sa [va_rf (some th), .int l1, .int l2, .int l3, .int l4] G (fun v G2 => ∃ r : Unit, v = none ∧ K r G2) := by
  refine xMet.of (by decide) (by simp [x_cat, x_catI]) (Nat.le_of_ble_eq_true rfl) ?_
  intro p e s m args below meth c F hret hname
  unfold p_M_set at h
  refine x_sub (lv' := [(0, va_rf (some th)), (1, .int l1), (2, .int l2), (3, .int l3), (4, .int l4)]) [0, 1, 2, 3, 4] rfl ?_
  refine x_aload_n F 0 d_M_set_0 rfl rfl ?_
  refine x_getR F cl_M in_M (k := 38) (by decide) k_639 rfl d_M_set_1 h (fun v1 h => ?_)
  refine x_bipush F (v := 10) d_M_set_4 (by decide) ?_
  refine x_iload_n F 1 d_M_set_6 rfl rfl ?_
  refine x_imul F d_M_set_7 ?_
  refine x_iload_n F 2 d_M_set_8 rfl rfl ?_
  refine x_iadd F d_M_set_9 ?_
  refine x_iload_n F 3 d_M_set_10 rfl rfl ?_
  refine x_zast F (t := 1) rfl d_M_set_11 h (fun G h => ?_)
  refine x_aload_n F 0 d_M_set_12 rfl rfl ?_
  refine x_getR F cl_M in_M (k := 39) (by decide) k_640 rfl d_M_set_13 h (fun v2 h => ?_)
  refine x_bipush F (v := 10) d_M_set_16 (by decide) ?_
  refine x_iload_n F 1 d_M_set_18 rfl rfl ?_
  refine x_imul F d_M_set_19 ?_
  refine x_iload_n F 2 d_M_set_20 rfl rfl ?_
  refine x_iadd F d_M_set_21 ?_
  refine x_iload_n F 3 d_M_set_22 rfl rfl ?_
  refine x_if_eq F (tgt := 31) d_M_set_23 (by decide) h (fun q h => ?_) (fun q h => ?_)
  · refine x_iconst F (v := 0) d_M_set_31 (by decide) ?_
    refine x_iast F (t := 0) rfl d_M_set_32 h (fun G h => ?_)
    exact x_vret F rfl hret d_M_set_33 ⟨(), rfl, h⟩
  · refine x_iload F 4 d_M_set_26 rfl ?_
    refine x_goto F (tgt := 32) d_M_set_28 (by decide) ?_
    refine x_iast F (t := 0) rfl d_M_set_32 h (fun G h => ?_)
    exact x_vret F rfl hret d_M_set_33 ⟨(), rfl, h⟩
def p_M_nest_B119 (th : Nat) (l1 : Int32) (l2 : Int32) (l3 : Int32) (l4 : Int32) (l5 : Int32) (l6 : Int32) (l7 : Int32) (l8 : Int32) (l9 : Int32)  (K : Unit → xS → Prop) (Kb15 : Int32 → Int32 → Int32 → Int32 → Int32 → xS → Prop) (Kx151 : Int32 → Int32 → Int32 → Int32 → xS → Prop) : xS → Prop := xif (l4 = 0) (Kb15 (l4 + 1) (l5 + l9) l6 l9 (l8 + 1)) (xif (l9 ≤ l7) (Kb15 (l4 + 1) (l5 + l9) l6 l7 (l8 + 1)) (Kb15 (l4 + 1) (l5 + l9) l6 l9 (l8 + 1)))
def p_M_nest_B115 (th : Nat) (l1 : Int32) (l2 : Int32) (l3 : Int32) (l4 : Int32) (l5 : Int32) (l7 : Int32) (l8 : Int32) (l9 : Int32)  (K : Unit → xS → Prop) (Kb15 : Int32 → Int32 → Int32 → Int32 → Int32 → xS → Prop) (Kx151 : Int32 → Int32 → Int32 → Int32 → xS → Prop) : xS → Prop := p_M_nest_B119 th l1 l2 l3 l4 l5 l9 l7 l8 l9 K (Kb15) Kx151
def p_M_nest_L15 (th : Nat) (l1 : Int32) (l2 : Int32) (l3 : Int32) (K : Unit → xS → Prop) (Kx151 : Int32 → Int32 → Int32 → Int32 → xS → Prop) : Nat → Int32 → Int32 → Int32 → Int32 → Int32 → xS → Prop
  | 0, _, _, _, _, _ => fun _ => False
  | n + 1, l4, l5, l6, l7, l8 => xgR 10 12 (some th) fun v1 => xal 0 v1 l1 fun v2 => xif (v2 ≤ l8) (Kx151 l4 l5 l6 l7) (xgR 10 23 (some th) fun v3 => xgR 10 11 (some th) fun v4 => xal 0 v4 l1 fun v5 => xal 0 v3 (v5 + l8) fun v6 => xif (v6 = l3) (xgR 10 22 (some th) fun v7 => xgR 10 11 (some th) fun v8 => xal 0 v8 l1 fun v9 => xal 0 v7 (v9 + l8) fun v10 => xgR 10 29 (some th) fun v11 => xal 0 v11 l2 fun v12 => xif (v10 = v12) (xgR 10 38 (some th) fun v13 => xal 1 v13 ((10 * (l2 + 1)) + l8) fun v14 => xif (v14 = 0) (p_M_nest_L15 th l1 l2 l3 K Kx151 n l4 l5 l6 l7 (l8 + 1)) (xgR 10 39 (some th) fun v15 => xal 0 v15 ((10 * (l2 + 1)) + l8) fun v16 => xif (l4 = 0) (p_M_nest_B115 th l1 l2 l3 l4 l5 l7 l8 v16 K (p_M_nest_L15 th l1 l2 l3 K Kx151 n) Kx151) (xif (l6 ≤ v16) (p_M_nest_B119 th l1 l2 l3 l4 l5 l6 l7 l8 v16 K (p_M_nest_L15 th l1 l2 l3 K Kx151 n) Kx151) (p_M_nest_B115 th l1 l2 l3 l4 l5 l7 l8 v16 K (p_M_nest_L15 th l1 l2 l3 K Kx151 n) Kx151)))) (p_M_nest_L15 th l1 l2 l3 K Kx151 n l4 l5 l6 l7 (l8 + 1))) (p_M_nest_L15 th l1 l2 l3 K Kx151 n l4 l5 l6 l7 (l8 + 1)))
def p_M_nest_B212 (th : Nat) (l2 : Int32) (l3 : Int32) (l4 : Int32) (s0 : Int32) (K : Unit → xS → Prop) : xS → Prop := xif (l4 ≤ 0) (xob 10 (some th) fun b => xcall 0 0 (p_M_set b l2 l3 0 s0) fun _ => K ()) (xob 10 (some th) fun b => xcall 0 0 (p_M_set b l2 l3 1 s0) fun _ => K ())
def p_M_nest_B189 (th : Nat) (l2 : Int32) (l3 : Int32) (l4 : Int32) (l6 : Int32) (l7 : Int32) (l8 : Int32)  (K : Unit → xS → Prop) : xS → Prop := xif (l8 = 3) (p_M_nest_B212 th l2 l3 l4 l6 K) (xif (l8 = 4) (p_M_nest_B212 th l2 l3 l4 l7 K) (p_M_nest_B212 th l2 l3 l4 0 K))
def p_M_nest (th : Nat) (l1 : Int32) (l2 : Int32) (l3 : Int32) (K : Unit → xS → Prop) : xS → Prop := p_M_nest_L15 th l1 l2 l3 K (fun m17 m18 m19 m20 => xgR 10 30 (some th) fun v21 => xal 0 v21 l2 fun v22 => xif (v22 = 1) (p_M_nest_B212 th l2 l3 m17 m18 K) (xif (v22 = 2) (xif (m17 ≤ 0) (p_M_nest_B189 th l2 l3 m17 m19 m20 v22 K) (xdiv m18 m17 fun _ => p_M_nest_B212 th l2 l3 m17 (m18 / m17) K)) (p_M_nest_B189 th l2 l3 m17 m19 m20 v22 K))) 1000 0 0 0 0 0
abbrev X_M_nest (p : Program) (l : Launch) (e : Env) (s : State) (m : MethodId) (args : Array Value) (below : List Frame) (meth : Method) (c : Code) (C0 S0 : Nat) (K : Unit → xS → Prop) (D : va_G) (dA : Nat → ClassId) (base : Nat) (sa : Nat → Nat) (pc : Nat) (lv : List (Nat × Value)) (st : List Value) (G : xS) : Prop := xW p l e { frames := 1, cells := C0, slots := S0, locals := 24 } s m args below meth c 10 (MQ below (xQ D dA base (fun v G2 => ∃ r : Unit, v = (none : Option Value) ∧ K r G2)) args s C0 S0 (fun q : Nat => base ≤ q)) D dA base sa pc lv st G
set_option maxHeartbeats 4000000 in
set_option maxRecDepth 100000 in
theorem w_M_nest_B119 {p : Program} {l : Launch} {e : Env} {s : State} {m : MethodId} {args : Array Value} {below : List Frame} {meth : Method} {c : Code} {C0 S0 : Nat} {D : va_G} {dA : Nat → ClassId} {base : Nat} {sa : Nat → Nat} (F : xFix p { frames := 1, cells := C0, slots := S0, locals := 24 } s m args meth c b_M_nest 10 "BlockSearchModel" D dA base sa) (hret : meth.sig.returnType = none) {K : Unit → xS → Prop} {Kb15 : Int32 → Int32 → Int32 → Int32 → Int32 → xS → Prop} {Kx151 : Int32 → Int32 → Int32 → Int32 → xS → Prop} (th : Nat) (l1 : Int32) (l2 : Int32) (l3 : Int32) (l4 : Int32) (l5 : Int32) (l6 : Int32) (l7 : Int32) (l8 : Int32) (l9 : Int32)  (hKb15 : ∀ (m4 : Int32) (m5 : Int32) (m6 : Int32) (m7 : Int32) (m8 : Int32) (G : xS), Kb15 m4 m5 m6 m7 m8 G → X_M_nest p l e s m args below meth c C0 S0 K D dA base sa 15 [(0, va_rf (some th)), (1, .int l1), (2, .int l2), (3, .int l3), (4, .int m4), (5, .int m5), (6, .int m6), (7, .int m7), (8, .int m8)] [] G) (hKx151 : ∀ (m4 : Int32) (m5 : Int32) (m6 : Int32) (m7 : Int32) (G : xS), Kx151 m4 m5 m6 m7 G → X_M_nest p l e s m args below meth c C0 S0 K D dA base sa 151 [(0, va_rf (some th)), (2, .int l2), (3, .int l3), (4, .int m4), (5, .int m5), (6, .int m6), (7, .int m7)] [] G) {G : xS} (h : p_M_nest_B119 th l1 l2 l3 l4 l5 l6 l7 l8 l9 K Kb15 Kx151 G) : X_M_nest p l e s m args below meth c C0 S0 K D dA base sa 119 [(0, va_rf (some th)), (1, .int l1), (2, .int l2), (3, .int l3), (4, .int l4), (5, .int l5), (6, .int l6), (7, .int l7), (8, .int l8), (9, .int l9)] [] G := by
  unfold p_M_nest_B119 at h
  refine x_iload F 4 d_M_nest_119 rfl ?_
  refine x_if_eq F (tgt := 131) d_M_nest_121 (by decide) h (fun q h => ?_) (fun q h => ?_)
  · refine x_iload F 9 d_M_nest_131 rfl ?_
    refine x_istore F (lv' := [(7, .int l9), (0, va_rf (some th)), (1, .int l1), (2, .int l2), (3, .int l3), (4, .int l4), (5, .int l5), (6, .int l6), (8, .int l8), (9, .int l9)]) d_M_nest_133 (by decide) rfl ?_
    refine x_iload F 6 d_M_nest_135 rfl ?_
    refine x_iload F 9 d_M_nest_137 rfl ?_
    refine x_iadd F d_M_nest_139 ?_
    refine x_istore F (lv' := [(5, .int (l5 + l9)), (7, .int l9), (0, va_rf (some th)), (1, .int l1), (2, .int l2), (3, .int l3), (4, .int l4), (6, .int l6), (8, .int l8), (9, .int l9)]) d_M_nest_140 (by decide) rfl ?_
    refine x_iinc F 6 (v := (l4 + 1)) (lv' := [(4, .int (l4 + 1)), (5, .int (l5 + l9)), (7, .int l9), (0, va_rf (some th)), (1, .int l1), (2, .int l2), (3, .int l3), (6, .int l6), (8, .int l8), (9, .int l9)]) d_M_nest_142 rfl (congrArg (fun z : Int32 => l4 + z) (by decide)) (by decide) rfl ?_
    refine x_iinc F 8 (v := (l8 + 1)) (lv' := [(8, .int (l8 + 1)), (4, .int (l4 + 1)), (5, .int (l5 + l9)), (7, .int l9), (0, va_rf (some th)), (1, .int l1), (2, .int l2), (3, .int l3), (6, .int l6), (9, .int l9)]) d_M_nest_145 rfl (congrArg (fun z : Int32 => l8 + z) (by decide)) (by decide) rfl ?_
    refine x_goto F (tgt := 15) d_M_nest_148 (by decide) ?_
    refine x_sub (lv' := [(0, va_rf (some th)), (1, .int l1), (2, .int l2), (3, .int l3), (4, .int (l4 + 1)), (5, .int (l5 + l9)), (6, .int l6), (7, .int l9), (8, .int (l8 + 1))]) [4, 5, 6, 7, 1, 2, 8, 3, 0] rfl ?_
    exact hKb15 _ _ _ _ _ _ h
  · refine x_iload F 9 d_M_nest_124 rfl ?_
    refine x_iload F 7 d_M_nest_126 rfl ?_
    refine x_icmp_le F (tgt := 135) d_M_nest_128 (by decide) h (fun q h => ?_) (fun q h => ?_)
    · refine x_iload F 5 d_M_nest_135 rfl ?_
      refine x_iload F 9 d_M_nest_137 rfl ?_
      refine x_iadd F d_M_nest_139 ?_
      refine x_istore F (lv' := [(5, .int (l5 + l9)), (0, va_rf (some th)), (1, .int l1), (2, .int l2), (3, .int l3), (4, .int l4), (6, .int l6), (7, .int l7), (8, .int l8), (9, .int l9)]) d_M_nest_140 (by decide) rfl ?_
      refine x_iinc F 5 (v := (l4 + 1)) (lv' := [(4, .int (l4 + 1)), (5, .int (l5 + l9)), (0, va_rf (some th)), (1, .int l1), (2, .int l2), (3, .int l3), (6, .int l6), (7, .int l7), (8, .int l8), (9, .int l9)]) d_M_nest_142 rfl (congrArg (fun z : Int32 => l4 + z) (by decide)) (by decide) rfl ?_
      refine x_iinc F 8 (v := (l8 + 1)) (lv' := [(8, .int (l8 + 1)), (4, .int (l4 + 1)), (5, .int (l5 + l9)), (0, va_rf (some th)), (1, .int l1), (2, .int l2), (3, .int l3), (6, .int l6), (7, .int l7), (9, .int l9)]) d_M_nest_145 rfl (congrArg (fun z : Int32 => l8 + z) (by decide)) (by decide) rfl ?_
      refine x_goto F (tgt := 15) d_M_nest_148 (by decide) ?_
      refine x_sub (lv' := [(0, va_rf (some th)), (1, .int l1), (2, .int l2), (3, .int l3), (4, .int (l4 + 1)), (5, .int (l5 + l9)), (6, .int l6), (7, .int l7), (8, .int (l8 + 1))]) [3, 4, 5, 6, 1, 2, 7, 8, 0] rfl ?_
      exact hKb15 _ _ _ _ _ _ h
    · refine x_iload F 9 d_M_nest_131 rfl ?_
      refine x_istore F (lv' := [(7, .int l9), (0, va_rf (some th)), (1, .int l1), (2, .int l2), (3, .int l3), (4, .int l4), (5, .int l5), (6, .int l6), (8, .int l8), (9, .int l9)]) d_M_nest_133 (by decide) rfl ?_
      refine x_iload F 6 d_M_nest_135 rfl ?_
      refine x_iload F 9 d_M_nest_137 rfl ?_
      refine x_iadd F d_M_nest_139 ?_
      refine x_istore F (lv' := [(5, .int (l5 + l9)), (7, .int l9), (0, va_rf (some th)), (1, .int l1), (2, .int l2), (3, .int l3), (4, .int l4), (6, .int l6), (8, .int l8), (9, .int l9)]) d_M_nest_140 (by decide) rfl ?_
      refine x_iinc F 6 (v := (l4 + 1)) (lv' := [(4, .int (l4 + 1)), (5, .int (l5 + l9)), (7, .int l9), (0, va_rf (some th)), (1, .int l1), (2, .int l2), (3, .int l3), (6, .int l6), (8, .int l8), (9, .int l9)]) d_M_nest_142 rfl (congrArg (fun z : Int32 => l4 + z) (by decide)) (by decide) rfl ?_
      refine x_iinc F 8 (v := (l8 + 1)) (lv' := [(8, .int (l8 + 1)), (4, .int (l4 + 1)), (5, .int (l5 + l9)), (7, .int l9), (0, va_rf (some th)), (1, .int l1), (2, .int l2), (3, .int l3), (6, .int l6), (9, .int l9)]) d_M_nest_145 rfl (congrArg (fun z : Int32 => l8 + z) (by decide)) (by decide) rfl ?_
      refine x_goto F (tgt := 15) d_M_nest_148 (by decide) ?_
      refine x_sub (lv' := [(0, va_rf (some th)), (1, .int l1), (2, .int l2), (3, .int l3), (4, .int (l4 + 1)), (5, .int (l5 + l9)), (6, .int l6), (7, .int l9), (8, .int (l8 + 1))]) [4, 5, 6, 7, 1, 2, 8, 3, 0] rfl ?_
      exact hKb15 _ _ _ _ _ _ h
set_option maxHeartbeats 4000000 in
set_option maxRecDepth 100000 in
theorem w_M_nest_B115 {p : Program} {l : Launch} {e : Env} {s : State} {m : MethodId} {args : Array Value} {below : List Frame} {meth : Method} {c : Code} {C0 S0 : Nat} {D : va_G} {dA : Nat → ClassId} {base : Nat} {sa : Nat → Nat} (F : xFix p { frames := 1, cells := C0, slots := S0, locals := 24 } s m args meth c b_M_nest 10 "BlockSearchModel" D dA base sa) (hret : meth.sig.returnType = none) {K : Unit → xS → Prop} {Kb15 : Int32 → Int32 → Int32 → Int32 → Int32 → xS → Prop} {Kx151 : Int32 → Int32 → Int32 → Int32 → xS → Prop} (th : Nat) (l1 : Int32) (l2 : Int32) (l3 : Int32) (l4 : Int32) (l5 : Int32) (l7 : Int32) (l8 : Int32) (l9 : Int32)  (hKb15 : ∀ (m4 : Int32) (m5 : Int32) (m6 : Int32) (m7 : Int32) (m8 : Int32) (G : xS), Kb15 m4 m5 m6 m7 m8 G → X_M_nest p l e s m args below meth c C0 S0 K D dA base sa 15 [(0, va_rf (some th)), (1, .int l1), (2, .int l2), (3, .int l3), (4, .int m4), (5, .int m5), (6, .int m6), (7, .int m7), (8, .int m8)] [] G) (hKx151 : ∀ (m4 : Int32) (m5 : Int32) (m6 : Int32) (m7 : Int32) (G : xS), Kx151 m4 m5 m6 m7 G → X_M_nest p l e s m args below meth c C0 S0 K D dA base sa 151 [(0, va_rf (some th)), (2, .int l2), (3, .int l3), (4, .int m4), (5, .int m5), (6, .int m6), (7, .int m7)] [] G) {G : xS} (h : p_M_nest_B115 th l1 l2 l3 l4 l5 l7 l8 l9 K Kb15 Kx151 G) : X_M_nest p l e s m args below meth c C0 S0 K D dA base sa 115 [(0, va_rf (some th)), (1, .int l1), (2, .int l2), (3, .int l3), (4, .int l4), (5, .int l5), (7, .int l7), (8, .int l8), (9, .int l9)] [] G := by
  unfold p_M_nest_B115 at h
  refine x_iload F 8 d_M_nest_115 rfl ?_
  refine x_istore F (lv' := [(6, .int l9), (0, va_rf (some th)), (1, .int l1), (2, .int l2), (3, .int l3), (4, .int l4), (5, .int l5), (7, .int l7), (8, .int l8), (9, .int l9)]) d_M_nest_117 (by decide) rfl ?_
  refine x_sub (lv' := [(0, va_rf (some th)), (1, .int l1), (2, .int l2), (3, .int l3), (4, .int l4), (5, .int l5), (6, .int l9), (7, .int l7), (8, .int l8), (9, .int l9)]) [1, 2, 3, 4, 5, 6, 0, 7, 8, 9] rfl ?_
  exact w_M_nest_B119 F hret th l1 l2 l3 l4 l5 l9 l7 l8 l9 hKb15 hKx151 h
set_option maxHeartbeats 4000000 in
set_option maxRecDepth 100000 in
theorem w_M_nest_L15 {p : Program} {l : Launch} {e : Env} {s : State} {m : MethodId} {args : Array Value} {below : List Frame} {meth : Method} {c : Code} {C0 S0 : Nat} {D : va_G} {dA : Nat → ClassId} {base : Nat} {sa : Nat → Nat} (F : xFix p { frames := 1, cells := C0, slots := S0, locals := 24 } s m args meth c b_M_nest 10 "BlockSearchModel" D dA base sa) (hret : meth.sig.returnType = none) {K : Unit → xS → Prop} {Kx151 : Int32 → Int32 → Int32 → Int32 → xS → Prop} (th : Nat) (l1 : Int32) (l2 : Int32) (l3 : Int32) (hKx151 : ∀ (l4 : Int32) (l5 : Int32) (l6 : Int32) (l7 : Int32) (G : xS), Kx151 l4 l5 l6 l7 G → X_M_nest p l e s m args below meth c C0 S0 K D dA base sa 151 [(0, va_rf (some th)), (2, .int l2), (3, .int l3), (4, .int l4), (5, .int l5), (6, .int l6), (7, .int l7)] [] G) : ∀ (n : Nat) (l4 : Int32) (l5 : Int32) (l6 : Int32) (l7 : Int32) (l8 : Int32) (G : xS), p_M_nest_L15 th l1 l2 l3 K Kx151 n l4 l5 l6 l7 l8 G → X_M_nest p l e s m args below meth c C0 S0 K D dA base sa 15 [(0, va_rf (some th)), (1, .int l1), (2, .int l2), (3, .int l3), (4, .int l4), (5, .int l5), (6, .int l6), (7, .int l7), (8, .int l8)] [] G := by
  intro n
  induction n with
  | zero => intro l4 l5 l6 l7 l8 G h; exact h.elim
  | succ n ih =>
    intro l4 l5 l6 l7 l8 G h
    unfold p_M_nest_L15 at h
    refine x_iload F 8 d_M_nest_15 rfl ?_
    refine x_aload_n F 0 d_M_nest_17 rfl rfl ?_
    refine x_getR F cl_M in_M (k := 12) (by decide) k_613 rfl d_M_nest_18 h (fun v1 h => ?_)
    refine x_iload_n F 1 d_M_nest_21 rfl rfl ?_
    refine x_iald F (t := 0) rfl d_M_nest_22 h (fun v2 h => ?_)
    refine x_icmp_ge F (tgt := 151) d_M_nest_23 (by decide) h (fun q h => ?_) (fun q h => ?_)
    · refine x_sub (lv' := [(0, va_rf (some th)), (2, .int l2), (3, .int l3), (4, .int l4), (5, .int l5), (6, .int l6), (7, .int l7)]) [0, 2, 3, 4, 5, 6, 7] rfl ?_
      exact hKx151 _ _ _ _ _ h
    · refine x_aload_n F 0 d_M_nest_26 rfl rfl ?_
      refine x_getR F cl_M in_M (k := 23) (by decide) k_624 rfl d_M_nest_27 h (fun v3 h => ?_)
      refine x_aload_n F 0 d_M_nest_30 rfl rfl ?_
      refine x_getR F cl_M in_M (k := 11) (by decide) k_612 rfl d_M_nest_31 h (fun v4 h => ?_)
      refine x_iload_n F 1 d_M_nest_34 rfl rfl ?_
      refine x_iald F (t := 0) rfl d_M_nest_35 h (fun v5 h => ?_)
      refine x_iload F 8 d_M_nest_36 rfl ?_
      refine x_iadd F d_M_nest_38 ?_
      refine x_iald F (t := 0) rfl d_M_nest_39 h (fun v6 h => ?_)
      refine x_iload_n F 3 d_M_nest_40 rfl rfl ?_
      refine x_icmp_ne F (tgt := 145) d_M_nest_41 (by decide) h (fun q h => ?_) (fun q h => ?_)
      · refine x_iinc F 8 (v := (l8 + 1)) (lv' := [(8, .int (l8 + 1)), (0, va_rf (some th)), (1, .int l1), (2, .int l2), (3, .int l3), (4, .int l4), (5, .int l5), (6, .int l6), (7, .int l7)]) d_M_nest_145 rfl (congrArg (fun z : Int32 => l8 + z) (by decide)) (by decide) rfl ?_
        refine x_goto F (tgt := 15) d_M_nest_148 (by decide) ?_
        refine x_sub (lv' := [(0, va_rf (some th)), (1, .int l1), (2, .int l2), (3, .int l3), (4, .int l4), (5, .int l5), (6, .int l6), (7, .int l7), (8, .int (l8 + 1))]) [1, 2, 3, 4, 5, 6, 7, 8, 0] rfl ?_
        exact ih _ _ _ _ _ _ h
      · refine x_aload_n F 0 d_M_nest_44 rfl rfl ?_
        refine x_getR F cl_M in_M (k := 22) (by decide) k_623 rfl d_M_nest_45 h (fun v7 h => ?_)
        refine x_aload_n F 0 d_M_nest_48 rfl rfl ?_
        refine x_getR F cl_M in_M (k := 11) (by decide) k_612 rfl d_M_nest_49 h (fun v8 h => ?_)
        refine x_iload_n F 1 d_M_nest_52 rfl rfl ?_
        refine x_iald F (t := 0) rfl d_M_nest_53 h (fun v9 h => ?_)
        refine x_iload F 8 d_M_nest_54 rfl ?_
        refine x_iadd F d_M_nest_56 ?_
        refine x_iald F (t := 0) rfl d_M_nest_57 h (fun v10 h => ?_)
        refine x_aload_n F 0 d_M_nest_58 rfl rfl ?_
        refine x_getR F cl_M in_M (k := 29) (by decide) k_630 rfl d_M_nest_59 h (fun v11 h => ?_)
        refine x_iload_n F 2 d_M_nest_62 rfl rfl ?_
        refine x_iald F (t := 0) rfl d_M_nest_63 h (fun v12 h => ?_)
        refine x_icmp_ne F (tgt := 145) d_M_nest_64 (by decide) h (fun q h => ?_) (fun q h => ?_)
        · refine x_iinc F 8 (v := (l8 + 1)) (lv' := [(8, .int (l8 + 1)), (0, va_rf (some th)), (1, .int l1), (2, .int l2), (3, .int l3), (4, .int l4), (5, .int l5), (6, .int l6), (7, .int l7)]) d_M_nest_145 rfl (congrArg (fun z : Int32 => l8 + z) (by decide)) (by decide) rfl ?_
          refine x_goto F (tgt := 15) d_M_nest_148 (by decide) ?_
          refine x_sub (lv' := [(0, va_rf (some th)), (1, .int l1), (2, .int l2), (3, .int l3), (4, .int l4), (5, .int l5), (6, .int l6), (7, .int l7), (8, .int (l8 + 1))]) [1, 2, 3, 4, 5, 6, 7, 8, 0] rfl ?_
          exact ih _ _ _ _ _ _ h
        · refine x_aload_n F 0 d_M_nest_67 rfl rfl ?_
          refine x_getR F cl_M in_M (k := 38) (by decide) k_639 rfl d_M_nest_68 h (fun v13 h => ?_)
          refine x_bipush F (v := 10) d_M_nest_71 (by decide) ?_
          refine x_iload_n F 2 d_M_nest_73 rfl rfl ?_
          refine x_iconst F (v := 1) d_M_nest_74 (by decide) ?_
          refine x_iadd F d_M_nest_75 ?_
          refine x_imul F d_M_nest_76 ?_
          refine x_iload F 8 d_M_nest_77 rfl ?_
          refine x_iadd F d_M_nest_79 ?_
          refine x_zald F (t := 1) rfl d_M_nest_80 h (fun v14 h => ?_)
          refine x_if_ne F (tgt := 87) d_M_nest_81 (by decide) h (fun q h => ?_) (fun q h => ?_)
          · refine x_aload_n F 0 d_M_nest_87 rfl rfl ?_
            refine x_getR F cl_M in_M (k := 39) (by decide) k_640 rfl d_M_nest_88 h (fun v15 h => ?_)
            refine x_bipush F (v := 10) d_M_nest_91 (by decide) ?_
            refine x_iload_n F 2 d_M_nest_93 rfl rfl ?_
            refine x_iconst F (v := 1) d_M_nest_94 (by decide) ?_
            refine x_iadd F d_M_nest_95 ?_
            refine x_imul F d_M_nest_96 ?_
            refine x_iload F 8 d_M_nest_97 rfl ?_
            refine x_iadd F d_M_nest_99 ?_
            refine x_iald F (t := 0) rfl d_M_nest_100 h (fun v16 h => ?_)
            refine x_istore F (lv' := [(9, .int v16), (0, va_rf (some th)), (1, .int l1), (2, .int l2), (3, .int l3), (4, .int l4), (5, .int l5), (6, .int l6), (7, .int l7), (8, .int l8)]) d_M_nest_101 (by decide) rfl ?_
            refine x_iload F 5 d_M_nest_103 rfl ?_
            refine x_if_eq F (tgt := 115) d_M_nest_105 (by decide) h (fun q h => ?_) (fun q h => ?_)
            · refine x_sub (lv' := [(0, va_rf (some th)), (1, .int l1), (2, .int l2), (3, .int l3), (4, .int l4), (5, .int l5), (7, .int l7), (8, .int l8), (9, .int v16)]) [1, 2, 3, 4, 5, 6, 8, 9, 0] rfl ?_
              exact w_M_nest_B115 F hret th l1 l2 l3 l4 l5 l7 l8 v16 ih hKx151 h
            · refine x_iload F 0 d_M_nest_108 rfl ?_
              refine x_iload F 7 d_M_nest_110 rfl ?_
              refine x_icmp_ge F (tgt := 119) d_M_nest_112 (by decide) h (fun q h => ?_) (fun q h => ?_)
              · refine x_sub (lv' := [(0, va_rf (some th)), (1, .int l1), (2, .int l2), (3, .int l3), (4, .int l4), (5, .int l5), (6, .int l6), (7, .int l7), (8, .int l8), (9, .int v16)]) [1, 2, 3, 4, 5, 6, 7, 8, 9, 0] rfl ?_
                exact w_M_nest_B119 F hret th l1 l2 l3 l4 l5 l6 l7 l8 v16 ih hKx151 h
              · refine x_sub (lv' := [(0, va_rf (some th)), (1, .int l1), (2, .int l2), (3, .int l3), (4, .int l4), (5, .int l5), (7, .int l7), (8, .int l8), (9, .int v16)]) [1, 2, 3, 4, 5, 6, 8, 9, 0] rfl ?_
                exact w_M_nest_B115 F hret th l1 l2 l3 l4 l5 l7 l8 v16 ih hKx151 h
          · refine x_goto F (tgt := 145) d_M_nest_84 (by decide) ?_
            refine x_iinc F 8 (v := (l8 + 1)) (lv' := [(8, .int (l8 + 1)), (0, va_rf (some th)), (1, .int l1), (2, .int l2), (3, .int l3), (4, .int l4), (5, .int l5), (6, .int l6), (7, .int l7)]) d_M_nest_145 rfl (congrArg (fun z : Int32 => l8 + z) (by decide)) (by decide) rfl ?_
            refine x_goto F (tgt := 15) d_M_nest_148 (by decide) ?_
            refine x_sub (lv' := [(0, va_rf (some th)), (1, .int l1), (2, .int l2), (3, .int l3), (4, .int l4), (5, .int l5), (6, .int l6), (7, .int l7), (8, .int (l8 + 1))]) [1, 2, 3, 4, 5, 6, 7, 8, 0] rfl ?_
            exact ih _ _ _ _ _ _ h
set_option maxHeartbeats 4000000 in
set_option maxRecDepth 100000 in
theorem w_M_nest_B212 {p : Program} {l : Launch} {e : Env} {s : State} {m : MethodId} {args : Array Value} {below : List Frame} {meth : Method} {c : Code} {C0 S0 : Nat} {D : va_G} {dA : Nat → ClassId} {base : Nat} {sa : Nat → Nat} (F : xFix p { frames := 1, cells := C0, slots := S0, locals := 24 } s m args meth c b_M_nest 10 "BlockSearchModel" D dA base sa) (hret : meth.sig.returnType = none) {K : Unit → xS → Prop} (th : Nat) (l2 : Int32) (l3 : Int32) (l4 : Int32) (s0 : Int32) {G : xS} (h : p_M_nest_B212 th l2 l3 l4 s0 K  G) : X_M_nest p l e s m args below meth c C0 S0 K D dA base sa 212 [(0, va_rf (some th)), (2, .int l2), (3, .int l3), (4, .int l4)] [.int s0] G := by
  unfold p_M_nest_B212 at h
  refine x_istore F (lv' := [(9, .int s0), (0, va_rf (some th)), (2, .int l2), (3, .int l3), (4, .int l4)]) d_M_nest_212 (by decide) rfl ?_
  refine x_aload_n F 1 d_M_nest_214 rfl rfl ?_
  refine x_iload_n F 2 d_M_nest_215 rfl rfl ?_
  refine x_iload_n F 3 d_M_nest_216 rfl rfl ?_
  refine x_iload F 4 d_M_nest_217 rfl ?_
  refine x_if_le F (tgt := 226) d_M_nest_219 (by decide) h (fun q h => ?_) (fun q h => ?_)
  · refine x_iconst F (v := 0) d_M_nest_226 (by decide) ?_
    refine x_iload F 0 d_M_nest_227 rfl ?_
    refine x_callV F (enc := fun r => none) (P := fun b => p_M_set b l2 l3 0 s0) (n := 4) (As := [.int l2, .int l3, .int 0, .int s0]) (st := []) k_847 k_9 k_846 kp_20 k_844 ⟨by decide, by decide, by decide +kernel⟩ rfl ⟨Nat.le_of_ble_eq_true rfl, Nat.le_of_ble_eq_true rfl⟩ (by simp [x_cat, x_catI, x_catL]) cl_M rfl (ro := some th) (fun b K' G' h' _ => c_M_set l D dA base sa b l2 l3 0 s0 K' G' h') d_M_nest_229 h (fun _ G h => ?_)
    exact x_vret F rfl hret d_M_nest_232 ⟨(), rfl, h⟩
  · refine x_iconst F (v := 1) d_M_nest_222 (by decide) ?_
    refine x_goto F (tgt := 227) d_M_nest_223 (by decide) ?_
    refine x_iload F 0 d_M_nest_227 rfl ?_
    refine x_callV F (enc := fun r => none) (P := fun b => p_M_set b l2 l3 1 s0) (n := 4) (As := [.int l2, .int l3, .int 1, .int s0]) (st := []) k_847 k_9 k_846 kp_20 k_844 ⟨by decide, by decide, by decide +kernel⟩ rfl ⟨Nat.le_of_ble_eq_true rfl, Nat.le_of_ble_eq_true rfl⟩ (by simp [x_cat, x_catI, x_catL]) cl_M rfl (ro := some th) (fun b K' G' h' _ => c_M_set l D dA base sa b l2 l3 1 s0 K' G' h') d_M_nest_229 h (fun _ G h => ?_)
    exact x_vret F rfl hret d_M_nest_232 ⟨(), rfl, h⟩
set_option maxHeartbeats 4000000 in
set_option maxRecDepth 100000 in
theorem w_M_nest_B189 {p : Program} {l : Launch} {e : Env} {s : State} {m : MethodId} {args : Array Value} {below : List Frame} {meth : Method} {c : Code} {C0 S0 : Nat} {D : va_G} {dA : Nat → ClassId} {base : Nat} {sa : Nat → Nat} (F : xFix p { frames := 1, cells := C0, slots := S0, locals := 24 } s m args meth c b_M_nest 10 "BlockSearchModel" D dA base sa) (hret : meth.sig.returnType = none) {K : Unit → xS → Prop} (th : Nat) (l2 : Int32) (l3 : Int32) (l4 : Int32) (l6 : Int32) (l7 : Int32) (l8 : Int32)  {G : xS} (h : p_M_nest_B189 th l2 l3 l4 l6 l7 l8 K  G) : X_M_nest p l e s m args below meth c C0 S0 K D dA base sa 189 [(0, va_rf (some th)), (2, .int l2), (3, .int l3), (4, .int l4), (6, .int l6), (7, .int l7), (8, .int l8)] [] G := by
  unfold p_M_nest_B189 at h
  refine x_iload F 6 d_M_nest_189 rfl ?_
  refine x_iconst F (v := 3) d_M_nest_191 (by decide) ?_
  refine x_icmp_ne F (tgt := 200) d_M_nest_192 (by decide) h (fun q h => ?_) (fun q h => ?_)
  · refine x_iload F 6 d_M_nest_200 rfl ?_
    refine x_iconst F (v := 4) d_M_nest_202 (by decide) ?_
    refine x_icmp_ne F (tgt := 211) d_M_nest_203 (by decide) h (fun q h => ?_) (fun q h => ?_)
    · refine x_iconst F (v := 0) d_M_nest_211 (by decide) ?_
      refine x_sub (lv' := [(0, va_rf (some th)), (2, .int l2), (3, .int l3), (4, .int l4)]) [0, 1, 2, 3] rfl ?_
      exact w_M_nest_B212 F hret th l2 l3 l4 0 h
    · refine x_iload F 5 d_M_nest_206 rfl ?_
      refine x_goto F (tgt := 212) d_M_nest_208 (by decide) ?_
      refine x_sub (lv' := [(0, va_rf (some th)), (2, .int l2), (3, .int l3), (4, .int l4)]) [0, 1, 2, 3] rfl ?_
      exact w_M_nest_B212 F hret th l2 l3 l4 l7 h
  · refine x_iload F 4 d_M_nest_195 rfl ?_
    refine x_goto F (tgt := 212) d_M_nest_197 (by decide) ?_
    refine x_sub (lv' := [(0, va_rf (some th)), (2, .int l2), (3, .int l3), (4, .int l4)]) [0, 1, 2, 3] rfl ?_
    exact w_M_nest_B212 F hret th l2 l3 l4 l6 h
set_option maxHeartbeats 4000000 in
set_option maxRecDepth 100000 in
theorem c_M_nest (l : Launch) (D : va_G) (dA : Nat → ClassId) (base : Nat) (sa : Nat → Nat) (th : Nat) (l1 : Int32) (l2 : Int32) (l3 : Int32) (K : Unit → xS → Prop) (G : xS) (h : p_M_nest th l1 l2 l3 K G) : xMet l y_M_nest b_M_nest 10 none 1 24 D dA base sa [va_rf (some th), .int l1, .int l2, .int l3] G (fun v G2 => ∃ r : Unit, v = none ∧ K r G2) := by
  refine xMet.of (by decide) (by simp [x_cat, x_catI]) (Nat.le_of_ble_eq_true rfl) ?_
  intro p e s m args below meth c F hret hname
  unfold p_M_nest at h
  refine x_sub (lv' := [(0, va_rf (some th)), (1, .int l1), (2, .int l2), (3, .int l3)]) [0, 1, 2, 3] rfl ?_
  refine x_iconst F (v := 0) d_M_nest_0 (by decide) ?_
  refine x_istore F (lv' := [(4, .int 0), (0, va_rf (some th)), (1, .int l1), (2, .int l2), (3, .int l3)]) d_M_nest_1 (by decide) rfl ?_
  refine x_iconst F (v := 0) d_M_nest_3 (by decide) ?_
  refine x_istore F (lv' := [(5, .int 0), (4, .int 0), (0, va_rf (some th)), (1, .int l1), (2, .int l2), (3, .int l3)]) d_M_nest_4 (by decide) rfl ?_
  refine x_iconst F (v := 0) d_M_nest_6 (by decide) ?_
  refine x_istore F (lv' := [(6, .int 0), (5, .int 0), (4, .int 0), (0, va_rf (some th)), (1, .int l1), (2, .int l2), (3, .int l3)]) d_M_nest_7 (by decide) rfl ?_
  refine x_iconst F (v := 0) d_M_nest_9 (by decide) ?_
  refine x_istore F (lv' := [(7, .int 0), (6, .int 0), (5, .int 0), (4, .int 0), (0, va_rf (some th)), (1, .int l1), (2, .int l2), (3, .int l3)]) d_M_nest_10 (by decide) rfl ?_
  refine x_iconst F (v := 0) d_M_nest_12 (by decide) ?_
  refine x_istore F (lv' := [(8, .int 0), (7, .int 0), (6, .int 0), (5, .int 0), (4, .int 0), (0, va_rf (some th)), (1, .int l1), (2, .int l2), (3, .int l3)]) d_M_nest_13 (by decide) rfl ?_
  refine x_sub (lv' := [(0, va_rf (some th)), (1, .int l1), (2, .int l2), (3, .int l3), (4, .int 0), (5, .int 0), (6, .int 0), (7, .int 0), (8, .int 0)]) [5, 6, 7, 8, 4, 3, 2, 1, 0] rfl ?_
  refine w_M_nest_L15 F hret th l1 l2 l3 (fun m17 m18 m19 m20 G h => ?_) _ _ _ _ _ _ _ h
  refine x_aload_n F 0 d_M_nest_151 rfl rfl ?_
  refine x_getR F cl_M in_M (k := 30) (by decide) k_631 rfl d_M_nest_152 h (fun v21 h => ?_)
  refine x_iload_n F 1 d_M_nest_155 rfl rfl ?_
  refine x_iald F (t := 0) rfl d_M_nest_156 h (fun v22 h => ?_)
  refine x_istore F (lv' := [(8, .int v22), (0, va_rf (some th)), (2, .int l2), (3, .int l3), (4, .int m17), (5, .int m18), (6, .int m19), (7, .int m20)]) d_M_nest_157 (by decide) rfl ?_
  refine x_iload F 0 d_M_nest_159 rfl ?_
  refine x_iconst F (v := 1) d_M_nest_161 (by decide) ?_
  refine x_icmp_ne F (tgt := 170) d_M_nest_162 (by decide) h (fun q h => ?_) (fun q h => ?_)
  · refine x_iload F 0 d_M_nest_170 rfl ?_
    refine x_iconst F (v := 2) d_M_nest_172 (by decide) ?_
    refine x_icmp_ne F (tgt := 189) d_M_nest_173 (by decide) h (fun q h => ?_) (fun q h => ?_)
    · refine x_sub (lv' := [(0, va_rf (some th)), (2, .int l2), (3, .int l3), (4, .int m17), (6, .int m19), (7, .int m20), (8, .int v22)]) [1, 2, 3, 4, 6, 7, 0] rfl ?_
      exact w_M_nest_B189 F hret th l2 l3 m17 m19 m20 v22 h
    · refine x_iload F 4 d_M_nest_176 rfl ?_
      refine x_if_le F (tgt := 189) d_M_nest_178 (by decide) h (fun q h => ?_) (fun q h => ?_)
      · refine x_sub (lv' := [(0, va_rf (some th)), (2, .int l2), (3, .int l3), (4, .int m17), (6, .int m19), (7, .int m20), (8, .int v22)]) [1, 2, 3, 4, 6, 7, 0] rfl ?_
        exact w_M_nest_B189 F hret th l2 l3 m17 m19 m20 v22 h
      · refine x_iload F 5 d_M_nest_181 rfl ?_
        refine x_iload F 4 d_M_nest_183 rfl ?_
        refine x_idiv F d_M_nest_185 h (fun h => ?_)
        refine x_goto F (tgt := 212) d_M_nest_186 (by decide) ?_
        refine x_sub (lv' := [(0, va_rf (some th)), (2, .int l2), (3, .int l3), (4, .int m17)]) [1, 2, 3, 4] rfl ?_
        exact w_M_nest_B212 F hret th l2 l3 m17 (m18 / m17) h
  · refine x_iload F 5 d_M_nest_165 rfl ?_
    refine x_goto F (tgt := 212) d_M_nest_167 (by decide) ?_
    refine x_sub (lv' := [(0, va_rf (some th)), (2, .int l2), (3, .int l3), (4, .int m17)]) [1, 2, 3, 4] rfl ?_
    exact w_M_nest_B212 F hret th l2 l3 m17 m18 h
def p_M_look_B149 (th : Nat) (l2 : Int32) (l8 : Int32) (s0 : Int32) (s1 : Int32) (s2 : Int32) (s3 : Option Nat) (K : Unit → xS → Prop) : xS → Prop := xif (l8 = 0) (xob 10 s3 fun b => xcall 0 0 (p_M_set b s2 s1 s0 0) fun _ => K ()) (xgR 10 34 (some th) fun v15 => xal 0 v15 l2 fun v16 => xgR 10 35 (some th) fun v17 => xal 0 v17 l2 fun v18 => xdiv v16 v18 fun _ => xob 10 s3 fun b => xcall 0 0 (p_M_set b s2 s1 s0 (l8 * (1 + (v16 / v18)))) fun _ => K ())
def p_M_look_B330 (th : Nat) (l6 : Int32) (l7 : Int32) (s0 : Int32) (s1 : Int32) (s2 : Int32) (s3 : Option Nat) (K : Unit → xS → Prop) : xS → Prop := xgR 10 39 (some th) fun v35 => xal 0 v35 l6 fun v36 => xgR 10 39 (some th) fun v37 => xal 0 v37 l7 fun v38 => xob 10 s3 fun b => xcall 0 0 (p_M_set b s2 s1 s0 (v36 + v38)) fun _ => K ()
def p_M_look_B329 (th : Nat) (l6 : Int32) (l7 : Int32) (s0 : Int32) (s1 : Int32) (s2 : Option Nat) (K : Unit → xS → Prop) : xS → Prop := p_M_look_B330 th l6 l7 0 s0 s1 s2 K
def p_M_look_B379 (th : Nat) (l6 : Int32) (l7 : Int32) (s0 : Int32) (s1 : Int32) (s2 : Int32) (s3 : Option Nat) (K : Unit → xS → Prop) : xS → Prop := xgR 10 39 (some th) fun v43 => xal 0 v43 l6 fun v44 => xgR 10 39 (some th) fun v45 => xal 0 v45 l7 fun v46 => xob 10 s3 fun b => xcall 0 0 (p_M_set b s2 s1 s0 (v44 + v46)) fun _ => K ()
def p_M_look_B374 (th : Nat) (l6 : Int32) (l7 : Int32) (s0 : Int32) (s1 : Int32) (s2 : Option Nat) (K : Unit → xS → Prop) : xS → Prop := p_M_look_B379 th l6 l7 1 s0 s1 s2 K
def p_M_look_B60 (th : Nat) (l1 : Int32) (l2 : Int32) (l3 : Int32) (l4 : Int32) (l5 : Int32) (l6 : Int32) (s0 : Int32) (s1 : Int32) (K : Unit → xS → Prop) : xS → Prop := xgR 10 28 (some th) fun v8 => xal 0 v8 l2 fun v9 => xif (v9 = 0) (xgR 10 29 (some th) fun v10 => xal 0 v10 l2 fun v11 => xgR 10 30 (some th) fun v12 => xal 0 v12 l2 fun v13 => xob 10 (some th) fun b => xcall 0 0 (p_M_times b l4 v11 v13) fun v14 => xif (v14 ≤ 0) (p_M_look_B149 th l2 v14 0 l3 l2 (some th) K) (p_M_look_B149 th l2 v14 1 l3 l2 (some th) K)) (xif (v9 = 1) (xgR 10 24 (some th) fun v19 => xal 0 v19 l5 fun v20 => xif (v20 = 1) (xgR 10 25 (some th) fun v21 => xal 0 v21 l5 fun v22 => xgR 10 30 (some th) fun v23 => xal 0 v23 l2 fun v24 => xif (v22 < v24) (xob 10 (some th) fun b => xcall 0 0 (p_M_set b l2 l3 0 1) fun _ => K ()) (xob 10 (some th) fun b => xcall 0 0 (p_M_set b l2 l3 1 1) fun _ => K ())) (xob 10 (some th) fun b => xcall 0 0 (p_M_set b l2 l3 0 1) fun _ => K ())) (xif (v9 = 2) (xgR 10 24 (some th) fun v25 => xal 0 v25 l5 fun v26 => xif (v26 = 1) (xgR 10 25 (some th) fun v27 => xal 0 v27 l5 fun v28 => xgR 10 30 (some th) fun v29 => xal 0 v29 l2 fun v30 => xif (v30 < v28) (xob 10 (some th) fun b => xcall 0 0 (p_M_set b l2 l3 0 1) fun _ => K ()) (xob 10 (some th) fun b => xcall 0 0 (p_M_set b l2 l3 1 1) fun _ => K ())) (xob 10 (some th) fun b => xcall 0 0 (p_M_set b l2 l3 0 1) fun _ => K ())) (xif (v9 = 3) (xgR 10 24 (some th) fun v31 => xal 0 v31 l5 fun v32 => xif (v32 ≤ 0) (xob 10 (some th) fun b => xcall 0 0 (p_M_set b l2 l3 0 1) fun _ => K ()) (xob 10 (some th) fun b => xcall 0 0 (p_M_set b l2 l3 1 1) fun _ => K ())) (xif (v9 = 4) (xob 10 (some th) fun b => xcall 0 0 (p_M_set b l2 l3 1 1) fun _ => K ()) (xif (v9 = 5) (xgR 10 38 (some th) fun v33 => xal 1 v33 l6 fun v34 => xif (v34 = 0) (p_M_look_B329 th l6 ((s1 * s0) + l3) l3 l2 (some th) K) (xgR 10 38 (some th) fun v39 => xal 1 v39 ((s1 * s0) + l3) fun v40 => xif (v40 = 0) (p_M_look_B329 th l6 ((s1 * s0) + l3) l3 l2 (some th) K) (p_M_look_B330 th l6 ((s1 * s0) + l3) 1 l3 l2 (some th) K))) (xif (v9 = 6) (xgR 10 38 (some th) fun v41 => xal 1 v41 l6 fun v42 => xif (v42 = 0) (xgR 10 38 (some th) fun v47 => xal 1 v47 ((s1 * s0) + l3) fun v48 => xif (v48 = 0) (p_M_look_B379 th l6 ((s1 * s0) + l3) 0 l3 l2 (some th) K) (p_M_look_B374 th l6 ((s1 * s0) + l3) l3 l2 (some th) K)) (p_M_look_B374 th l6 ((s1 * s0) + l3) l3 l2 (some th) K)) (xif (v9 = 7) (xgR 10 38 (some th) fun v49 => xal 1 v49 l6 fun v50 => xif (v50 = 0) (xob 10 (some th) fun b => xcall 0 0 (p_M_set b l2 l3 1 0) fun _ => K ()) (xob 10 (some th) fun b => xcall 0 0 (p_M_set b l2 l3 0 0) fun _ => K ())) (xob 10 (some th) fun b => xcall 0 0 (p_M_nest b l1 l2 l3) fun _ => K ()))))))))
def p_M_look (th : Nat) (l1 : Int32) (l2 : Int32) (l3 : Int32) (K : Unit → xS → Prop) : xS → Prop := xgR 10 11 (some th) fun v1 => xal 0 v1 l1 fun v2 => xgR 10 29 (some th) fun v3 => xal 0 v3 l2 fun v4 => xgR 10 28 (some th) fun v5 => xal 0 v5 l2 fun v6 => xcall 0 0 (p_M_parts v6) fun v7 => xif (v7 = 2) (xgR 10 32 (some th) fun v51 => xal 0 v51 (l2 + 1) fun v52 => p_M_look_B60 th l1 l2 l3 (v2 + l3) ((4 * (v2 + l3)) + v4) ((10 * (l2 + 1)) + l3) v52 10 K) (p_M_look_B60 th l1 l2 l3 (v2 + l3) ((4 * (v2 + l3)) + v4) ((10 * (l2 + 1)) + l3) 0 10 K)
abbrev X_M_look (p : Program) (l : Launch) (e : Env) (s : State) (m : MethodId) (args : Array Value) (below : List Frame) (meth : Method) (c : Code) (C0 S0 : Nat) (K : Unit → xS → Prop) (D : va_G) (dA : Nat → ClassId) (base : Nat) (sa : Nat → Nat) (pc : Nat) (lv : List (Nat × Value)) (st : List Value) (G : xS) : Prop := xW p l e { frames := 2, cells := C0, slots := S0, locals := 53 } s m args below meth c 9 (MQ below (xQ D dA base (fun v G2 => ∃ r : Unit, v = (none : Option Value) ∧ K r G2)) args s C0 S0 (fun q : Nat => base ≤ q)) D dA base sa pc lv st G
set_option maxHeartbeats 4000000 in
set_option maxRecDepth 100000 in
theorem w_M_look_B149 {p : Program} {l : Launch} {e : Env} {s : State} {m : MethodId} {args : Array Value} {below : List Frame} {meth : Method} {c : Code} {C0 S0 : Nat} {D : va_G} {dA : Nat → ClassId} {base : Nat} {sa : Nat → Nat} (F : xFix p { frames := 2, cells := C0, slots := S0, locals := 53 } s m args meth c b_M_look 9 "BlockSearchModel" D dA base sa) (hret : meth.sig.returnType = none) {K : Unit → xS → Prop} (th : Nat) (l2 : Int32) (l8 : Int32) (s0 : Int32) (s1 : Int32) (s2 : Int32) (s3 : Option Nat) {G : xS} (h : p_M_look_B149 th l2 l8 s0 s1 s2 s3 K  G) : X_M_look p l e s m args below meth c C0 S0 K D dA base sa 149 [(0, va_rf (some th)), (2, .int l2), (8, .int l8)] [.int s0, .int s1, .int s2, va_rf s3] G := by
  unfold p_M_look_B149 at h
  refine x_iload F 2 d_M_look_149 rfl ?_
  refine x_if_ne F (tgt := 158) d_M_look_151 (by decide) h (fun q h => ?_) (fun q h => ?_)
  · refine x_iload F 2 d_M_look_158 rfl ?_
    refine x_iconst F (v := 1) d_M_look_160 (by decide) ?_
    refine x_aload_n F 0 d_M_look_161 rfl rfl ?_
    refine x_getR F cl_M in_M (k := 34) (by decide) k_635 rfl d_M_look_162 h (fun v15 h => ?_)
    refine x_iload_n F 1 d_M_look_165 rfl rfl ?_
    refine x_iald F (t := 0) rfl d_M_look_166 h (fun v16 h => ?_)
    refine x_aload_n F 0 d_M_look_167 rfl rfl ?_
    refine x_getR F cl_M in_M (k := 35) (by decide) k_636 rfl d_M_look_168 h (fun v17 h => ?_)
    refine x_iload_n F 1 d_M_look_171 rfl rfl ?_
    refine x_iald F (t := 0) rfl d_M_look_172 h (fun v18 h => ?_)
    refine x_idiv F d_M_look_173 h (fun h => ?_)
    refine x_iadd F d_M_look_174 ?_
    refine x_imul F d_M_look_175 ?_
    refine x_callV F (enc := fun r => none) (P := fun b => p_M_set b s2 s1 s0 (l8 * (1 + (v16 / v18)))) (n := 4) (As := [.int s2, .int s1, .int s0, .int (l8 * (1 + (v16 / v18)))]) (st := []) k_847 k_9 k_846 kp_20 k_844 ⟨by decide, by decide, by decide +kernel⟩ rfl ⟨Nat.le_of_ble_eq_true rfl, Nat.le_of_ble_eq_true rfl⟩ (by simp [x_cat, x_catI, x_catL]) cl_M rfl (ro := s3) (fun b K' G' h' _ => c_M_set l D dA base sa b s2 s1 s0 (l8 * (1 + (v16 / v18))) K' G' h') d_M_look_176 h (fun _ G h => ?_)
    refine x_goto F (tgt := 432) d_M_look_179 (by decide) ?_
    exact x_vret F rfl hret d_M_look_432 ⟨(), rfl, h⟩
  · refine x_iconst F (v := 0) d_M_look_154 (by decide) ?_
    refine x_goto F (tgt := 176) d_M_look_155 (by decide) ?_
    refine x_callV F (enc := fun r => none) (P := fun b => p_M_set b s2 s1 s0 0) (n := 4) (As := [.int s2, .int s1, .int s0, .int 0]) (st := []) k_847 k_9 k_846 kp_20 k_844 ⟨by decide, by decide, by decide +kernel⟩ rfl ⟨Nat.le_of_ble_eq_true rfl, Nat.le_of_ble_eq_true rfl⟩ (by simp [x_cat, x_catI, x_catL]) cl_M rfl (ro := s3) (fun b K' G' h' _ => c_M_set l D dA base sa b s2 s1 s0 0 K' G' h') d_M_look_176 h (fun _ G h => ?_)
    refine x_goto F (tgt := 432) d_M_look_179 (by decide) ?_
    exact x_vret F rfl hret d_M_look_432 ⟨(), rfl, h⟩
set_option maxHeartbeats 4000000 in
set_option maxRecDepth 100000 in
theorem w_M_look_B330 {p : Program} {l : Launch} {e : Env} {s : State} {m : MethodId} {args : Array Value} {below : List Frame} {meth : Method} {c : Code} {C0 S0 : Nat} {D : va_G} {dA : Nat → ClassId} {base : Nat} {sa : Nat → Nat} (F : xFix p { frames := 2, cells := C0, slots := S0, locals := 53 } s m args meth c b_M_look 9 "BlockSearchModel" D dA base sa) (hret : meth.sig.returnType = none) {K : Unit → xS → Prop} (th : Nat) (l6 : Int32) (l7 : Int32) (s0 : Int32) (s1 : Int32) (s2 : Int32) (s3 : Option Nat) {G : xS} (h : p_M_look_B330 th l6 l7 s0 s1 s2 s3 K  G) : X_M_look p l e s m args below meth c C0 S0 K D dA base sa 330 [(0, va_rf (some th)), (6, .int l6), (7, .int l7)] [.int s0, .int s1, .int s2, va_rf s3] G := by
  unfold p_M_look_B330 at h
  refine x_aload_n F 0 d_M_look_330 rfl rfl ?_
  refine x_getR F cl_M in_M (k := 39) (by decide) k_640 rfl d_M_look_331 h (fun v35 h => ?_)
  refine x_iload F 1 d_M_look_334 rfl ?_
  refine x_iald F (t := 0) rfl d_M_look_336 h (fun v36 h => ?_)
  refine x_aload_n F 0 d_M_look_337 rfl rfl ?_
  refine x_getR F cl_M in_M (k := 39) (by decide) k_640 rfl d_M_look_338 h (fun v37 h => ?_)
  refine x_iload F 2 d_M_look_341 rfl ?_
  refine x_iald F (t := 0) rfl d_M_look_343 h (fun v38 h => ?_)
  refine x_iadd F d_M_look_344 ?_
  refine x_callV F (enc := fun r => none) (P := fun b => p_M_set b s2 s1 s0 (v36 + v38)) (n := 4) (As := [.int s2, .int s1, .int s0, .int (v36 + v38)]) (st := []) k_847 k_9 k_846 kp_20 k_844 ⟨by decide, by decide, by decide +kernel⟩ rfl ⟨Nat.le_of_ble_eq_true rfl, Nat.le_of_ble_eq_true rfl⟩ (by simp [x_cat, x_catI, x_catL]) cl_M rfl (ro := s3) (fun b K' G' h' _ => c_M_set l D dA base sa b s2 s1 s0 (v36 + v38) K' G' h') d_M_look_345 h (fun _ G h => ?_)
  refine x_goto F (tgt := 432) d_M_look_348 (by decide) ?_
  exact x_vret F rfl hret d_M_look_432 ⟨(), rfl, h⟩
set_option maxHeartbeats 4000000 in
set_option maxRecDepth 100000 in
theorem w_M_look_B329 {p : Program} {l : Launch} {e : Env} {s : State} {m : MethodId} {args : Array Value} {below : List Frame} {meth : Method} {c : Code} {C0 S0 : Nat} {D : va_G} {dA : Nat → ClassId} {base : Nat} {sa : Nat → Nat} (F : xFix p { frames := 2, cells := C0, slots := S0, locals := 53 } s m args meth c b_M_look 9 "BlockSearchModel" D dA base sa) (hret : meth.sig.returnType = none) {K : Unit → xS → Prop} (th : Nat) (l6 : Int32) (l7 : Int32) (s0 : Int32) (s1 : Int32) (s2 : Option Nat) {G : xS} (h : p_M_look_B329 th l6 l7 s0 s1 s2 K  G) : X_M_look p l e s m args below meth c C0 S0 K D dA base sa 329 [(0, va_rf (some th)), (6, .int l6), (7, .int l7)] [.int s0, .int s1, va_rf s2] G := by
  unfold p_M_look_B329 at h
  refine x_iconst F (v := 0) d_M_look_329 (by decide) ?_
  exact w_M_look_B330 F hret th l6 l7 0 s0 s1 s2 h
set_option maxHeartbeats 4000000 in
set_option maxRecDepth 100000 in
theorem w_M_look_B379 {p : Program} {l : Launch} {e : Env} {s : State} {m : MethodId} {args : Array Value} {below : List Frame} {meth : Method} {c : Code} {C0 S0 : Nat} {D : va_G} {dA : Nat → ClassId} {base : Nat} {sa : Nat → Nat} (F : xFix p { frames := 2, cells := C0, slots := S0, locals := 53 } s m args meth c b_M_look 9 "BlockSearchModel" D dA base sa) (hret : meth.sig.returnType = none) {K : Unit → xS → Prop} (th : Nat) (l6 : Int32) (l7 : Int32) (s0 : Int32) (s1 : Int32) (s2 : Int32) (s3 : Option Nat) {G : xS} (h : p_M_look_B379 th l6 l7 s0 s1 s2 s3 K  G) : X_M_look p l e s m args below meth c C0 S0 K D dA base sa 379 [(0, va_rf (some th)), (6, .int l6), (7, .int l7)] [.int s0, .int s1, .int s2, va_rf s3] G := by
  unfold p_M_look_B379 at h
  refine x_aload_n F 0 d_M_look_379 rfl rfl ?_
  refine x_getR F cl_M in_M (k := 39) (by decide) k_640 rfl d_M_look_380 h (fun v43 h => ?_)
  refine x_iload F 1 d_M_look_383 rfl ?_
  refine x_iald F (t := 0) rfl d_M_look_385 h (fun v44 h => ?_)
  refine x_aload_n F 0 d_M_look_386 rfl rfl ?_
  refine x_getR F cl_M in_M (k := 39) (by decide) k_640 rfl d_M_look_387 h (fun v45 h => ?_)
  refine x_iload F 2 d_M_look_390 rfl ?_
  refine x_iald F (t := 0) rfl d_M_look_392 h (fun v46 h => ?_)
  refine x_iadd F d_M_look_393 ?_
  refine x_callV F (enc := fun r => none) (P := fun b => p_M_set b s2 s1 s0 (v44 + v46)) (n := 4) (As := [.int s2, .int s1, .int s0, .int (v44 + v46)]) (st := []) k_847 k_9 k_846 kp_20 k_844 ⟨by decide, by decide, by decide +kernel⟩ rfl ⟨Nat.le_of_ble_eq_true rfl, Nat.le_of_ble_eq_true rfl⟩ (by simp [x_cat, x_catI, x_catL]) cl_M rfl (ro := s3) (fun b K' G' h' _ => c_M_set l D dA base sa b s2 s1 s0 (v44 + v46) K' G' h') d_M_look_394 h (fun _ G h => ?_)
  refine x_goto F (tgt := 432) d_M_look_397 (by decide) ?_
  exact x_vret F rfl hret d_M_look_432 ⟨(), rfl, h⟩
set_option maxHeartbeats 4000000 in
set_option maxRecDepth 100000 in
theorem w_M_look_B374 {p : Program} {l : Launch} {e : Env} {s : State} {m : MethodId} {args : Array Value} {below : List Frame} {meth : Method} {c : Code} {C0 S0 : Nat} {D : va_G} {dA : Nat → ClassId} {base : Nat} {sa : Nat → Nat} (F : xFix p { frames := 2, cells := C0, slots := S0, locals := 53 } s m args meth c b_M_look 9 "BlockSearchModel" D dA base sa) (hret : meth.sig.returnType = none) {K : Unit → xS → Prop} (th : Nat) (l6 : Int32) (l7 : Int32) (s0 : Int32) (s1 : Int32) (s2 : Option Nat) {G : xS} (h : p_M_look_B374 th l6 l7 s0 s1 s2 K  G) : X_M_look p l e s m args below meth c C0 S0 K D dA base sa 374 [(0, va_rf (some th)), (6, .int l6), (7, .int l7)] [.int s0, .int s1, va_rf s2] G := by
  unfold p_M_look_B374 at h
  refine x_iconst F (v := 1) d_M_look_374 (by decide) ?_
  refine x_goto F (tgt := 379) d_M_look_375 (by decide) ?_
  exact w_M_look_B379 F hret th l6 l7 1 s0 s1 s2 h
set_option maxHeartbeats 4000000 in
set_option maxRecDepth 100000 in
theorem w_M_look_B60 {p : Program} {l : Launch} {e : Env} {s : State} {m : MethodId} {args : Array Value} {below : List Frame} {meth : Method} {c : Code} {C0 S0 : Nat} {D : va_G} {dA : Nat → ClassId} {base : Nat} {sa : Nat → Nat} (F : xFix p { frames := 2, cells := C0, slots := S0, locals := 53 } s m args meth c b_M_look 9 "BlockSearchModel" D dA base sa) (hret : meth.sig.returnType = none) {K : Unit → xS → Prop} (th : Nat) (l1 : Int32) (l2 : Int32) (l3 : Int32) (l4 : Int32) (l5 : Int32) (l6 : Int32) (s0 : Int32) (s1 : Int32) {G : xS} (h : p_M_look_B60 th l1 l2 l3 l4 l5 l6 s0 s1 K  G) : X_M_look p l e s m args below meth c C0 S0 K D dA base sa 60 [(0, va_rf (some th)), (1, .int l1), (2, .int l2), (3, .int l3), (4, .int l4), (5, .int l5), (6, .int l6)] [.int s0, .int s1] G := by
  unfold p_M_look_B60 at h
  refine x_imul F d_M_look_60 ?_
  refine x_iload_n F 3 d_M_look_61 rfl rfl ?_
  refine x_iadd F d_M_look_62 ?_
  refine x_istore F (lv' := [(7, .int ((s1 * s0) + l3)), (0, va_rf (some th)), (1, .int l1), (2, .int l2), (3, .int l3), (4, .int l4), (5, .int l5), (6, .int l6)]) d_M_look_63 (by decide) rfl ?_
  refine x_aload_n F 1 d_M_look_65 rfl rfl ?_
  refine x_getR F cl_M in_M (k := 28) (by decide) k_629 rfl d_M_look_66 h (fun v8 h => ?_)
  refine x_iload_n F 3 d_M_look_69 rfl rfl ?_
  refine x_iald F (t := 0) rfl d_M_look_70 h (fun v9 h => ?_)
  by_cases q0 : v9 = 0
  · have h := h.1 q0
    refine x_tabIn F (off := 45) (tgt := 116) d_M_look_71 q0 (by decide) (by decide) (by decide) (by decide) ?_
    refine x_aload_n F 1 d_M_look_116 rfl rfl ?_
    refine x_iload F 5 d_M_look_117 rfl ?_
    refine x_aload_n F 1 d_M_look_119 rfl rfl ?_
    refine x_getR F cl_M in_M (k := 29) (by decide) k_630 rfl d_M_look_120 h (fun v10 h => ?_)
    refine x_iload_n F 3 d_M_look_123 rfl rfl ?_
    refine x_iald F (t := 0) rfl d_M_look_124 h (fun v11 h => ?_)
    refine x_aload_n F 1 d_M_look_125 rfl rfl ?_
    refine x_getR F cl_M in_M (k := 30) (by decide) k_631 rfl d_M_look_126 h (fun v12 h => ?_)
    refine x_iload_n F 3 d_M_look_129 rfl rfl ?_
    refine x_iald F (t := 0) rfl d_M_look_130 h (fun v13 h => ?_)
    refine x_callV F (enc := fun r => some (.int r)) (P := fun b => p_M_times b l4 v11 v13) (n := 3) (As := [.int l4, .int v11, .int v13]) (st := []) k_834 k_9 k_833 kp_17 k_831 ⟨by decide, by decide, by decide +kernel⟩ rfl ⟨Nat.le_of_ble_eq_true rfl, Nat.le_of_ble_eq_true rfl⟩ (by simp [x_cat, x_catI, x_catL]) cl_M rfl (ro := some th) (fun b K' G' h' _ => c_M_times l D dA base sa b l4 v11 v13 K' G' h') d_M_look_131 h (fun v14 G h => ?_)
    refine x_istore F (lv' := [(8, .int v14), (7, .int ((s1 * s0) + l3)), (0, va_rf (some th)), (1, .int l1), (2, .int l2), (3, .int l3), (4, .int l4), (5, .int l5), (6, .int l6)]) d_M_look_134 (by decide) rfl ?_
    refine x_aload_n F 2 d_M_look_136 rfl rfl ?_
    refine x_iload_n F 4 d_M_look_137 rfl rfl ?_
    refine x_iload_n F 5 d_M_look_138 rfl rfl ?_
    refine x_iload F 0 d_M_look_139 rfl ?_
    refine x_if_le F (tgt := 148) d_M_look_141 (by decide) h (fun q h => ?_) (fun q h => ?_)
    · refine x_iconst F (v := 0) d_M_look_148 (by decide) ?_
      refine x_sub (lv' := [(0, va_rf (some th)), (2, .int l2), (8, .int v14)]) [2, 4, 0] rfl ?_
      exact w_M_look_B149 F hret th l2 v14 0 l3 l2 (some th) h
    · refine x_iconst F (v := 1) d_M_look_144 (by decide) ?_
      refine x_goto F (tgt := 149) d_M_look_145 (by decide) ?_
      refine x_sub (lv' := [(0, va_rf (some th)), (2, .int l2), (8, .int v14)]) [2, 4, 0] rfl ?_
      exact w_M_look_B149 F hret th l2 v14 1 l3 l2 (some th) h
  have h := h.2 q0
  by_cases q1 : v9 = 1
  · have h := h.1 q1
    refine x_tabIn F (off := 111) (tgt := 182) d_M_look_71 q1 (by decide) (by decide) (by decide) (by decide) ?_
    refine x_aload_n F 1 d_M_look_182 rfl rfl ?_
    refine x_iload_n F 3 d_M_look_183 rfl rfl ?_
    refine x_iload_n F 4 d_M_look_184 rfl rfl ?_
    refine x_aload_n F 1 d_M_look_185 rfl rfl ?_
    refine x_getR F cl_M in_M (k := 24) (by decide) k_625 rfl d_M_look_186 h (fun v19 h => ?_)
    refine x_iload F 6 d_M_look_189 rfl ?_
    refine x_iald F (t := 0) rfl d_M_look_191 h (fun v20 h => ?_)
    refine x_iconst F (v := 1) d_M_look_192 (by decide) ?_
    refine x_icmp_ne F (tgt := 216) d_M_look_193 (by decide) h (fun q h => ?_) (fun q h => ?_)
    · refine x_iconst F (v := 0) d_M_look_216 (by decide) ?_
      refine x_iconst F (v := 1) d_M_look_217 (by decide) ?_
      refine x_callV F (enc := fun r => none) (P := fun b => p_M_set b l2 l3 0 1) (n := 4) (As := [.int l2, .int l3, .int 0, .int 1]) (st := []) k_847 k_9 k_846 kp_20 k_844 ⟨by decide, by decide, by decide +kernel⟩ rfl ⟨Nat.le_of_ble_eq_true rfl, Nat.le_of_ble_eq_true rfl⟩ (by simp [x_cat, x_catI, x_catL]) cl_M rfl (ro := some th) (fun b K' G' h' _ => c_M_set l D dA base sa b l2 l3 0 1 K' G' h') d_M_look_218 h (fun _ G h => ?_)
      refine x_goto F (tgt := 432) d_M_look_221 (by decide) ?_
      exact x_vret F rfl hret d_M_look_432 ⟨(), rfl, h⟩
    · refine x_aload_n F 1 d_M_look_196 rfl rfl ?_
      refine x_getR F cl_M in_M (k := 25) (by decide) k_626 rfl d_M_look_197 h (fun v21 h => ?_)
      refine x_iload F 6 d_M_look_200 rfl ?_
      refine x_iald F (t := 0) rfl d_M_look_202 h (fun v22 h => ?_)
      refine x_aload_n F 1 d_M_look_203 rfl rfl ?_
      refine x_getR F cl_M in_M (k := 30) (by decide) k_631 rfl d_M_look_204 h (fun v23 h => ?_)
      refine x_iload_n F 3 d_M_look_207 rfl rfl ?_
      refine x_iald F (t := 0) rfl d_M_look_208 h (fun v24 h => ?_)
      refine x_icmp_lt F (tgt := 216) d_M_look_209 (by decide) h (fun q h => ?_) (fun q h => ?_)
      · refine x_iconst F (v := 0) d_M_look_216 (by decide) ?_
        refine x_iconst F (v := 1) d_M_look_217 (by decide) ?_
        refine x_callV F (enc := fun r => none) (P := fun b => p_M_set b l2 l3 0 1) (n := 4) (As := [.int l2, .int l3, .int 0, .int 1]) (st := []) k_847 k_9 k_846 kp_20 k_844 ⟨by decide, by decide, by decide +kernel⟩ rfl ⟨Nat.le_of_ble_eq_true rfl, Nat.le_of_ble_eq_true rfl⟩ (by simp [x_cat, x_catI, x_catL]) cl_M rfl (ro := some th) (fun b K' G' h' _ => c_M_set l D dA base sa b l2 l3 0 1 K' G' h') d_M_look_218 h (fun _ G h => ?_)
        refine x_goto F (tgt := 432) d_M_look_221 (by decide) ?_
        exact x_vret F rfl hret d_M_look_432 ⟨(), rfl, h⟩
      · refine x_iconst F (v := 1) d_M_look_212 (by decide) ?_
        refine x_goto F (tgt := 217) d_M_look_213 (by decide) ?_
        refine x_iconst F (v := 1) d_M_look_217 (by decide) ?_
        refine x_callV F (enc := fun r => none) (P := fun b => p_M_set b l2 l3 1 1) (n := 4) (As := [.int l2, .int l3, .int 1, .int 1]) (st := []) k_847 k_9 k_846 kp_20 k_844 ⟨by decide, by decide, by decide +kernel⟩ rfl ⟨Nat.le_of_ble_eq_true rfl, Nat.le_of_ble_eq_true rfl⟩ (by simp [x_cat, x_catI, x_catL]) cl_M rfl (ro := some th) (fun b K' G' h' _ => c_M_set l D dA base sa b l2 l3 1 1 K' G' h') d_M_look_218 h (fun _ G h => ?_)
        refine x_goto F (tgt := 432) d_M_look_221 (by decide) ?_
        exact x_vret F rfl hret d_M_look_432 ⟨(), rfl, h⟩
  have h := h.2 q1
  by_cases q2 : v9 = 2
  · have h := h.1 q2
    refine x_tabIn F (off := 153) (tgt := 224) d_M_look_71 q2 (by decide) (by decide) (by decide) (by decide) ?_
    refine x_aload_n F 1 d_M_look_224 rfl rfl ?_
    refine x_iload_n F 3 d_M_look_225 rfl rfl ?_
    refine x_iload_n F 4 d_M_look_226 rfl rfl ?_
    refine x_aload_n F 1 d_M_look_227 rfl rfl ?_
    refine x_getR F cl_M in_M (k := 24) (by decide) k_625 rfl d_M_look_228 h (fun v25 h => ?_)
    refine x_iload F 6 d_M_look_231 rfl ?_
    refine x_iald F (t := 0) rfl d_M_look_233 h (fun v26 h => ?_)
    refine x_iconst F (v := 1) d_M_look_234 (by decide) ?_
    refine x_icmp_ne F (tgt := 258) d_M_look_235 (by decide) h (fun q h => ?_) (fun q h => ?_)
    · refine x_iconst F (v := 0) d_M_look_258 (by decide) ?_
      refine x_iconst F (v := 1) d_M_look_259 (by decide) ?_
      refine x_callV F (enc := fun r => none) (P := fun b => p_M_set b l2 l3 0 1) (n := 4) (As := [.int l2, .int l3, .int 0, .int 1]) (st := []) k_847 k_9 k_846 kp_20 k_844 ⟨by decide, by decide, by decide +kernel⟩ rfl ⟨Nat.le_of_ble_eq_true rfl, Nat.le_of_ble_eq_true rfl⟩ (by simp [x_cat, x_catI, x_catL]) cl_M rfl (ro := some th) (fun b K' G' h' _ => c_M_set l D dA base sa b l2 l3 0 1 K' G' h') d_M_look_260 h (fun _ G h => ?_)
      refine x_goto F (tgt := 432) d_M_look_263 (by decide) ?_
      exact x_vret F rfl hret d_M_look_432 ⟨(), rfl, h⟩
    · refine x_aload_n F 1 d_M_look_238 rfl rfl ?_
      refine x_getR F cl_M in_M (k := 25) (by decide) k_626 rfl d_M_look_239 h (fun v27 h => ?_)
      refine x_iload F 6 d_M_look_242 rfl ?_
      refine x_iald F (t := 0) rfl d_M_look_244 h (fun v28 h => ?_)
      refine x_aload_n F 1 d_M_look_245 rfl rfl ?_
      refine x_getR F cl_M in_M (k := 30) (by decide) k_631 rfl d_M_look_246 h (fun v29 h => ?_)
      refine x_iload_n F 3 d_M_look_249 rfl rfl ?_
      refine x_iald F (t := 0) rfl d_M_look_250 h (fun v30 h => ?_)
      refine x_icmp_gt F (tgt := 258) d_M_look_251 (by decide) h (fun q h => ?_) (fun q h => ?_)
      · refine x_iconst F (v := 0) d_M_look_258 (by decide) ?_
        refine x_iconst F (v := 1) d_M_look_259 (by decide) ?_
        refine x_callV F (enc := fun r => none) (P := fun b => p_M_set b l2 l3 0 1) (n := 4) (As := [.int l2, .int l3, .int 0, .int 1]) (st := []) k_847 k_9 k_846 kp_20 k_844 ⟨by decide, by decide, by decide +kernel⟩ rfl ⟨Nat.le_of_ble_eq_true rfl, Nat.le_of_ble_eq_true rfl⟩ (by simp [x_cat, x_catI, x_catL]) cl_M rfl (ro := some th) (fun b K' G' h' _ => c_M_set l D dA base sa b l2 l3 0 1 K' G' h') d_M_look_260 h (fun _ G h => ?_)
        refine x_goto F (tgt := 432) d_M_look_263 (by decide) ?_
        exact x_vret F rfl hret d_M_look_432 ⟨(), rfl, h⟩
      · refine x_iconst F (v := 1) d_M_look_254 (by decide) ?_
        refine x_goto F (tgt := 259) d_M_look_255 (by decide) ?_
        refine x_iconst F (v := 1) d_M_look_259 (by decide) ?_
        refine x_callV F (enc := fun r => none) (P := fun b => p_M_set b l2 l3 1 1) (n := 4) (As := [.int l2, .int l3, .int 1, .int 1]) (st := []) k_847 k_9 k_846 kp_20 k_844 ⟨by decide, by decide, by decide +kernel⟩ rfl ⟨Nat.le_of_ble_eq_true rfl, Nat.le_of_ble_eq_true rfl⟩ (by simp [x_cat, x_catI, x_catL]) cl_M rfl (ro := some th) (fun b K' G' h' _ => c_M_set l D dA base sa b l2 l3 1 1 K' G' h') d_M_look_260 h (fun _ G h => ?_)
        refine x_goto F (tgt := 432) d_M_look_263 (by decide) ?_
        exact x_vret F rfl hret d_M_look_432 ⟨(), rfl, h⟩
  have h := h.2 q2
  by_cases q3 : v9 = 3
  · have h := h.1 q3
    refine x_tabIn F (off := 195) (tgt := 266) d_M_look_71 q3 (by decide) (by decide) (by decide) (by decide) ?_
    refine x_aload_n F 1 d_M_look_266 rfl rfl ?_
    refine x_iload_n F 3 d_M_look_267 rfl rfl ?_
    refine x_iload_n F 4 d_M_look_268 rfl rfl ?_
    refine x_aload_n F 1 d_M_look_269 rfl rfl ?_
    refine x_getR F cl_M in_M (k := 24) (by decide) k_625 rfl d_M_look_270 h (fun v31 h => ?_)
    refine x_iload F 6 d_M_look_273 rfl ?_
    refine x_iald F (t := 0) rfl d_M_look_275 h (fun v32 h => ?_)
    refine x_if_le F (tgt := 283) d_M_look_276 (by decide) h (fun q h => ?_) (fun q h => ?_)
    · refine x_iconst F (v := 0) d_M_look_283 (by decide) ?_
      refine x_iconst F (v := 1) d_M_look_284 (by decide) ?_
      refine x_callV F (enc := fun r => none) (P := fun b => p_M_set b l2 l3 0 1) (n := 4) (As := [.int l2, .int l3, .int 0, .int 1]) (st := []) k_847 k_9 k_846 kp_20 k_844 ⟨by decide, by decide, by decide +kernel⟩ rfl ⟨Nat.le_of_ble_eq_true rfl, Nat.le_of_ble_eq_true rfl⟩ (by simp [x_cat, x_catI, x_catL]) cl_M rfl (ro := some th) (fun b K' G' h' _ => c_M_set l D dA base sa b l2 l3 0 1 K' G' h') d_M_look_285 h (fun _ G h => ?_)
      refine x_goto F (tgt := 432) d_M_look_288 (by decide) ?_
      exact x_vret F rfl hret d_M_look_432 ⟨(), rfl, h⟩
    · refine x_iconst F (v := 1) d_M_look_279 (by decide) ?_
      refine x_goto F (tgt := 284) d_M_look_280 (by decide) ?_
      refine x_iconst F (v := 1) d_M_look_284 (by decide) ?_
      refine x_callV F (enc := fun r => none) (P := fun b => p_M_set b l2 l3 1 1) (n := 4) (As := [.int l2, .int l3, .int 1, .int 1]) (st := []) k_847 k_9 k_846 kp_20 k_844 ⟨by decide, by decide, by decide +kernel⟩ rfl ⟨Nat.le_of_ble_eq_true rfl, Nat.le_of_ble_eq_true rfl⟩ (by simp [x_cat, x_catI, x_catL]) cl_M rfl (ro := some th) (fun b K' G' h' _ => c_M_set l D dA base sa b l2 l3 1 1 K' G' h') d_M_look_285 h (fun _ G h => ?_)
      refine x_goto F (tgt := 432) d_M_look_288 (by decide) ?_
      exact x_vret F rfl hret d_M_look_432 ⟨(), rfl, h⟩
  have h := h.2 q3
  by_cases q4 : v9 = 4
  · have h := h.1 q4
    refine x_tabIn F (off := 220) (tgt := 291) d_M_look_71 q4 (by decide) (by decide) (by decide) (by decide) ?_
    refine x_aload_n F 1 d_M_look_291 rfl rfl ?_
    refine x_iload_n F 3 d_M_look_292 rfl rfl ?_
    refine x_iload_n F 4 d_M_look_293 rfl rfl ?_
    refine x_iconst F (v := 1) d_M_look_294 (by decide) ?_
    refine x_iconst F (v := 1) d_M_look_295 (by decide) ?_
    refine x_callV F (enc := fun r => none) (P := fun b => p_M_set b l2 l3 1 1) (n := 4) (As := [.int l2, .int l3, .int 1, .int 1]) (st := []) k_847 k_9 k_846 kp_20 k_844 ⟨by decide, by decide, by decide +kernel⟩ rfl ⟨Nat.le_of_ble_eq_true rfl, Nat.le_of_ble_eq_true rfl⟩ (by simp [x_cat, x_catI, x_catL]) cl_M rfl (ro := some th) (fun b K' G' h' _ => c_M_set l D dA base sa b l2 l3 1 1 K' G' h') d_M_look_296 h (fun _ G h => ?_)
    refine x_goto F (tgt := 432) d_M_look_299 (by decide) ?_
    exact x_vret F rfl hret d_M_look_432 ⟨(), rfl, h⟩
  have h := h.2 q4
  by_cases q5 : v9 = 5
  · have h := h.1 q5
    refine x_tabIn F (off := 231) (tgt := 302) d_M_look_71 q5 (by decide) (by decide) (by decide) (by decide) ?_
    refine x_aload_n F 1 d_M_look_302 rfl rfl ?_
    refine x_iload_n F 3 d_M_look_303 rfl rfl ?_
    refine x_iload_n F 4 d_M_look_304 rfl rfl ?_
    refine x_aload_n F 1 d_M_look_305 rfl rfl ?_
    refine x_getR F cl_M in_M (k := 38) (by decide) k_639 rfl d_M_look_306 h (fun v33 h => ?_)
    refine x_iload F 7 d_M_look_309 rfl ?_
    refine x_zald F (t := 1) rfl d_M_look_311 h (fun v34 h => ?_)
    refine x_if_eq F (tgt := 329) d_M_look_312 (by decide) h (fun q h => ?_) (fun q h => ?_)
    · refine x_sub (lv' := [(0, va_rf (some th)), (6, .int l6), (7, .int ((s1 * s0) + l3))]) [1, 7, 0] rfl ?_
      exact w_M_look_B329 F hret th l6 ((s1 * s0) + l3) l3 l2 (some th) h
    · refine x_aload_n F 1 d_M_look_315 rfl rfl ?_
      refine x_getR F cl_M in_M (k := 38) (by decide) k_639 rfl d_M_look_316 h (fun v39 h => ?_)
      refine x_iload F 0 d_M_look_319 rfl ?_
      refine x_zald F (t := 1) rfl d_M_look_321 h (fun v40 h => ?_)
      refine x_if_eq F (tgt := 329) d_M_look_322 (by decide) h (fun q h => ?_) (fun q h => ?_)
      · refine x_sub (lv' := [(0, va_rf (some th)), (6, .int l6), (7, .int ((s1 * s0) + l3))]) [1, 7, 0] rfl ?_
        exact w_M_look_B329 F hret th l6 ((s1 * s0) + l3) l3 l2 (some th) h
      · refine x_iconst F (v := 1) d_M_look_325 (by decide) ?_
        refine x_goto F (tgt := 330) d_M_look_326 (by decide) ?_
        refine x_sub (lv' := [(0, va_rf (some th)), (6, .int l6), (7, .int ((s1 * s0) + l3))]) [1, 7, 0] rfl ?_
        exact w_M_look_B330 F hret th l6 ((s1 * s0) + l3) 1 l3 l2 (some th) h
  have h := h.2 q5
  by_cases q6 : v9 = 6
  · have h := h.1 q6
    refine x_tabIn F (off := 280) (tgt := 351) d_M_look_71 q6 (by decide) (by decide) (by decide) (by decide) ?_
    refine x_aload_n F 1 d_M_look_351 rfl rfl ?_
    refine x_iload_n F 3 d_M_look_352 rfl rfl ?_
    refine x_iload_n F 4 d_M_look_353 rfl rfl ?_
    refine x_aload_n F 1 d_M_look_354 rfl rfl ?_
    refine x_getR F cl_M in_M (k := 38) (by decide) k_639 rfl d_M_look_355 h (fun v41 h => ?_)
    refine x_iload F 7 d_M_look_358 rfl ?_
    refine x_zald F (t := 1) rfl d_M_look_360 h (fun v42 h => ?_)
    refine x_if_ne F (tgt := 374) d_M_look_361 (by decide) h (fun q h => ?_) (fun q h => ?_)
    · refine x_sub (lv' := [(0, va_rf (some th)), (6, .int l6), (7, .int ((s1 * s0) + l3))]) [1, 7, 0] rfl ?_
      exact w_M_look_B374 F hret th l6 ((s1 * s0) + l3) l3 l2 (some th) h
    · refine x_aload_n F 1 d_M_look_364 rfl rfl ?_
      refine x_getR F cl_M in_M (k := 38) (by decide) k_639 rfl d_M_look_365 h (fun v47 h => ?_)
      refine x_iload F 0 d_M_look_368 rfl ?_
      refine x_zald F (t := 1) rfl d_M_look_370 h (fun v48 h => ?_)
      refine x_if_eq F (tgt := 378) d_M_look_371 (by decide) h (fun q h => ?_) (fun q h => ?_)
      · refine x_iconst F (v := 0) d_M_look_378 (by decide) ?_
        refine x_sub (lv' := [(0, va_rf (some th)), (6, .int l6), (7, .int ((s1 * s0) + l3))]) [1, 7, 0] rfl ?_
        exact w_M_look_B379 F hret th l6 ((s1 * s0) + l3) 0 l3 l2 (some th) h
      · refine x_sub (lv' := [(0, va_rf (some th)), (6, .int l6), (7, .int ((s1 * s0) + l3))]) [1, 7, 0] rfl ?_
        exact w_M_look_B374 F hret th l6 ((s1 * s0) + l3) l3 l2 (some th) h
  have h := h.2 q6
  by_cases q7 : v9 = 7
  · have h := h.1 q7
    refine x_tabIn F (off := 329) (tgt := 400) d_M_look_71 q7 (by decide) (by decide) (by decide) (by decide) ?_
    refine x_aload_n F 1 d_M_look_400 rfl rfl ?_
    refine x_iload_n F 3 d_M_look_401 rfl rfl ?_
    refine x_iload_n F 4 d_M_look_402 rfl rfl ?_
    refine x_aload_n F 1 d_M_look_403 rfl rfl ?_
    refine x_getR F cl_M in_M (k := 38) (by decide) k_639 rfl d_M_look_404 h (fun v49 h => ?_)
    refine x_iload F 7 d_M_look_407 rfl ?_
    refine x_zald F (t := 1) rfl d_M_look_409 h (fun v50 h => ?_)
    refine x_if_ne F (tgt := 417) d_M_look_410 (by decide) h (fun q h => ?_) (fun q h => ?_)
    · refine x_iconst F (v := 0) d_M_look_417 (by decide) ?_
      refine x_iconst F (v := 0) d_M_look_418 (by decide) ?_
      refine x_callV F (enc := fun r => none) (P := fun b => p_M_set b l2 l3 0 0) (n := 4) (As := [.int l2, .int l3, .int 0, .int 0]) (st := []) k_847 k_9 k_846 kp_20 k_844 ⟨by decide, by decide, by decide +kernel⟩ rfl ⟨Nat.le_of_ble_eq_true rfl, Nat.le_of_ble_eq_true rfl⟩ (by simp [x_cat, x_catI, x_catL]) cl_M rfl (ro := some th) (fun b K' G' h' _ => c_M_set l D dA base sa b l2 l3 0 0 K' G' h') d_M_look_419 h (fun _ G h => ?_)
      refine x_goto F (tgt := 432) d_M_look_422 (by decide) ?_
      exact x_vret F rfl hret d_M_look_432 ⟨(), rfl, h⟩
    · refine x_iconst F (v := 1) d_M_look_413 (by decide) ?_
      refine x_goto F (tgt := 418) d_M_look_414 (by decide) ?_
      refine x_iconst F (v := 0) d_M_look_418 (by decide) ?_
      refine x_callV F (enc := fun r => none) (P := fun b => p_M_set b l2 l3 1 0) (n := 4) (As := [.int l2, .int l3, .int 1, .int 0]) (st := []) k_847 k_9 k_846 kp_20 k_844 ⟨by decide, by decide, by decide +kernel⟩ rfl ⟨Nat.le_of_ble_eq_true rfl, Nat.le_of_ble_eq_true rfl⟩ (by simp [x_cat, x_catI, x_catL]) cl_M rfl (ro := some th) (fun b K' G' h' _ => c_M_set l D dA base sa b l2 l3 1 0 K' G' h') d_M_look_419 h (fun _ G h => ?_)
      refine x_goto F (tgt := 432) d_M_look_422 (by decide) ?_
      exact x_vret F rfl hret d_M_look_432 ⟨(), rfl, h⟩
  have h := h.2 q7
  refine x_tabOut F (tgt := 425) d_M_look_71 (by have a0 := lv_neT (a := 0) q0 (by decide); have a1 := lv_neT (a := 1) q1 (by decide); have a2 := lv_neT (a := 2) q2 (by decide); have a3 := lv_neT (a := 3) q3 (by decide); have a4 := lv_neT (a := 4) q4 (by decide); have a5 := lv_neT (a := 5) q5 (by decide); have a6 := lv_neT (a := 6) q6 (by decide); have a7 := lv_neT (a := 7) q7 (by decide); omega) (by decide) ?_
  refine x_aload_n F 1 d_M_look_425 rfl rfl ?_
  refine x_iload_n F 2 d_M_look_426 rfl rfl ?_
  refine x_iload_n F 3 d_M_look_427 rfl rfl ?_
  refine x_iload_n F 4 d_M_look_428 rfl rfl ?_
  refine x_callV F (enc := fun r => none) (P := fun b => p_M_nest b l1 l2 l3) (n := 3) (As := [.int l1, .int l2, .int l3]) (st := []) k_851 k_9 k_850 kp_21 k_848 ⟨by decide, by decide, by decide +kernel⟩ rfl ⟨Nat.le_of_ble_eq_true rfl, Nat.le_of_ble_eq_true rfl⟩ (by simp [x_cat, x_catI, x_catL]) cl_M rfl (ro := some th) (fun b K' G' h' _ => c_M_nest l D dA base sa b l1 l2 l3 K' G' h') d_M_look_429 h (fun _ G h => ?_)
  exact x_vret F rfl hret d_M_look_432 ⟨(), rfl, h⟩
set_option maxHeartbeats 4000000 in
set_option maxRecDepth 100000 in
theorem c_M_look (l : Launch) (D : va_G) (dA : Nat → ClassId) (base : Nat) (sa : Nat → Nat) (th : Nat) (l1 : Int32) (l2 : Int32) (l3 : Int32) (K : Unit → xS → Prop) (G : xS) (h : p_M_look th l1 l2 l3 K G) : xMet l y_M_look b_M_look 9 none 2 53 D dA base sa [va_rf (some th), .int l1, .int l2, .int l3] G (fun v G2 => ∃ r : Unit, v = none ∧ K r G2) := by
  refine xMet.of (by decide) (by simp [x_cat, x_catI]) (Nat.le_of_ble_eq_true rfl) ?_
  intro p e s m args below meth c F hret hname
  unfold p_M_look at h
  refine x_sub (lv' := [(0, va_rf (some th)), (1, .int l1), (2, .int l2), (3, .int l3)]) [0, 1, 2, 3] rfl ?_
  refine x_aload_n F 0 d_M_look_0 rfl rfl ?_
  refine x_getR F cl_M in_M (k := 11) (by decide) k_612 rfl d_M_look_1 h (fun v1 h => ?_)
  refine x_iload_n F 1 d_M_look_4 rfl rfl ?_
  refine x_iald F (t := 0) rfl d_M_look_5 h (fun v2 h => ?_)
  refine x_iload_n F 3 d_M_look_6 rfl rfl ?_
  refine x_iadd F d_M_look_7 ?_
  refine x_istore F (lv' := [(4, .int (v2 + l3)), (0, va_rf (some th)), (1, .int l1), (2, .int l2), (3, .int l3)]) d_M_look_8 (by decide) rfl ?_
  refine x_iconst F (v := 4) d_M_look_10 (by decide) ?_
  refine x_iload F 0 d_M_look_11 rfl ?_
  refine x_imul F d_M_look_13 ?_
  refine x_aload_n F 1 d_M_look_14 rfl rfl ?_
  refine x_getR F cl_M in_M (k := 29) (by decide) k_630 rfl d_M_look_15 h (fun v3 h => ?_)
  refine x_iload_n F 3 d_M_look_18 rfl rfl ?_
  refine x_iald F (t := 0) rfl d_M_look_19 h (fun v4 h => ?_)
  refine x_iadd F d_M_look_20 ?_
  refine x_istore F (lv' := [(5, .int ((4 * (v2 + l3)) + v4)), (4, .int (v2 + l3)), (0, va_rf (some th)), (1, .int l1), (2, .int l2), (3, .int l3)]) d_M_look_21 (by decide) rfl ?_
  refine x_bipush F (v := 10) d_M_look_23 (by decide) ?_
  refine x_iload_n F 4 d_M_look_25 rfl rfl ?_
  refine x_iconst F (v := 1) d_M_look_26 (by decide) ?_
  refine x_iadd F d_M_look_27 ?_
  refine x_imul F d_M_look_28 ?_
  refine x_iload_n F 5 d_M_look_29 rfl rfl ?_
  refine x_iadd F d_M_look_30 ?_
  refine x_istore F (lv' := [(6, .int ((10 * (l2 + 1)) + l3)), (5, .int ((4 * (v2 + l3)) + v4)), (4, .int (v2 + l3)), (0, va_rf (some th)), (1, .int l1), (2, .int l2), (3, .int l3)]) d_M_look_31 (by decide) rfl ?_
  refine x_bipush F (v := 10) d_M_look_33 (by decide) ?_
  refine x_aload_n F 3 d_M_look_35 rfl rfl ?_
  refine x_getR F cl_M in_M (k := 28) (by decide) k_629 rfl d_M_look_36 h (fun v5 h => ?_)
  refine x_iload_n F 5 d_M_look_39 rfl rfl ?_
  refine x_iald F (t := 0) rfl d_M_look_40 h (fun v6 h => ?_)
  refine x_callS F (enc := fun r => some (.int r)) (P := p_M_parts v6) (n := 1) (As := [.int v6]) (st := [.int 10]) k_814 k_9 k_813 k_812 ⟨by decide, by decide, by decide +kernel⟩ rfl ⟨Nat.le_of_ble_eq_true rfl, Nat.le_of_ble_eq_true rfl⟩ (by simp [x_cat, x_catI, x_catL]) (fun K' G' h' _ => c_M_parts l D dA base sa v6 K' G' h') d_M_look_41 h (fun v7 G h => ?_)
  refine x_iconst F (v := 2) d_M_look_44 (by decide) ?_
  refine x_icmp_ne F (tgt := 59) d_M_look_45 (by decide) h (fun q h => ?_) (fun q h => ?_)
  · refine x_iconst F (v := 0) d_M_look_59 (by decide) ?_
    refine x_sub (lv' := [(0, va_rf (some th)), (1, .int l1), (2, .int l2), (3, .int l3), (4, .int (v2 + l3)), (5, .int ((4 * (v2 + l3)) + v4)), (6, .int ((10 * (l2 + 1)) + l3))]) [3, 4, 5, 6, 2, 1, 0] rfl ?_
    exact w_M_look_B60 F hret th l1 l2 l3 (v2 + l3) ((4 * (v2 + l3)) + v4) ((10 * (l2 + 1)) + l3) 0 10 h
  · refine x_aload_n F 3 d_M_look_48 rfl rfl ?_
    refine x_getR F cl_M in_M (k := 32) (by decide) k_633 rfl d_M_look_49 h (fun v51 h => ?_)
    refine x_iload_n F 5 d_M_look_52 rfl rfl ?_
    refine x_iconst F (v := 1) d_M_look_53 (by decide) ?_
    refine x_iadd F d_M_look_54 ?_
    refine x_iald F (t := 0) rfl d_M_look_55 h (fun v52 h => ?_)
    refine x_goto F (tgt := 60) d_M_look_56 (by decide) ?_
    refine x_sub (lv' := [(0, va_rf (some th)), (1, .int l1), (2, .int l2), (3, .int l3), (4, .int (v2 + l3)), (5, .int ((4 * (v2 + l3)) + v4)), (6, .int ((10 * (l2 + 1)) + l3))]) [3, 4, 5, 6, 2, 1, 0] rfl ?_
    exact w_M_look_B60 F hret th l1 l2 l3 (v2 + l3) ((4 * (v2 + l3)) + v4) ((10 * (l2 + 1)) + l3) v52 10 h
