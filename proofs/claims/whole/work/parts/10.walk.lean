def p_Dr_init (th : Nat) (K : Unit → xS → Prop) : xS → Prop := xnewR 3 10 fun a1 => xpR 6 0 (some th) (some a1) (xpI 6 1 (some th) 0 (xpI 6 2 (some th) 0 (xpR 6 3 (some th) none (K ()))))
abbrev X_Dr_init (p : Program) (l : Launch) (e : Env) (s : State) (m : MethodId) (args : Array Value) (below : List Frame) (meth : Method) (c : Code) (C0 S0 : Nat) (K : Unit → xS → Prop) (D : va_G) (dA : Nat → ClassId) (base : Nat) (sa : Nat → Nat) (pc : Nat) (lv : List (Nat × Value)) (st : List Value) (G : xS) : Prop := xW p l e { frames := 1, cells := C0, slots := S0, locals := 12 } s m args below meth c 1 (MQ below (xQ D dA base (fun v G2 => ∃ r : Unit, v = (none : Option Value) ∧ K r G2)) args s C0 S0 (fun q : Nat => base ≤ q)) D dA base sa pc lv st G
set_option maxHeartbeats 4000000 in
set_option maxRecDepth 100000 in
theorem c_Dr_init (l : Launch) (D : va_G) (dA : Nat → ClassId) (base : Nat) (sa : Nat → Nat) (th : Nat) (K : Unit → xS → Prop) (G : xS) (h : p_Dr_init th K G) : xMet l y_Dr_init b_Dr_init 1 none 1 12 D dA base sa [va_rf (some th)] G (fun v G2 => ∃ r : Unit, v = none ∧ K r G2) := by
  refine xMet.of (by decide) (by simp [x_cat, x_catI]) (Nat.le_of_ble_eq_true rfl) ?_
  intro p e s m args below meth c F hret hname
  unfold p_Dr_init at h
  refine x_sub (lv' := [(0, va_rf (some th))]) [0] rfl ?_
  refine x_aload_n F 0 d_Dr_init_0 rfl rfl ?_
  refine x_obj F k_27 k_20 k_21 d_Dr_init_1 (Nat.le_of_ble_eq_true rfl) (by simp [x_cat, x_catI, x_catL]) ?_
  refine x_aload_n F 0 d_Dr_init_4 rfl rfl ?_
  refine x_bipush F (v := 10) d_Dr_init_5 (by decide) ?_
  refine x_newR F (t := 3) rfl k_28 (by decide) d_Dr_init_7 h (fun a1 G h => ?_)
  refine x_putRF F cl_Dr in_Dr (k := 0) (by decide) k_30 rfl ty_Dr n_Dr rfl hname rfl (Or.inr ⟨_, rfl⟩) d_Dr_init_10 h (fun G h => ?_)
  refine x_aload_n F 0 d_Dr_init_13 rfl rfl ?_
  refine x_iconst F (v := 0) d_Dr_init_14 (by decide) ?_
  refine x_putI F cl_Dr in_Dr (k := 1) (by decide) k_33 rfl ty_Dr n_Dr rfl rfl d_Dr_init_15 h (fun G h => ?_)
  refine x_aload_n F 0 d_Dr_init_18 rfl rfl ?_
  refine x_iconst F (v := 0) d_Dr_init_19 (by decide) ?_
  refine x_putI F cl_Dr in_Dr (k := 2) (by decide) k_37 rfl ty_Dr n_Dr rfl rfl d_Dr_init_20 h (fun G h => ?_)
  refine x_aload_n F 0 d_Dr_init_23 rfl rfl ?_
  refine x_null F d_Dr_init_24 ?_
  refine x_putR F cl_Dr in_Dr (k := 3) (by decide) k_39 rfl ty_Dr n_Dr rfl (Or.inl ⟨_, rfl⟩) d_Dr_init_25 h (fun G h => ?_)
  exact x_vret F rfl hret d_Dr_init_28 ⟨(), rfl, h⟩
def p_Mp_init (th : Nat) (K : Unit → xS → Prop) : xS → Prop := xnewG 2 0 4 4 fun a1 => xpR 1 0 (some th) (some a1) (xpI 1 1 (some th) 0 (xnewG 2 0 4 4 fun a2 => xpR 1 2 (some th) (some a2) (K ())))
abbrev X_Mp_init (p : Program) (l : Launch) (e : Env) (s : State) (m : MethodId) (args : Array Value) (below : List Frame) (meth : Method) (c : Code) (C0 S0 : Nat) (K : Unit → xS → Prop) (D : va_G) (dA : Nat → ClassId) (base : Nat) (sa : Nat → Nat) (pc : Nat) (lv : List (Nat × Value)) (st : List Value) (G : xS) : Prop := xW p l e { frames := 1, cells := C0, slots := S0, locals := 12 } s m args below meth c 1 (MQ below (xQ D dA base (fun v G2 => ∃ r : Unit, v = (none : Option Value) ∧ K r G2)) args s C0 S0 (fun q : Nat => base ≤ q)) D dA base sa pc lv st G
set_option maxHeartbeats 4000000 in
set_option maxRecDepth 100000 in
theorem c_Mp_init (l : Launch) (D : va_G) (dA : Nat → ClassId) (base : Nat) (sa : Nat → Nat) (th : Nat) (K : Unit → xS → Prop) (G : xS) (h : p_Mp_init th K G) : xMet l y_Mp_init b_Mp_init 1 none 1 12 D dA base sa [va_rf (some th)] G (fun v G2 => ∃ r : Unit, v = none ∧ K r G2) := by
  refine xMet.of (by decide) (by simp [x_cat, x_catI]) (Nat.le_of_ble_eq_true rfl) ?_
  intro p e s m args below meth c F hret hname
  unfold p_Mp_init at h
  refine x_sub (lv' := [(0, va_rf (some th))]) [0] rfl ?_
  refine x_aload_n F 0 d_Mp_init_0 rfl rfl ?_
  refine x_obj F k_55 k_20 k_21 d_Mp_init_1 (Nat.le_of_ble_eq_true rfl) (by simp [x_cat, x_catI, x_catL]) ?_
  refine x_aload_n F 0 d_Mp_init_4 rfl rfl ?_
  refine x_iconst F (v := 4) d_Mp_init_5 (by decide) ?_
  refine x_iconst F (v := 4) d_Mp_init_6 (by decide) ?_
  refine x_newG F k_56 k_70 d_Mp_init_7 h (fun a1 G h => ?_)
  refine x_putRF F cl_Mp in_Mp (k := 0) (by decide) k_58 rfl ty_Mp n_Mp rfl hname rfl (Or.inr ⟨_, rfl⟩) d_Mp_init_11 h (fun G h => ?_)
  refine x_aload_n F 0 d_Mp_init_14 rfl rfl ?_
  refine x_iconst F (v := 0) d_Mp_init_15 (by decide) ?_
  refine x_putI F cl_Mp in_Mp (k := 1) (by decide) k_60 rfl ty_Mp n_Mp rfl rfl d_Mp_init_16 h (fun G h => ?_)
  refine x_aload_n F 0 d_Mp_init_19 rfl rfl ?_
  refine x_iconst F (v := 4) d_Mp_init_20 (by decide) ?_
  refine x_iconst F (v := 4) d_Mp_init_21 (by decide) ?_
  refine x_newG F k_56 k_70 d_Mp_init_22 h (fun a2 G h => ?_)
  refine x_putRF F cl_Mp in_Mp (k := 2) (by decide) k_62 rfl ty_Mp n_Mp rfl hname rfl (Or.inr ⟨_, rfl⟩) d_Mp_init_26 h (fun G h => ?_)
  exact x_vret F rfl hret d_Mp_init_29 ⟨(), rfl, h⟩
def p_Rw_init (th : Nat) (l1 : Int32) (K : Unit → xS → Prop) : xS → Prop := xpI 8 1 (some th) 0 (xpI 8 2 (some th) 0 (xnewR 4 l1 fun a1 => xpR 8 0 (some th) (some a1) (K ())))
abbrev X_Rw_init (p : Program) (l : Launch) (e : Env) (s : State) (m : MethodId) (args : Array Value) (below : List Frame) (meth : Method) (c : Code) (C0 S0 : Nat) (K : Unit → xS → Prop) (D : va_G) (dA : Nat → ClassId) (base : Nat) (sa : Nat → Nat) (pc : Nat) (lv : List (Nat × Value)) (st : List Value) (G : xS) : Prop := xW p l e { frames := 1, cells := C0, slots := S0, locals := 12 } s m args below meth c 2 (MQ below (xQ D dA base (fun v G2 => ∃ r : Unit, v = (none : Option Value) ∧ K r G2)) args s C0 S0 (fun q : Nat => base ≤ q)) D dA base sa pc lv st G
set_option maxHeartbeats 4000000 in
set_option maxRecDepth 100000 in
theorem c_Rw_init (l : Launch) (D : va_G) (dA : Nat → ClassId) (base : Nat) (sa : Nat → Nat) (th : Nat) (l1 : Int32) (K : Unit → xS → Prop) (G : xS) (h : p_Rw_init th l1 K G) : xMet l y_Rw_init b_Rw_init 2 none 1 12 D dA base sa [va_rf (some th), .int l1] G (fun v G2 => ∃ r : Unit, v = none ∧ K r G2) := by
  refine xMet.of (by decide) (by simp [x_cat, x_catI]) (Nat.le_of_ble_eq_true rfl) ?_
  intro p e s m args below meth c F hret hname
  unfold p_Rw_init at h
  refine x_sub (lv' := [(0, va_rf (some th)), (1, .int l1)]) [0, 1] rfl ?_
  refine x_aload_n F 0 d_Rw_init_0 rfl rfl ?_
  refine x_obj F k_76 k_20 k_21 d_Rw_init_1 (Nat.le_of_ble_eq_true rfl) (by simp [x_cat, x_catI, x_catL]) ?_
  refine x_aload_n F 0 d_Rw_init_4 rfl rfl ?_
  refine x_iconst F (v := 0) d_Rw_init_5 (by decide) ?_
  refine x_putI F cl_Rw in_Rw (k := 1) (by decide) k_81 rfl ty_Rw n_Rw rfl rfl d_Rw_init_6 h (fun G h => ?_)
  refine x_aload_n F 0 d_Rw_init_9 rfl rfl ?_
  refine x_iconst F (v := 0) d_Rw_init_10 (by decide) ?_
  refine x_putI F cl_Rw in_Rw (k := 2) (by decide) k_83 rfl ty_Rw n_Rw rfl rfl d_Rw_init_11 h (fun G h => ?_)
  refine x_aload_n F 0 d_Rw_init_14 rfl rfl ?_
  refine x_iload_n F 1 d_Rw_init_15 rfl rfl ?_
  refine x_newR F (t := 4) rfl k_77 (by decide) d_Rw_init_16 h (fun a1 G h => ?_)
  refine x_putRF F cl_Rw in_Rw (k := 0) (by decide) k_79 rfl ty_Rw n_Rw rfl hname rfl (Or.inr ⟨_, rfl⟩) d_Rw_init_19 h (fun G h => ?_)
  exact x_vret F rfl hret d_Rw_init_22 ⟨(), rfl, h⟩
def p_Sn_init (th : Nat) (K : Unit → xS → Prop) : xS → Prop := xpZ 4 0 (some th) 0 (xpI 4 1 (some th) 0 (xnewR 4 120 fun a1 => xpR 4 2 (some th) (some a1) (xnewI 1 120 fun a2 => xpR 4 3 (some th) (some a2) (xnewI 0 120 fun a3 => xpR 4 4 (some th) (some a3) (xnewI 0 120 fun a4 => xpR 4 5 (some th) (some a4) (K ()))))))
abbrev X_Sn_init (p : Program) (l : Launch) (e : Env) (s : State) (m : MethodId) (args : Array Value) (below : List Frame) (meth : Method) (c : Code) (C0 S0 : Nat) (K : Unit → xS → Prop) (D : va_G) (dA : Nat → ClassId) (base : Nat) (sa : Nat → Nat) (pc : Nat) (lv : List (Nat × Value)) (st : List Value) (G : xS) : Prop := xW p l e { frames := 1, cells := C0, slots := S0, locals := 12 } s m args below meth c 1 (MQ below (xQ D dA base (fun v G2 => ∃ r : Unit, v = (none : Option Value) ∧ K r G2)) args s C0 S0 (fun q : Nat => base ≤ q)) D dA base sa pc lv st G
set_option maxHeartbeats 4000000 in
set_option maxRecDepth 100000 in
theorem c_Sn_init (l : Launch) (D : va_G) (dA : Nat → ClassId) (base : Nat) (sa : Nat → Nat) (th : Nat) (K : Unit → xS → Prop) (G : xS) (h : p_Sn_init th K G) : xMet l y_Sn_init b_Sn_init 1 none 1 12 D dA base sa [va_rf (some th)] G (fun v G2 => ∃ r : Unit, v = none ∧ K r G2) := by
  refine xMet.of (by decide) (by simp [x_cat, x_catI]) (Nat.le_of_ble_eq_true rfl) ?_
  intro p e s m args below meth c F hret hname
  unfold p_Sn_init at h
  refine x_sub (lv' := [(0, va_rf (some th))]) [0] rfl ?_
  refine x_aload_n F 0 d_Sn_init_0 rfl rfl ?_
  refine x_obj F k_98 k_20 k_21 d_Sn_init_1 (Nat.le_of_ble_eq_true rfl) (by simp [x_cat, x_catI, x_catL]) ?_
  refine x_aload_n F 0 d_Sn_init_4 rfl rfl ?_
  refine x_iconst F (v := 0) d_Sn_init_5 (by decide) ?_
  refine x_putZ F cl_Sn in_Sn (k := 0) (by decide) k_100 rfl ty_Sn n_Sn rfl rfl d_Sn_init_6 h (fun G h => ?_)
  refine x_aload_n F 0 d_Sn_init_9 rfl rfl ?_
  refine x_iconst F (v := 0) d_Sn_init_10 (by decide) ?_
  refine x_putI F cl_Sn in_Sn (k := 1) (by decide) k_102 rfl ty_Sn n_Sn rfl rfl d_Sn_init_11 h (fun G h => ?_)
  refine x_aload_n F 0 d_Sn_init_14 rfl rfl ?_
  refine x_bipush F (v := 120) d_Sn_init_15 (by decide) ?_
  refine x_newR F (t := 4) rfl k_99 (by decide) d_Sn_init_17 h (fun a1 G h => ?_)
  refine x_putRF F cl_Sn in_Sn (k := 2) (by decide) k_105 rfl ty_Sn n_Sn rfl hname rfl (Or.inr ⟨_, rfl⟩) d_Sn_init_20 h (fun G h => ?_)
  refine x_aload_n F 0 d_Sn_init_23 rfl rfl ?_
  refine x_bipush F (v := 120) d_Sn_init_24 (by decide) ?_
  refine x_newZ F (t := 1) rfl k_128 d_Sn_init_26 h (fun a2 G h => ?_)
  refine x_putRF F cl_Sn in_Sn (k := 3) (by decide) k_109 rfl ty_Sn n_Sn rfl hname rfl (Or.inr ⟨_, rfl⟩) d_Sn_init_28 h (fun G h => ?_)
  refine x_aload_n F 0 d_Sn_init_31 rfl rfl ?_
  refine x_bipush F (v := 120) d_Sn_init_32 (by decide) ?_
  refine x_newI F (t := 0) rfl k_70 d_Sn_init_34 h (fun a3 G h => ?_)
  refine x_putRF F cl_Sn in_Sn (k := 4) (by decide) k_111 rfl ty_Sn n_Sn rfl hname rfl (Or.inr ⟨_, rfl⟩) d_Sn_init_36 h (fun G h => ?_)
  refine x_aload_n F 0 d_Sn_init_39 rfl rfl ?_
  refine x_bipush F (v := 120) d_Sn_init_40 (by decide) ?_
  refine x_newI F (t := 0) rfl k_70 d_Sn_init_42 h (fun a4 G h => ?_)
  refine x_putRF F cl_Sn in_Sn (k := 5) (by decide) k_113 rfl ty_Sn n_Sn rfl hname rfl (Or.inr ⟨_, rfl⟩) d_Sn_init_44 h (fun G h => ?_)
  exact x_vret F rfl hret d_Sn_init_47 ⟨(), rfl, h⟩
def p_Qu_init (th : Nat) (K : Unit → xS → Prop) : xS → Prop := xnewI 0 12 fun a1 => xpR 3 0 (some th) (some a1) (xnewI 0 12 fun a2 => xpR 3 1 (some th) (some a2) (xnewI 0 12 fun a3 => xpR 3 2 (some th) (some a3) (xnewI 0 12 fun a4 => xpR 3 3 (some th) (some a4) (xpI 3 4 (some th) 0 (xnewI 0 13 fun a5 => xpR 3 5 (some th) (some a5) (xpI 3 6 (some th) 1 (K ())))))))
abbrev X_Qu_init (p : Program) (l : Launch) (e : Env) (s : State) (m : MethodId) (args : Array Value) (below : List Frame) (meth : Method) (c : Code) (C0 S0 : Nat) (K : Unit → xS → Prop) (D : va_G) (dA : Nat → ClassId) (base : Nat) (sa : Nat → Nat) (pc : Nat) (lv : List (Nat × Value)) (st : List Value) (G : xS) : Prop := xW p l e { frames := 1, cells := C0, slots := S0, locals := 12 } s m args below meth c 1 (MQ below (xQ D dA base (fun v G2 => ∃ r : Unit, v = (none : Option Value) ∧ K r G2)) args s C0 S0 (fun q : Nat => base ≤ q)) D dA base sa pc lv st G
set_option maxHeartbeats 4000000 in
set_option maxRecDepth 100000 in
theorem c_Qu_init (l : Launch) (D : va_G) (dA : Nat → ClassId) (base : Nat) (sa : Nat → Nat) (th : Nat) (K : Unit → xS → Prop) (G : xS) (h : p_Qu_init th K G) : xMet l y_Qu_init b_Qu_init 1 none 1 12 D dA base sa [va_rf (some th)] G (fun v G2 => ∃ r : Unit, v = none ∧ K r G2) := by
  refine xMet.of (by decide) (by simp [x_cat, x_catI]) (Nat.le_of_ble_eq_true rfl) ?_
  intro p e s m args below meth c F hret hname
  unfold p_Qu_init at h
  refine x_sub (lv' := [(0, va_rf (some th))]) [0] rfl ?_
  refine x_aload_n F 0 d_Qu_init_0 rfl rfl ?_
  refine x_obj F k_134 k_20 k_21 d_Qu_init_1 (Nat.le_of_ble_eq_true rfl) (by simp [x_cat, x_catI, x_catL]) ?_
  refine x_aload_n F 0 d_Qu_init_4 rfl rfl ?_
  refine x_bipush F (v := 12) d_Qu_init_5 (by decide) ?_
  refine x_newI F (t := 0) rfl k_70 d_Qu_init_7 h (fun a1 G h => ?_)
  refine x_putRF F cl_Qu in_Qu (k := 0) (by decide) k_135 rfl ty_Qu n_Qu rfl hname rfl (Or.inr ⟨_, rfl⟩) d_Qu_init_9 h (fun G h => ?_)
  refine x_aload_n F 0 d_Qu_init_12 rfl rfl ?_
  refine x_bipush F (v := 12) d_Qu_init_13 (by decide) ?_
  refine x_newI F (t := 0) rfl k_70 d_Qu_init_15 h (fun a2 G h => ?_)
  refine x_putRF F cl_Qu in_Qu (k := 1) (by decide) k_137 rfl ty_Qu n_Qu rfl hname rfl (Or.inr ⟨_, rfl⟩) d_Qu_init_17 h (fun G h => ?_)
  refine x_aload_n F 0 d_Qu_init_20 rfl rfl ?_
  refine x_bipush F (v := 12) d_Qu_init_21 (by decide) ?_
  refine x_newI F (t := 0) rfl k_70 d_Qu_init_23 h (fun a3 G h => ?_)
  refine x_putRF F cl_Qu in_Qu (k := 2) (by decide) k_139 rfl ty_Qu n_Qu rfl hname rfl (Or.inr ⟨_, rfl⟩) d_Qu_init_25 h (fun G h => ?_)
  refine x_aload_n F 0 d_Qu_init_28 rfl rfl ?_
  refine x_bipush F (v := 12) d_Qu_init_29 (by decide) ?_
  refine x_newI F (t := 0) rfl k_70 d_Qu_init_31 h (fun a4 G h => ?_)
  refine x_putRF F cl_Qu in_Qu (k := 3) (by decide) k_141 rfl ty_Qu n_Qu rfl hname rfl (Or.inr ⟨_, rfl⟩) d_Qu_init_33 h (fun G h => ?_)
  refine x_aload_n F 0 d_Qu_init_36 rfl rfl ?_
  refine x_iconst F (v := 0) d_Qu_init_37 (by decide) ?_
  refine x_putI F cl_Qu in_Qu (k := 4) (by decide) k_143 rfl ty_Qu n_Qu rfl rfl d_Qu_init_38 h (fun G h => ?_)
  refine x_aload_n F 0 d_Qu_init_41 rfl rfl ?_
  refine x_bipush F (v := 13) d_Qu_init_42 (by decide) ?_
  refine x_newI F (t := 0) rfl k_70 d_Qu_init_44 h (fun a5 G h => ?_)
  refine x_putRF F cl_Qu in_Qu (k := 5) (by decide) k_146 rfl ty_Qu n_Qu rfl hname rfl (Or.inr ⟨_, rfl⟩) d_Qu_init_46 h (fun G h => ?_)
  refine x_aload_n F 0 d_Qu_init_49 rfl rfl ?_
  refine x_iconst F (v := 1) d_Qu_init_50 (by decide) ?_
  refine x_putI F cl_Qu in_Qu (k := 6) (by decide) k_147 rfl ty_Qu n_Qu rfl rfl d_Qu_init_51 h (fun G h => ?_)
  exact x_vret F rfl hret d_Qu_init_54 ⟨(), rfl, h⟩
def p_Sc_init (th : Nat) (K : Unit → xS → Prop) : xS → Prop := xnewI 0 12 fun a1 => xpR 7 0 (some th) (some a1) (xnewI 0 12 fun a2 => xpR 7 1 (some th) (some a2) (xnewG 2 0 12 10 fun a3 => xpR 7 2 (some th) (some a3) (K ())))
abbrev X_Sc_init (p : Program) (l : Launch) (e : Env) (s : State) (m : MethodId) (args : Array Value) (below : List Frame) (meth : Method) (c : Code) (C0 S0 : Nat) (K : Unit → xS → Prop) (D : va_G) (dA : Nat → ClassId) (base : Nat) (sa : Nat → Nat) (pc : Nat) (lv : List (Nat × Value)) (st : List Value) (G : xS) : Prop := xW p l e { frames := 1, cells := C0, slots := S0, locals := 12 } s m args below meth c 1 (MQ below (xQ D dA base (fun v G2 => ∃ r : Unit, v = (none : Option Value) ∧ K r G2)) args s C0 S0 (fun q : Nat => base ≤ q)) D dA base sa pc lv st G
set_option maxHeartbeats 4000000 in
set_option maxRecDepth 100000 in
theorem c_Sc_init (l : Launch) (D : va_G) (dA : Nat → ClassId) (base : Nat) (sa : Nat → Nat) (th : Nat) (K : Unit → xS → Prop) (G : xS) (h : p_Sc_init th K G) : xMet l y_Sc_init b_Sc_init 1 none 1 12 D dA base sa [va_rf (some th)] G (fun v G2 => ∃ r : Unit, v = none ∧ K r G2) := by
  refine xMet.of (by decide) (by simp [x_cat, x_catI]) (Nat.le_of_ble_eq_true rfl) ?_
  intro p e s m args below meth c F hret hname
  unfold p_Sc_init at h
  refine x_sub (lv' := [(0, va_rf (some th))]) [0] rfl ?_
  refine x_aload_n F 0 d_Sc_init_0 rfl rfl ?_
  refine x_obj F k_169 k_20 k_21 d_Sc_init_1 (Nat.le_of_ble_eq_true rfl) (by simp [x_cat, x_catI, x_catL]) ?_
  refine x_aload_n F 0 d_Sc_init_4 rfl rfl ?_
  refine x_bipush F (v := 12) d_Sc_init_5 (by decide) ?_
  refine x_newI F (t := 0) rfl k_70 d_Sc_init_7 h (fun a1 G h => ?_)
  refine x_putRF F cl_Sc in_Sc (k := 0) (by decide) k_171 rfl ty_Sc n_Sc rfl hname rfl (Or.inr ⟨_, rfl⟩) d_Sc_init_9 h (fun G h => ?_)
  refine x_aload_n F 0 d_Sc_init_12 rfl rfl ?_
  refine x_bipush F (v := 12) d_Sc_init_13 (by decide) ?_
  refine x_newI F (t := 0) rfl k_70 d_Sc_init_15 h (fun a2 G h => ?_)
  refine x_putRF F cl_Sc in_Sc (k := 1) (by decide) k_172 rfl ty_Sc n_Sc rfl hname rfl (Or.inr ⟨_, rfl⟩) d_Sc_init_17 h (fun G h => ?_)
  refine x_aload_n F 0 d_Sc_init_20 rfl rfl ?_
  refine x_bipush F (v := 12) d_Sc_init_21 (by decide) ?_
  refine x_bipush F (v := 10) d_Sc_init_23 (by decide) ?_
  refine x_newG F k_170 k_70 d_Sc_init_25 h (fun a3 G h => ?_)
  refine x_putRF F cl_Sc in_Sc (k := 2) (by decide) k_173 rfl ty_Sc n_Sc rfl hname rfl (Or.inr ⟨_, rfl⟩) d_Sc_init_29 h (fun G h => ?_)
  exact x_vret F rfl hret d_Sc_init_32 ⟨(), rfl, h⟩
def p_Hi_init (th : Nat) (K : Unit → xS → Prop) : xS → Prop := xnewG 2 0 20 5 fun a1 => xpR 0 0 (some th) (some a1) (xpI 0 1 (some th) 0 (K ()))
abbrev X_Hi_init (p : Program) (l : Launch) (e : Env) (s : State) (m : MethodId) (args : Array Value) (below : List Frame) (meth : Method) (c : Code) (C0 S0 : Nat) (K : Unit → xS → Prop) (D : va_G) (dA : Nat → ClassId) (base : Nat) (sa : Nat → Nat) (pc : Nat) (lv : List (Nat × Value)) (st : List Value) (G : xS) : Prop := xW p l e { frames := 1, cells := C0, slots := S0, locals := 12 } s m args below meth c 1 (MQ below (xQ D dA base (fun v G2 => ∃ r : Unit, v = (none : Option Value) ∧ K r G2)) args s C0 S0 (fun q : Nat => base ≤ q)) D dA base sa pc lv st G
set_option maxHeartbeats 4000000 in
set_option maxRecDepth 100000 in
theorem c_Hi_init (l : Launch) (D : va_G) (dA : Nat → ClassId) (base : Nat) (sa : Nat → Nat) (th : Nat) (K : Unit → xS → Prop) (G : xS) (h : p_Hi_init th K G) : xMet l y_Hi_init b_Hi_init 1 none 1 12 D dA base sa [va_rf (some th)] G (fun v G2 => ∃ r : Unit, v = none ∧ K r G2) := by
  refine xMet.of (by decide) (by simp [x_cat, x_catI]) (Nat.le_of_ble_eq_true rfl) ?_
  intro p e s m args below meth c F hret hname
  unfold p_Hi_init at h
  refine x_sub (lv' := [(0, va_rf (some th))]) [0] rfl ?_
  refine x_aload_n F 0 d_Hi_init_0 rfl rfl ?_
  refine x_obj F k_186 k_20 k_21 d_Hi_init_1 (Nat.le_of_ble_eq_true rfl) (by simp [x_cat, x_catI, x_catL]) ?_
  refine x_aload_n F 0 d_Hi_init_4 rfl rfl ?_
  refine x_bipush F (v := 20) d_Hi_init_5 (by decide) ?_
  refine x_iconst F (v := 5) d_Hi_init_7 (by decide) ?_
  refine x_newG F k_187 k_70 d_Hi_init_8 h (fun a1 G h => ?_)
  refine x_putRF F cl_Hi in_Hi (k := 0) (by decide) k_188 rfl ty_Hi n_Hi rfl hname rfl (Or.inr ⟨_, rfl⟩) d_Hi_init_12 h (fun G h => ?_)
  refine x_aload_n F 0 d_Hi_init_15 rfl rfl ?_
  refine x_iconst F (v := 0) d_Hi_init_16 (by decide) ?_
  refine x_putI F cl_Hi in_Hi (k := 1) (by decide) k_190 rfl ty_Hi n_Hi rfl rfl d_Hi_init_17 h (fun G h => ?_)
  exact x_vret F rfl hret d_Hi_init_20 ⟨(), rfl, h⟩
def p_B_init (th : Nat) (K : Unit → xS → Prop) : xS → Prop := xnew 6 4 z_Dr fun a1 => xcall 1 10 (p_Dr_init a1 ) fun _ => xpR 9 0 (some th) (some a1) (xnew 1 3 z_Mp fun a2 => xcall 10 40 (p_Mp_init a2 ) fun _ => xpR 9 1 (some th) (some a2) (xnew 8 3 z_Rw fun a3 => xcall 1 180 (p_Rw_init a3 30) fun _ => xpR 9 2 (some th) (some a3) (xnewR 5 6 fun a4 => xpR 9 3 (some th) (some a4) (xnew 4 6 z_Sn fun a5 => xcall 4 480 (p_Sn_init a5 ) fun _ => xpR 9 4 (some th) (some a5) (xnew 3 7 z_Qu fun a6 => xcall 5 61 (p_Qu_init a6 ) fun _ => xpR 9 5 (some th) (some a6) (xnew 7 3 z_Sc fun a7 => xcall 15 156 (p_Sc_init a7 ) fun _ => xpR 9 6 (some th) (some a7) (xnew 0 2 z_Hi fun a8 => xcall 21 120 (p_Hi_init a8 ) fun _ => xpR 9 7 (some th) (some a8) (xpI 9 8 (some th) 0 (xpI 9 9 (some th) 0 (xpI 9 10 (some th) 0 (K ())))))))))))
abbrev X_B_init (p : Program) (l : Launch) (e : Env) (s : State) (m : MethodId) (args : Array Value) (below : List Frame) (meth : Method) (c : Code) (C0 S0 : Nat) (K : Unit → xS → Prop) (D : va_G) (dA : Nat → ClassId) (base : Nat) (sa : Nat → Nat) (pc : Nat) (lv : List (Nat × Value)) (st : List Value) (G : xS) : Prop := xW p l e { frames := 2, cells := C0, slots := S0, locals := 33 } s m args below meth c 1 (MQ below (xQ D dA base (fun v G2 => ∃ r : Unit, v = (none : Option Value) ∧ K r G2)) args s C0 S0 (fun q : Nat => base ≤ q)) D dA base sa pc lv st G
set_option maxHeartbeats 4000000 in
set_option maxRecDepth 100000 in
theorem c_B_init (l : Launch) (D : va_G) (dA : Nat → ClassId) (base : Nat) (sa : Nat → Nat) (th : Nat) (K : Unit → xS → Prop) (G : xS) (h : p_B_init th K G) : xMet l y_B_init b_B_init 1 none 2 33 D dA base sa [va_rf (some th)] G (fun v G2 => ∃ r : Unit, v = none ∧ K r G2) := by
  refine xMet.of (by decide) (by simp [x_cat, x_catI]) (Nat.le_of_ble_eq_true rfl) ?_
  intro p e s m args below meth c F hret hname
  unfold p_B_init at h
  refine x_sub (lv' := [(0, va_rf (some th))]) [0] rfl ?_
  refine x_aload_n F 0 d_B_init_0 rfl rfl ?_
  refine x_obj F k_19 k_20 k_21 d_B_init_1 (Nat.le_of_ble_eq_true rfl) (by simp [x_cat, x_catI, x_catL]) ?_
  refine x_aload_n F 0 d_B_init_4 rfl rfl ?_
  refine x_new F cl_Dr in_Dr ty_Dr k_22 k_23 k_2 df_Dr d_B_init_5 h (fun a1 G h => ?_)
  refine x_dup F (x_cat _) d_B_init_8 ?_
  refine x_callIN F (enc := fun r => none) (host := "BlockSearch") (P := p_Dr_init a1 ) (n := 0) (As := []) (st := [va_rf (some a1), va_rf (some th)]) k_26 k_2 k_25 rfl (by decide) ⟨by decide, by decide, by decide +kernel⟩ rfl ⟨Nat.le_of_ble_eq_true rfl, Nat.le_of_ble_eq_true rfl⟩ (by simp [x_cat, x_catI, x_catL]) (b := a1) (fun K' G' h' _ => c_Dr_init l D dA base sa a1  K' G' h') d_B_init_9 h (fun _ G h => ?_)
  refine x_putRF F cl_B in_B (k := 0) (by decide) k_197 rfl ty_B n_B rfl hname rfl (Or.inl ⟨_, rfl⟩) d_B_init_12 h (fun G h => ?_)
  refine x_aload_n F 0 d_B_init_15 rfl rfl ?_
  refine x_new F cl_Mp in_Mp ty_Mp k_50 k_51 k_3 df_Mp d_B_init_16 h (fun a2 G h => ?_)
  refine x_dup F (x_cat _) d_B_init_19 ?_
  refine x_callIN F (enc := fun r => none) (host := "BlockSearch") (P := p_Mp_init a2 ) (n := 0) (As := []) (st := [va_rf (some a2), va_rf (some th)]) k_54 k_3 k_53 rfl (by decide) ⟨by decide, by decide, by decide +kernel⟩ rfl ⟨Nat.le_of_ble_eq_true rfl, Nat.le_of_ble_eq_true rfl⟩ (by simp [x_cat, x_catI, x_catL]) (b := a2) (fun K' G' h' _ => c_Mp_init l D dA base sa a2  K' G' h') d_B_init_20 h (fun _ G h => ?_)
  refine x_putRF F cl_B in_B (k := 1) (by decide) k_198 rfl ty_B n_B rfl hname rfl (Or.inl ⟨_, rfl⟩) d_B_init_23 h (fun G h => ?_)
  refine x_aload_n F 0 d_B_init_26 rfl rfl ?_
  refine x_new F cl_Rw in_Rw ty_Rw k_71 k_72 k_4 df_Rw d_B_init_27 h (fun a3 G h => ?_)
  refine x_dup F (x_cat _) d_B_init_30 ?_
  refine x_bipush F (v := 30) d_B_init_31 (by decide) ?_
  refine x_callI F (enc := fun r => none) (P := p_Rw_init a3 30) (n := 1) (As := [.int 30]) (st := [va_rf (some a3), va_rf (some th)]) k_75 k_4 k_74 rfl k_73 ⟨by decide, by decide, by decide +kernel⟩ rfl ⟨Nat.le_of_ble_eq_true rfl, Nat.le_of_ble_eq_true rfl⟩ (by simp [x_cat, x_catI, x_catL]) (b := a3) (fun K' G' h' _ => c_Rw_init l D dA base sa a3 30 K' G' h') d_B_init_33 h (fun _ G h => ?_)
  refine x_putRF F cl_B in_B (k := 2) (by decide) k_199 rfl ty_B n_B rfl hname rfl (Or.inl ⟨_, rfl⟩) d_B_init_36 h (fun G h => ?_)
  refine x_aload_n F 0 d_B_init_39 rfl rfl ?_
  refine x_bipush F (v := 6) d_B_init_40 (by decide) ?_
  refine x_newR F (t := 5) rfl k_71 (by decide) d_B_init_42 h (fun a4 G h => ?_)
  refine x_putRF F cl_B in_B (k := 3) (by decide) k_200 rfl ty_B n_B rfl hname rfl (Or.inr ⟨_, rfl⟩) d_B_init_45 h (fun G h => ?_)
  refine x_aload_n F 0 d_B_init_48 rfl rfl ?_
  refine x_new F cl_Sn in_Sn ty_Sn k_93 k_94 k_5 df_Sn d_B_init_49 h (fun a5 G h => ?_)
  refine x_dup F (x_cat _) d_B_init_52 ?_
  refine x_callIN F (enc := fun r => none) (host := "BlockSearch") (P := p_Sn_init a5 ) (n := 0) (As := []) (st := [va_rf (some a5), va_rf (some th)]) k_97 k_5 k_96 rfl (by decide) ⟨by decide, by decide, by decide +kernel⟩ rfl ⟨Nat.le_of_ble_eq_true rfl, Nat.le_of_ble_eq_true rfl⟩ (by simp [x_cat, x_catI, x_catL]) (b := a5) (fun K' G' h' _ => c_Sn_init l D dA base sa a5  K' G' h') d_B_init_53 h (fun _ G h => ?_)
  refine x_putRF F cl_B in_B (k := 4) (by decide) k_201 rfl ty_B n_B rfl hname rfl (Or.inl ⟨_, rfl⟩) d_B_init_56 h (fun G h => ?_)
  refine x_aload_n F 0 d_B_init_59 rfl rfl ?_
  refine x_new F cl_Qu in_Qu ty_Qu k_129 k_130 k_6 df_Qu d_B_init_60 h (fun a6 G h => ?_)
  refine x_dup F (x_cat _) d_B_init_63 ?_
  refine x_callIN F (enc := fun r => none) (host := "BlockSearch") (P := p_Qu_init a6 ) (n := 0) (As := []) (st := [va_rf (some a6), va_rf (some th)]) k_133 k_6 k_132 rfl (by decide) ⟨by decide, by decide, by decide +kernel⟩ rfl ⟨Nat.le_of_ble_eq_true rfl, Nat.le_of_ble_eq_true rfl⟩ (by simp [x_cat, x_catI, x_catL]) (b := a6) (fun K' G' h' _ => c_Qu_init l D dA base sa a6  K' G' h') d_B_init_64 h (fun _ G h => ?_)
  refine x_putRF F cl_B in_B (k := 5) (by decide) k_202 rfl ty_B n_B rfl hname rfl (Or.inl ⟨_, rfl⟩) d_B_init_67 h (fun G h => ?_)
  refine x_aload_n F 0 d_B_init_70 rfl rfl ?_
  refine x_new F cl_Sc in_Sc ty_Sc k_164 k_165 k_7 df_Sc d_B_init_71 h (fun a7 G h => ?_)
  refine x_dup F (x_cat _) d_B_init_74 ?_
  refine x_callIN F (enc := fun r => none) (host := "BlockSearch") (P := p_Sc_init a7 ) (n := 0) (As := []) (st := [va_rf (some a7), va_rf (some th)]) k_168 k_7 k_167 rfl (by decide) ⟨by decide, by decide, by decide +kernel⟩ rfl ⟨Nat.le_of_ble_eq_true rfl, Nat.le_of_ble_eq_true rfl⟩ (by simp [x_cat, x_catI, x_catL]) (b := a7) (fun K' G' h' _ => c_Sc_init l D dA base sa a7  K' G' h') d_B_init_75 h (fun _ G h => ?_)
  refine x_putRF F cl_B in_B (k := 6) (by decide) k_203 rfl ty_B n_B rfl hname rfl (Or.inl ⟨_, rfl⟩) d_B_init_78 h (fun G h => ?_)
  refine x_aload_n F 0 d_B_init_81 rfl rfl ?_
  refine x_new F cl_Hi in_Hi ty_Hi k_181 k_182 k_8 df_Hi d_B_init_82 h (fun a8 G h => ?_)
  refine x_dup F (x_cat _) d_B_init_85 ?_
  refine x_callIN F (enc := fun r => none) (host := "BlockSearch") (P := p_Hi_init a8 ) (n := 0) (As := []) (st := [va_rf (some a8), va_rf (some th)]) k_185 k_8 k_184 rfl (by decide) ⟨by decide, by decide, by decide +kernel⟩ rfl ⟨Nat.le_of_ble_eq_true rfl, Nat.le_of_ble_eq_true rfl⟩ (by simp [x_cat, x_catI, x_catL]) (b := a8) (fun K' G' h' _ => c_Hi_init l D dA base sa a8  K' G' h') d_B_init_86 h (fun _ G h => ?_)
  refine x_putRF F cl_B in_B (k := 7) (by decide) k_204 rfl ty_B n_B rfl hname rfl (Or.inl ⟨_, rfl⟩) d_B_init_89 h (fun G h => ?_)
  refine x_aload_n F 0 d_B_init_92 rfl rfl ?_
  refine x_iconst F (v := 0) d_B_init_93 (by decide) ?_
  refine x_putI F cl_B in_B (k := 8) (by decide) k_205 rfl ty_B n_B rfl rfl d_B_init_94 h (fun G h => ?_)
  refine x_aload_n F 0 d_B_init_97 rfl rfl ?_
  refine x_iconst F (v := 0) d_B_init_98 (by decide) ?_
  refine x_putI F cl_B in_B (k := 9) (by decide) k_206 rfl ty_B n_B rfl rfl d_B_init_99 h (fun G h => ?_)
  refine x_aload_n F 0 d_B_init_102 rfl rfl ?_
  refine x_iconst F (v := 0) d_B_init_103 (by decide) ?_
  refine x_putI F cl_B in_B (k := 10) (by decide) k_207 rfl ty_B n_B rfl rfl d_B_init_104 h (fun G h => ?_)
  exact x_vret F rfl hret d_B_init_107 ⟨(), rfl, h⟩
def p_B_isPath (l0 : Int32) (K : Int32 → xS → Prop) : xS → Prop := xif (l0 < 0) (xrz 0 K) (xif (4 ≤ l0) (xrz 0 K) (xrz 1 K))
abbrev X_B_isPath (p : Program) (l : Launch) (e : Env) (s : State) (m : MethodId) (args : Array Value) (below : List Frame) (meth : Method) (c : Code) (C0 S0 : Nat) (K : Int32 → xS → Prop) (D : va_G) (dA : Nat → ClassId) (base : Nat) (sa : Nat → Nat) (pc : Nat) (lv : List (Nat × Value)) (st : List Value) (G : xS) : Prop := xW p l e { frames := 0, cells := C0, slots := S0, locals := 0 } s m args below meth c 1 (MQ below (xQ D dA base (fun v G2 => ∃ r : Int32, v = some (.int r) ∧ K r G2)) args s C0 S0 (fun q : Nat => base ≤ q)) D dA base sa pc lv st G
set_option maxHeartbeats 4000000 in
set_option maxRecDepth 100000 in
theorem c_B_isPath (l : Launch) (D : va_G) (dA : Nat → ClassId) (base : Nat) (sa : Nat → Nat) (l0 : Int32) (K : Int32 → xS → Prop) (G : xS) (h : p_B_isPath l0 K G) : xMet l y_B_isPath b_B_isPath 1 (some FieldType.boolean) 0 0 D dA base sa [.int l0] G (fun v G2 => ∃ r : Int32, v = some (.int r) ∧ K r G2) := by
  refine xMet.of (by decide) (by simp [x_cat, x_catI]) (Nat.le_of_ble_eq_true rfl) ?_
  intro p e s m args below meth c F hret hname
  unfold p_B_isPath at h
  refine x_sub (lv' := [(0, .int l0)]) [0] rfl ?_
  refine x_iload_n F 0 d_B_isPath_0 rfl rfl ?_
  refine x_if_lt F (tgt := 13) d_B_isPath_1 (by decide) h (fun q h => ?_) (fun q h => ?_)
  · refine x_iconst F (v := 0) d_B_isPath_13 (by decide) ?_
    exact x_zret F rfl hret d_B_isPath_14 h (fun h => ⟨_, rfl, h⟩)
  · refine x_iload_n F 0 d_B_isPath_4 rfl rfl ?_
    refine x_iconst F (v := 4) d_B_isPath_5 (by decide) ?_
    refine x_icmp_ge F (tgt := 13) d_B_isPath_6 (by decide) h (fun q h => ?_) (fun q h => ?_)
    · refine x_iconst F (v := 0) d_B_isPath_13 (by decide) ?_
      exact x_zret F rfl hret d_B_isPath_14 h (fun h => ⟨_, rfl, h⟩)
    · refine x_iconst F (v := 1) d_B_isPath_9 (by decide) ?_
      refine x_goto F (tgt := 14) d_B_isPath_10 (by decide) ?_
      exact x_zret F rfl hret d_B_isPath_14 h (fun h => ⟨_, rfl, h⟩)
def p_Dr_takesPath (th : Nat) (l1 : Int32) (K : Int32 → xS → Prop) : xS → Prop := xgR 6 3 (some th) fun v1 => xnn v1 (fun _ => xtab 4 xPar l1 fun v2 => xgR 6 3 (some th) fun v3 => xgI 2 0 v3 fun v4 => xif (v2 = v4) (xrz 1 K) (xrz 0 K)) (xgI 6 2 (some th) fun v5 => xif (v5 = 0) (xif (l1 = 0) (xrz 1 K) (xrz 0 K)) (xrz 0 K))
abbrev X_Dr_takesPath (p : Program) (l : Launch) (e : Env) (s : State) (m : MethodId) (args : Array Value) (below : List Frame) (meth : Method) (c : Code) (C0 S0 : Nat) (K : Int32 → xS → Prop) (D : va_G) (dA : Nat → ClassId) (base : Nat) (sa : Nat → Nat) (pc : Nat) (lv : List (Nat × Value)) (st : List Value) (G : xS) : Prop := xW p l e { frames := 0, cells := C0, slots := S0, locals := 0 } s m args below meth c 2 (MQ below (xQ D dA base (fun v G2 => ∃ r : Int32, v = some (.int r) ∧ K r G2)) args s C0 S0 (fun q : Nat => base ≤ q)) D dA base sa pc lv st G
set_option maxHeartbeats 4000000 in
set_option maxRecDepth 100000 in
theorem c_Dr_takesPath (l : Launch) (D : va_G) (dA : Nat → ClassId) (base : Nat) (sa : Nat → Nat) (th : Nat) (l1 : Int32) (K : Int32 → xS → Prop) (G : xS) (h : p_Dr_takesPath th l1 K G) : xMet l y_Dr_takesPath b_Dr_takesPath 2 (some FieldType.boolean) 0 0 D dA base sa [va_rf (some th), .int l1] G (fun v G2 => ∃ r : Int32, v = some (.int r) ∧ K r G2) := by
  refine xMet.of (by decide) (by simp [x_cat, x_catI]) (Nat.le_of_ble_eq_true rfl) ?_
  intro p e s m args below meth c F hret hname
  unfold p_Dr_takesPath at h
  refine x_sub (lv' := [(0, va_rf (some th)), (1, .int l1)]) [0, 1] rfl ?_
  refine x_aload_n F 0 d_Dr_takesPath_0 rfl rfl ?_
  refine x_getR F cl_Dr in_Dr (k := 3) (by decide) k_39 rfl d_Dr_takesPath_1 h (fun v1 h => ?_)
  refine x_ifnonnull F (tgt := 24) d_Dr_takesPath_4 (by decide) h (fun _ q h => ?_) (fun q h => ?_)
  · refine x_getsN F (host := "BlockSearch") (by decide) d_Dr_takesPath_24 ?_
    refine x_iload_n F 1 d_Dr_takesPath_27 rfl rfl ?_
    refine x_tab F d_Dr_takesPath_28 h (fun v2 h => ?_)
    refine x_aload_n F 0 d_Dr_takesPath_29 rfl rfl ?_
    refine x_getR F cl_Dr in_Dr (k := 3) (by decide) k_39 rfl d_Dr_takesPath_30 h (fun v3 h => ?_)
    refine x_getI F cl_Nd in_Nd (k := 0) (by decide) k_256 rfl d_Dr_takesPath_33 h (fun v4 h => ?_)
    refine x_icmp_ne F (tgt := 43) d_Dr_takesPath_36 (by decide) h (fun q h => ?_) (fun q h => ?_)
    · refine x_iconst F (v := 0) d_Dr_takesPath_43 (by decide) ?_
      exact x_zret F rfl hret d_Dr_takesPath_44 h (fun h => ⟨_, rfl, h⟩)
    · refine x_iconst F (v := 1) d_Dr_takesPath_39 (by decide) ?_
      refine x_goto F (tgt := 44) d_Dr_takesPath_40 (by decide) ?_
      exact x_zret F rfl hret d_Dr_takesPath_44 h (fun h => ⟨_, rfl, h⟩)
  · refine x_aload_n F 0 d_Dr_takesPath_7 rfl rfl ?_
    refine x_getI F cl_Dr in_Dr (k := 2) (by decide) k_37 rfl d_Dr_takesPath_8 h (fun v5 h => ?_)
    refine x_if_ne F (tgt := 22) d_Dr_takesPath_11 (by decide) h (fun q h => ?_) (fun q h => ?_)
    · refine x_iconst F (v := 0) d_Dr_takesPath_22 (by decide) ?_
      exact x_zret F rfl hret d_Dr_takesPath_23 h (fun h => ⟨_, rfl, h⟩)
    · refine x_iload_n F 1 d_Dr_takesPath_14 rfl rfl ?_
      refine x_if_ne F (tgt := 22) d_Dr_takesPath_15 (by decide) h (fun q h => ?_) (fun q h => ?_)
      · refine x_iconst F (v := 0) d_Dr_takesPath_22 (by decide) ?_
        exact x_zret F rfl hret d_Dr_takesPath_23 h (fun h => ⟨_, rfl, h⟩)
      · refine x_iconst F (v := 1) d_Dr_takesPath_18 (by decide) ?_
        refine x_goto F (tgt := 23) d_Dr_takesPath_19 (by decide) ?_
        exact x_zret F rfl hret d_Dr_takesPath_23 h (fun h => ⟨_, rfl, h⟩)
def p_Nd_init (th : Nat) (l1 : Int32) (l2 : Option Nat) (l3 : Int32) (K : Unit → xS → Prop) : xS → Prop := xpI 2 3 (some th) 0 (xnewI 0 4 fun a1 => xpR 2 4 (some th) (some a1) (xnewI 0 4 fun a2 => xpR 2 5 (some th) (some a2) (xnewI 0 32 fun a3 => xpR 2 6 (some th) (some a3) (xpI 2 0 (some th) l1 (xpR 2 1 (some th) l2 (xpI 2 2 (some th) l3 (K ())))))))
abbrev X_Nd_init (p : Program) (l : Launch) (e : Env) (s : State) (m : MethodId) (args : Array Value) (below : List Frame) (meth : Method) (c : Code) (C0 S0 : Nat) (K : Unit → xS → Prop) (D : va_G) (dA : Nat → ClassId) (base : Nat) (sa : Nat → Nat) (pc : Nat) (lv : List (Nat × Value)) (st : List Value) (G : xS) : Prop := xW p l e { frames := 1, cells := C0, slots := S0, locals := 12 } s m args below meth c 4 (MQ below (xQ D dA base (fun v G2 => ∃ r : Unit, v = (none : Option Value) ∧ K r G2)) args s C0 S0 (fun q : Nat => base ≤ q)) D dA base sa pc lv st G
set_option maxHeartbeats 4000000 in
set_option maxRecDepth 100000 in
theorem c_Nd_init (l : Launch) (D : va_G) (dA : Nat → ClassId) (base : Nat) (sa : Nat → Nat) (th : Nat) (l1 : Int32) (l2 : Option Nat) (l3 : Int32) (K : Unit → xS → Prop) (G : xS) (h : p_Nd_init th l1 l2 l3 K G) : xMet l y_Nd_init b_Nd_init 4 none 1 12 D dA base sa [va_rf (some th), .int l1, va_rf l2, .int l3] G (fun v G2 => ∃ r : Unit, v = none ∧ K r G2) := by
  refine xMet.of (by decide) (by simp [x_cat, x_catI]) (Nat.le_of_ble_eq_true rfl) ?_
  intro p e s m args below meth c F hret hname
  unfold p_Nd_init at h
  refine x_sub (lv' := [(0, va_rf (some th)), (1, .int l1), (2, va_rf l2), (3, .int l3)]) [0, 1, 2, 3] rfl ?_
  refine x_aload_n F 0 d_Nd_init_0 rfl rfl ?_
  refine x_obj F k_252 k_20 k_21 d_Nd_init_1 (Nat.le_of_ble_eq_true rfl) (by simp [x_cat, x_catI, x_catL]) ?_
  refine x_aload_n F 0 d_Nd_init_4 rfl rfl ?_
  refine x_iconst F (v := 0) d_Nd_init_5 (by decide) ?_
  refine x_putI F cl_Nd in_Nd (k := 3) (by decide) k_265 rfl ty_Nd n_Nd rfl rfl d_Nd_init_6 h (fun G h => ?_)
  refine x_aload_n F 0 d_Nd_init_9 rfl rfl ?_
  refine x_iconst F (v := 4) d_Nd_init_10 (by decide) ?_
  refine x_newI F (t := 0) rfl k_70 d_Nd_init_11 h (fun a1 G h => ?_)
  refine x_putRF F cl_Nd in_Nd (k := 4) (by decide) k_268 rfl ty_Nd n_Nd rfl hname rfl (Or.inr ⟨_, rfl⟩) d_Nd_init_13 h (fun G h => ?_)
  refine x_aload_n F 0 d_Nd_init_16 rfl rfl ?_
  refine x_iconst F (v := 4) d_Nd_init_17 (by decide) ?_
  refine x_newI F (t := 0) rfl k_70 d_Nd_init_18 h (fun a2 G h => ?_)
  refine x_putRF F cl_Nd in_Nd (k := 5) (by decide) k_272 rfl ty_Nd n_Nd rfl hname rfl (Or.inr ⟨_, rfl⟩) d_Nd_init_20 h (fun G h => ?_)
  refine x_aload_n F 0 d_Nd_init_23 rfl rfl ?_
  refine x_bipush F (v := 32) d_Nd_init_24 (by decide) ?_
  refine x_newI F (t := 0) rfl k_70 d_Nd_init_26 h (fun a3 G h => ?_)
  refine x_putRF F cl_Nd in_Nd (k := 6) (by decide) k_274 rfl ty_Nd n_Nd rfl hname rfl (Or.inr ⟨_, rfl⟩) d_Nd_init_28 h (fun G h => ?_)
  refine x_aload_n F 0 d_Nd_init_31 rfl rfl ?_
  refine x_iload_n F 1 d_Nd_init_32 rfl rfl ?_
  refine x_putIF F cl_Nd in_Nd (k := 0) (by decide) k_253 rfl ty_Nd n_Nd rfl hname rfl rfl d_Nd_init_33 h (fun G h => ?_)
  refine x_aload_n F 0 d_Nd_init_36 rfl rfl ?_
  refine x_aload_n F 2 d_Nd_init_37 rfl rfl ?_
  refine x_putRF F cl_Nd in_Nd (k := 1) (by decide) k_258 rfl ty_Nd n_Nd rfl hname rfl (Or.inl ⟨_, rfl⟩) d_Nd_init_38 h (fun G h => ?_)
  refine x_aload_n F 0 d_Nd_init_41 rfl rfl ?_
  refine x_iload_n F 3 d_Nd_init_42 rfl rfl ?_
  refine x_putIF F cl_Nd in_Nd (k := 2) (by decide) k_262 rfl ty_Nd n_Nd rfl hname rfl rfl d_Nd_init_43 h (fun G h => ?_)
  exact x_vret F rfl hret d_Nd_init_46 ⟨(), rfl, h⟩
def p_Dr_begin (th : Nat) (l1 : Int32) (K : Unit → xS → Prop) : xS → Prop := xnew 2 7 z_Nd fun a1 => xgR 6 3 (some th) fun v2 => xgI 6 1 (some th) fun v3 => xcall 3 40 (p_Nd_init a1 l1 v2 v3) fun _ => xpR 6 3 (some th) (some a1) (xgI 6 2 (some th) fun v4 => xpI 6 2 (some th) (v4 + 1) (K ()))
abbrev X_Dr_begin (p : Program) (l : Launch) (e : Env) (s : State) (m : MethodId) (args : Array Value) (below : List Frame) (meth : Method) (c : Code) (C0 S0 : Nat) (K : Unit → xS → Prop) (D : va_G) (dA : Nat → ClassId) (base : Nat) (sa : Nat → Nat) (pc : Nat) (lv : List (Nat × Value)) (st : List Value) (G : xS) : Prop := xW p l e { frames := 2, cells := C0, slots := S0, locals := 35 } s m args below meth c 2 (MQ below (xQ D dA base (fun v G2 => ∃ r : Unit, v = (none : Option Value) ∧ K r G2)) args s C0 S0 (fun q : Nat => base ≤ q)) D dA base sa pc lv st G
set_option maxHeartbeats 4000000 in
set_option maxRecDepth 100000 in
theorem c_Dr_begin (l : Launch) (D : va_G) (dA : Nat → ClassId) (base : Nat) (sa : Nat → Nat) (th : Nat) (l1 : Int32) (K : Unit → xS → Prop) (G : xS) (h : p_Dr_begin th l1 K G) : xMet l y_Dr_begin b_Dr_begin 2 none 2 35 D dA base sa [va_rf (some th), .int l1] G (fun v G2 => ∃ r : Unit, v = none ∧ K r G2) := by
  refine xMet.of (by decide) (by simp [x_cat, x_catI]) (Nat.le_of_ble_eq_true rfl) ?_
  intro p e s m args below meth c F hret hname
  unfold p_Dr_begin at h
  refine x_sub (lv' := [(0, va_rf (some th)), (1, .int l1)]) [0, 1] rfl ?_
  refine x_aload_n F 0 d_Dr_begin_0 rfl rfl ?_
  refine x_new F cl_Nd in_Nd ty_Nd k_28 k_248 k_10 df_Nd d_Dr_begin_1 h (fun a1 G h => ?_)
  refine x_dup F (x_cat _) d_Dr_begin_4 ?_
  refine x_iload_n F 1 d_Dr_begin_5 rfl rfl ?_
  refine x_aload_n F 0 d_Dr_begin_6 rfl rfl ?_
  refine x_getR F cl_Dr in_Dr (k := 3) (by decide) k_39 rfl d_Dr_begin_7 h (fun v2 h => ?_)
  refine x_aload_n F 0 d_Dr_begin_10 rfl rfl ?_
  refine x_getI F cl_Dr in_Dr (k := 1) (by decide) k_33 rfl d_Dr_begin_11 h (fun v3 h => ?_)
  refine x_callI F (enc := fun r => none) (P := p_Nd_init a1 l1 v2 v3) (n := 3) (As := [.int l1, va_rf v2, .int v3]) (st := [va_rf (some a1), va_rf (some th)]) k_251 k_10 k_250 rfl k_249 ⟨by decide, by decide, by decide +kernel⟩ rfl ⟨Nat.le_of_ble_eq_true rfl, Nat.le_of_ble_eq_true rfl⟩ (by simp [x_cat, x_catI, x_catL]) (b := a1) (fun K' G' h' _ => c_Nd_init l D dA base sa a1 l1 v2 v3 K' G' h') d_Dr_begin_14 h (fun _ G h => ?_)
  refine x_putR F cl_Dr in_Dr (k := 3) (by decide) k_39 rfl ty_Dr n_Dr rfl (Or.inl ⟨_, rfl⟩) d_Dr_begin_17 h (fun G h => ?_)
  refine x_aload_n F 0 d_Dr_begin_20 rfl rfl ?_
  refine x_dup F (x_cat _) d_Dr_begin_21 ?_
  refine x_getI F cl_Dr in_Dr (k := 2) (by decide) k_37 rfl d_Dr_begin_22 h (fun v4 h => ?_)
  refine x_iconst F (v := 1) d_Dr_begin_25 (by decide) ?_
  refine x_iadd F d_Dr_begin_26 ?_
  refine x_putI F cl_Dr in_Dr (k := 2) (by decide) k_37 rfl ty_Dr n_Dr rfl rfl d_Dr_begin_27 h (fun G h => ?_)
  exact x_vret F rfl hret d_Dr_begin_30 ⟨(), rfl, h⟩
def p_B_open (th : Nat) (l1 : Int32) (K : Int32 → xS → Prop) : xS → Prop := xcall 0 0 (p_B_isPath l1) fun v1 => xif (v1 = 0) (K (-1)) (xgR 9 0 (some th) fun v2 => xob 6 v2 fun b => xcall 0 0 (p_Dr_takesPath b l1) fun v3 => xif (v3 = 0) (K (-2)) (xgR 9 0 (some th) fun v4 => xgI 6 2 v4 fun v5 => xif (v5 < 10) (xgR 9 0 (some th) fun v6 => xob 6 v6 fun b => xcall 4 47 (p_Dr_begin b l1) fun _ => xgR 9 0 (some th) fun v7 => xgI 6 2 v7 fun v8 => K v8) (K (-3))))
abbrev X_B_open (p : Program) (l : Launch) (e : Env) (s : State) (m : MethodId) (args : Array Value) (below : List Frame) (meth : Method) (c : Code) (C0 S0 : Nat) (K : Int32 → xS → Prop) (D : va_G) (dA : Nat → ClassId) (base : Nat) (sa : Nat → Nat) (pc : Nat) (lv : List (Nat × Value)) (st : List Value) (G : xS) : Prop := xW p l e { frames := 3, cells := C0, slots := S0, locals := 56 } s m args below meth c 2 (MQ below (xQ D dA base (fun v G2 => ∃ r : Int32, v = some (.int r) ∧ K r G2)) args s C0 S0 (fun q : Nat => base ≤ q)) D dA base sa pc lv st G
set_option maxHeartbeats 4000000 in
set_option maxRecDepth 100000 in
theorem c_B_open (l : Launch) (D : va_G) (dA : Nat → ClassId) (base : Nat) (sa : Nat → Nat) (th : Nat) (l1 : Int32) (K : Int32 → xS → Prop) (G : xS) (h : p_B_open th l1 K G) : xMet l y_B_open b_B_open 2 (some FieldType.int) 3 56 D dA base sa [va_rf (some th), .int l1] G (fun v G2 => ∃ r : Int32, v = some (.int r) ∧ K r G2) := by
  refine xMet.of (by decide) (by simp [x_cat, x_catI]) (Nat.le_of_ble_eq_true rfl) ?_
  intro p e s m args below meth c F hret hname
  unfold p_B_open at h
  refine x_sub (lv' := [(0, va_rf (some th)), (1, .int l1)]) [0, 1] rfl ?_
  refine x_iload_n F 1 d_B_open_0 rfl rfl ?_
  refine x_callS F (enc := fun r => some (.int r)) (P := p_B_isPath l1) (n := 1) (As := [.int l1]) (st := []) k_237 k_1 k_236 k_235 ⟨by decide, by decide, by decide +kernel⟩ rfl ⟨Nat.le_of_ble_eq_true rfl, Nat.le_of_ble_eq_true rfl⟩ (by simp [x_cat, x_catI, x_catL]) (fun K' G' h' _ => c_B_isPath l D dA base sa l1 K' G' h') d_B_open_1 h (fun v1 G h => ?_)
  refine x_if_ne F (tgt := 9) d_B_open_4 (by decide) h (fun q h => ?_) (fun q h => ?_)
  · refine x_aload_n F 0 d_B_open_9 rfl rfl ?_
    refine x_getR F cl_B in_B (k := 0) (by decide) k_197 rfl d_B_open_10 h (fun v2 h => ?_)
    refine x_iload_n F 1 d_B_open_13 rfl rfl ?_
    refine x_callV F (enc := fun r => some (.int r)) (P := fun b => p_Dr_takesPath b l1) (n := 1) (As := [.int l1]) (st := []) k_241 k_2 k_239 k_240 k_238 ⟨by decide, by decide, by decide +kernel⟩ rfl ⟨Nat.le_of_ble_eq_true rfl, Nat.le_of_ble_eq_true rfl⟩ (by simp [x_cat, x_catI, x_catL]) cl_Dr rfl (ro := v2) (fun b K' G' h' _ => c_Dr_takesPath l D dA base sa b l1 K' G' h') d_B_open_14 h (fun v3 G h => ?_)
    refine x_if_ne F (tgt := 23) d_B_open_17 (by decide) h (fun q h => ?_) (fun q h => ?_)
    · refine x_aload_n F 0 d_B_open_23 rfl rfl ?_
      refine x_getR F cl_B in_B (k := 0) (by decide) k_197 rfl d_B_open_24 h (fun v4 h => ?_)
      refine x_getI F cl_Dr in_Dr (k := 2) (by decide) k_38 rfl d_B_open_27 h (fun v5 h => ?_)
      refine x_bipush F (v := 10) d_B_open_30 (by decide) ?_
      refine x_icmp_lt F (tgt := 38) d_B_open_32 (by decide) h (fun q h => ?_) (fun q h => ?_)
      · refine x_aload_n F 0 d_B_open_38 rfl rfl ?_
        refine x_getR F cl_B in_B (k := 0) (by decide) k_197 rfl d_B_open_39 h (fun v6 h => ?_)
        refine x_iload_n F 1 d_B_open_42 rfl rfl ?_
        refine x_callV F (enc := fun r => none) (P := fun b => p_Dr_begin b l1) (n := 1) (As := [.int l1]) (st := []) k_247 k_2 k_245 k_246 k_244 ⟨by decide, by decide, by decide +kernel⟩ rfl ⟨Nat.le_of_ble_eq_true rfl, Nat.le_of_ble_eq_true rfl⟩ (by simp [x_cat, x_catI, x_catL]) cl_Dr rfl (ro := v6) (fun b K' G' h' _ => c_Dr_begin l D dA base sa b l1 K' G' h') d_B_open_43 h (fun _ G h => ?_)
        refine x_aload_n F 0 d_B_open_46 rfl rfl ?_
        refine x_getR F cl_B in_B (k := 0) (by decide) k_197 rfl d_B_open_47 h (fun v7 h => ?_)
        refine x_getI F cl_Dr in_Dr (k := 2) (by decide) k_38 rfl d_B_open_50 h (fun v8 h => ?_)
        exact x_iret F rfl hret d_B_open_53 ⟨_, rfl, h⟩
      · refine x_bipush F (v := (-3)) d_B_open_35 (by decide) ?_
        exact x_iret F rfl hret d_B_open_37 ⟨_, rfl, h⟩
    · refine x_bipush F (v := (-2)) d_B_open_20 (by decide) ?_
      exact x_iret F rfl hret d_B_open_22 ⟨_, rfl, h⟩
  · refine x_iconst F (v := (-1)) d_B_open_7 (by decide) ?_
    exact x_iret F rfl hret d_B_open_8 ⟨_, rfl, h⟩
def p_B_isField (l0 : Int32) (K : Int32 → xS → Prop) : xS → Prop := xif (l0 < 0) (xrz 0 K) (xif (4 ≤ l0) (xrz 0 K) (xrz 1 K))
abbrev X_B_isField (p : Program) (l : Launch) (e : Env) (s : State) (m : MethodId) (args : Array Value) (below : List Frame) (meth : Method) (c : Code) (C0 S0 : Nat) (K : Int32 → xS → Prop) (D : va_G) (dA : Nat → ClassId) (base : Nat) (sa : Nat → Nat) (pc : Nat) (lv : List (Nat × Value)) (st : List Value) (G : xS) : Prop := xW p l e { frames := 0, cells := C0, slots := S0, locals := 0 } s m args below meth c 1 (MQ below (xQ D dA base (fun v G2 => ∃ r : Int32, v = some (.int r) ∧ K r G2)) args s C0 S0 (fun q : Nat => base ≤ q)) D dA base sa pc lv st G
set_option maxHeartbeats 4000000 in
set_option maxRecDepth 100000 in
theorem c_B_isField (l : Launch) (D : va_G) (dA : Nat → ClassId) (base : Nat) (sa : Nat → Nat) (l0 : Int32) (K : Int32 → xS → Prop) (G : xS) (h : p_B_isField l0 K G) : xMet l y_B_isField b_B_isField 1 (some FieldType.boolean) 0 0 D dA base sa [.int l0] G (fun v G2 => ∃ r : Int32, v = some (.int r) ∧ K r G2) := by
  refine xMet.of (by decide) (by simp [x_cat, x_catI]) (Nat.le_of_ble_eq_true rfl) ?_
  intro p e s m args below meth c F hret hname
  unfold p_B_isField at h
  refine x_sub (lv' := [(0, .int l0)]) [0] rfl ?_
  refine x_iload_n F 0 d_B_isField_0 rfl rfl ?_
  refine x_if_lt F (tgt := 13) d_B_isField_1 (by decide) h (fun q h => ?_) (fun q h => ?_)
  · refine x_iconst F (v := 0) d_B_isField_13 (by decide) ?_
    exact x_zret F rfl hret d_B_isField_14 h (fun h => ⟨_, rfl, h⟩)
  · refine x_iload_n F 0 d_B_isField_4 rfl rfl ?_
    refine x_iconst F (v := 4) d_B_isField_5 (by decide) ?_
    refine x_icmp_ge F (tgt := 13) d_B_isField_6 (by decide) h (fun q h => ?_) (fun q h => ?_)
    · refine x_iconst F (v := 0) d_B_isField_13 (by decide) ?_
      exact x_zret F rfl hret d_B_isField_14 h (fun h => ⟨_, rfl, h⟩)
    · refine x_iconst F (v := 1) d_B_isField_9 (by decide) ?_
      refine x_goto F (tgt := 14) d_B_isField_10 (by decide) ?_
      exact x_zret F rfl hret d_B_isField_14 h (fun h => ⟨_, rfl, h⟩)
def p_B_isNumber (l0 : Int32) (K : Int32 → xS → Prop) : xS → Prop := xif (l0 < (-1000)) (xrz 0 K) (xif (1000 < l0) (xrz 0 K) (xrz 1 K))
abbrev X_B_isNumber (p : Program) (l : Launch) (e : Env) (s : State) (m : MethodId) (args : Array Value) (below : List Frame) (meth : Method) (c : Code) (C0 S0 : Nat) (K : Int32 → xS → Prop) (D : va_G) (dA : Nat → ClassId) (base : Nat) (sa : Nat → Nat) (pc : Nat) (lv : List (Nat × Value)) (st : List Value) (G : xS) : Prop := xW p l e { frames := 0, cells := C0, slots := S0, locals := 0 } s m args below meth c 1 (MQ below (xQ D dA base (fun v G2 => ∃ r : Int32, v = some (.int r) ∧ K r G2)) args s C0 S0 (fun q : Nat => base ≤ q)) D dA base sa pc lv st G
set_option maxHeartbeats 4000000 in
set_option maxRecDepth 100000 in
theorem c_B_isNumber (l : Launch) (D : va_G) (dA : Nat → ClassId) (base : Nat) (sa : Nat → Nat) (l0 : Int32) (K : Int32 → xS → Prop) (G : xS) (h : p_B_isNumber l0 K G) : xMet l y_B_isNumber b_B_isNumber 1 (some FieldType.boolean) 0 0 D dA base sa [.int l0] G (fun v G2 => ∃ r : Int32, v = some (.int r) ∧ K r G2) := by
  refine xMet.of (by decide) (by simp [x_cat, x_catI]) (Nat.le_of_ble_eq_true rfl) ?_
  intro p e s m args below meth c F hret hname
  unfold p_B_isNumber at h
  refine x_sub (lv' := [(0, .int l0)]) [0] rfl ?_
  refine x_iload_n F 0 d_B_isNumber_0 rfl rfl ?_
  refine x_sipush F (v := (-1000)) d_B_isNumber_1 (by decide) ?_
  refine x_icmp_lt F (tgt := 18) d_B_isNumber_4 (by decide) h (fun q h => ?_) (fun q h => ?_)
  · refine x_iconst F (v := 0) d_B_isNumber_18 (by decide) ?_
    exact x_zret F rfl hret d_B_isNumber_19 h (fun h => ⟨_, rfl, h⟩)
  · refine x_iload_n F 0 d_B_isNumber_7 rfl rfl ?_
    refine x_sipush F (v := 1000) d_B_isNumber_8 (by decide) ?_
    refine x_icmp_gt F (tgt := 18) d_B_isNumber_11 (by decide) h (fun q h => ?_) (fun q h => ?_)
    · refine x_iconst F (v := 0) d_B_isNumber_18 (by decide) ?_
      exact x_zret F rfl hret d_B_isNumber_19 h (fun h => ⟨_, rfl, h⟩)
    · refine x_iconst F (v := 1) d_B_isNumber_14 (by decide) ?_
      refine x_goto F (tgt := 19) d_B_isNumber_15 (by decide) ?_
      exact x_zret F rfl hret d_B_isNumber_19 h (fun h => ⟨_, rfl, h⟩)
def p_Nd_putNumber (th : Nat) (l1 : Int32) (l2 : Int32) (K : Unit → xS → Prop) : xS → Prop := xgR 2 4 (some th) fun v1 => xas 0 v1 l1 1 (xgR 2 5 (some th) fun v2 => xas 0 v2 l1 l2 (K ()))
abbrev X_Nd_putNumber (p : Program) (l : Launch) (e : Env) (s : State) (m : MethodId) (args : Array Value) (below : List Frame) (meth : Method) (c : Code) (C0 S0 : Nat) (K : Unit → xS → Prop) (D : va_G) (dA : Nat → ClassId) (base : Nat) (sa : Nat → Nat) (pc : Nat) (lv : List (Nat × Value)) (st : List Value) (G : xS) : Prop := xW p l e { frames := 0, cells := C0, slots := S0, locals := 0 } s m args below meth c 3 (MQ below (xQ D dA base (fun v G2 => ∃ r : Unit, v = (none : Option Value) ∧ K r G2)) args s C0 S0 (fun q : Nat => base ≤ q)) D dA base sa pc lv st G
set_option maxHeartbeats 4000000 in
set_option maxRecDepth 100000 in
theorem c_Nd_putNumber (l : Launch) (D : va_G) (dA : Nat → ClassId) (base : Nat) (sa : Nat → Nat) (th : Nat) (l1 : Int32) (l2 : Int32) (K : Unit → xS → Prop) (G : xS) (h : p_Nd_putNumber th l1 l2 K G) : xMet l y_Nd_putNumber b_Nd_putNumber 3 none 0 0 D dA base sa [va_rf (some th), .int l1, .int l2] G (fun v G2 => ∃ r : Unit, v = none ∧ K r G2) := by
  refine xMet.of (by decide) (by simp [x_cat, x_catI]) (Nat.le_of_ble_eq_true rfl) ?_
  intro p e s m args below meth c F hret hname
  unfold p_Nd_putNumber at h
  refine x_sub (lv' := [(0, va_rf (some th)), (1, .int l1), (2, .int l2)]) [0, 1, 2] rfl ?_
  refine x_aload_n F 0 d_Nd_putNumber_0 rfl rfl ?_
  refine x_getR F cl_Nd in_Nd (k := 4) (by decide) k_268 rfl d_Nd_putNumber_1 h (fun v1 h => ?_)
  refine x_iload_n F 1 d_Nd_putNumber_4 rfl rfl ?_
  refine x_iconst F (v := 1) d_Nd_putNumber_5 (by decide) ?_
  refine x_iast F (t := 0) rfl d_Nd_putNumber_6 h (fun G h => ?_)
  refine x_aload_n F 0 d_Nd_putNumber_7 rfl rfl ?_
  refine x_getR F cl_Nd in_Nd (k := 5) (by decide) k_272 rfl d_Nd_putNumber_8 h (fun v2 h => ?_)
  refine x_iload_n F 1 d_Nd_putNumber_11 rfl rfl ?_
  refine x_iload_n F 2 d_Nd_putNumber_12 rfl rfl ?_
  refine x_iast F (t := 0) rfl d_Nd_putNumber_13 h (fun G h => ?_)
  exact x_vret F rfl hret d_Nd_putNumber_14 ⟨(), rfl, h⟩
def p_B_number (th : Nat) (l1 : Int32) (l2 : Int32) (K : Int32 → xS → Prop) : xS → Prop := xcall 0 0 (p_B_isField l1) fun v1 => xif (v1 = 0) (xrz 0 K) (xcall 0 0 (p_B_isNumber l2) fun v2 => xif (v2 = 0) (xrz 0 K) (xgR 9 0 (some th) fun v3 => xgR 6 3 v3 fun v4 => xnn v4 (fun _ => xgR 9 0 (some th) fun v5 => xgR 6 3 v5 fun v6 => xob 2 v6 fun b => xcall 0 0 (p_Nd_putNumber b l1 l2) fun _ => xrz 1 K) (xrz 0 K)))
abbrev X_B_number (p : Program) (l : Launch) (e : Env) (s : State) (m : MethodId) (args : Array Value) (below : List Frame) (meth : Method) (c : Code) (C0 S0 : Nat) (K : Int32 → xS → Prop) (D : va_G) (dA : Nat → ClassId) (base : Nat) (sa : Nat → Nat) (pc : Nat) (lv : List (Nat × Value)) (st : List Value) (G : xS) : Prop := xW p l e { frames := 1, cells := C0, slots := S0, locals := 22 } s m args below meth c 3 (MQ below (xQ D dA base (fun v G2 => ∃ r : Int32, v = some (.int r) ∧ K r G2)) args s C0 S0 (fun q : Nat => base ≤ q)) D dA base sa pc lv st G
set_option maxHeartbeats 4000000 in
set_option maxRecDepth 100000 in
theorem c_B_number (l : Launch) (D : va_G) (dA : Nat → ClassId) (base : Nat) (sa : Nat → Nat) (th : Nat) (l1 : Int32) (l2 : Int32) (K : Int32 → xS → Prop) (G : xS) (h : p_B_number th l1 l2 K G) : xMet l y_B_number b_B_number 3 (some FieldType.boolean) 1 22 D dA base sa [va_rf (some th), .int l1, .int l2] G (fun v G2 => ∃ r : Int32, v = some (.int r) ∧ K r G2) := by
  refine xMet.of (by decide) (by simp [x_cat, x_catI]) (Nat.le_of_ble_eq_true rfl) ?_
  intro p e s m args below meth c F hret hname
  unfold p_B_number at h
  refine x_sub (lv' := [(0, va_rf (some th)), (1, .int l1), (2, .int l2)]) [0, 1, 2] rfl ?_
  refine x_iload_n F 1 d_B_number_0 rfl rfl ?_
  refine x_callS F (enc := fun r => some (.int r)) (P := p_B_isField l1) (n := 1) (As := [.int l1]) (st := []) k_296 k_1 k_295 k_294 ⟨by decide, by decide, by decide +kernel⟩ rfl ⟨Nat.le_of_ble_eq_true rfl, Nat.le_of_ble_eq_true rfl⟩ (by simp [x_cat, x_catI, x_catL]) (fun K' G' h' _ => c_B_isField l D dA base sa l1 K' G' h') d_B_number_1 h (fun v1 G h => ?_)
  refine x_if_eq F (tgt := 24) d_B_number_4 (by decide) h (fun q h => ?_) (fun q h => ?_)
  · refine x_iconst F (v := 0) d_B_number_24 (by decide) ?_
    exact x_zret F rfl hret d_B_number_25 h (fun h => ⟨_, rfl, h⟩)
  · refine x_iload_n F 2 d_B_number_7 rfl rfl ?_
    refine x_callS F (enc := fun r => some (.int r)) (P := p_B_isNumber l2) (n := 1) (As := [.int l2]) (st := []) k_299 k_1 k_298 k_297 ⟨by decide, by decide, by decide +kernel⟩ rfl ⟨Nat.le_of_ble_eq_true rfl, Nat.le_of_ble_eq_true rfl⟩ (by simp [x_cat, x_catI, x_catL]) (fun K' G' h' _ => c_B_isNumber l D dA base sa l2 K' G' h') d_B_number_8 h (fun v2 G h => ?_)
    refine x_if_eq F (tgt := 24) d_B_number_11 (by decide) h (fun q h => ?_) (fun q h => ?_)
    · refine x_iconst F (v := 0) d_B_number_24 (by decide) ?_
      exact x_zret F rfl hret d_B_number_25 h (fun h => ⟨_, rfl, h⟩)
    · refine x_aload_n F 0 d_B_number_14 rfl rfl ?_
      refine x_getR F cl_B in_B (k := 0) (by decide) k_197 rfl d_B_number_15 h (fun v3 h => ?_)
      refine x_getR F cl_Dr in_Dr (k := 3) (by decide) k_40 rfl d_B_number_18 h (fun v4 h => ?_)
      refine x_ifnonnull F (tgt := 26) d_B_number_21 (by decide) h (fun _ q h => ?_) (fun q h => ?_)
      · refine x_aload_n F 0 d_B_number_26 rfl rfl ?_
        refine x_getR F cl_B in_B (k := 0) (by decide) k_197 rfl d_B_number_27 h (fun v5 h => ?_)
        refine x_getR F cl_Dr in_Dr (k := 3) (by decide) k_40 rfl d_B_number_30 h (fun v6 h => ?_)
        refine x_iload_n F 1 d_B_number_33 rfl rfl ?_
        refine x_iload_n F 2 d_B_number_34 rfl rfl ?_
        refine x_callV F (enc := fun r => none) (P := fun b => p_Nd_putNumber b l1 l2) (n := 2) (As := [.int l1, .int l2]) (st := []) k_303 k_10 k_301 k_302 k_300 ⟨by decide, by decide, by decide +kernel⟩ rfl ⟨Nat.le_of_ble_eq_true rfl, Nat.le_of_ble_eq_true rfl⟩ (by simp [x_cat, x_catI, x_catL]) cl_Nd rfl (ro := v6) (fun b K' G' h' _ => c_Nd_putNumber l D dA base sa b l1 l2 K' G' h') d_B_number_35 h (fun _ G h => ?_)
        refine x_iconst F (v := 1) d_B_number_38 (by decide) ?_
        exact x_zret F rfl hret d_B_number_39 h (fun h => ⟨_, rfl, h⟩)
      · refine x_iconst F (v := 0) d_B_number_24 (by decide) ?_
        exact x_zret F rfl hret d_B_number_25 h (fun h => ⟨_, rfl, h⟩)
def p_B_isWord (l0 : Int32) (K : Int32 → xS → Prop) : xS → Prop := xif (l0 < 0) (xrz 0 K) (xif (26 ≤ l0) (xrz 0 K) (xrz 1 K))
abbrev X_B_isWord (p : Program) (l : Launch) (e : Env) (s : State) (m : MethodId) (args : Array Value) (below : List Frame) (meth : Method) (c : Code) (C0 S0 : Nat) (K : Int32 → xS → Prop) (D : va_G) (dA : Nat → ClassId) (base : Nat) (sa : Nat → Nat) (pc : Nat) (lv : List (Nat × Value)) (st : List Value) (G : xS) : Prop := xW p l e { frames := 0, cells := C0, slots := S0, locals := 0 } s m args below meth c 1 (MQ below (xQ D dA base (fun v G2 => ∃ r : Int32, v = some (.int r) ∧ K r G2)) args s C0 S0 (fun q : Nat => base ≤ q)) D dA base sa pc lv st G
set_option maxHeartbeats 4000000 in
set_option maxRecDepth 100000 in
theorem c_B_isWord (l : Launch) (D : va_G) (dA : Nat → ClassId) (base : Nat) (sa : Nat → Nat) (l0 : Int32) (K : Int32 → xS → Prop) (G : xS) (h : p_B_isWord l0 K G) : xMet l y_B_isWord b_B_isWord 1 (some FieldType.boolean) 0 0 D dA base sa [.int l0] G (fun v G2 => ∃ r : Int32, v = some (.int r) ∧ K r G2) := by
  refine xMet.of (by decide) (by simp [x_cat, x_catI]) (Nat.le_of_ble_eq_true rfl) ?_
  intro p e s m args below meth c F hret hname
  unfold p_B_isWord at h
  refine x_sub (lv' := [(0, .int l0)]) [0] rfl ?_
  refine x_iload_n F 0 d_B_isWord_0 rfl rfl ?_
  refine x_if_lt F (tgt := 14) d_B_isWord_1 (by decide) h (fun q h => ?_) (fun q h => ?_)
  · refine x_iconst F (v := 0) d_B_isWord_14 (by decide) ?_
    exact x_zret F rfl hret d_B_isWord_15 h (fun h => ⟨_, rfl, h⟩)
  · refine x_iload_n F 0 d_B_isWord_4 rfl rfl ?_
    refine x_bipush F (v := 26) d_B_isWord_5 (by decide) ?_
    refine x_icmp_ge F (tgt := 14) d_B_isWord_7 (by decide) h (fun q h => ?_) (fun q h => ?_)
    · refine x_iconst F (v := 0) d_B_isWord_14 (by decide) ?_
      exact x_zret F rfl hret d_B_isWord_15 h (fun h => ⟨_, rfl, h⟩)
    · refine x_iconst F (v := 1) d_B_isWord_10 (by decide) ?_
      refine x_goto F (tgt := 15) d_B_isWord_11 (by decide) ?_
      exact x_zret F rfl hret d_B_isWord_15 h (fun h => ⟨_, rfl, h⟩)
def p_Nd_putWord (th : Nat) (l1 : Int32) (l2 : Int32) (K : Unit → xS → Prop) : xS → Prop := xgR 2 4 (some th) fun v1 => xas 0 v1 l1 2 (xgR 2 6 (some th) fun v2 => xgR 2 5 (some th) fun v3 => xal 0 v3 l1 fun v4 => xas 0 v2 ((l1 * 8) + v4) l2 (xgR 2 5 (some th) fun v5 => xal 0 v5 l1 fun v6 => xas 0 v5 l1 (v6 + 1) (K ())))
abbrev X_Nd_putWord (p : Program) (l : Launch) (e : Env) (s : State) (m : MethodId) (args : Array Value) (below : List Frame) (meth : Method) (c : Code) (C0 S0 : Nat) (K : Unit → xS → Prop) (D : va_G) (dA : Nat → ClassId) (base : Nat) (sa : Nat → Nat) (pc : Nat) (lv : List (Nat × Value)) (st : List Value) (G : xS) : Prop := xW p l e { frames := 0, cells := C0, slots := S0, locals := 0 } s m args below meth c 3 (MQ below (xQ D dA base (fun v G2 => ∃ r : Unit, v = (none : Option Value) ∧ K r G2)) args s C0 S0 (fun q : Nat => base ≤ q)) D dA base sa pc lv st G
set_option maxHeartbeats 4000000 in
set_option maxRecDepth 100000 in
theorem c_Nd_putWord (l : Launch) (D : va_G) (dA : Nat → ClassId) (base : Nat) (sa : Nat → Nat) (th : Nat) (l1 : Int32) (l2 : Int32) (K : Unit → xS → Prop) (G : xS) (h : p_Nd_putWord th l1 l2 K G) : xMet l y_Nd_putWord b_Nd_putWord 3 none 0 0 D dA base sa [va_rf (some th), .int l1, .int l2] G (fun v G2 => ∃ r : Unit, v = none ∧ K r G2) := by
  refine xMet.of (by decide) (by simp [x_cat, x_catI]) (Nat.le_of_ble_eq_true rfl) ?_
  intro p e s m args below meth c F hret hname
  unfold p_Nd_putWord at h
  refine x_sub (lv' := [(0, va_rf (some th)), (1, .int l1), (2, .int l2)]) [0, 1, 2] rfl ?_
  refine x_aload_n F 0 d_Nd_putWord_0 rfl rfl ?_
  refine x_getR F cl_Nd in_Nd (k := 4) (by decide) k_268 rfl d_Nd_putWord_1 h (fun v1 h => ?_)
  refine x_iload_n F 1 d_Nd_putWord_4 rfl rfl ?_
  refine x_iconst F (v := 2) d_Nd_putWord_5 (by decide) ?_
  refine x_iast F (t := 0) rfl d_Nd_putWord_6 h (fun G h => ?_)
  refine x_aload_n F 0 d_Nd_putWord_7 rfl rfl ?_
  refine x_getR F cl_Nd in_Nd (k := 6) (by decide) k_274 rfl d_Nd_putWord_8 h (fun v2 h => ?_)
  refine x_iload_n F 1 d_Nd_putWord_11 rfl rfl ?_
  refine x_bipush F (v := 8) d_Nd_putWord_12 (by decide) ?_
  refine x_imul F d_Nd_putWord_14 ?_
  refine x_aload_n F 0 d_Nd_putWord_15 rfl rfl ?_
  refine x_getR F cl_Nd in_Nd (k := 5) (by decide) k_272 rfl d_Nd_putWord_16 h (fun v3 h => ?_)
  refine x_iload_n F 1 d_Nd_putWord_19 rfl rfl ?_
  refine x_iald F (t := 0) rfl d_Nd_putWord_20 h (fun v4 h => ?_)
  refine x_iadd F d_Nd_putWord_21 ?_
  refine x_iload_n F 2 d_Nd_putWord_22 rfl rfl ?_
  refine x_iast F (t := 0) rfl d_Nd_putWord_23 h (fun G h => ?_)
  refine x_aload_n F 0 d_Nd_putWord_24 rfl rfl ?_
  refine x_getR F cl_Nd in_Nd (k := 5) (by decide) k_272 rfl d_Nd_putWord_25 h (fun v5 h => ?_)
  refine x_iload_n F 1 d_Nd_putWord_28 rfl rfl ?_
  refine x_dup2 F rfl (x_cat _) d_Nd_putWord_29 ?_
  refine x_iald F (t := 0) rfl d_Nd_putWord_30 h (fun v6 h => ?_)
  refine x_iconst F (v := 1) d_Nd_putWord_31 (by decide) ?_
  refine x_iadd F d_Nd_putWord_32 ?_
  refine x_iast F (t := 0) rfl d_Nd_putWord_33 h (fun G h => ?_)
  exact x_vret F rfl hret d_Nd_putWord_34 ⟨(), rfl, h⟩
def p_B_word (th : Nat) (l1 : Int32) (l2 : Int32) (K : Int32 → xS → Prop) : xS → Prop := xcall 0 0 (p_B_isField l1) fun v1 => xif (v1 = 0) (K (-1)) (xcall 0 0 (p_B_isWord l2) fun v2 => xif (v2 = 0) (K (-1)) (xgR 9 0 (some th) fun v3 => xgR 6 3 v3 fun v4 => xnn v4 (fun _ => xgR 2 4 v4 fun v5 => xal 0 v5 l1 fun v6 => xif (v6 = 1) (K (-4)) (xgR 2 5 v4 fun v7 => xal 0 v7 l1 fun v8 => xif (v8 < 8) (xob 2 v4 fun b => xcall 0 0 (p_Nd_putWord b l1 l2) fun _ => xgR 2 5 v4 fun v9 => xal 0 v9 l1 fun v10 => K v10) (K (-3)))) (K (-2))))
abbrev X_B_word (p : Program) (l : Launch) (e : Env) (s : State) (m : MethodId) (args : Array Value) (below : List Frame) (meth : Method) (c : Code) (C0 S0 : Nat) (K : Int32 → xS → Prop) (D : va_G) (dA : Nat → ClassId) (base : Nat) (sa : Nat → Nat) (pc : Nat) (lv : List (Nat × Value)) (st : List Value) (G : xS) : Prop := xW p l e { frames := 1, cells := C0, slots := S0, locals := 22 } s m args below meth c 4 (MQ below (xQ D dA base (fun v G2 => ∃ r : Int32, v = some (.int r) ∧ K r G2)) args s C0 S0 (fun q : Nat => base ≤ q)) D dA base sa pc lv st G
set_option maxHeartbeats 4000000 in
set_option maxRecDepth 100000 in
theorem c_B_word (l : Launch) (D : va_G) (dA : Nat → ClassId) (base : Nat) (sa : Nat → Nat) (th : Nat) (l1 : Int32) (l2 : Int32) (K : Int32 → xS → Prop) (G : xS) (h : p_B_word th l1 l2 K G) : xMet l y_B_word b_B_word 4 (some FieldType.int) 1 22 D dA base sa [va_rf (some th), .int l1, .int l2] G (fun v G2 => ∃ r : Int32, v = some (.int r) ∧ K r G2) := by
  refine xMet.of (by decide) (by simp [x_cat, x_catI]) (Nat.le_of_ble_eq_true rfl) ?_
  intro p e s m args below meth c F hret hname
  unfold p_B_word at h
  refine x_sub (lv' := [(0, va_rf (some th)), (1, .int l1), (2, .int l2)]) [0, 1, 2] rfl ?_
  refine x_iload_n F 1 d_B_word_0 rfl rfl ?_
  refine x_callS F (enc := fun r => some (.int r)) (P := p_B_isField l1) (n := 1) (As := [.int l1]) (st := []) k_296 k_1 k_295 k_294 ⟨by decide, by decide, by decide +kernel⟩ rfl ⟨Nat.le_of_ble_eq_true rfl, Nat.le_of_ble_eq_true rfl⟩ (by simp [x_cat, x_catI, x_catL]) (fun K' G' h' _ => c_B_isField l D dA base sa l1 K' G' h') d_B_word_1 h (fun v1 G h => ?_)
  refine x_if_eq F (tgt := 14) d_B_word_4 (by decide) h (fun q h => ?_) (fun q h => ?_)
  · refine x_iconst F (v := (-1)) d_B_word_14 (by decide) ?_
    exact x_iret F rfl hret d_B_word_15 ⟨_, rfl, h⟩
  · refine x_iload_n F 2 d_B_word_7 rfl rfl ?_
    refine x_callS F (enc := fun r => some (.int r)) (P := p_B_isWord l2) (n := 1) (As := [.int l2]) (st := []) k_310 k_1 k_309 k_308 ⟨by decide, by decide, by decide +kernel⟩ rfl ⟨Nat.le_of_ble_eq_true rfl, Nat.le_of_ble_eq_true rfl⟩ (by simp [x_cat, x_catI, x_catL]) (fun K' G' h' _ => c_B_isWord l D dA base sa l2 K' G' h') d_B_word_8 h (fun v2 G h => ?_)
    refine x_if_ne F (tgt := 16) d_B_word_11 (by decide) h (fun q h => ?_) (fun q h => ?_)
    · refine x_aload_n F 0 d_B_word_16 rfl rfl ?_
      refine x_getR F cl_B in_B (k := 0) (by decide) k_197 rfl d_B_word_17 h (fun v3 h => ?_)
      refine x_getR F cl_Dr in_Dr (k := 3) (by decide) k_40 rfl d_B_word_20 h (fun v4 h => ?_)
      refine x_astore_n F (lv' := [(3, va_rf v4), (0, va_rf (some th)), (1, .int l1), (2, .int l2)]) d_B_word_23 rfl (by decide) rfl ?_
      refine x_aload_n F 0 d_B_word_24 rfl rfl ?_
      refine x_ifnonnull F (tgt := 31) d_B_word_25 (by decide) h (fun _ q h => ?_) (fun q h => ?_)
      · refine x_aload_n F 0 d_B_word_31 rfl rfl ?_
        refine x_getR F cl_Nd in_Nd (k := 4) (by decide) k_270 rfl d_B_word_32 h (fun v5 h => ?_)
        refine x_iload_n F 2 d_B_word_35 rfl rfl ?_
        refine x_iald F (t := 0) rfl d_B_word_36 h (fun v6 h => ?_)
        refine x_iconst F (v := 1) d_B_word_37 (by decide) ?_
        refine x_icmp_ne F (tgt := 44) d_B_word_38 (by decide) h (fun q h => ?_) (fun q h => ?_)
        · refine x_aload_n F 0 d_B_word_44 rfl rfl ?_
          refine x_getR F cl_Nd in_Nd (k := 5) (by decide) k_273 rfl d_B_word_45 h (fun v7 h => ?_)
          refine x_iload_n F 2 d_B_word_48 rfl rfl ?_
          refine x_iald F (t := 0) rfl d_B_word_49 h (fun v8 h => ?_)
          refine x_bipush F (v := 8) d_B_word_50 (by decide) ?_
          refine x_icmp_lt F (tgt := 58) d_B_word_52 (by decide) h (fun q h => ?_) (fun q h => ?_)
          · refine x_aload_n F 0 d_B_word_58 rfl rfl ?_
            refine x_iload_n F 2 d_B_word_59 rfl rfl ?_
            refine x_iload_n F 3 d_B_word_60 rfl rfl ?_
            refine x_callV F (enc := fun r => none) (P := fun b => p_Nd_putWord b l1 l2) (n := 2) (As := [.int l1, .int l2]) (st := []) k_314 k_10 k_312 k_313 k_311 ⟨by decide, by decide, by decide +kernel⟩ rfl ⟨Nat.le_of_ble_eq_true rfl, Nat.le_of_ble_eq_true rfl⟩ (by simp [x_cat, x_catI, x_catL]) cl_Nd rfl (ro := v4) (fun b K' G' h' _ => c_Nd_putWord l D dA base sa b l1 l2 K' G' h') d_B_word_61 h (fun _ G h => ?_)
            refine x_aload_n F 0 d_B_word_64 rfl rfl ?_
            refine x_getR F cl_Nd in_Nd (k := 5) (by decide) k_273 rfl d_B_word_65 h (fun v9 h => ?_)
            refine x_iload_n F 2 d_B_word_68 rfl rfl ?_
            refine x_iald F (t := 0) rfl d_B_word_69 h (fun v10 h => ?_)
            exact x_iret F rfl hret d_B_word_70 ⟨_, rfl, h⟩
          · refine x_bipush F (v := (-3)) d_B_word_55 (by decide) ?_
            exact x_iret F rfl hret d_B_word_57 ⟨_, rfl, h⟩
        · refine x_bipush F (v := (-4)) d_B_word_41 (by decide) ?_
          exact x_iret F rfl hret d_B_word_43 ⟨_, rfl, h⟩
      · refine x_bipush F (v := (-2)) d_B_word_28 (by decide) ?_
        exact x_iret F rfl hret d_B_word_30 ⟨_, rfl, h⟩
    · refine x_iconst F (v := (-1)) d_B_word_14 (by decide) ?_
      exact x_iret F rfl hret d_B_word_15 ⟨_, rfl, h⟩
def p_Dr_end (th : Nat) (K : Unit → xS → Prop) : xS → Prop := xgR 6 3 (some th) fun v1 => xgI 6 1 (some th) fun v2 => xpI 2 3 v1 v2 (xgR 6 0 (some th) fun v3 => xgI 6 1 (some th) fun v4 => xgR 6 3 (some th) fun v5 => xasR 3 2 v3 v4 v5 (xgI 6 1 (some th) fun v6 => xpI 6 1 (some th) (v6 + 1) (xgR 6 3 (some th) fun v7 => xgR 2 1 v7 fun v8 => xpR 6 3 (some th) v8 (K ()))))
abbrev X_Dr_end (p : Program) (l : Launch) (e : Env) (s : State) (m : MethodId) (args : Array Value) (below : List Frame) (meth : Method) (c : Code) (C0 S0 : Nat) (K : Unit → xS → Prop) (D : va_G) (dA : Nat → ClassId) (base : Nat) (sa : Nat → Nat) (pc : Nat) (lv : List (Nat × Value)) (st : List Value) (G : xS) : Prop := xW p l e { frames := 0, cells := C0, slots := S0, locals := 0 } s m args below meth c 1 (MQ below (xQ D dA base (fun v G2 => ∃ r : Unit, v = (none : Option Value) ∧ K r G2)) args s C0 S0 (fun q : Nat => base ≤ q)) D dA base sa pc lv st G
set_option maxHeartbeats 4000000 in
set_option maxRecDepth 100000 in
theorem c_Dr_end (l : Launch) (D : va_G) (dA : Nat → ClassId) (base : Nat) (sa : Nat → Nat) (th : Nat) (K : Unit → xS → Prop) (G : xS) (h : p_Dr_end th K G) : xMet l y_Dr_end b_Dr_end 1 none 0 0 D dA base sa [va_rf (some th)] G (fun v G2 => ∃ r : Unit, v = none ∧ K r G2) := by
  refine xMet.of (by decide) (by simp [x_cat, x_catI]) (Nat.le_of_ble_eq_true rfl) ?_
  intro p e s m args below meth c F hret hname
  unfold p_Dr_end at h
  refine x_sub (lv' := [(0, va_rf (some th))]) [0] rfl ?_
  refine x_aload_n F 0 d_Dr_end_0 rfl rfl ?_
  refine x_getR F cl_Dr in_Dr (k := 3) (by decide) k_39 rfl d_Dr_end_1 h (fun v1 h => ?_)
  refine x_aload_n F 0 d_Dr_end_4 rfl rfl ?_
  refine x_getI F cl_Dr in_Dr (k := 1) (by decide) k_33 rfl d_Dr_end_5 h (fun v2 h => ?_)
  refine x_putI F cl_Nd in_Nd (k := 3) (by decide) k_267 rfl ty_Nd n_Nd rfl rfl d_Dr_end_8 h (fun G h => ?_)
  refine x_aload_n F 0 d_Dr_end_11 rfl rfl ?_
  refine x_getR F cl_Dr in_Dr (k := 0) (by decide) k_30 rfl d_Dr_end_12 h (fun v3 h => ?_)
  refine x_aload_n F 0 d_Dr_end_15 rfl rfl ?_
  refine x_getI F cl_Dr in_Dr (k := 1) (by decide) k_33 rfl d_Dr_end_16 h (fun v4 h => ?_)
  refine x_aload_n F 0 d_Dr_end_19 rfl rfl ?_
  refine x_getR F cl_Dr in_Dr (k := 3) (by decide) k_39 rfl d_Dr_end_20 h (fun v5 h => ?_)
  refine x_aast F cl_Nd (t := 3) rfl d_Dr_end_23 h (fun G h => ?_)
  refine x_aload_n F 0 d_Dr_end_24 rfl rfl ?_
  refine x_dup F (x_cat _) d_Dr_end_25 ?_
  refine x_getI F cl_Dr in_Dr (k := 1) (by decide) k_33 rfl d_Dr_end_26 h (fun v6 h => ?_)
  refine x_iconst F (v := 1) d_Dr_end_29 (by decide) ?_
  refine x_iadd F d_Dr_end_30 ?_
  refine x_putI F cl_Dr in_Dr (k := 1) (by decide) k_33 rfl ty_Dr n_Dr rfl rfl d_Dr_end_31 h (fun G h => ?_)
  refine x_aload_n F 0 d_Dr_end_34 rfl rfl ?_
  refine x_aload_n F 0 d_Dr_end_35 rfl rfl ?_
  refine x_getR F cl_Dr in_Dr (k := 3) (by decide) k_39 rfl d_Dr_end_36 h (fun v7 h => ?_)
  refine x_getR F cl_Nd in_Nd (k := 1) (by decide) k_260 rfl d_Dr_end_39 h (fun v8 h => ?_)
  refine x_putR F cl_Dr in_Dr (k := 3) (by decide) k_39 rfl ty_Dr n_Dr rfl (Or.inl ⟨_, rfl⟩) d_Dr_end_42 h (fun G h => ?_)
  exact x_vret F rfl hret d_Dr_end_45 ⟨(), rfl, h⟩
def p_B_close (th : Nat) (K : Int32 → xS → Prop) : xS → Prop := xgR 9 0 (some th) fun v1 => xgR 6 3 v1 fun v2 => xnn v2 (fun _ => xgR 9 0 (some th) fun v3 => xob 6 v3 fun b => xcall 0 0 (p_Dr_end b ) fun _ => xgR 9 0 (some th) fun v4 => xgI 6 2 v4 fun v5 => xgR 9 0 (some th) fun v6 => xgI 6 1 v6 fun v7 => K (v5 - v7)) (K (-2))
abbrev X_B_close (p : Program) (l : Launch) (e : Env) (s : State) (m : MethodId) (args : Array Value) (below : List Frame) (meth : Method) (c : Code) (C0 S0 : Nat) (K : Int32 → xS → Prop) (D : va_G) (dA : Nat → ClassId) (base : Nat) (sa : Nat → Nat) (pc : Nat) (lv : List (Nat × Value)) (st : List Value) (G : xS) : Prop := xW p l e { frames := 1, cells := C0, slots := S0, locals := 20 } s m args below meth c 1 (MQ below (xQ D dA base (fun v G2 => ∃ r : Int32, v = some (.int r) ∧ K r G2)) args s C0 S0 (fun q : Nat => base ≤ q)) D dA base sa pc lv st G
set_option maxHeartbeats 4000000 in
set_option maxRecDepth 100000 in
theorem c_B_close (l : Launch) (D : va_G) (dA : Nat → ClassId) (base : Nat) (sa : Nat → Nat) (th : Nat) (K : Int32 → xS → Prop) (G : xS) (h : p_B_close th K G) : xMet l y_B_close b_B_close 1 (some FieldType.int) 1 20 D dA base sa [va_rf (some th)] G (fun v G2 => ∃ r : Int32, v = some (.int r) ∧ K r G2) := by
  refine xMet.of (by decide) (by simp [x_cat, x_catI]) (Nat.le_of_ble_eq_true rfl) ?_
  intro p e s m args below meth c F hret hname
  unfold p_B_close at h
  refine x_sub (lv' := [(0, va_rf (some th))]) [0] rfl ?_
  refine x_aload_n F 0 d_B_close_0 rfl rfl ?_
  refine x_getR F cl_B in_B (k := 0) (by decide) k_197 rfl d_B_close_1 h (fun v1 h => ?_)
  refine x_getR F cl_Dr in_Dr (k := 3) (by decide) k_40 rfl d_B_close_4 h (fun v2 h => ?_)
  refine x_ifnonnull F (tgt := 13) d_B_close_7 (by decide) h (fun _ q h => ?_) (fun q h => ?_)
  · refine x_aload_n F 0 d_B_close_13 rfl rfl ?_
    refine x_getR F cl_B in_B (k := 0) (by decide) k_197 rfl d_B_close_14 h (fun v3 h => ?_)
    refine x_callV F (enc := fun r => none) (P := fun b => p_Dr_end b ) (n := 0) (As := []) (st := []) k_322 k_2 k_320 k_321 k_319 ⟨by decide, by decide, by decide +kernel⟩ rfl ⟨Nat.le_of_ble_eq_true rfl, Nat.le_of_ble_eq_true rfl⟩ (by simp [x_cat, x_catI, x_catL]) cl_Dr rfl (ro := v3) (fun b K' G' h' _ => c_Dr_end l D dA base sa b  K' G' h') d_B_close_17 h (fun _ G h => ?_)
    refine x_aload_n F 0 d_B_close_20 rfl rfl ?_
    refine x_getR F cl_B in_B (k := 0) (by decide) k_197 rfl d_B_close_21 h (fun v4 h => ?_)
    refine x_getI F cl_Dr in_Dr (k := 2) (by decide) k_38 rfl d_B_close_24 h (fun v5 h => ?_)
    refine x_aload_n F 0 d_B_close_27 rfl rfl ?_
    refine x_getR F cl_B in_B (k := 0) (by decide) k_197 rfl d_B_close_28 h (fun v6 h => ?_)
    refine x_getI F cl_Dr in_Dr (k := 1) (by decide) k_36 rfl d_B_close_31 h (fun v7 h => ?_)
    refine x_isub F d_B_close_34 ?_
    exact x_iret F rfl hret d_B_close_35 ⟨_, rfl, h⟩
  · refine x_bipush F (v := (-2)) d_B_close_10 (by decide) ?_
    exact x_iret F rfl hret d_B_close_12 ⟨_, rfl, h⟩
def p_Dr_drop (th : Nat) (K : Unit → xS → Prop) : xS → Prop := xpI 6 1 (some th) 0 (xpI 6 2 (some th) 0 (xpR 6 3 (some th) none (K ())))
abbrev X_Dr_drop (p : Program) (l : Launch) (e : Env) (s : State) (m : MethodId) (args : Array Value) (below : List Frame) (meth : Method) (c : Code) (C0 S0 : Nat) (K : Unit → xS → Prop) (D : va_G) (dA : Nat → ClassId) (base : Nat) (sa : Nat → Nat) (pc : Nat) (lv : List (Nat × Value)) (st : List Value) (G : xS) : Prop := xW p l e { frames := 0, cells := C0, slots := S0, locals := 0 } s m args below meth c 1 (MQ below (xQ D dA base (fun v G2 => ∃ r : Unit, v = (none : Option Value) ∧ K r G2)) args s C0 S0 (fun q : Nat => base ≤ q)) D dA base sa pc lv st G
set_option maxHeartbeats 4000000 in
set_option maxRecDepth 100000 in
theorem c_Dr_drop (l : Launch) (D : va_G) (dA : Nat → ClassId) (base : Nat) (sa : Nat → Nat) (th : Nat) (K : Unit → xS → Prop) (G : xS) (h : p_Dr_drop th K G) : xMet l y_Dr_drop b_Dr_drop 1 none 0 0 D dA base sa [va_rf (some th)] G (fun v G2 => ∃ r : Unit, v = none ∧ K r G2) := by
  refine xMet.of (by decide) (by simp [x_cat, x_catI]) (Nat.le_of_ble_eq_true rfl) ?_
  intro p e s m args below meth c F hret hname
  unfold p_Dr_drop at h
  refine x_sub (lv' := [(0, va_rf (some th))]) [0] rfl ?_
  refine x_aload_n F 0 d_Dr_drop_0 rfl rfl ?_
  refine x_iconst F (v := 0) d_Dr_drop_1 (by decide) ?_
  refine x_putI F cl_Dr in_Dr (k := 1) (by decide) k_33 rfl ty_Dr n_Dr rfl rfl d_Dr_drop_2 h (fun G h => ?_)
  refine x_aload_n F 0 d_Dr_drop_5 rfl rfl ?_
  refine x_iconst F (v := 0) d_Dr_drop_6 (by decide) ?_
  refine x_putI F cl_Dr in_Dr (k := 2) (by decide) k_37 rfl ty_Dr n_Dr rfl rfl d_Dr_drop_7 h (fun G h => ?_)
  refine x_aload_n F 0 d_Dr_drop_10 rfl rfl ?_
  refine x_null F d_Dr_drop_11 ?_
  refine x_putR F cl_Dr in_Dr (k := 3) (by decide) k_39 rfl ty_Dr n_Dr rfl (Or.inl ⟨_, rfl⟩) d_Dr_drop_12 h (fun G h => ?_)
  exact x_vret F rfl hret d_Dr_drop_15 ⟨(), rfl, h⟩
def p_B_wipe (th : Nat) (K : Int32 → xS → Prop) : xS → Prop := xgR 9 0 (some th) fun v1 => xgI 6 2 v1 fun v2 => xgR 9 0 (some th) fun v3 => xob 6 v3 fun b => xcall 0 0 (p_Dr_drop b ) fun _ => K v2
abbrev X_B_wipe (p : Program) (l : Launch) (e : Env) (s : State) (m : MethodId) (args : Array Value) (below : List Frame) (meth : Method) (c : Code) (C0 S0 : Nat) (K : Int32 → xS → Prop) (D : va_G) (dA : Nat → ClassId) (base : Nat) (sa : Nat → Nat) (pc : Nat) (lv : List (Nat × Value)) (st : List Value) (G : xS) : Prop := xW p l e { frames := 1, cells := C0, slots := S0, locals := 20 } s m args below meth c 2 (MQ below (xQ D dA base (fun v G2 => ∃ r : Int32, v = some (.int r) ∧ K r G2)) args s C0 S0 (fun q : Nat => base ≤ q)) D dA base sa pc lv st G
set_option maxHeartbeats 4000000 in
set_option maxRecDepth 100000 in
theorem c_B_wipe (l : Launch) (D : va_G) (dA : Nat → ClassId) (base : Nat) (sa : Nat → Nat) (th : Nat) (K : Int32 → xS → Prop) (G : xS) (h : p_B_wipe th K G) : xMet l y_B_wipe b_B_wipe 2 (some FieldType.int) 1 20 D dA base sa [va_rf (some th)] G (fun v G2 => ∃ r : Int32, v = some (.int r) ∧ K r G2) := by
  refine xMet.of (by decide) (by simp [x_cat, x_catI]) (Nat.le_of_ble_eq_true rfl) ?_
  intro p e s m args below meth c F hret hname
  unfold p_B_wipe at h
  refine x_sub (lv' := [(0, va_rf (some th))]) [0] rfl ?_
  refine x_aload_n F 0 d_B_wipe_0 rfl rfl ?_
  refine x_getR F cl_B in_B (k := 0) (by decide) k_197 rfl d_B_wipe_1 h (fun v1 h => ?_)
  refine x_getI F cl_Dr in_Dr (k := 2) (by decide) k_38 rfl d_B_wipe_4 h (fun v2 h => ?_)
  refine x_istore_n F (lv' := [(1, .int v2), (0, va_rf (some th))]) d_B_wipe_7 rfl (by decide) rfl ?_
  refine x_aload_n F 1 d_B_wipe_8 rfl rfl ?_
  refine x_getR F cl_B in_B (k := 0) (by decide) k_197 rfl d_B_wipe_9 h (fun v3 h => ?_)
  refine x_callV F (enc := fun r => none) (P := fun b => p_Dr_drop b ) (n := 0) (As := []) (st := []) k_330 k_2 k_328 k_329 k_327 ⟨by decide, by decide, by decide +kernel⟩ rfl ⟨Nat.le_of_ble_eq_true rfl, Nat.le_of_ble_eq_true rfl⟩ (by simp [x_cat, x_catI, x_catL]) cl_Dr rfl (ro := v3) (fun b K' G' h' _ => c_Dr_drop l D dA base sa b  K' G' h') d_B_wipe_12 h (fun _ G h => ?_)
  refine x_iload_n F 0 d_B_wipe_15 rfl rfl ?_
  exact x_iret F rfl hret d_B_wipe_16 ⟨_, rfl, h⟩
def p_B_isId (l0 : Int32) (K : Int32 → xS → Prop) : xS → Prop := xif (l0 < 0) (xrz 0 K) (xif (20 ≤ l0) (xrz 0 K) (xrz 1 K))
abbrev X_B_isId (p : Program) (l : Launch) (e : Env) (s : State) (m : MethodId) (args : Array Value) (below : List Frame) (meth : Method) (c : Code) (C0 S0 : Nat) (K : Int32 → xS → Prop) (D : va_G) (dA : Nat → ClassId) (base : Nat) (sa : Nat → Nat) (pc : Nat) (lv : List (Nat × Value)) (st : List Value) (G : xS) : Prop := xW p l e { frames := 0, cells := C0, slots := S0, locals := 0 } s m args below meth c 1 (MQ below (xQ D dA base (fun v G2 => ∃ r : Int32, v = some (.int r) ∧ K r G2)) args s C0 S0 (fun q : Nat => base ≤ q)) D dA base sa pc lv st G
set_option maxHeartbeats 4000000 in
set_option maxRecDepth 100000 in
theorem c_B_isId (l : Launch) (D : va_G) (dA : Nat → ClassId) (base : Nat) (sa : Nat → Nat) (l0 : Int32) (K : Int32 → xS → Prop) (G : xS) (h : p_B_isId l0 K G) : xMet l y_B_isId b_B_isId 1 (some FieldType.boolean) 0 0 D dA base sa [.int l0] G (fun v G2 => ∃ r : Int32, v = some (.int r) ∧ K r G2) := by
  refine xMet.of (by decide) (by simp [x_cat, x_catI]) (Nat.le_of_ble_eq_true rfl) ?_
  intro p e s m args below meth c F hret hname
  unfold p_B_isId at h
  refine x_sub (lv' := [(0, .int l0)]) [0] rfl ?_
  refine x_iload_n F 0 d_B_isId_0 rfl rfl ?_
  refine x_if_lt F (tgt := 14) d_B_isId_1 (by decide) h (fun q h => ?_) (fun q h => ?_)
  · refine x_iconst F (v := 0) d_B_isId_14 (by decide) ?_
    exact x_zret F rfl hret d_B_isId_15 h (fun h => ⟨_, rfl, h⟩)
  · refine x_iload_n F 0 d_B_isId_4 rfl rfl ?_
    refine x_bipush F (v := 20) d_B_isId_5 (by decide) ?_
    refine x_icmp_ge F (tgt := 14) d_B_isId_7 (by decide) h (fun q h => ?_) (fun q h => ?_)
    · refine x_iconst F (v := 0) d_B_isId_14 (by decide) ?_
      exact x_zret F rfl hret d_B_isId_15 h (fun h => ⟨_, rfl, h⟩)
    · refine x_iconst F (v := 1) d_B_isId_10 (by decide) ?_
      refine x_goto F (tgt := 15) d_B_isId_11 (by decide) ?_
      exact x_zret F rfl hret d_B_isId_15 h (fun h => ⟨_, rfl, h⟩)
def p_Dr_isComplete (th : Nat) (K : Int32 → xS → Prop) : xS → Prop := xgI 6 2 (some th) fun v1 => xif (v1 ≤ 0) (xrz 0 K) (xgR 6 3 (some th) fun v2 => xnn v2 (fun _ => xrz 0 K) (xrz 1 K))
abbrev X_Dr_isComplete (p : Program) (l : Launch) (e : Env) (s : State) (m : MethodId) (args : Array Value) (below : List Frame) (meth : Method) (c : Code) (C0 S0 : Nat) (K : Int32 → xS → Prop) (D : va_G) (dA : Nat → ClassId) (base : Nat) (sa : Nat → Nat) (pc : Nat) (lv : List (Nat × Value)) (st : List Value) (G : xS) : Prop := xW p l e { frames := 0, cells := C0, slots := S0, locals := 0 } s m args below meth c 1 (MQ below (xQ D dA base (fun v G2 => ∃ r : Int32, v = some (.int r) ∧ K r G2)) args s C0 S0 (fun q : Nat => base ≤ q)) D dA base sa pc lv st G
set_option maxHeartbeats 4000000 in
set_option maxRecDepth 100000 in
theorem c_Dr_isComplete (l : Launch) (D : va_G) (dA : Nat → ClassId) (base : Nat) (sa : Nat → Nat) (th : Nat) (K : Int32 → xS → Prop) (G : xS) (h : p_Dr_isComplete th K G) : xMet l y_Dr_isComplete b_Dr_isComplete 1 (some FieldType.boolean) 0 0 D dA base sa [va_rf (some th)] G (fun v G2 => ∃ r : Int32, v = some (.int r) ∧ K r G2) := by
  refine xMet.of (by decide) (by simp [x_cat, x_catI]) (Nat.le_of_ble_eq_true rfl) ?_
  intro p e s m args below meth c F hret hname
  unfold p_Dr_isComplete at h
  refine x_sub (lv' := [(0, va_rf (some th))]) [0] rfl ?_
  refine x_aload_n F 0 d_Dr_isComplete_0 rfl rfl ?_
  refine x_getI F cl_Dr in_Dr (k := 2) (by decide) k_37 rfl d_Dr_isComplete_1 h (fun v1 h => ?_)
  refine x_if_le F (tgt := 18) d_Dr_isComplete_4 (by decide) h (fun q h => ?_) (fun q h => ?_)
  · refine x_iconst F (v := 0) d_Dr_isComplete_18 (by decide) ?_
    exact x_zret F rfl hret d_Dr_isComplete_19 h (fun h => ⟨_, rfl, h⟩)
  · refine x_aload_n F 0 d_Dr_isComplete_7 rfl rfl ?_
    refine x_getR F cl_Dr in_Dr (k := 3) (by decide) k_39 rfl d_Dr_isComplete_8 h (fun v2 h => ?_)
    refine x_ifnonnull F (tgt := 18) d_Dr_isComplete_11 (by decide) h (fun _ q h => ?_) (fun q h => ?_)
    · refine x_iconst F (v := 0) d_Dr_isComplete_18 (by decide) ?_
      exact x_zret F rfl hret d_Dr_isComplete_19 h (fun h => ⟨_, rfl, h⟩)
    · refine x_iconst F (v := 1) d_Dr_isComplete_14 (by decide) ?_
      refine x_goto F (tgt := 19) d_Dr_isComplete_15 (by decide) ?_
      exact x_zret F rfl hret d_Dr_isComplete_19 h (fun h => ⟨_, rfl, h⟩)
def p_Mp_fitsTrial_L12 (l1 : Option Nat) (l2 : Option Nat) (K : Int32 → xS → Prop) (Kx62 : xS → Prop) : Nat → Int32 → xS → Prop
  | 0, _ => fun _ => False
  | n + 1, l3 => xif (4 ≤ l3) (Kx62) (xgR 2 4 l1 fun v4 => xal 0 v4 l3 fun v5 => xif (v5 = 0) (xif (v5 = 0) (p_Mp_fitsTrial_L12 l1 l2 K Kx62 n (l3 + 1)) (xas 0 l2 l3 v5 (p_Mp_fitsTrial_L12 l1 l2 K Kx62 n (l3 + 1)))) (xal 0 l2 l3 fun v6 => xif (v6 = 0) (xif (v5 = 0) (p_Mp_fitsTrial_L12 l1 l2 K Kx62 n (l3 + 1)) (xas 0 l2 l3 v5 (p_Mp_fitsTrial_L12 l1 l2 K Kx62 n (l3 + 1)))) (xal 0 l2 l3 fun v7 => xif (v7 = v5) (xif (v5 = 0) (p_Mp_fitsTrial_L12 l1 l2 K Kx62 n (l3 + 1)) (xas 0 l2 l3 v5 (p_Mp_fitsTrial_L12 l1 l2 K Kx62 n (l3 + 1)))) (xrz 0 K))))
def p_Mp_fitsTrial (th : Nat) (l1 : Option Nat) (K : Int32 → xS → Prop) : xS → Prop := xgR 1 2 (some th) fun v1 => xgI 2 0 l1 fun v2 => xalR 2 v1 v2 fun v3 => p_Mp_fitsTrial_L12 l1 v3 K (xrz 1 K) 1000 0
abbrev X_Mp_fitsTrial (p : Program) (l : Launch) (e : Env) (s : State) (m : MethodId) (args : Array Value) (below : List Frame) (meth : Method) (c : Code) (C0 S0 : Nat) (K : Int32 → xS → Prop) (D : va_G) (dA : Nat → ClassId) (base : Nat) (sa : Nat → Nat) (pc : Nat) (lv : List (Nat × Value)) (st : List Value) (G : xS) : Prop := xW p l e { frames := 0, cells := C0, slots := S0, locals := 0 } s m args below meth c 5 (MQ below (xQ D dA base (fun v G2 => ∃ r : Int32, v = some (.int r) ∧ K r G2)) args s C0 S0 (fun q : Nat => base ≤ q)) D dA base sa pc lv st G
set_option maxHeartbeats 4000000 in
set_option maxRecDepth 100000 in
theorem w_Mp_fitsTrial_L12 {p : Program} {l : Launch} {e : Env} {s : State} {m : MethodId} {args : Array Value} {below : List Frame} {meth : Method} {c : Code} {C0 S0 : Nat} {D : va_G} {dA : Nat → ClassId} {base : Nat} {sa : Nat → Nat} (F : xFix p { frames := 0, cells := C0, slots := S0, locals := 0 } s m args meth c b_Mp_fitsTrial 5 "BlockSearch$Mapping" D dA base sa) (hret : meth.sig.returnType = (some FieldType.boolean)) {K : Int32 → xS → Prop} {Kx62 : xS → Prop} (l1 : Option Nat) (l2 : Option Nat) (hKx62 : ∀ (G : xS), Kx62  G → X_Mp_fitsTrial p l e s m args below meth c C0 S0 K D dA base sa 62 [] [] G) : ∀ (n : Nat) (l3 : Int32) (G : xS), p_Mp_fitsTrial_L12 l1 l2 K Kx62 n l3 G → X_Mp_fitsTrial p l e s m args below meth c C0 S0 K D dA base sa 12 [(1, va_rf l1), (2, va_rf l2), (3, .int l3)] [] G := by
  intro n
  induction n with
  | zero => intro l3 G h; exact h.elim
  | succ n ih =>
    intro l3 G h
    unfold p_Mp_fitsTrial_L12 at h
    refine x_iload_n F 2 d_Mp_fitsTrial_12 rfl rfl ?_
    refine x_iconst F (v := 4) d_Mp_fitsTrial_13 (by decide) ?_
    refine x_icmp_ge F (tgt := 62) d_Mp_fitsTrial_14 (by decide) h (fun q h => ?_) (fun q h => ?_)
    · refine x_sub (lv' := []) [] rfl ?_
      exact hKx62  _ h
    · refine x_aload_n F 0 d_Mp_fitsTrial_17 rfl rfl ?_
      refine x_getR F cl_Nd in_Nd (k := 4) (by decide) k_269 rfl d_Mp_fitsTrial_18 h (fun v4 h => ?_)
      refine x_iload_n F 2 d_Mp_fitsTrial_21 rfl rfl ?_
      refine x_iald F (t := 0) rfl d_Mp_fitsTrial_22 h (fun v5 h => ?_)
      refine x_istore F (lv' := [(4, .int v5), (1, va_rf l1), (2, va_rf l2), (3, .int l3)]) d_Mp_fitsTrial_23 (by decide) rfl ?_
      refine x_iload F 0 d_Mp_fitsTrial_25 rfl ?_
      refine x_if_eq F (tgt := 46) d_Mp_fitsTrial_27 (by decide) h (fun q h => ?_) (fun q h => ?_)
      · refine x_iload F 0 d_Mp_fitsTrial_46 rfl ?_
        refine x_if_eq F (tgt := 56) d_Mp_fitsTrial_48 (by decide) h (fun q h => ?_) (fun q h => ?_)
        · refine x_iinc F 3 (v := (l3 + 1)) (lv' := [(3, .int (l3 + 1)), (4, .int v5), (1, va_rf l1), (2, va_rf l2)]) d_Mp_fitsTrial_56 rfl (congrArg (fun z : Int32 => l3 + z) (by decide)) (by decide) rfl ?_
          refine x_goto F (tgt := 12) d_Mp_fitsTrial_59 (by decide) ?_
          refine x_sub (lv' := [(1, va_rf l1), (2, va_rf l2), (3, .int (l3 + 1))]) [2, 3, 0] rfl ?_
          exact ih _ _ h
        · refine x_aload_n F 2 d_Mp_fitsTrial_51 rfl rfl ?_
          refine x_iload_n F 3 d_Mp_fitsTrial_52 rfl rfl ?_
          refine x_iload F 0 d_Mp_fitsTrial_53 rfl ?_
          refine x_iast F (t := 0) rfl d_Mp_fitsTrial_55 h (fun G h => ?_)
          refine x_iinc F 3 (v := (l3 + 1)) (lv' := [(3, .int (l3 + 1)), (4, .int v5), (1, va_rf l1), (2, va_rf l2)]) d_Mp_fitsTrial_56 rfl (congrArg (fun z : Int32 => l3 + z) (by decide)) (by decide) rfl ?_
          refine x_goto F (tgt := 12) d_Mp_fitsTrial_59 (by decide) ?_
          refine x_sub (lv' := [(1, va_rf l1), (2, va_rf l2), (3, .int (l3 + 1))]) [2, 3, 0] rfl ?_
          exact ih _ _ h
      · refine x_aload_n F 2 d_Mp_fitsTrial_30 rfl rfl ?_
        refine x_iload_n F 3 d_Mp_fitsTrial_31 rfl rfl ?_
        refine x_iald F (t := 0) rfl d_Mp_fitsTrial_32 h (fun v6 h => ?_)
        refine x_if_eq F (tgt := 46) d_Mp_fitsTrial_33 (by decide) h (fun q h => ?_) (fun q h => ?_)
        · refine x_iload F 0 d_Mp_fitsTrial_46 rfl ?_
          refine x_if_eq F (tgt := 56) d_Mp_fitsTrial_48 (by decide) h (fun q h => ?_) (fun q h => ?_)
          · refine x_iinc F 3 (v := (l3 + 1)) (lv' := [(3, .int (l3 + 1)), (4, .int v5), (1, va_rf l1), (2, va_rf l2)]) d_Mp_fitsTrial_56 rfl (congrArg (fun z : Int32 => l3 + z) (by decide)) (by decide) rfl ?_
            refine x_goto F (tgt := 12) d_Mp_fitsTrial_59 (by decide) ?_
            refine x_sub (lv' := [(1, va_rf l1), (2, va_rf l2), (3, .int (l3 + 1))]) [2, 3, 0] rfl ?_
            exact ih _ _ h
          · refine x_aload_n F 2 d_Mp_fitsTrial_51 rfl rfl ?_
            refine x_iload_n F 3 d_Mp_fitsTrial_52 rfl rfl ?_
            refine x_iload F 0 d_Mp_fitsTrial_53 rfl ?_
            refine x_iast F (t := 0) rfl d_Mp_fitsTrial_55 h (fun G h => ?_)
            refine x_iinc F 3 (v := (l3 + 1)) (lv' := [(3, .int (l3 + 1)), (4, .int v5), (1, va_rf l1), (2, va_rf l2)]) d_Mp_fitsTrial_56 rfl (congrArg (fun z : Int32 => l3 + z) (by decide)) (by decide) rfl ?_
            refine x_goto F (tgt := 12) d_Mp_fitsTrial_59 (by decide) ?_
            refine x_sub (lv' := [(1, va_rf l1), (2, va_rf l2), (3, .int (l3 + 1))]) [2, 3, 0] rfl ?_
            exact ih _ _ h
        · refine x_aload_n F 2 d_Mp_fitsTrial_36 rfl rfl ?_
          refine x_iload_n F 3 d_Mp_fitsTrial_37 rfl rfl ?_
          refine x_iald F (t := 0) rfl d_Mp_fitsTrial_38 h (fun v7 h => ?_)
          refine x_iload F 0 d_Mp_fitsTrial_39 rfl ?_
          refine x_icmp_eq F (tgt := 46) d_Mp_fitsTrial_41 (by decide) h (fun q h => ?_) (fun q h => ?_)
          · refine x_iload F 0 d_Mp_fitsTrial_46 rfl ?_
            refine x_if_eq F (tgt := 56) d_Mp_fitsTrial_48 (by decide) h (fun q h => ?_) (fun q h => ?_)
            · refine x_iinc F 3 (v := (l3 + 1)) (lv' := [(3, .int (l3 + 1)), (4, .int v5), (1, va_rf l1), (2, va_rf l2)]) d_Mp_fitsTrial_56 rfl (congrArg (fun z : Int32 => l3 + z) (by decide)) (by decide) rfl ?_
              refine x_goto F (tgt := 12) d_Mp_fitsTrial_59 (by decide) ?_
              refine x_sub (lv' := [(1, va_rf l1), (2, va_rf l2), (3, .int (l3 + 1))]) [2, 3, 0] rfl ?_
              exact ih _ _ h
            · refine x_aload_n F 2 d_Mp_fitsTrial_51 rfl rfl ?_
              refine x_iload_n F 3 d_Mp_fitsTrial_52 rfl rfl ?_
              refine x_iload F 0 d_Mp_fitsTrial_53 rfl ?_
              refine x_iast F (t := 0) rfl d_Mp_fitsTrial_55 h (fun G h => ?_)
              refine x_iinc F 3 (v := (l3 + 1)) (lv' := [(3, .int (l3 + 1)), (4, .int v5), (1, va_rf l1), (2, va_rf l2)]) d_Mp_fitsTrial_56 rfl (congrArg (fun z : Int32 => l3 + z) (by decide)) (by decide) rfl ?_
              refine x_goto F (tgt := 12) d_Mp_fitsTrial_59 (by decide) ?_
              refine x_sub (lv' := [(1, va_rf l1), (2, va_rf l2), (3, .int (l3 + 1))]) [2, 3, 0] rfl ?_
              exact ih _ _ h
          · refine x_iconst F (v := 0) d_Mp_fitsTrial_44 (by decide) ?_
            exact x_zret F rfl hret d_Mp_fitsTrial_45 h (fun h => ⟨_, rfl, h⟩)
set_option maxHeartbeats 4000000 in
set_option maxRecDepth 100000 in
theorem c_Mp_fitsTrial (l : Launch) (D : va_G) (dA : Nat → ClassId) (base : Nat) (sa : Nat → Nat) (th : Nat) (l1 : Option Nat) (K : Int32 → xS → Prop) (G : xS) (h : p_Mp_fitsTrial th l1 K G) : xMet l y_Mp_fitsTrial b_Mp_fitsTrial 5 (some FieldType.boolean) 0 0 D dA base sa [va_rf (some th), va_rf l1] G (fun v G2 => ∃ r : Int32, v = some (.int r) ∧ K r G2) := by
  refine xMet.of (by decide) (by simp [x_cat, x_catI]) (Nat.le_of_ble_eq_true rfl) ?_
  intro p e s m args below meth c F hret hname
  unfold p_Mp_fitsTrial at h
  refine x_sub (lv' := [(0, va_rf (some th)), (1, va_rf l1)]) [0, 1] rfl ?_
  refine x_aload_n F 0 d_Mp_fitsTrial_0 rfl rfl ?_
  refine x_getR F cl_Mp in_Mp (k := 2) (by decide) k_62 rfl d_Mp_fitsTrial_1 h (fun v1 h => ?_)
  refine x_aload_n F 1 d_Mp_fitsTrial_4 rfl rfl ?_
  refine x_getI F cl_Nd in_Nd (k := 0) (by decide) k_255 rfl d_Mp_fitsTrial_5 h (fun v2 h => ?_)
  refine x_aald F (t := 2) rfl rfl d_Mp_fitsTrial_8 h (fun v3 h => ?_)
  refine x_astore_n F (lv' := [(2, va_rf v3), (0, va_rf (some th)), (1, va_rf l1)]) d_Mp_fitsTrial_9 rfl (by decide) rfl ?_
  refine x_iconst F (v := 0) d_Mp_fitsTrial_10 (by decide) ?_
  refine x_istore_n F (lv' := [(3, .int 0), (2, va_rf v3), (0, va_rf (some th)), (1, va_rf l1)]) d_Mp_fitsTrial_11 rfl (by decide) rfl ?_
  refine x_sub (lv' := [(1, va_rf l1), (2, va_rf v3), (3, .int 0)]) [3, 1, 0] rfl ?_
  refine w_Mp_fitsTrial_L12 F hret l1 v3 (fun G h => ?_) _ _ _ h
  refine x_iconst F (v := 1) d_Mp_fitsTrial_62 (by decide) ?_
  exact x_zret F rfl hret d_Mp_fitsTrial_63 h (fun h => ⟨_, rfl, h⟩)
def p_Mp_fits_L2 (th : Nat) (l1 : Option Nat) (K : Int32 → xS → Prop) (Kx31 : xS → Prop) : Nat → Int32 → xS → Prop
  | 0, _ => fun _ => False
  | n + 1, l2 => xif (4 ≤ l2) (Kx31) (xgR 1 0 (some th) fun v1 => xalR 2 v1 l2 fun v2 => xgR 1 2 (some th) fun v3 => xalR 2 v3 l2 fun v4 => xcpy 0 v2 0 v4 0 4 (p_Mp_fits_L2 th l1 K Kx31 n (l2 + 1)))
def p_Mp_fits_L33 (th : Nat) (l1 : Option Nat) (K : Int32 → xS → Prop) (Kx62 : xS → Prop) : Nat → Int32 → xS → Prop
  | 0, _ => fun _ => False
  | n + 1, l2 => xgI 6 1 l1 fun v5 => xif (v5 ≤ l2) (Kx62) (xgR 6 0 l1 fun v6 => xalR 3 v6 l2 fun v7 => xob 1 (some th) fun b => xcall 0 0 (p_Mp_fitsTrial b v7) fun v8 => xif (v8 = 0) (xrz 0 K) (p_Mp_fits_L33 th l1 K Kx62 n (l2 + 1)))
def p_Mp_fits (th : Nat) (l1 : Option Nat) (K : Int32 → xS → Prop) : xS → Prop := p_Mp_fits_L2 th l1 K (p_Mp_fits_L33 th l1 K (xrz 1 K) 1000 0) 1000 0
abbrev X_Mp_fits (p : Program) (l : Launch) (e : Env) (s : State) (m : MethodId) (args : Array Value) (below : List Frame) (meth : Method) (c : Code) (C0 S0 : Nat) (K : Int32 → xS → Prop) (D : va_G) (dA : Nat → ClassId) (base : Nat) (sa : Nat → Nat) (pc : Nat) (lv : List (Nat × Value)) (st : List Value) (G : xS) : Prop := xW p l e { frames := 1, cells := C0, slots := S0, locals := 40 } s m args below meth c 3 (MQ below (xQ D dA base (fun v G2 => ∃ r : Int32, v = some (.int r) ∧ K r G2)) args s C0 S0 (fun q : Nat => base ≤ q)) D dA base sa pc lv st G
set_option maxHeartbeats 4000000 in
set_option maxRecDepth 100000 in
theorem w_Mp_fits_L2 {p : Program} {l : Launch} {e : Env} {s : State} {m : MethodId} {args : Array Value} {below : List Frame} {meth : Method} {c : Code} {C0 S0 : Nat} {D : va_G} {dA : Nat → ClassId} {base : Nat} {sa : Nat → Nat} (F : xFix p { frames := 1, cells := C0, slots := S0, locals := 40 } s m args meth c b_Mp_fits 3 "BlockSearch$Mapping" D dA base sa) (hret : meth.sig.returnType = (some FieldType.boolean)) {K : Int32 → xS → Prop} {Kx31 : xS → Prop} (th : Nat) (l1 : Option Nat) (hKx31 : ∀ (G : xS), Kx31  G → X_Mp_fits p l e s m args below meth c C0 S0 K D dA base sa 31 [(0, va_rf (some th)), (1, va_rf l1)] [] G) : ∀ (n : Nat) (l2 : Int32) (G : xS), p_Mp_fits_L2 th l1 K Kx31 n l2 G → X_Mp_fits p l e s m args below meth c C0 S0 K D dA base sa 2 [(0, va_rf (some th)), (1, va_rf l1), (2, .int l2)] [] G := by
  intro n
  induction n with
  | zero => intro l2 G h; exact h.elim
  | succ n ih =>
    intro l2 G h
    unfold p_Mp_fits_L2 at h
    refine x_iload_n F 2 d_Mp_fits_2 rfl rfl ?_
    refine x_iconst F (v := 4) d_Mp_fits_3 (by decide) ?_
    refine x_icmp_ge F (tgt := 31) d_Mp_fits_4 (by decide) h (fun q h => ?_) (fun q h => ?_)
    · refine x_sub (lv' := [(0, va_rf (some th)), (1, va_rf l1)]) [0, 1] rfl ?_
      exact hKx31  _ h
    · refine x_aload_n F 0 d_Mp_fits_7 rfl rfl ?_
      refine x_getR F cl_Mp in_Mp (k := 0) (by decide) k_58 rfl d_Mp_fits_8 h (fun v1 h => ?_)
      refine x_iload_n F 2 d_Mp_fits_11 rfl rfl ?_
      refine x_aald F (t := 2) rfl rfl d_Mp_fits_12 h (fun v2 h => ?_)
      refine x_iconst F (v := 0) d_Mp_fits_13 (by decide) ?_
      refine x_aload_n F 0 d_Mp_fits_14 rfl rfl ?_
      refine x_getR F cl_Mp in_Mp (k := 2) (by decide) k_62 rfl d_Mp_fits_15 h (fun v3 h => ?_)
      refine x_iload_n F 2 d_Mp_fits_18 rfl rfl ?_
      refine x_aald F (t := 2) rfl rfl d_Mp_fits_19 h (fun v4 h => ?_)
      refine x_iconst F (v := 0) d_Mp_fits_20 (by decide) ?_
      refine x_iconst F (v := 4) d_Mp_fits_21 (by decide) ?_
      refine x_cpy F k_346 k_348 k_347 k_11 (Nat.le_of_ble_eq_true rfl) (by simp [x_cat, x_catI, nativeFrameWords]) d_Mp_fits_22 h (fun G h => ?_)
      refine x_iinc F 2 (v := (l2 + 1)) (lv' := [(2, .int (l2 + 1)), (0, va_rf (some th)), (1, va_rf l1)]) d_Mp_fits_25 rfl (congrArg (fun z : Int32 => l2 + z) (by decide)) (by decide) rfl ?_
      refine x_goto F (tgt := 2) d_Mp_fits_28 (by decide) ?_
      refine x_sub (lv' := [(0, va_rf (some th)), (1, va_rf l1), (2, .int (l2 + 1))]) [1, 2, 0] rfl ?_
      exact ih _ _ h
set_option maxHeartbeats 4000000 in
set_option maxRecDepth 100000 in
theorem w_Mp_fits_L33 {p : Program} {l : Launch} {e : Env} {s : State} {m : MethodId} {args : Array Value} {below : List Frame} {meth : Method} {c : Code} {C0 S0 : Nat} {D : va_G} {dA : Nat → ClassId} {base : Nat} {sa : Nat → Nat} (F : xFix p { frames := 1, cells := C0, slots := S0, locals := 40 } s m args meth c b_Mp_fits 3 "BlockSearch$Mapping" D dA base sa) (hret : meth.sig.returnType = (some FieldType.boolean)) {K : Int32 → xS → Prop} {Kx62 : xS → Prop} (th : Nat) (l1 : Option Nat) (hKx62 : ∀ (G : xS), Kx62  G → X_Mp_fits p l e s m args below meth c C0 S0 K D dA base sa 62 [] [] G) : ∀ (n : Nat) (l2 : Int32) (G : xS), p_Mp_fits_L33 th l1 K Kx62 n l2 G → X_Mp_fits p l e s m args below meth c C0 S0 K D dA base sa 33 [(0, va_rf (some th)), (1, va_rf l1), (2, .int l2)] [] G := by
  intro n
  induction n with
  | zero => intro l2 G h; exact h.elim
  | succ n ih =>
    intro l2 G h
    unfold p_Mp_fits_L33 at h
    refine x_iload_n F 2 d_Mp_fits_33 rfl rfl ?_
    refine x_aload_n F 1 d_Mp_fits_34 rfl rfl ?_
    refine x_getI F cl_Dr in_Dr (k := 1) (by decide) k_35 rfl d_Mp_fits_35 h (fun v5 h => ?_)
    refine x_icmp_ge F (tgt := 62) d_Mp_fits_38 (by decide) h (fun q h => ?_) (fun q h => ?_)
    · refine x_sub (lv' := []) [] rfl ?_
      exact hKx62  _ h
    · refine x_aload_n F 0 d_Mp_fits_41 rfl rfl ?_
      refine x_aload_n F 1 d_Mp_fits_42 rfl rfl ?_
      refine x_getR F cl_Dr in_Dr (k := 0) (by decide) k_32 rfl d_Mp_fits_43 h (fun v6 h => ?_)
      refine x_iload_n F 2 d_Mp_fits_46 rfl rfl ?_
      refine x_aald F (t := 3) rfl rfl d_Mp_fits_47 h (fun v7 h => ?_)
      refine x_callV F (enc := fun r => some (.int r)) (P := fun b => p_Mp_fitsTrial b v7) (n := 1) (As := [va_rf v7]) (st := []) k_352 k_3 k_351 kp_0 k_349 ⟨by decide, by decide, by decide +kernel⟩ rfl ⟨Nat.le_of_ble_eq_true rfl, Nat.le_of_ble_eq_true rfl⟩ (by simp [x_cat, x_catI, x_catL]) cl_Mp rfl (ro := some th) (fun b K' G' h' _ => c_Mp_fitsTrial l D dA base sa b v7 K' G' h') d_Mp_fits_48 h (fun v8 G h => ?_)
      refine x_if_ne F (tgt := 56) d_Mp_fits_51 (by decide) h (fun q h => ?_) (fun q h => ?_)
      · refine x_iinc F 2 (v := (l2 + 1)) (lv' := [(2, .int (l2 + 1)), (0, va_rf (some th)), (1, va_rf l1)]) d_Mp_fits_56 rfl (congrArg (fun z : Int32 => l2 + z) (by decide)) (by decide) rfl ?_
        refine x_goto F (tgt := 33) d_Mp_fits_59 (by decide) ?_
        refine x_sub (lv' := [(0, va_rf (some th)), (1, va_rf l1), (2, .int (l2 + 1))]) [1, 2, 0] rfl ?_
        exact ih _ _ h
      · refine x_iconst F (v := 0) d_Mp_fits_54 (by decide) ?_
        exact x_zret F rfl hret d_Mp_fits_55 h (fun h => ⟨_, rfl, h⟩)
set_option maxHeartbeats 4000000 in
set_option maxRecDepth 100000 in
theorem c_Mp_fits (l : Launch) (D : va_G) (dA : Nat → ClassId) (base : Nat) (sa : Nat → Nat) (th : Nat) (l1 : Option Nat) (K : Int32 → xS → Prop) (G : xS) (h : p_Mp_fits th l1 K G) : xMet l y_Mp_fits b_Mp_fits 3 (some FieldType.boolean) 1 40 D dA base sa [va_rf (some th), va_rf l1] G (fun v G2 => ∃ r : Int32, v = some (.int r) ∧ K r G2) := by
  refine xMet.of (by decide) (by simp [x_cat, x_catI]) (Nat.le_of_ble_eq_true rfl) ?_
  intro p e s m args below meth c F hret hname
  unfold p_Mp_fits at h
  refine x_sub (lv' := [(0, va_rf (some th)), (1, va_rf l1)]) [0, 1] rfl ?_
  refine x_iconst F (v := 0) d_Mp_fits_0 (by decide) ?_
  refine x_istore_n F (lv' := [(2, .int 0), (0, va_rf (some th)), (1, va_rf l1)]) d_Mp_fits_1 rfl (by decide) rfl ?_
  refine x_sub (lv' := [(0, va_rf (some th)), (1, va_rf l1), (2, .int 0)]) [1, 2, 0] rfl ?_
  refine w_Mp_fits_L2 F hret th l1 (fun G h => ?_) _ _ _ h
  refine x_iconst F (v := 0) d_Mp_fits_31 (by decide) ?_
  refine x_istore_n F (lv' := [(2, .int 0), (0, va_rf (some th)), (1, va_rf l1)]) d_Mp_fits_32 rfl (by decide) rfl ?_
  refine x_sub (lv' := [(0, va_rf (some th)), (1, va_rf l1), (2, .int 0)]) [1, 2, 0] rfl ?_
  refine w_Mp_fits_L33 F hret th l1 (fun G h => ?_) _ _ _ h
  refine x_iconst F (v := 1) d_Mp_fits_62 (by decide) ?_
  exact x_zret F rfl hret d_Mp_fits_63 h (fun h => ⟨_, rfl, h⟩)
