def p_Hi_drop (th : Nat) (K : Unit → xS → Prop) : xS → Prop := xpI 0 1 (some th) 0 (K ())
abbrev X_Hi_drop (p : Program) (l : Launch) (e : Env) (s : State) (m : MethodId) (args : Array Value) (below : List Frame) (meth : Method) (c : Code) (C0 S0 : Nat) (K : Unit → xS → Prop) (D : va_G) (dA : Nat → ClassId) (base : Nat) (sa : Nat → Nat) (pc : Nat) (lv : List (Nat × Value)) (st : List Value) (G : xS) : Prop := xW p l e { frames := 0, cells := C0, slots := S0, locals := 0 } s m args below meth c 1 (MQ below (xQ D dA base (fun v G2 => ∃ r : Unit, v = (none : Option Value) ∧ K r G2)) args s C0 S0 (fun q : Nat => base ≤ q)) D dA base sa pc lv st G
set_option maxHeartbeats 4000000 in
set_option maxRecDepth 100000 in
theorem c_Hi_drop (l : Launch) (D : va_G) (dA : Nat → ClassId) (base : Nat) (sa : Nat → Nat) (th : Nat) (K : Unit → xS → Prop) (G : xS) (h : p_Hi_drop th K G) : xMet l y_Hi_drop b_Hi_drop 1 none 0 0 D dA base sa [va_rf (some th)] G (fun v G2 => ∃ r : Unit, v = none ∧ K r G2) := by
  refine xMet.of (by decide) (by simp [x_cat, x_catI]) (Nat.le_of_ble_eq_true rfl) ?_
  intro p e s m args below meth c F hret hname
  unfold p_Hi_drop at h
  refine x_sub (lv' := [(0, va_rf (some th))]) [0] rfl ?_
  refine x_aload_n F 0 d_Hi_drop_0 rfl rfl ?_
  refine x_iconst F (v := 0) d_Hi_drop_1 (by decide) ?_
  refine x_putI F cl_Hi in_Hi (k := 1) (by decide) k_190 rfl ty_Hi n_Hi rfl rfl d_Hi_drop_2 h (fun G h => ?_)
  exact x_vret F rfl hret d_Hi_drop_5 ⟨(), rfl, h⟩
def p_Sc_weighed (l0 : Int32) (l1 : Int32) (K : Int32 → xS → Prop) : xS → Prop := xif (l0 ≤ 0) (K (-1)) (K (l0 * l1))
abbrev X_Sc_weighed (p : Program) (l : Launch) (e : Env) (s : State) (m : MethodId) (args : Array Value) (below : List Frame) (meth : Method) (c : Code) (C0 S0 : Nat) (K : Int32 → xS → Prop) (D : va_G) (dA : Nat → ClassId) (base : Nat) (sa : Nat → Nat) (pc : Nat) (lv : List (Nat × Value)) (st : List Value) (G : xS) : Prop := xW p l e { frames := 0, cells := C0, slots := S0, locals := 0 } s m args below meth c 2 (MQ below (xQ D dA base (fun v G2 => ∃ r : Int32, v = some (.int r) ∧ K r G2)) args s C0 S0 (fun q : Nat => base ≤ q)) D dA base sa pc lv st G
set_option maxHeartbeats 4000000 in
set_option maxRecDepth 100000 in
theorem c_Sc_weighed (l : Launch) (D : va_G) (dA : Nat → ClassId) (base : Nat) (sa : Nat → Nat) (l0 : Int32) (l1 : Int32) (K : Int32 → xS → Prop) (G : xS) (h : p_Sc_weighed l0 l1 K G) : xMet l y_Sc_weighed b_Sc_weighed 2 (some FieldType.int) 0 0 D dA base sa [.int l0, .int l1] G (fun v G2 => ∃ r : Int32, v = some (.int r) ∧ K r G2) := by
  refine xMet.of (by decide) (by simp [x_cat, x_catI]) (Nat.le_of_ble_eq_true rfl) ?_
  intro p e s m args below meth c F hret hname
  unfold p_Sc_weighed at h
  refine x_sub (lv' := [(0, .int l0), (1, .int l1)]) [0, 1] rfl ?_
  refine x_iload_n F 0 d_Sc_weighed_0 rfl rfl ?_
  refine x_if_le F (tgt := 10) d_Sc_weighed_1 (by decide) h (fun q h => ?_) (fun q h => ?_)
  · refine x_iconst F (v := (-1)) d_Sc_weighed_10 (by decide) ?_
    exact x_iret F rfl hret d_Sc_weighed_11 ⟨_, rfl, h⟩
  · refine x_iload_n F 0 d_Sc_weighed_4 rfl rfl ?_
    refine x_iload_n F 1 d_Sc_weighed_5 rfl rfl ?_
    refine x_imul F d_Sc_weighed_6 ?_
    refine x_goto F (tgt := 11) d_Sc_weighed_7 (by decide) ?_
    exact x_iret F rfl hret d_Sc_weighed_11 ⟨_, rfl, h⟩
def p_Nd_hasNumberWithin (th : Nat) (l1 : Int32) (l2 : Int32) (l3 : Int32) (K : Int32 → xS → Prop) : xS → Prop := xgR 2 4 (some th) fun v1 => xal 0 v1 l1 fun v2 => xif (v2 = 1) (xgR 2 5 (some th) fun v3 => xal 0 v3 l1 fun v4 => xif (v4 < l2) (xrz 0 K) (xgR 2 5 (some th) fun v5 => xal 0 v5 l1 fun v6 => xif (l3 < v6) (xrz 0 K) (xrz 1 K))) (xrz 0 K)
abbrev X_Nd_hasNumberWithin (p : Program) (l : Launch) (e : Env) (s : State) (m : MethodId) (args : Array Value) (below : List Frame) (meth : Method) (c : Code) (C0 S0 : Nat) (K : Int32 → xS → Prop) (D : va_G) (dA : Nat → ClassId) (base : Nat) (sa : Nat → Nat) (pc : Nat) (lv : List (Nat × Value)) (st : List Value) (G : xS) : Prop := xW p l e { frames := 0, cells := C0, slots := S0, locals := 0 } s m args below meth c 4 (MQ below (xQ D dA base (fun v G2 => ∃ r : Int32, v = some (.int r) ∧ K r G2)) args s C0 S0 (fun q : Nat => base ≤ q)) D dA base sa pc lv st G
set_option maxHeartbeats 4000000 in
set_option maxRecDepth 100000 in
theorem c_Nd_hasNumberWithin (l : Launch) (D : va_G) (dA : Nat → ClassId) (base : Nat) (sa : Nat → Nat) (th : Nat) (l1 : Int32) (l2 : Int32) (l3 : Int32) (K : Int32 → xS → Prop) (G : xS) (h : p_Nd_hasNumberWithin th l1 l2 l3 K G) : xMet l y_Nd_hasNumberWithin b_Nd_hasNumberWithin 4 (some FieldType.boolean) 0 0 D dA base sa [va_rf (some th), .int l1, .int l2, .int l3] G (fun v G2 => ∃ r : Int32, v = some (.int r) ∧ K r G2) := by
  refine xMet.of (by decide) (by simp [x_cat, x_catI]) (Nat.le_of_ble_eq_true rfl) ?_
  intro p e s m args below meth c F hret hname
  unfold p_Nd_hasNumberWithin at h
  refine x_sub (lv' := [(0, va_rf (some th)), (1, .int l1), (2, .int l2), (3, .int l3)]) [0, 1, 2, 3] rfl ?_
  refine x_aload_n F 0 d_Nd_hasNumberWithin_0 rfl rfl ?_
  refine x_getR F cl_Nd in_Nd (k := 4) (by decide) k_268 rfl d_Nd_hasNumberWithin_1 h (fun v1 h => ?_)
  refine x_iload_n F 1 d_Nd_hasNumberWithin_4 rfl rfl ?_
  refine x_iald F (t := 0) rfl d_Nd_hasNumberWithin_5 h (fun v2 h => ?_)
  refine x_iconst F (v := 1) d_Nd_hasNumberWithin_6 (by decide) ?_
  refine x_icmp_ne F (tgt := 34) d_Nd_hasNumberWithin_7 (by decide) h (fun q h => ?_) (fun q h => ?_)
  · refine x_iconst F (v := 0) d_Nd_hasNumberWithin_34 (by decide) ?_
    exact x_zret F rfl hret d_Nd_hasNumberWithin_35 h (fun h => ⟨_, rfl, h⟩)
  · refine x_aload_n F 0 d_Nd_hasNumberWithin_10 rfl rfl ?_
    refine x_getR F cl_Nd in_Nd (k := 5) (by decide) k_272 rfl d_Nd_hasNumberWithin_11 h (fun v3 h => ?_)
    refine x_iload_n F 1 d_Nd_hasNumberWithin_14 rfl rfl ?_
    refine x_iald F (t := 0) rfl d_Nd_hasNumberWithin_15 h (fun v4 h => ?_)
    refine x_iload_n F 2 d_Nd_hasNumberWithin_16 rfl rfl ?_
    refine x_icmp_lt F (tgt := 34) d_Nd_hasNumberWithin_17 (by decide) h (fun q h => ?_) (fun q h => ?_)
    · refine x_iconst F (v := 0) d_Nd_hasNumberWithin_34 (by decide) ?_
      exact x_zret F rfl hret d_Nd_hasNumberWithin_35 h (fun h => ⟨_, rfl, h⟩)
    · refine x_aload_n F 0 d_Nd_hasNumberWithin_20 rfl rfl ?_
      refine x_getR F cl_Nd in_Nd (k := 5) (by decide) k_272 rfl d_Nd_hasNumberWithin_21 h (fun v5 h => ?_)
      refine x_iload_n F 1 d_Nd_hasNumberWithin_24 rfl rfl ?_
      refine x_iald F (t := 0) rfl d_Nd_hasNumberWithin_25 h (fun v6 h => ?_)
      refine x_iload_n F 3 d_Nd_hasNumberWithin_26 rfl rfl ?_
      refine x_icmp_gt F (tgt := 34) d_Nd_hasNumberWithin_27 (by decide) h (fun q h => ?_) (fun q h => ?_)
      · refine x_iconst F (v := 0) d_Nd_hasNumberWithin_34 (by decide) ?_
        exact x_zret F rfl hret d_Nd_hasNumberWithin_35 h (fun h => ⟨_, rfl, h⟩)
      · refine x_iconst F (v := 1) d_Nd_hasNumberWithin_30 (by decide) ?_
        refine x_goto F (tgt := 35) d_Nd_hasNumberWithin_31 (by decide) ?_
        exact x_zret F rfl hret d_Nd_hasNumberWithin_35 h (fun h => ⟨_, rfl, h⟩)
def p_Sc_oneIf (l0 : Int32) (K : Int32 → xS → Prop) : xS → Prop := xif (l0 = 0) (K (-1)) (K 1)
abbrev X_Sc_oneIf (p : Program) (l : Launch) (e : Env) (s : State) (m : MethodId) (args : Array Value) (below : List Frame) (meth : Method) (c : Code) (C0 S0 : Nat) (K : Int32 → xS → Prop) (D : va_G) (dA : Nat → ClassId) (base : Nat) (sa : Nat → Nat) (pc : Nat) (lv : List (Nat × Value)) (st : List Value) (G : xS) : Prop := xW p l e { frames := 0, cells := C0, slots := S0, locals := 0 } s m args below meth c 1 (MQ below (xQ D dA base (fun v G2 => ∃ r : Int32, v = some (.int r) ∧ K r G2)) args s C0 S0 (fun q : Nat => base ≤ q)) D dA base sa pc lv st G
set_option maxHeartbeats 4000000 in
set_option maxRecDepth 100000 in
theorem c_Sc_oneIf (l : Launch) (D : va_G) (dA : Nat → ClassId) (base : Nat) (sa : Nat → Nat) (l0 : Int32) (K : Int32 → xS → Prop) (G : xS) (h : p_Sc_oneIf l0 K G) : xMet l y_Sc_oneIf b_Sc_oneIf 1 (some FieldType.int) 0 0 D dA base sa [.int l0] G (fun v G2 => ∃ r : Int32, v = some (.int r) ∧ K r G2) := by
  refine xMet.of (by decide) (by simp [x_cat, x_catI]) (Nat.le_of_ble_eq_true rfl) ?_
  intro p e s m args below meth c F hret hname
  unfold p_Sc_oneIf at h
  refine x_sub (lv' := [(0, .int l0)]) [0] rfl ?_
  refine x_iload_n F 0 d_Sc_oneIf_0 rfl rfl ?_
  refine x_if_eq F (tgt := 8) d_Sc_oneIf_1 (by decide) h (fun q h => ?_) (fun q h => ?_)
  · refine x_iconst F (v := (-1)) d_Sc_oneIf_8 (by decide) ?_
    exact x_iret F rfl hret d_Sc_oneIf_9 ⟨_, rfl, h⟩
  · refine x_iconst F (v := 1) d_Sc_oneIf_4 (by decide) ?_
    refine x_goto F (tgt := 9) d_Sc_oneIf_5 (by decide) ?_
    exact x_iret F rfl hret d_Sc_oneIf_9 ⟨_, rfl, h⟩
def p_Sc_sumOfBoth (l0 : Int32) (l1 : Int32) (K : Int32 → xS → Prop) : xS → Prop := xif (l0 = (-1)) (K (-1)) (xif (l1 = (-1)) (K (-1)) (K (l0 + l1)))
abbrev X_Sc_sumOfBoth (p : Program) (l : Launch) (e : Env) (s : State) (m : MethodId) (args : Array Value) (below : List Frame) (meth : Method) (c : Code) (C0 S0 : Nat) (K : Int32 → xS → Prop) (D : va_G) (dA : Nat → ClassId) (base : Nat) (sa : Nat → Nat) (pc : Nat) (lv : List (Nat × Value)) (st : List Value) (G : xS) : Prop := xW p l e { frames := 0, cells := C0, slots := S0, locals := 0 } s m args below meth c 2 (MQ below (xQ D dA base (fun v G2 => ∃ r : Int32, v = some (.int r) ∧ K r G2)) args s C0 S0 (fun q : Nat => base ≤ q)) D dA base sa pc lv st G
set_option maxHeartbeats 4000000 in
set_option maxRecDepth 100000 in
theorem c_Sc_sumOfBoth (l : Launch) (D : va_G) (dA : Nat → ClassId) (base : Nat) (sa : Nat → Nat) (l0 : Int32) (l1 : Int32) (K : Int32 → xS → Prop) (G : xS) (h : p_Sc_sumOfBoth l0 l1 K G) : xMet l y_Sc_sumOfBoth b_Sc_sumOfBoth 2 (some FieldType.int) 0 0 D dA base sa [.int l0, .int l1] G (fun v G2 => ∃ r : Int32, v = some (.int r) ∧ K r G2) := by
  refine xMet.of (by decide) (by simp [x_cat, x_catI]) (Nat.le_of_ble_eq_true rfl) ?_
  intro p e s m args below meth c F hret hname
  unfold p_Sc_sumOfBoth at h
  refine x_sub (lv' := [(0, .int l0), (1, .int l1)]) [0, 1] rfl ?_
  refine x_iload_n F 0 d_Sc_sumOfBoth_0 rfl rfl ?_
  refine x_iconst F (v := (-1)) d_Sc_sumOfBoth_1 (by decide) ?_
  refine x_icmp_eq F (tgt := 10) d_Sc_sumOfBoth_2 (by decide) h (fun q h => ?_) (fun q h => ?_)
  · refine x_iconst F (v := (-1)) d_Sc_sumOfBoth_10 (by decide) ?_
    refine x_goto F (tgt := 17) d_Sc_sumOfBoth_11 (by decide) ?_
    exact x_iret F rfl hret d_Sc_sumOfBoth_17 ⟨_, rfl, h⟩
  · refine x_iload_n F 1 d_Sc_sumOfBoth_5 rfl rfl ?_
    refine x_iconst F (v := (-1)) d_Sc_sumOfBoth_6 (by decide) ?_
    refine x_icmp_ne F (tgt := 14) d_Sc_sumOfBoth_7 (by decide) h (fun q h => ?_) (fun q h => ?_)
    · refine x_iload_n F 0 d_Sc_sumOfBoth_14 rfl rfl ?_
      refine x_iload_n F 1 d_Sc_sumOfBoth_15 rfl rfl ?_
      refine x_iadd F d_Sc_sumOfBoth_16 ?_
      exact x_iret F rfl hret d_Sc_sumOfBoth_17 ⟨_, rfl, h⟩
    · refine x_iconst F (v := (-1)) d_Sc_sumOfBoth_10 (by decide) ?_
      refine x_goto F (tgt := 17) d_Sc_sumOfBoth_11 (by decide) ?_
      exact x_iret F rfl hret d_Sc_sumOfBoth_17 ⟨_, rfl, h⟩
def p_Sc_sumOfEither (l0 : Int32) (l1 : Int32) (K : Int32 → xS → Prop) : xS → Prop := xif (l0 = (-1)) (K l1) (xif (l1 = (-1)) (K l0) (K (l0 + l1)))
abbrev X_Sc_sumOfEither (p : Program) (l : Launch) (e : Env) (s : State) (m : MethodId) (args : Array Value) (below : List Frame) (meth : Method) (c : Code) (C0 S0 : Nat) (K : Int32 → xS → Prop) (D : va_G) (dA : Nat → ClassId) (base : Nat) (sa : Nat → Nat) (pc : Nat) (lv : List (Nat × Value)) (st : List Value) (G : xS) : Prop := xW p l e { frames := 0, cells := C0, slots := S0, locals := 0 } s m args below meth c 2 (MQ below (xQ D dA base (fun v G2 => ∃ r : Int32, v = some (.int r) ∧ K r G2)) args s C0 S0 (fun q : Nat => base ≤ q)) D dA base sa pc lv st G
set_option maxHeartbeats 4000000 in
set_option maxRecDepth 100000 in
theorem c_Sc_sumOfEither (l : Launch) (D : va_G) (dA : Nat → ClassId) (base : Nat) (sa : Nat → Nat) (l0 : Int32) (l1 : Int32) (K : Int32 → xS → Prop) (G : xS) (h : p_Sc_sumOfEither l0 l1 K G) : xMet l y_Sc_sumOfEither b_Sc_sumOfEither 2 (some FieldType.int) 0 0 D dA base sa [.int l0, .int l1] G (fun v G2 => ∃ r : Int32, v = some (.int r) ∧ K r G2) := by
  refine xMet.of (by decide) (by simp [x_cat, x_catI]) (Nat.le_of_ble_eq_true rfl) ?_
  intro p e s m args below meth c F hret hname
  unfold p_Sc_sumOfEither at h
  refine x_sub (lv' := [(0, .int l0), (1, .int l1)]) [0, 1] rfl ?_
  refine x_iload_n F 0 d_Sc_sumOfEither_0 rfl rfl ?_
  refine x_iconst F (v := (-1)) d_Sc_sumOfEither_1 (by decide) ?_
  refine x_icmp_ne F (tgt := 7) d_Sc_sumOfEither_2 (by decide) h (fun q h => ?_) (fun q h => ?_)
  · refine x_iload_n F 1 d_Sc_sumOfEither_7 rfl rfl ?_
    refine x_iconst F (v := (-1)) d_Sc_sumOfEither_8 (by decide) ?_
    refine x_icmp_ne F (tgt := 16) d_Sc_sumOfEither_9 (by decide) h (fun q h => ?_) (fun q h => ?_)
    · refine x_iload_n F 0 d_Sc_sumOfEither_16 rfl rfl ?_
      refine x_iload_n F 1 d_Sc_sumOfEither_17 rfl rfl ?_
      refine x_iadd F d_Sc_sumOfEither_18 ?_
      exact x_iret F rfl hret d_Sc_sumOfEither_19 ⟨_, rfl, h⟩
    · refine x_iload_n F 0 d_Sc_sumOfEither_12 rfl rfl ?_
      refine x_goto F (tgt := 19) d_Sc_sumOfEither_13 (by decide) ?_
      exact x_iret F rfl hret d_Sc_sumOfEither_19 ⟨_, rfl, h⟩
  · refine x_iload_n F 1 d_Sc_sumOfEither_5 rfl rfl ?_
    exact x_iret F rfl hret d_Sc_sumOfEither_6 ⟨_, rfl, h⟩
def p_Sc_nested_B110 (th : Nat) (l1 : Option Nat) (l2 : Int32) (l3 : Option Nat) (l4 : Int32) (l5 : Int32) (l6 : Int32) (l8 : Int32) (l9 : Int32) (l11 : Int32) (s0 : Int32) (K : Int32 → xS → Prop) (Kb21 : Int32 → Int32 → Int32 → Int32 → Int32 → xS → Prop) (Kx137 : Int32 → Int32 → Int32 → Int32 → xS → Prop) : xS → Prop := Kb21 (l5 + 1) (l6 + l11) s0 (if l8 < l11 then l11 else l8) (l9 + 1)
def p_Sc_nested_B85 (th : Nat) (l1 : Option Nat) (l2 : Int32) (l3 : Option Nat) (l4 : Int32) (l5 : Int32) (l6 : Int32) (l7 : Int32) (l8 : Int32) (l9 : Int32) (s0 : Int32) (K : Int32 → xS → Prop) (Kb21 : Int32 → Int32 → Int32 → Int32 → Int32 → xS → Prop) (Kx137 : Int32 → Int32 → Int32 → Int32 → xS → Prop) : xS → Prop := xif (s0 = (-1)) (Kb21 l5 l6 l7 l8 (l9 + 1)) (xif (l5 = 0) (p_Sc_nested_B110 th l1 l2 l3 l4 l5 l6 l8 l9 s0 s0 K (Kb21) Kx137) (p_Sc_nested_B110 th l1 l2 l3 l4 l5 l6 l8 l9 s0 (if s0 < l7 then s0 else l7) K (Kb21) Kx137))
def p_Sc_nested_B63 (th : Nat) (l1 : Option Nat) (l2 : Int32) (l3 : Option Nat) (l4 : Int32) (l5 : Int32) (l6 : Int32) (l7 : Int32) (l8 : Int32) (l9 : Int32) (s0 : Int32) (K : Int32 → xS → Prop) (Kb21 : Int32 → Int32 → Int32 → Int32 → Int32 → xS → Prop) (Kx137 : Int32 → Int32 → Int32 → Int32 → xS → Prop) : xS → Prop := xif (s0 = 0) (p_Sc_nested_B85 th l1 l2 l3 l4 l5 l6 l7 l8 l9 (-1) K (Kb21) Kx137) (xgR 7 2 (some th) fun v6 => xalR 2 v6 (l2 + 1) fun v7 => xal 0 v7 l9 fun v8 => p_Sc_nested_B85 th l1 l2 l3 l4 l5 l6 l7 l8 l9 v8 K (Kb21) Kx137)
def p_Sc_nested_B62 (th : Nat) (l1 : Option Nat) (l2 : Int32) (l3 : Option Nat) (l4 : Int32) (l5 : Int32) (l6 : Int32) (l7 : Int32) (l8 : Int32) (l9 : Int32)  (K : Int32 → xS → Prop) (Kb21 : Int32 → Int32 → Int32 → Int32 → Int32 → xS → Prop) (Kx137 : Int32 → Int32 → Int32 → Int32 → xS → Prop) : xS → Prop := p_Sc_nested_B63 th l1 l2 l3 l4 l5 l6 l7 l8 l9 0 K (Kb21) Kx137
def p_Sc_nested_L21 (th : Nat) (l1 : Option Nat) (l2 : Int32) (l3 : Option Nat) (l4 : Int32) (K : Int32 → xS → Prop) (Kx137 : Int32 → Int32 → Int32 → Int32 → xS → Prop) : Nat → Int32 → Int32 → Int32 → Int32 → Int32 → xS → Prop
  | 0, _, _, _, _, _ => fun _ => False
  | n + 1, l5, l6, l7, l8, l9 => xif (l4 ≤ l9) (Kx137 l5 l6 l7 l8) (xalR 3 l3 l9 fun v3 => xgR 2 1 v3 fun v4 => xalR 3 l3 l4 fun v5 => xif (v4 = v5) (xalR 3 l3 l9 fun v9 => xgI 2 0 v9 fun v10 => xgR 3 1 l1 fun v11 => xal 0 v11 l2 fun v12 => xif (v10 = v12) (p_Sc_nested_B63 th l1 l2 l3 l4 l5 l6 l7 l8 l9 1 K (p_Sc_nested_L21 th l1 l2 l3 l4 K Kx137 n) Kx137) (p_Sc_nested_B62 th l1 l2 l3 l4 l5 l6 l7 l8 l9 K (p_Sc_nested_L21 th l1 l2 l3 l4 K Kx137 n) Kx137)) (p_Sc_nested_B62 th l1 l2 l3 l4 l5 l6 l7 l8 l9 K (p_Sc_nested_L21 th l1 l2 l3 l4 K Kx137 n) Kx137))
def p_Sc_nested (th : Nat) (l1 : Option Nat) (l2 : Int32) (l3 : Option Nat) (l4 : Int32) (K : Int32 → xS → Prop) : xS → Prop := xalR 3 l3 l4 fun v1 => xgI 2 2 v1 fun v2 => p_Sc_nested_L21 th l1 l2 l3 l4 K (fun m13 m14 m15 m16 => xif (m13 = 0) (K (-1)) (xgR 3 2 l1 fun v17 => xal 0 v17 l2 fun v18 => xif (v18 = 1) (K m14) (xif (v18 = 2) (xdiv m14 m13 fun _ => K (m14 / m13)) (xif (v18 = 3) (K m15) (xif (v18 = 4) (K m16) (K 0)))))) 1000 0 0 0 0 v2
abbrev X_Sc_nested (p : Program) (l : Launch) (e : Env) (s : State) (m : MethodId) (args : Array Value) (below : List Frame) (meth : Method) (c : Code) (C0 S0 : Nat) (K : Int32 → xS → Prop) (D : va_G) (dA : Nat → ClassId) (base : Nat) (sa : Nat → Nat) (pc : Nat) (lv : List (Nat × Value)) (st : List Value) (G : xS) : Prop := xW p l e { frames := 1, cells := C0, slots := S0, locals := 13 } s m args below meth c 12 (MQ below (xQ D dA base (fun v G2 => ∃ r : Int32, v = some (.int r) ∧ K r G2)) args s C0 S0 (fun q : Nat => base ≤ q)) D dA base sa pc lv st G
set_option maxHeartbeats 4000000 in
set_option maxRecDepth 100000 in
theorem w_Sc_nested_B110 {p : Program} {l : Launch} {e : Env} {s : State} {m : MethodId} {args : Array Value} {below : List Frame} {meth : Method} {c : Code} {C0 S0 : Nat} {D : va_G} {dA : Nat → ClassId} {base : Nat} {sa : Nat → Nat} (F : xFix p { frames := 1, cells := C0, slots := S0, locals := 13 } s m args meth c b_Sc_nested 12 "BlockSearch$Scorer" D dA base sa) (hret : meth.sig.returnType = (some FieldType.int)) {K : Int32 → xS → Prop} {Kb21 : Int32 → Int32 → Int32 → Int32 → Int32 → xS → Prop} {Kx137 : Int32 → Int32 → Int32 → Int32 → xS → Prop} (th : Nat) (l1 : Option Nat) (l2 : Int32) (l3 : Option Nat) (l4 : Int32) (l5 : Int32) (l6 : Int32) (l8 : Int32) (l9 : Int32) (l11 : Int32) (s0 : Int32) (hKb21 : ∀ (m5 : Int32) (m6 : Int32) (m7 : Int32) (m8 : Int32) (m9 : Int32) (G : xS), Kb21 m5 m6 m7 m8 m9 G → X_Sc_nested p l e s m args below meth c C0 S0 K D dA base sa 21 [(0, va_rf (some th)), (1, va_rf l1), (2, .int l2), (3, va_rf l3), (4, .int l4), (5, .int m5), (6, .int m6), (7, .int m7), (8, .int m8), (9, .int m9)] [] G) (hKx137 : ∀ (m5 : Int32) (m6 : Int32) (m7 : Int32) (m8 : Int32) (G : xS), Kx137 m5 m6 m7 m8 G → X_Sc_nested p l e s m args below meth c C0 S0 K D dA base sa 137 [(1, va_rf l1), (2, .int l2), (5, .int m5), (6, .int m6), (7, .int m7), (8, .int m8)] [] G) {G : xS} (h : p_Sc_nested_B110 th l1 l2 l3 l4 l5 l6 l8 l9 l11 s0 K Kb21 Kx137 G) : X_Sc_nested p l e s m args below meth c C0 S0 K D dA base sa 110 [(0, va_rf (some th)), (1, va_rf l1), (2, .int l2), (3, va_rf l3), (4, .int l4), (5, .int l5), (6, .int l6), (8, .int l8), (9, .int l9), (11, .int l11)] [.int s0] G := by
  unfold p_Sc_nested_B110 at h
  refine x_istore F (lv' := [(7, .int s0), (0, va_rf (some th)), (1, va_rf l1), (2, .int l2), (3, va_rf l3), (4, .int l4), (5, .int l5), (6, .int l6), (8, .int l8), (9, .int l9), (11, .int l11)]) d_Sc_nested_110 (by decide) rfl ?_
  refine x_iload F 8 d_Sc_nested_112 rfl ?_
  refine x_iload F 10 d_Sc_nested_114 rfl ?_
  refine x_mmax F k_540 k_541 k_13 k_542 (Nat.le_of_ble_eq_true rfl) (by simp [x_cat, x_catI, x_catL]) d_Sc_nested_116 ?_
  refine x_istore F (lv' := [(8, .int (if l8 < l11 then l11 else l8)), (7, .int s0), (0, va_rf (some th)), (1, va_rf l1), (2, .int l2), (3, va_rf l3), (4, .int l4), (5, .int l5), (6, .int l6), (9, .int l9), (11, .int l11)]) d_Sc_nested_119 (by decide) rfl ?_
  refine x_iload F 8 d_Sc_nested_121 rfl ?_
  refine x_iload F 10 d_Sc_nested_123 rfl ?_
  refine x_iadd F d_Sc_nested_125 ?_
  refine x_istore F (lv' := [(6, .int (l6 + l11)), (8, .int (if l8 < l11 then l11 else l8)), (7, .int s0), (0, va_rf (some th)), (1, va_rf l1), (2, .int l2), (3, va_rf l3), (4, .int l4), (5, .int l5), (9, .int l9), (11, .int l11)]) d_Sc_nested_126 (by decide) rfl ?_
  refine x_iinc F 8 (v := (l5 + 1)) (lv' := [(5, .int (l5 + 1)), (6, .int (l6 + l11)), (8, .int (if l8 < l11 then l11 else l8)), (7, .int s0), (0, va_rf (some th)), (1, va_rf l1), (2, .int l2), (3, va_rf l3), (4, .int l4), (9, .int l9), (11, .int l11)]) d_Sc_nested_128 rfl (congrArg (fun z : Int32 => l5 + z) (by decide)) (by decide) rfl ?_
  refine x_iinc F 9 (v := (l9 + 1)) (lv' := [(9, .int (l9 + 1)), (5, .int (l5 + 1)), (6, .int (l6 + l11)), (8, .int (if l8 < l11 then l11 else l8)), (7, .int s0), (0, va_rf (some th)), (1, va_rf l1), (2, .int l2), (3, va_rf l3), (4, .int l4), (11, .int l11)]) d_Sc_nested_131 rfl (congrArg (fun z : Int32 => l9 + z) (by decide)) (by decide) rfl ?_
  refine x_goto F (tgt := 21) d_Sc_nested_134 (by decide) ?_
  refine x_sub (lv' := [(0, va_rf (some th)), (1, va_rf l1), (2, .int l2), (3, va_rf l3), (4, .int l4), (5, .int (l5 + 1)), (6, .int (l6 + l11)), (7, .int s0), (8, .int (if l8 < l11 then l11 else l8)), (9, .int (l9 + 1))]) [5, 6, 7, 8, 9, 1, 2, 4, 3, 0] rfl ?_
  exact hKb21 _ _ _ _ _ _ h
set_option maxHeartbeats 4000000 in
set_option maxRecDepth 100000 in
theorem w_Sc_nested_B85 {p : Program} {l : Launch} {e : Env} {s : State} {m : MethodId} {args : Array Value} {below : List Frame} {meth : Method} {c : Code} {C0 S0 : Nat} {D : va_G} {dA : Nat → ClassId} {base : Nat} {sa : Nat → Nat} (F : xFix p { frames := 1, cells := C0, slots := S0, locals := 13 } s m args meth c b_Sc_nested 12 "BlockSearch$Scorer" D dA base sa) (hret : meth.sig.returnType = (some FieldType.int)) {K : Int32 → xS → Prop} {Kb21 : Int32 → Int32 → Int32 → Int32 → Int32 → xS → Prop} {Kx137 : Int32 → Int32 → Int32 → Int32 → xS → Prop} (th : Nat) (l1 : Option Nat) (l2 : Int32) (l3 : Option Nat) (l4 : Int32) (l5 : Int32) (l6 : Int32) (l7 : Int32) (l8 : Int32) (l9 : Int32) (s0 : Int32) (hKb21 : ∀ (m5 : Int32) (m6 : Int32) (m7 : Int32) (m8 : Int32) (m9 : Int32) (G : xS), Kb21 m5 m6 m7 m8 m9 G → X_Sc_nested p l e s m args below meth c C0 S0 K D dA base sa 21 [(0, va_rf (some th)), (1, va_rf l1), (2, .int l2), (3, va_rf l3), (4, .int l4), (5, .int m5), (6, .int m6), (7, .int m7), (8, .int m8), (9, .int m9)] [] G) (hKx137 : ∀ (m5 : Int32) (m6 : Int32) (m7 : Int32) (m8 : Int32) (G : xS), Kx137 m5 m6 m7 m8 G → X_Sc_nested p l e s m args below meth c C0 S0 K D dA base sa 137 [(1, va_rf l1), (2, .int l2), (5, .int m5), (6, .int m6), (7, .int m7), (8, .int m8)] [] G) {G : xS} (h : p_Sc_nested_B85 th l1 l2 l3 l4 l5 l6 l7 l8 l9 s0 K Kb21 Kx137 G) : X_Sc_nested p l e s m args below meth c C0 S0 K D dA base sa 85 [(0, va_rf (some th)), (1, va_rf l1), (2, .int l2), (3, va_rf l3), (4, .int l4), (5, .int l5), (6, .int l6), (7, .int l7), (8, .int l8), (9, .int l9)] [.int s0] G := by
  unfold p_Sc_nested_B85 at h
  refine x_istore F (lv' := [(11, .int s0), (0, va_rf (some th)), (1, va_rf l1), (2, .int l2), (3, va_rf l3), (4, .int l4), (5, .int l5), (6, .int l6), (7, .int l7), (8, .int l8), (9, .int l9)]) d_Sc_nested_85 (by decide) rfl ?_
  refine x_iload F 0 d_Sc_nested_87 rfl ?_
  refine x_iconst F (v := (-1)) d_Sc_nested_89 (by decide) ?_
  refine x_icmp_eq F (tgt := 131) d_Sc_nested_90 (by decide) h (fun q h => ?_) (fun q h => ?_)
  · refine x_iinc F 10 (v := (l9 + 1)) (lv' := [(9, .int (l9 + 1)), (11, .int s0), (0, va_rf (some th)), (1, va_rf l1), (2, .int l2), (3, va_rf l3), (4, .int l4), (5, .int l5), (6, .int l6), (7, .int l7), (8, .int l8)]) d_Sc_nested_131 rfl (congrArg (fun z : Int32 => l9 + z) (by decide)) (by decide) rfl ?_
    refine x_goto F (tgt := 21) d_Sc_nested_134 (by decide) ?_
    refine x_sub (lv' := [(0, va_rf (some th)), (1, va_rf l1), (2, .int l2), (3, va_rf l3), (4, .int l4), (5, .int l5), (6, .int l6), (7, .int l7), (8, .int l8), (9, .int (l9 + 1))]) [2, 3, 4, 5, 6, 7, 8, 9, 10, 0] rfl ?_
    exact hKb21 _ _ _ _ _ _ h
  · refine x_iload F 6 d_Sc_nested_93 rfl ?_
    refine x_if_ne F (tgt := 103) d_Sc_nested_95 (by decide) h (fun q h => ?_) (fun q h => ?_)
    · refine x_iload F 8 d_Sc_nested_103 rfl ?_
      refine x_iload F 0 d_Sc_nested_105 rfl ?_
      refine x_mmin F k_537 k_538 k_13 k_539 (Nat.le_of_ble_eq_true rfl) (by simp [x_cat, x_catI, x_catL]) d_Sc_nested_107 ?_
      refine x_sub (lv' := [(0, va_rf (some th)), (1, va_rf l1), (2, .int l2), (3, va_rf l3), (4, .int l4), (5, .int l5), (6, .int l6), (8, .int l8), (9, .int l9), (11, .int s0)]) [1, 2, 3, 4, 5, 6, 7, 9, 10, 0] rfl ?_
      exact w_Sc_nested_B110 F hret th l1 l2 l3 l4 l5 l6 l8 l9 s0 (if s0 < l7 then s0 else l7) hKb21 hKx137 h
    · refine x_iload F 0 d_Sc_nested_98 rfl ?_
      refine x_goto F (tgt := 110) d_Sc_nested_100 (by decide) ?_
      refine x_sub (lv' := [(0, va_rf (some th)), (1, va_rf l1), (2, .int l2), (3, va_rf l3), (4, .int l4), (5, .int l5), (6, .int l6), (8, .int l8), (9, .int l9), (11, .int s0)]) [1, 2, 3, 4, 5, 6, 7, 9, 10, 0] rfl ?_
      exact w_Sc_nested_B110 F hret th l1 l2 l3 l4 l5 l6 l8 l9 s0 s0 hKb21 hKx137 h
set_option maxHeartbeats 4000000 in
set_option maxRecDepth 100000 in
theorem w_Sc_nested_B63 {p : Program} {l : Launch} {e : Env} {s : State} {m : MethodId} {args : Array Value} {below : List Frame} {meth : Method} {c : Code} {C0 S0 : Nat} {D : va_G} {dA : Nat → ClassId} {base : Nat} {sa : Nat → Nat} (F : xFix p { frames := 1, cells := C0, slots := S0, locals := 13 } s m args meth c b_Sc_nested 12 "BlockSearch$Scorer" D dA base sa) (hret : meth.sig.returnType = (some FieldType.int)) {K : Int32 → xS → Prop} {Kb21 : Int32 → Int32 → Int32 → Int32 → Int32 → xS → Prop} {Kx137 : Int32 → Int32 → Int32 → Int32 → xS → Prop} (th : Nat) (l1 : Option Nat) (l2 : Int32) (l3 : Option Nat) (l4 : Int32) (l5 : Int32) (l6 : Int32) (l7 : Int32) (l8 : Int32) (l9 : Int32) (s0 : Int32) (hKb21 : ∀ (m5 : Int32) (m6 : Int32) (m7 : Int32) (m8 : Int32) (m9 : Int32) (G : xS), Kb21 m5 m6 m7 m8 m9 G → X_Sc_nested p l e s m args below meth c C0 S0 K D dA base sa 21 [(0, va_rf (some th)), (1, va_rf l1), (2, .int l2), (3, va_rf l3), (4, .int l4), (5, .int m5), (6, .int m6), (7, .int m7), (8, .int m8), (9, .int m9)] [] G) (hKx137 : ∀ (m5 : Int32) (m6 : Int32) (m7 : Int32) (m8 : Int32) (G : xS), Kx137 m5 m6 m7 m8 G → X_Sc_nested p l e s m args below meth c C0 S0 K D dA base sa 137 [(1, va_rf l1), (2, .int l2), (5, .int m5), (6, .int m6), (7, .int m7), (8, .int m8)] [] G) {G : xS} (h : p_Sc_nested_B63 th l1 l2 l3 l4 l5 l6 l7 l8 l9 s0 K Kb21 Kx137 G) : X_Sc_nested p l e s m args below meth c C0 S0 K D dA base sa 63 [(0, va_rf (some th)), (1, va_rf l1), (2, .int l2), (3, va_rf l3), (4, .int l4), (5, .int l5), (6, .int l6), (7, .int l7), (8, .int l8), (9, .int l9)] [.int s0] G := by
  unfold p_Sc_nested_B63 at h
  refine x_istore F (lv' := [(10, .int s0), (0, va_rf (some th)), (1, va_rf l1), (2, .int l2), (3, va_rf l3), (4, .int l4), (5, .int l5), (6, .int l6), (7, .int l7), (8, .int l8), (9, .int l9)]) d_Sc_nested_63 (by decide) rfl ?_
  refine x_iload F 0 d_Sc_nested_65 rfl ?_
  refine x_if_eq F (tgt := 84) d_Sc_nested_67 (by decide) h (fun q h => ?_) (fun q h => ?_)
  · refine x_iconst F (v := (-1)) d_Sc_nested_84 (by decide) ?_
    refine x_sub (lv' := [(0, va_rf (some th)), (1, va_rf l1), (2, .int l2), (3, va_rf l3), (4, .int l4), (5, .int l5), (6, .int l6), (7, .int l7), (8, .int l8), (9, .int l9)]) [1, 2, 3, 4, 5, 6, 7, 8, 9, 10] rfl ?_
    exact w_Sc_nested_B85 F hret th l1 l2 l3 l4 l5 l6 l7 l8 l9 (-1) hKb21 hKx137 h
  · refine x_aload_n F 1 d_Sc_nested_70 rfl rfl ?_
    refine x_getR F cl_Sc in_Sc (k := 2) (by decide) k_173 rfl d_Sc_nested_71 h (fun v6 h => ?_)
    refine x_iload_n F 3 d_Sc_nested_74 rfl rfl ?_
    refine x_iconst F (v := 1) d_Sc_nested_75 (by decide) ?_
    refine x_iadd F d_Sc_nested_76 ?_
    refine x_aald F (t := 2) rfl rfl d_Sc_nested_77 h (fun v7 h => ?_)
    refine x_iload F 10 d_Sc_nested_78 rfl ?_
    refine x_iald F (t := 0) rfl d_Sc_nested_80 h (fun v8 h => ?_)
    refine x_goto F (tgt := 85) d_Sc_nested_81 (by decide) ?_
    refine x_sub (lv' := [(0, va_rf (some th)), (1, va_rf l1), (2, .int l2), (3, va_rf l3), (4, .int l4), (5, .int l5), (6, .int l6), (7, .int l7), (8, .int l8), (9, .int l9)]) [1, 2, 3, 4, 5, 6, 7, 8, 9, 10] rfl ?_
    exact w_Sc_nested_B85 F hret th l1 l2 l3 l4 l5 l6 l7 l8 l9 v8 hKb21 hKx137 h
set_option maxHeartbeats 4000000 in
set_option maxRecDepth 100000 in
theorem w_Sc_nested_B62 {p : Program} {l : Launch} {e : Env} {s : State} {m : MethodId} {args : Array Value} {below : List Frame} {meth : Method} {c : Code} {C0 S0 : Nat} {D : va_G} {dA : Nat → ClassId} {base : Nat} {sa : Nat → Nat} (F : xFix p { frames := 1, cells := C0, slots := S0, locals := 13 } s m args meth c b_Sc_nested 12 "BlockSearch$Scorer" D dA base sa) (hret : meth.sig.returnType = (some FieldType.int)) {K : Int32 → xS → Prop} {Kb21 : Int32 → Int32 → Int32 → Int32 → Int32 → xS → Prop} {Kx137 : Int32 → Int32 → Int32 → Int32 → xS → Prop} (th : Nat) (l1 : Option Nat) (l2 : Int32) (l3 : Option Nat) (l4 : Int32) (l5 : Int32) (l6 : Int32) (l7 : Int32) (l8 : Int32) (l9 : Int32)  (hKb21 : ∀ (m5 : Int32) (m6 : Int32) (m7 : Int32) (m8 : Int32) (m9 : Int32) (G : xS), Kb21 m5 m6 m7 m8 m9 G → X_Sc_nested p l e s m args below meth c C0 S0 K D dA base sa 21 [(0, va_rf (some th)), (1, va_rf l1), (2, .int l2), (3, va_rf l3), (4, .int l4), (5, .int m5), (6, .int m6), (7, .int m7), (8, .int m8), (9, .int m9)] [] G) (hKx137 : ∀ (m5 : Int32) (m6 : Int32) (m7 : Int32) (m8 : Int32) (G : xS), Kx137 m5 m6 m7 m8 G → X_Sc_nested p l e s m args below meth c C0 S0 K D dA base sa 137 [(1, va_rf l1), (2, .int l2), (5, .int m5), (6, .int m6), (7, .int m7), (8, .int m8)] [] G) {G : xS} (h : p_Sc_nested_B62 th l1 l2 l3 l4 l5 l6 l7 l8 l9 K Kb21 Kx137 G) : X_Sc_nested p l e s m args below meth c C0 S0 K D dA base sa 62 [(0, va_rf (some th)), (1, va_rf l1), (2, .int l2), (3, va_rf l3), (4, .int l4), (5, .int l5), (6, .int l6), (7, .int l7), (8, .int l8), (9, .int l9)] [] G := by
  unfold p_Sc_nested_B62 at h
  refine x_iconst F (v := 0) d_Sc_nested_62 (by decide) ?_
  exact w_Sc_nested_B63 F hret th l1 l2 l3 l4 l5 l6 l7 l8 l9 0 hKb21 hKx137 h
set_option maxHeartbeats 4000000 in
set_option maxRecDepth 100000 in
theorem w_Sc_nested_L21 {p : Program} {l : Launch} {e : Env} {s : State} {m : MethodId} {args : Array Value} {below : List Frame} {meth : Method} {c : Code} {C0 S0 : Nat} {D : va_G} {dA : Nat → ClassId} {base : Nat} {sa : Nat → Nat} (F : xFix p { frames := 1, cells := C0, slots := S0, locals := 13 } s m args meth c b_Sc_nested 12 "BlockSearch$Scorer" D dA base sa) (hret : meth.sig.returnType = (some FieldType.int)) {K : Int32 → xS → Prop} {Kx137 : Int32 → Int32 → Int32 → Int32 → xS → Prop} (th : Nat) (l1 : Option Nat) (l2 : Int32) (l3 : Option Nat) (l4 : Int32) (hKx137 : ∀ (l5 : Int32) (l6 : Int32) (l7 : Int32) (l8 : Int32) (G : xS), Kx137 l5 l6 l7 l8 G → X_Sc_nested p l e s m args below meth c C0 S0 K D dA base sa 137 [(1, va_rf l1), (2, .int l2), (5, .int l5), (6, .int l6), (7, .int l7), (8, .int l8)] [] G) : ∀ (n : Nat) (l5 : Int32) (l6 : Int32) (l7 : Int32) (l8 : Int32) (l9 : Int32) (G : xS), p_Sc_nested_L21 th l1 l2 l3 l4 K Kx137 n l5 l6 l7 l8 l9 G → X_Sc_nested p l e s m args below meth c C0 S0 K D dA base sa 21 [(0, va_rf (some th)), (1, va_rf l1), (2, .int l2), (3, va_rf l3), (4, .int l4), (5, .int l5), (6, .int l6), (7, .int l7), (8, .int l8), (9, .int l9)] [] G := by
  intro n
  induction n with
  | zero => intro l5 l6 l7 l8 l9 G h; exact h.elim
  | succ n ih =>
    intro l5 l6 l7 l8 l9 G h
    unfold p_Sc_nested_L21 at h
    refine x_iload F 9 d_Sc_nested_21 rfl ?_
    refine x_iload F 4 d_Sc_nested_23 rfl ?_
    refine x_icmp_ge F (tgt := 137) d_Sc_nested_25 (by decide) h (fun q h => ?_) (fun q h => ?_)
    · refine x_sub (lv' := [(1, va_rf l1), (2, .int l2), (5, .int l5), (6, .int l6), (7, .int l7), (8, .int l8)]) [1, 2, 5, 6, 7, 8] rfl ?_
      exact hKx137 _ _ _ _ _ h
    · refine x_aload_n F 3 d_Sc_nested_28 rfl rfl ?_
      refine x_iload F 9 d_Sc_nested_29 rfl ?_
      refine x_aald F (t := 3) rfl rfl d_Sc_nested_31 h (fun v3 h => ?_)
      refine x_getR F cl_Nd in_Nd (k := 1) (by decide) k_261 rfl d_Sc_nested_32 h (fun v4 h => ?_)
      refine x_aload_n F 3 d_Sc_nested_35 rfl rfl ?_
      refine x_iload F 4 d_Sc_nested_36 rfl ?_
      refine x_aald F (t := 3) rfl rfl d_Sc_nested_38 h (fun v5 h => ?_)
      refine x_acmp_ne F (tgt := 62) d_Sc_nested_39 (by decide) h (fun q h => ?_) (fun q h => ?_)
      · exact w_Sc_nested_B62 F hret th l1 l2 l3 l4 l5 l6 l7 l8 l9 ih hKx137 h
      · refine x_aload_n F 3 d_Sc_nested_42 rfl rfl ?_
        refine x_iload F 9 d_Sc_nested_43 rfl ?_
        refine x_aald F (t := 3) rfl rfl d_Sc_nested_45 h (fun v9 h => ?_)
        refine x_getI F cl_Nd in_Nd (k := 0) (by decide) k_257 rfl d_Sc_nested_46 h (fun v10 h => ?_)
        refine x_aload_n F 1 d_Sc_nested_49 rfl rfl ?_
        refine x_getR F cl_Qu in_Qu (k := 1) (by decide) k_138 rfl d_Sc_nested_50 h (fun v11 h => ?_)
        refine x_iload_n F 2 d_Sc_nested_53 rfl rfl ?_
        refine x_iald F (t := 0) rfl d_Sc_nested_54 h (fun v12 h => ?_)
        refine x_icmp_ne F (tgt := 62) d_Sc_nested_55 (by decide) h (fun q h => ?_) (fun q h => ?_)
        · exact w_Sc_nested_B62 F hret th l1 l2 l3 l4 l5 l6 l7 l8 l9 ih hKx137 h
        · refine x_iconst F (v := 1) d_Sc_nested_58 (by decide) ?_
          refine x_goto F (tgt := 63) d_Sc_nested_59 (by decide) ?_
          exact w_Sc_nested_B63 F hret th l1 l2 l3 l4 l5 l6 l7 l8 l9 1 ih hKx137 h
set_option maxHeartbeats 4000000 in
set_option maxRecDepth 100000 in
theorem c_Sc_nested (l : Launch) (D : va_G) (dA : Nat → ClassId) (base : Nat) (sa : Nat → Nat) (th : Nat) (l1 : Option Nat) (l2 : Int32) (l3 : Option Nat) (l4 : Int32) (K : Int32 → xS → Prop) (G : xS) (h : p_Sc_nested th l1 l2 l3 l4 K G) : xMet l y_Sc_nested b_Sc_nested 12 (some FieldType.int) 1 13 D dA base sa [va_rf (some th), va_rf l1, .int l2, va_rf l3, .int l4] G (fun v G2 => ∃ r : Int32, v = some (.int r) ∧ K r G2) := by
  refine xMet.of (by decide) (by simp [x_cat, x_catI]) (Nat.le_of_ble_eq_true rfl) ?_
  intro p e s m args below meth c F hret hname
  unfold p_Sc_nested at h
  refine x_sub (lv' := [(0, va_rf (some th)), (1, va_rf l1), (2, .int l2), (3, va_rf l3), (4, .int l4)]) [0, 1, 2, 3, 4] rfl ?_
  refine x_iconst F (v := 0) d_Sc_nested_0 (by decide) ?_
  refine x_istore F (lv' := [(5, .int 0), (0, va_rf (some th)), (1, va_rf l1), (2, .int l2), (3, va_rf l3), (4, .int l4)]) d_Sc_nested_1 (by decide) rfl ?_
  refine x_iconst F (v := 0) d_Sc_nested_3 (by decide) ?_
  refine x_istore F (lv' := [(6, .int 0), (5, .int 0), (0, va_rf (some th)), (1, va_rf l1), (2, .int l2), (3, va_rf l3), (4, .int l4)]) d_Sc_nested_4 (by decide) rfl ?_
  refine x_iconst F (v := 0) d_Sc_nested_6 (by decide) ?_
  refine x_istore F (lv' := [(7, .int 0), (6, .int 0), (5, .int 0), (0, va_rf (some th)), (1, va_rf l1), (2, .int l2), (3, va_rf l3), (4, .int l4)]) d_Sc_nested_7 (by decide) rfl ?_
  refine x_iconst F (v := 0) d_Sc_nested_9 (by decide) ?_
  refine x_istore F (lv' := [(8, .int 0), (7, .int 0), (6, .int 0), (5, .int 0), (0, va_rf (some th)), (1, va_rf l1), (2, .int l2), (3, va_rf l3), (4, .int l4)]) d_Sc_nested_10 (by decide) rfl ?_
  refine x_aload_n F 7 d_Sc_nested_12 rfl rfl ?_
  refine x_iload F 8 d_Sc_nested_13 rfl ?_
  refine x_aald F (t := 3) rfl rfl d_Sc_nested_15 h (fun v1 h => ?_)
  refine x_getI F cl_Nd in_Nd (k := 2) (by decide) k_264 rfl d_Sc_nested_16 h (fun v2 h => ?_)
  refine x_istore F (lv' := [(9, .int v2), (8, .int 0), (7, .int 0), (6, .int 0), (5, .int 0), (0, va_rf (some th)), (1, va_rf l1), (2, .int l2), (3, va_rf l3), (4, .int l4)]) d_Sc_nested_19 (by decide) rfl ?_
  refine x_sub (lv' := [(0, va_rf (some th)), (1, va_rf l1), (2, .int l2), (3, va_rf l3), (4, .int l4), (5, .int 0), (6, .int 0), (7, .int 0), (8, .int 0), (9, .int v2)]) [5, 6, 7, 8, 9, 4, 3, 2, 1, 0] rfl ?_
  refine w_Sc_nested_L21 F hret th l1 l2 l3 l4 (fun m13 m14 m15 m16 G h => ?_) _ _ _ _ _ _ _ h
  refine x_iload F 2 d_Sc_nested_137 rfl ?_
  refine x_if_ne F (tgt := 144) d_Sc_nested_139 (by decide) h (fun q h => ?_) (fun q h => ?_)
  · refine x_aload_n F 0 d_Sc_nested_144 rfl rfl ?_
    refine x_getR F cl_Qu in_Qu (k := 2) (by decide) k_140 rfl d_Sc_nested_145 h (fun v17 h => ?_)
    refine x_iload_n F 1 d_Sc_nested_148 rfl rfl ?_
    refine x_iald F (t := 0) rfl d_Sc_nested_149 h (fun v18 h => ?_)
    by_cases q1 : v18 = 1
    · have h := h.1 q1
      refine x_tabIn F (off := 30) (tgt := 180) d_Sc_nested_150 q1 (by decide) (by decide) (by decide) (by decide) ?_
      refine x_iload F 3 d_Sc_nested_180 rfl ?_
      exact x_iret F rfl hret d_Sc_nested_182 ⟨_, rfl, h⟩
    have h := h.2 q1
    by_cases q2 : v18 = 2
    · have h := h.1 q2
      refine x_tabIn F (off := 33) (tgt := 183) d_Sc_nested_150 q2 (by decide) (by decide) (by decide) (by decide) ?_
      refine x_iload F 3 d_Sc_nested_183 rfl ?_
      refine x_iload F 2 d_Sc_nested_185 rfl ?_
      refine x_idiv F d_Sc_nested_187 h (fun h => ?_)
      exact x_iret F rfl hret d_Sc_nested_188 ⟨_, rfl, h⟩
    have h := h.2 q2
    by_cases q3 : v18 = 3
    · have h := h.1 q3
      refine x_tabIn F (off := 39) (tgt := 189) d_Sc_nested_150 q3 (by decide) (by decide) (by decide) (by decide) ?_
      refine x_iload F 4 d_Sc_nested_189 rfl ?_
      exact x_iret F rfl hret d_Sc_nested_191 ⟨_, rfl, h⟩
    have h := h.2 q3
    by_cases q4 : v18 = 4
    · have h := h.1 q4
      refine x_tabIn F (off := 42) (tgt := 192) d_Sc_nested_150 q4 (by decide) (by decide) (by decide) (by decide) ?_
      refine x_iload F 5 d_Sc_nested_192 rfl ?_
      exact x_iret F rfl hret d_Sc_nested_194 ⟨_, rfl, h⟩
    have h := h.2 q4
    refine x_tabOut F (tgt := 195) d_Sc_nested_150 (by have a1 := lv_neT (a := 1) q1 (by decide); have a2 := lv_neT (a := 2) q2 (by decide); have a3 := lv_neT (a := 3) q3 (by decide); have a4 := lv_neT (a := 4) q4 (by decide); omega) (by decide) ?_
    refine x_iconst F (v := 0) d_Sc_nested_195 (by decide) ?_
    exact x_iret F rfl hret d_Sc_nested_196 ⟨_, rfl, h⟩
  · refine x_iconst F (v := (-1)) d_Sc_nested_142 (by decide) ?_
    exact x_iret F rfl hret d_Sc_nested_143 ⟨_, rfl, h⟩
def p_Sc_pointsAt (th : Nat) (l1 : Option Nat) (l2 : Int32) (l3 : Option Nat) (l4 : Int32) (K : Int32 → xS → Prop) : xS → Prop := xgR 3 1 l1 fun v1 => xal 0 v1 l2 fun v2 => xgR 3 2 l1 fun v3 => xal 0 v3 l2 fun v4 => xgR 3 0 l1 fun v5 => xal 0 v5 l2 fun v6 => xif (v6 = 0) (xalR 3 l3 l4 fun v7 => xob 2 v7 fun b => xcall 0 0 (p_Nd_timesOf b v2 v4) fun v8 => xgR 7 0 (some th) fun v9 => xal 0 v9 l2 fun v10 => xcall 0 0 (p_Sc_weighed v8 v10) fun v11 => K v11) (xif (v6 = 1) (xalR 3 l3 l4 fun v12 => xob 2 v12 fun b => xcall 0 0 (p_Nd_hasNumberWithin b v2 v4 1000) fun v13 => xcall 0 0 (p_Sc_oneIf v13) fun v14 => K v14) (xif (v6 = 2) (xalR 3 l3 l4 fun v15 => xob 2 v15 fun b => xcall 0 0 (p_Nd_hasNumberWithin b v2 (-1000) v4) fun v16 => xcall 0 0 (p_Sc_oneIf v16) fun v17 => K v17) (xif (v6 = 3) (xalR 3 l3 l4 fun v18 => xgR 2 4 v18 fun v19 => xal 0 v19 v2 fun v20 => xif (v20 = 0) (xcall 0 0 (p_Sc_oneIf 0) fun v21 => K v21) (xcall 0 0 (p_Sc_oneIf 1) fun v22 => K v22)) (xif (v6 = 4) (K 1) (xif (v6 = 5) (xgR 7 2 (some th) fun v23 => xalR 2 v23 (l2 + 1) fun v24 => xal 0 v24 l4 fun v25 => xgR 7 2 (some th) fun v26 => xgR 7 1 (some th) fun v27 => xal 0 v27 l2 fun v28 => xalR 2 v26 v28 fun v29 => xal 0 v29 l4 fun v30 => xcall 0 0 (p_Sc_sumOfBoth v25 v30) fun v31 => K v31) (xif (v6 = 6) (xgR 7 2 (some th) fun v32 => xalR 2 v32 (l2 + 1) fun v33 => xal 0 v33 l4 fun v34 => xgR 7 2 (some th) fun v35 => xgR 7 1 (some th) fun v36 => xal 0 v36 l2 fun v37 => xalR 2 v35 v37 fun v38 => xal 0 v38 l4 fun v39 => xcall 0 0 (p_Sc_sumOfEither v34 v39) fun v40 => K v40) (xif (v6 = 7) (xgR 7 2 (some th) fun v41 => xalR 2 v41 (l2 + 1) fun v42 => xal 0 v42 l4 fun v43 => xif (v43 = (-1)) (K 0) (K (-1))) (xob 7 (some th) fun b => xcall 0 0 (p_Sc_nested b l1 l2 l3 l4) fun v44 => K v44))))))))
abbrev X_Sc_pointsAt (p : Program) (l : Launch) (e : Env) (s : State) (m : MethodId) (args : Array Value) (below : List Frame) (meth : Method) (c : Code) (C0 S0 : Nat) (K : Int32 → xS → Prop) (D : va_G) (dA : Nat → ClassId) (base : Nat) (sa : Nat → Nat) (pc : Nat) (lv : List (Nat × Value)) (st : List Value) (G : xS) : Prop := xW p l e { frames := 2, cells := C0, slots := S0, locals := 44 } s m args below meth c 7 (MQ below (xQ D dA base (fun v G2 => ∃ r : Int32, v = some (.int r) ∧ K r G2)) args s C0 S0 (fun q : Nat => base ≤ q)) D dA base sa pc lv st G
set_option maxHeartbeats 4000000 in
set_option maxRecDepth 100000 in
theorem c_Sc_pointsAt (l : Launch) (D : va_G) (dA : Nat → ClassId) (base : Nat) (sa : Nat → Nat) (th : Nat) (l1 : Option Nat) (l2 : Int32) (l3 : Option Nat) (l4 : Int32) (K : Int32 → xS → Prop) (G : xS) (h : p_Sc_pointsAt th l1 l2 l3 l4 K G) : xMet l y_Sc_pointsAt b_Sc_pointsAt 7 (some FieldType.int) 2 44 D dA base sa [va_rf (some th), va_rf l1, .int l2, va_rf l3, .int l4] G (fun v G2 => ∃ r : Int32, v = some (.int r) ∧ K r G2) := by
  refine xMet.of (by decide) (by simp [x_cat, x_catI]) (Nat.le_of_ble_eq_true rfl) ?_
  intro p e s m args below meth c F hret hname
  unfold p_Sc_pointsAt at h
  refine x_sub (lv' := [(0, va_rf (some th)), (1, va_rf l1), (2, .int l2), (3, va_rf l3), (4, .int l4)]) [0, 1, 2, 3, 4] rfl ?_
  refine x_aload_n F 1 d_Sc_pointsAt_0 rfl rfl ?_
  refine x_getR F cl_Qu in_Qu (k := 1) (by decide) k_138 rfl d_Sc_pointsAt_1 h (fun v1 h => ?_)
  refine x_iload_n F 2 d_Sc_pointsAt_4 rfl rfl ?_
  refine x_iald F (t := 0) rfl d_Sc_pointsAt_5 h (fun v2 h => ?_)
  refine x_istore F (lv' := [(5, .int v2), (0, va_rf (some th)), (1, va_rf l1), (2, .int l2), (3, va_rf l3), (4, .int l4)]) d_Sc_pointsAt_6 (by decide) rfl ?_
  refine x_aload_n F 2 d_Sc_pointsAt_8 rfl rfl ?_
  refine x_getR F cl_Qu in_Qu (k := 2) (by decide) k_140 rfl d_Sc_pointsAt_9 h (fun v3 h => ?_)
  refine x_iload_n F 3 d_Sc_pointsAt_12 rfl rfl ?_
  refine x_iald F (t := 0) rfl d_Sc_pointsAt_13 h (fun v4 h => ?_)
  refine x_istore F (lv' := [(6, .int v4), (5, .int v2), (0, va_rf (some th)), (1, va_rf l1), (2, .int l2), (3, va_rf l3), (4, .int l4)]) d_Sc_pointsAt_14 (by decide) rfl ?_
  refine x_aload_n F 3 d_Sc_pointsAt_16 rfl rfl ?_
  refine x_getR F cl_Qu in_Qu (k := 0) (by decide) k_136 rfl d_Sc_pointsAt_17 h (fun v5 h => ?_)
  refine x_iload_n F 4 d_Sc_pointsAt_20 rfl rfl ?_
  refine x_iald F (t := 0) rfl d_Sc_pointsAt_21 h (fun v6 h => ?_)
  by_cases q0 : v6 = 0
  · have h := h.1 q0
    refine x_tabIn F (off := 46) (tgt := 68) d_Sc_pointsAt_22 q0 (by decide) (by decide) (by decide) (by decide) ?_
    refine x_aload_n F 5 d_Sc_pointsAt_68 rfl rfl ?_
    refine x_iload F 6 d_Sc_pointsAt_69 rfl ?_
    refine x_aald F (t := 3) rfl rfl d_Sc_pointsAt_71 h (fun v7 h => ?_)
    refine x_iload F 1 d_Sc_pointsAt_72 rfl ?_
    refine x_iload F 0 d_Sc_pointsAt_74 rfl ?_
    refine x_callV F (enc := fun r => some (.int r)) (P := fun b => p_Nd_timesOf b v2 v4) (n := 2) (As := [.int v2, .int v4]) (st := []) k_500 k_10 k_498 k_499 k_497 ⟨by decide, by decide, by decide +kernel⟩ rfl ⟨Nat.le_of_ble_eq_true rfl, Nat.le_of_ble_eq_true rfl⟩ (by simp [x_cat, x_catI, x_catL]) cl_Nd rfl (ro := v7) (fun b K' G' h' _ => c_Nd_timesOf l D dA base sa b v2 v4 K' G' h') d_Sc_pointsAt_76 h (fun v8 G h => ?_)
    refine x_aload_n F 2 d_Sc_pointsAt_79 rfl rfl ?_
    refine x_getR F cl_Sc in_Sc (k := 0) (by decide) k_171 rfl d_Sc_pointsAt_80 h (fun v9 h => ?_)
    refine x_iload_n F 4 d_Sc_pointsAt_83 rfl rfl ?_
    refine x_iald F (t := 0) rfl d_Sc_pointsAt_84 h (fun v10 h => ?_)
    refine x_callS F (enc := fun r => some (.int r)) (P := p_Sc_weighed v8 v10) (n := 2) (As := [.int v8, .int v10]) (st := []) k_519 k_7 k_518 k_517 ⟨by decide, by decide, by decide +kernel⟩ rfl ⟨Nat.le_of_ble_eq_true rfl, Nat.le_of_ble_eq_true rfl⟩ (by simp [x_cat, x_catI, x_catL]) (fun K' G' h' _ => c_Sc_weighed l D dA base sa v8 v10 K' G' h') d_Sc_pointsAt_85 h (fun v11 G h => ?_)
    exact x_iret F rfl hret d_Sc_pointsAt_88 ⟨_, rfl, h⟩
  have h := h.2 q0
  by_cases q1 : v6 = 1
  · have h := h.1 q1
    refine x_tabIn F (off := 67) (tgt := 89) d_Sc_pointsAt_22 q1 (by decide) (by decide) (by decide) (by decide) ?_
    refine x_aload_n F 5 d_Sc_pointsAt_89 rfl rfl ?_
    refine x_iload F 6 d_Sc_pointsAt_90 rfl ?_
    refine x_aald F (t := 3) rfl rfl d_Sc_pointsAt_92 h (fun v12 h => ?_)
    refine x_iload F 1 d_Sc_pointsAt_93 rfl ?_
    refine x_iload F 0 d_Sc_pointsAt_95 rfl ?_
    refine x_sipush F (v := 1000) d_Sc_pointsAt_97 (by decide) ?_
    refine x_callV F (enc := fun r => some (.int r)) (P := fun b => p_Nd_hasNumberWithin b v2 v4 1000) (n := 3) (As := [.int v2, .int v4, .int 1000]) (st := []) k_523 k_10 k_521 k_522 k_520 ⟨by decide, by decide, by decide +kernel⟩ rfl ⟨Nat.le_of_ble_eq_true rfl, Nat.le_of_ble_eq_true rfl⟩ (by simp [x_cat, x_catI, x_catL]) cl_Nd rfl (ro := v12) (fun b K' G' h' _ => c_Nd_hasNumberWithin l D dA base sa b v2 v4 1000 K' G' h') d_Sc_pointsAt_100 h (fun v13 G h => ?_)
    refine x_callS F (enc := fun r => some (.int r)) (P := p_Sc_oneIf v13) (n := 1) (As := [.int v13]) (st := []) k_526 k_7 k_525 k_524 ⟨by decide, by decide, by decide +kernel⟩ rfl ⟨Nat.le_of_ble_eq_true rfl, Nat.le_of_ble_eq_true rfl⟩ (by simp [x_cat, x_catI, x_catL]) (fun K' G' h' _ => c_Sc_oneIf l D dA base sa v13 K' G' h') d_Sc_pointsAt_103 h (fun v14 G h => ?_)
    exact x_iret F rfl hret d_Sc_pointsAt_106 ⟨_, rfl, h⟩
  have h := h.2 q1
  by_cases q2 : v6 = 2
  · have h := h.1 q2
    refine x_tabIn F (off := 85) (tgt := 107) d_Sc_pointsAt_22 q2 (by decide) (by decide) (by decide) (by decide) ?_
    refine x_aload_n F 5 d_Sc_pointsAt_107 rfl rfl ?_
    refine x_iload F 6 d_Sc_pointsAt_108 rfl ?_
    refine x_aald F (t := 3) rfl rfl d_Sc_pointsAt_110 h (fun v15 h => ?_)
    refine x_iload F 1 d_Sc_pointsAt_111 rfl ?_
    refine x_sipush F (v := (-1000)) d_Sc_pointsAt_113 (by decide) ?_
    refine x_iload F 0 d_Sc_pointsAt_116 rfl ?_
    refine x_callV F (enc := fun r => some (.int r)) (P := fun b => p_Nd_hasNumberWithin b v2 (-1000) v4) (n := 3) (As := [.int v2, .int (-1000), .int v4]) (st := []) k_523 k_10 k_521 k_522 k_520 ⟨by decide, by decide, by decide +kernel⟩ rfl ⟨Nat.le_of_ble_eq_true rfl, Nat.le_of_ble_eq_true rfl⟩ (by simp [x_cat, x_catI, x_catL]) cl_Nd rfl (ro := v15) (fun b K' G' h' _ => c_Nd_hasNumberWithin l D dA base sa b v2 (-1000) v4 K' G' h') d_Sc_pointsAt_118 h (fun v16 G h => ?_)
    refine x_callS F (enc := fun r => some (.int r)) (P := p_Sc_oneIf v16) (n := 1) (As := [.int v16]) (st := []) k_526 k_7 k_525 k_524 ⟨by decide, by decide, by decide +kernel⟩ rfl ⟨Nat.le_of_ble_eq_true rfl, Nat.le_of_ble_eq_true rfl⟩ (by simp [x_cat, x_catI, x_catL]) (fun K' G' h' _ => c_Sc_oneIf l D dA base sa v16 K' G' h') d_Sc_pointsAt_121 h (fun v17 G h => ?_)
    exact x_iret F rfl hret d_Sc_pointsAt_124 ⟨_, rfl, h⟩
  have h := h.2 q2
  by_cases q3 : v6 = 3
  · have h := h.1 q3
    refine x_tabIn F (off := 103) (tgt := 125) d_Sc_pointsAt_22 q3 (by decide) (by decide) (by decide) (by decide) ?_
    refine x_aload_n F 5 d_Sc_pointsAt_125 rfl rfl ?_
    refine x_iload F 6 d_Sc_pointsAt_126 rfl ?_
    refine x_aald F (t := 3) rfl rfl d_Sc_pointsAt_128 h (fun v18 h => ?_)
    refine x_getR F cl_Nd in_Nd (k := 4) (by decide) k_271 rfl d_Sc_pointsAt_129 h (fun v19 h => ?_)
    refine x_iload F 1 d_Sc_pointsAt_132 rfl ?_
    refine x_iald F (t := 0) rfl d_Sc_pointsAt_134 h (fun v20 h => ?_)
    refine x_if_eq F (tgt := 142) d_Sc_pointsAt_135 (by decide) h (fun q h => ?_) (fun q h => ?_)
    · refine x_iconst F (v := 0) d_Sc_pointsAt_142 (by decide) ?_
      refine x_callS F (enc := fun r => some (.int r)) (P := p_Sc_oneIf 0) (n := 1) (As := [.int 0]) (st := []) k_526 k_7 k_525 k_524 ⟨by decide, by decide, by decide +kernel⟩ rfl ⟨Nat.le_of_ble_eq_true rfl, Nat.le_of_ble_eq_true rfl⟩ (by simp [x_cat, x_catI, x_catL]) (fun K' G' h' _ => c_Sc_oneIf l D dA base sa 0 K' G' h') d_Sc_pointsAt_143 h (fun v21 G h => ?_)
      exact x_iret F rfl hret d_Sc_pointsAt_146 ⟨_, rfl, h⟩
    · refine x_iconst F (v := 1) d_Sc_pointsAt_138 (by decide) ?_
      refine x_goto F (tgt := 143) d_Sc_pointsAt_139 (by decide) ?_
      refine x_callS F (enc := fun r => some (.int r)) (P := p_Sc_oneIf 1) (n := 1) (As := [.int 1]) (st := []) k_526 k_7 k_525 k_524 ⟨by decide, by decide, by decide +kernel⟩ rfl ⟨Nat.le_of_ble_eq_true rfl, Nat.le_of_ble_eq_true rfl⟩ (by simp [x_cat, x_catI, x_catL]) (fun K' G' h' _ => c_Sc_oneIf l D dA base sa 1 K' G' h') d_Sc_pointsAt_143 h (fun v22 G h => ?_)
      exact x_iret F rfl hret d_Sc_pointsAt_146 ⟨_, rfl, h⟩
  have h := h.2 q3
  by_cases q4 : v6 = 4
  · have h := h.1 q4
    refine x_tabIn F (off := 125) (tgt := 147) d_Sc_pointsAt_22 q4 (by decide) (by decide) (by decide) (by decide) ?_
    refine x_iconst F (v := 1) d_Sc_pointsAt_147 (by decide) ?_
    exact x_iret F rfl hret d_Sc_pointsAt_148 ⟨_, rfl, h⟩
  have h := h.2 q4
  by_cases q5 : v6 = 5
  · have h := h.1 q5
    refine x_tabIn F (off := 127) (tgt := 149) d_Sc_pointsAt_22 q5 (by decide) (by decide) (by decide) (by decide) ?_
    refine x_aload_n F 2 d_Sc_pointsAt_149 rfl rfl ?_
    refine x_getR F cl_Sc in_Sc (k := 2) (by decide) k_173 rfl d_Sc_pointsAt_150 h (fun v23 h => ?_)
    refine x_iload_n F 4 d_Sc_pointsAt_153 rfl rfl ?_
    refine x_iconst F (v := 1) d_Sc_pointsAt_154 (by decide) ?_
    refine x_iadd F d_Sc_pointsAt_155 ?_
    refine x_aald F (t := 2) rfl rfl d_Sc_pointsAt_156 h (fun v24 h => ?_)
    refine x_iload F 6 d_Sc_pointsAt_157 rfl ?_
    refine x_iald F (t := 0) rfl d_Sc_pointsAt_159 h (fun v25 h => ?_)
    refine x_aload_n F 2 d_Sc_pointsAt_160 rfl rfl ?_
    refine x_getR F cl_Sc in_Sc (k := 2) (by decide) k_173 rfl d_Sc_pointsAt_161 h (fun v26 h => ?_)
    refine x_aload_n F 2 d_Sc_pointsAt_164 rfl rfl ?_
    refine x_getR F cl_Sc in_Sc (k := 1) (by decide) k_172 rfl d_Sc_pointsAt_165 h (fun v27 h => ?_)
    refine x_iload_n F 4 d_Sc_pointsAt_168 rfl rfl ?_
    refine x_iald F (t := 0) rfl d_Sc_pointsAt_169 h (fun v28 h => ?_)
    refine x_aald F (t := 2) rfl rfl d_Sc_pointsAt_170 h (fun v29 h => ?_)
    refine x_iload F 6 d_Sc_pointsAt_171 rfl ?_
    refine x_iald F (t := 0) rfl d_Sc_pointsAt_173 h (fun v30 h => ?_)
    refine x_callS F (enc := fun r => some (.int r)) (P := p_Sc_sumOfBoth v25 v30) (n := 2) (As := [.int v25, .int v30]) (st := []) k_529 k_7 k_528 k_527 ⟨by decide, by decide, by decide +kernel⟩ rfl ⟨Nat.le_of_ble_eq_true rfl, Nat.le_of_ble_eq_true rfl⟩ (by simp [x_cat, x_catI, x_catL]) (fun K' G' h' _ => c_Sc_sumOfBoth l D dA base sa v25 v30 K' G' h') d_Sc_pointsAt_174 h (fun v31 G h => ?_)
    exact x_iret F rfl hret d_Sc_pointsAt_177 ⟨_, rfl, h⟩
  have h := h.2 q5
  by_cases q6 : v6 = 6
  · have h := h.1 q6
    refine x_tabIn F (off := 156) (tgt := 178) d_Sc_pointsAt_22 q6 (by decide) (by decide) (by decide) (by decide) ?_
    refine x_aload_n F 2 d_Sc_pointsAt_178 rfl rfl ?_
    refine x_getR F cl_Sc in_Sc (k := 2) (by decide) k_173 rfl d_Sc_pointsAt_179 h (fun v32 h => ?_)
    refine x_iload_n F 4 d_Sc_pointsAt_182 rfl rfl ?_
    refine x_iconst F (v := 1) d_Sc_pointsAt_183 (by decide) ?_
    refine x_iadd F d_Sc_pointsAt_184 ?_
    refine x_aald F (t := 2) rfl rfl d_Sc_pointsAt_185 h (fun v33 h => ?_)
    refine x_iload F 6 d_Sc_pointsAt_186 rfl ?_
    refine x_iald F (t := 0) rfl d_Sc_pointsAt_188 h (fun v34 h => ?_)
    refine x_aload_n F 2 d_Sc_pointsAt_189 rfl rfl ?_
    refine x_getR F cl_Sc in_Sc (k := 2) (by decide) k_173 rfl d_Sc_pointsAt_190 h (fun v35 h => ?_)
    refine x_aload_n F 2 d_Sc_pointsAt_193 rfl rfl ?_
    refine x_getR F cl_Sc in_Sc (k := 1) (by decide) k_172 rfl d_Sc_pointsAt_194 h (fun v36 h => ?_)
    refine x_iload_n F 4 d_Sc_pointsAt_197 rfl rfl ?_
    refine x_iald F (t := 0) rfl d_Sc_pointsAt_198 h (fun v37 h => ?_)
    refine x_aald F (t := 2) rfl rfl d_Sc_pointsAt_199 h (fun v38 h => ?_)
    refine x_iload F 6 d_Sc_pointsAt_200 rfl ?_
    refine x_iald F (t := 0) rfl d_Sc_pointsAt_202 h (fun v39 h => ?_)
    refine x_callS F (enc := fun r => some (.int r)) (P := p_Sc_sumOfEither v34 v39) (n := 2) (As := [.int v34, .int v39]) (st := []) k_532 k_7 k_531 k_530 ⟨by decide, by decide, by decide +kernel⟩ rfl ⟨Nat.le_of_ble_eq_true rfl, Nat.le_of_ble_eq_true rfl⟩ (by simp [x_cat, x_catI, x_catL]) (fun K' G' h' _ => c_Sc_sumOfEither l D dA base sa v34 v39 K' G' h') d_Sc_pointsAt_203 h (fun v40 G h => ?_)
    exact x_iret F rfl hret d_Sc_pointsAt_206 ⟨_, rfl, h⟩
  have h := h.2 q6
  by_cases q7 : v6 = 7
  · have h := h.1 q7
    refine x_tabIn F (off := 185) (tgt := 207) d_Sc_pointsAt_22 q7 (by decide) (by decide) (by decide) (by decide) ?_
    refine x_aload_n F 2 d_Sc_pointsAt_207 rfl rfl ?_
    refine x_getR F cl_Sc in_Sc (k := 2) (by decide) k_173 rfl d_Sc_pointsAt_208 h (fun v41 h => ?_)
    refine x_iload_n F 4 d_Sc_pointsAt_211 rfl rfl ?_
    refine x_iconst F (v := 1) d_Sc_pointsAt_212 (by decide) ?_
    refine x_iadd F d_Sc_pointsAt_213 ?_
    refine x_aald F (t := 2) rfl rfl d_Sc_pointsAt_214 h (fun v42 h => ?_)
    refine x_iload F 6 d_Sc_pointsAt_215 rfl ?_
    refine x_iald F (t := 0) rfl d_Sc_pointsAt_217 h (fun v43 h => ?_)
    refine x_iconst F (v := (-1)) d_Sc_pointsAt_218 (by decide) ?_
    refine x_icmp_ne F (tgt := 226) d_Sc_pointsAt_219 (by decide) h (fun q h => ?_) (fun q h => ?_)
    · refine x_iconst F (v := (-1)) d_Sc_pointsAt_226 (by decide) ?_
      exact x_iret F rfl hret d_Sc_pointsAt_227 ⟨_, rfl, h⟩
    · refine x_iconst F (v := 0) d_Sc_pointsAt_222 (by decide) ?_
      refine x_goto F (tgt := 227) d_Sc_pointsAt_223 (by decide) ?_
      exact x_iret F rfl hret d_Sc_pointsAt_227 ⟨_, rfl, h⟩
  have h := h.2 q7
  refine x_tabOut F (tgt := 228) d_Sc_pointsAt_22 (by have a0 := lv_neT (a := 0) q0 (by decide); have a1 := lv_neT (a := 1) q1 (by decide); have a2 := lv_neT (a := 2) q2 (by decide); have a3 := lv_neT (a := 3) q3 (by decide); have a4 := lv_neT (a := 4) q4 (by decide); have a5 := lv_neT (a := 5) q5 (by decide); have a6 := lv_neT (a := 6) q6 (by decide); have a7 := lv_neT (a := 7) q7 (by decide); omega) (by decide) ?_
  refine x_aload_n F 2 d_Sc_pointsAt_228 rfl rfl ?_
  refine x_aload_n F 3 d_Sc_pointsAt_229 rfl rfl ?_
  refine x_iload_n F 4 d_Sc_pointsAt_230 rfl rfl ?_
  refine x_aload_n F 5 d_Sc_pointsAt_231 rfl rfl ?_
  refine x_iload F 6 d_Sc_pointsAt_232 rfl ?_
  refine x_callV F (enc := fun r => some (.int r)) (P := fun b => p_Sc_nested b l1 l2 l3 l4) (n := 4) (As := [va_rf l1, .int l2, va_rf l3, .int l4]) (st := []) k_536 k_7 k_535 kp_6 k_533 ⟨by decide, by decide, by decide +kernel⟩ rfl ⟨Nat.le_of_ble_eq_true rfl, Nat.le_of_ble_eq_true rfl⟩ (by simp [x_cat, x_catI, x_catL]) cl_Sc rfl (ro := some th) (fun b K' G' h' _ => c_Sc_nested l D dA base sa b l1 l2 l3 l4 K' G' h') d_Sc_pointsAt_234 h (fun v44 G h => ?_)
  exact x_iret F rfl hret d_Sc_pointsAt_237 ⟨_, rfl, h⟩
def p_Sc_pointsOf_L21 (th : Nat) (l1 : Option Nat) (l3 : Option Nat) (l4 : Int32) (K : Int32 → xS → Prop) (Kx71 : xS → Prop) : Nat → Int32 → xS → Prop
  | 0, _ => fun _ => False
  | n + 1, l5 => xlen 3 l3 fun v3 => xif (v3 ≤ l5) (Kx71) (xalR 3 l3 l5 fun v4 => xgI 2 0 v4 fun v5 => xgR 3 3 l1 fun v6 => xal 0 v6 l4 fun v7 => xif (v5 = v7) (xgR 7 2 (some th) fun v8 => xalR 2 v8 l4 fun v9 => xob 7 (some th) fun b => xcall 0 0 (p_Sc_pointsAt b l1 l4 l3 l5) fun v10 => xas 0 v9 l5 v10 (p_Sc_pointsOf_L21 th l1 l3 l4 K Kx71 n (l5 + 1))) (p_Sc_pointsOf_L21 th l1 l3 l4 K Kx71 n (l5 + 1)))
def p_Sc_pointsOf_L13 (th : Nat) (l1 : Option Nat) (l3 : Option Nat) (K : Int32 → xS → Prop) (Kx77 : xS → Prop) : Nat → Int32 → xS → Prop
  | 0, _ => fun _ => False
  | n + 1, l4 => xif (l4 < 0) (Kx77) (p_Sc_pointsOf_L21 th l1 l3 l4 K (p_Sc_pointsOf_L13 th l1 l3 K Kx77 n (l4 + (-1))) 1000 0)
def p_Sc_pointsOf (th : Nat) (l1 : Option Nat) (l2 : Option Nat) (K : Int32 → xS → Prop) : xS → Prop := xgR 5 1 l2 fun v1 => xgI 3 4 l1 fun v2 => p_Sc_pointsOf_L13 th l1 v1 K (xgR 7 2 (some th) fun v11 => xalR 2 v11 0 fun v12 => xlen 3 v1 fun v13 => xal 0 v12 (v13 - 1) fun v14 => K v14) 1000 (v2 - 1)
abbrev X_Sc_pointsOf (p : Program) (l : Launch) (e : Env) (s : State) (m : MethodId) (args : Array Value) (below : List Frame) (meth : Method) (c : Code) (C0 S0 : Nat) (K : Int32 → xS → Prop) (D : va_G) (dA : Nat → ClassId) (base : Nat) (sa : Nat → Nat) (pc : Nat) (lv : List (Nat × Value)) (st : List Value) (G : xS) : Prop := xW p l e { frames := 3, cells := C0, slots := S0, locals := 70 } s m args below meth c 6 (MQ below (xQ D dA base (fun v G2 => ∃ r : Int32, v = some (.int r) ∧ K r G2)) args s C0 S0 (fun q : Nat => base ≤ q)) D dA base sa pc lv st G
set_option maxHeartbeats 4000000 in
set_option maxRecDepth 100000 in
theorem w_Sc_pointsOf_L21 {p : Program} {l : Launch} {e : Env} {s : State} {m : MethodId} {args : Array Value} {below : List Frame} {meth : Method} {c : Code} {C0 S0 : Nat} {D : va_G} {dA : Nat → ClassId} {base : Nat} {sa : Nat → Nat} (F : xFix p { frames := 3, cells := C0, slots := S0, locals := 70 } s m args meth c b_Sc_pointsOf 6 "BlockSearch$Scorer" D dA base sa) (hret : meth.sig.returnType = (some FieldType.int)) {K : Int32 → xS → Prop} {Kx71 : xS → Prop} (th : Nat) (l1 : Option Nat) (l3 : Option Nat) (l4 : Int32) (hKx71 : ∀ (G : xS), Kx71  G → X_Sc_pointsOf p l e s m args below meth c C0 S0 K D dA base sa 71 [(0, va_rf (some th)), (1, va_rf l1), (3, va_rf l3), (4, .int l4)] [] G) : ∀ (n : Nat) (l5 : Int32) (G : xS), p_Sc_pointsOf_L21 th l1 l3 l4 K Kx71 n l5 G → X_Sc_pointsOf p l e s m args below meth c C0 S0 K D dA base sa 21 [(0, va_rf (some th)), (1, va_rf l1), (3, va_rf l3), (4, .int l4), (5, .int l5)] [] G := by
  intro n
  induction n with
  | zero => intro l5 G h; exact h.elim
  | succ n ih =>
    intro l5 G h
    unfold p_Sc_pointsOf_L21 at h
    refine x_iload F 4 d_Sc_pointsOf_21 rfl ?_
    refine x_aload_n F 2 d_Sc_pointsOf_23 rfl rfl ?_
    refine x_len F (t := 3) rfl d_Sc_pointsOf_24 h (fun v3 h => ?_)
    refine x_icmp_ge F (tgt := 71) d_Sc_pointsOf_25 (by decide) h (fun q h => ?_) (fun q h => ?_)
    · refine x_sub (lv' := [(0, va_rf (some th)), (1, va_rf l1), (3, va_rf l3), (4, .int l4)]) [0, 1, 2, 3] rfl ?_
      exact hKx71  _ h
    · refine x_aload_n F 2 d_Sc_pointsOf_28 rfl rfl ?_
      refine x_iload F 4 d_Sc_pointsOf_29 rfl ?_
      refine x_aald F (t := 3) rfl rfl d_Sc_pointsOf_31 h (fun v4 h => ?_)
      refine x_getI F cl_Nd in_Nd (k := 0) (by decide) k_257 rfl d_Sc_pointsOf_32 h (fun v5 h => ?_)
      refine x_aload_n F 1 d_Sc_pointsOf_35 rfl rfl ?_
      refine x_getR F cl_Qu in_Qu (k := 3) (by decide) k_142 rfl d_Sc_pointsOf_36 h (fun v6 h => ?_)
      refine x_iload F 3 d_Sc_pointsOf_39 rfl ?_
      refine x_iald F (t := 0) rfl d_Sc_pointsOf_41 h (fun v7 h => ?_)
      refine x_icmp_ne F (tgt := 65) d_Sc_pointsOf_42 (by decide) h (fun q h => ?_) (fun q h => ?_)
      · refine x_iinc F 4 (v := (l5 + 1)) (lv' := [(5, .int (l5 + 1)), (0, va_rf (some th)), (1, va_rf l1), (3, va_rf l3), (4, .int l4)]) d_Sc_pointsOf_65 rfl (congrArg (fun z : Int32 => l5 + z) (by decide)) (by decide) rfl ?_
        refine x_goto F (tgt := 21) d_Sc_pointsOf_68 (by decide) ?_
        refine x_sub (lv' := [(0, va_rf (some th)), (1, va_rf l1), (3, va_rf l3), (4, .int l4), (5, .int (l5 + 1))]) [1, 2, 3, 4, 0] rfl ?_
        exact ih _ _ h
      · refine x_aload_n F 0 d_Sc_pointsOf_45 rfl rfl ?_
        refine x_getR F cl_Sc in_Sc (k := 2) (by decide) k_173 rfl d_Sc_pointsOf_46 h (fun v8 h => ?_)
        refine x_iload F 3 d_Sc_pointsOf_49 rfl ?_
        refine x_aald F (t := 2) rfl rfl d_Sc_pointsOf_51 h (fun v9 h => ?_)
        refine x_iload F 4 d_Sc_pointsOf_52 rfl ?_
        refine x_aload_n F 0 d_Sc_pointsOf_54 rfl rfl ?_
        refine x_aload_n F 1 d_Sc_pointsOf_55 rfl rfl ?_
        refine x_iload F 3 d_Sc_pointsOf_56 rfl ?_
        refine x_aload_n F 2 d_Sc_pointsOf_58 rfl rfl ?_
        refine x_iload F 4 d_Sc_pointsOf_59 rfl ?_
        refine x_callV F (enc := fun r => some (.int r)) (P := fun b => p_Sc_pointsAt b l1 l4 l3 l5) (n := 4) (As := [va_rf l1, .int l4, va_rf l3, .int l5]) (st := [.int l5, va_rf v9]) k_516 k_7 k_515 kp_5 k_513 ⟨by decide, by decide, by decide +kernel⟩ rfl ⟨Nat.le_of_ble_eq_true rfl, Nat.le_of_ble_eq_true rfl⟩ (by simp [x_cat, x_catI, x_catL]) cl_Sc rfl (ro := some th) (fun b K' G' h' _ => c_Sc_pointsAt l D dA base sa b l1 l4 l3 l5 K' G' h') d_Sc_pointsOf_61 h (fun v10 G h => ?_)
        refine x_iast F (t := 0) rfl d_Sc_pointsOf_64 h (fun G h => ?_)
        refine x_iinc F 4 (v := (l5 + 1)) (lv' := [(5, .int (l5 + 1)), (0, va_rf (some th)), (1, va_rf l1), (3, va_rf l3), (4, .int l4)]) d_Sc_pointsOf_65 rfl (congrArg (fun z : Int32 => l5 + z) (by decide)) (by decide) rfl ?_
        refine x_goto F (tgt := 21) d_Sc_pointsOf_68 (by decide) ?_
        refine x_sub (lv' := [(0, va_rf (some th)), (1, va_rf l1), (3, va_rf l3), (4, .int l4), (5, .int (l5 + 1))]) [1, 2, 3, 4, 0] rfl ?_
        exact ih _ _ h
set_option maxHeartbeats 4000000 in
set_option maxRecDepth 100000 in
theorem w_Sc_pointsOf_L13 {p : Program} {l : Launch} {e : Env} {s : State} {m : MethodId} {args : Array Value} {below : List Frame} {meth : Method} {c : Code} {C0 S0 : Nat} {D : va_G} {dA : Nat → ClassId} {base : Nat} {sa : Nat → Nat} (F : xFix p { frames := 3, cells := C0, slots := S0, locals := 70 } s m args meth c b_Sc_pointsOf 6 "BlockSearch$Scorer" D dA base sa) (hret : meth.sig.returnType = (some FieldType.int)) {K : Int32 → xS → Prop} {Kx77 : xS → Prop} (th : Nat) (l1 : Option Nat) (l3 : Option Nat) (hKx77 : ∀ (G : xS), Kx77  G → X_Sc_pointsOf p l e s m args below meth c C0 S0 K D dA base sa 77 [(0, va_rf (some th)), (3, va_rf l3)] [] G) : ∀ (n : Nat) (l4 : Int32) (G : xS), p_Sc_pointsOf_L13 th l1 l3 K Kx77 n l4 G → X_Sc_pointsOf p l e s m args below meth c C0 S0 K D dA base sa 13 [(0, va_rf (some th)), (1, va_rf l1), (3, va_rf l3), (4, .int l4)] [] G := by
  intro n
  induction n with
  | zero => intro l4 G h; exact h.elim
  | succ n ih =>
    intro l4 G h
    unfold p_Sc_pointsOf_L13 at h
    refine x_iload F 3 d_Sc_pointsOf_13 rfl ?_
    refine x_if_lt F (tgt := 77) d_Sc_pointsOf_15 (by decide) h (fun q h => ?_) (fun q h => ?_)
    · refine x_sub (lv' := [(0, va_rf (some th)), (3, va_rf l3)]) [0, 2] rfl ?_
      exact hKx77  _ h
    · refine x_iconst F (v := 0) d_Sc_pointsOf_18 (by decide) ?_
      refine x_istore F (lv' := [(5, .int 0), (0, va_rf (some th)), (1, va_rf l1), (3, va_rf l3), (4, .int l4)]) d_Sc_pointsOf_19 (by decide) rfl ?_
      refine x_sub (lv' := [(0, va_rf (some th)), (1, va_rf l1), (3, va_rf l3), (4, .int l4), (5, .int 0)]) [1, 2, 3, 4, 0] rfl ?_
      refine w_Sc_pointsOf_L21 F hret th l1 l3 l4 (fun G h => ?_) _ _ _ h
      refine x_iinc F 3 (v := (l4 + (-1))) (lv' := [(4, .int (l4 + (-1))), (0, va_rf (some th)), (1, va_rf l1), (3, va_rf l3)]) d_Sc_pointsOf_71 rfl (congrArg (fun z : Int32 => l4 + z) (by decide)) (by decide) rfl ?_
      refine x_goto F (tgt := 13) d_Sc_pointsOf_74 (by decide) ?_
      refine x_sub (lv' := [(0, va_rf (some th)), (1, va_rf l1), (3, va_rf l3), (4, .int (l4 + (-1)))]) [1, 2, 3, 0] rfl ?_
      exact ih _ _ h
set_option maxHeartbeats 4000000 in
set_option maxRecDepth 100000 in
theorem c_Sc_pointsOf (l : Launch) (D : va_G) (dA : Nat → ClassId) (base : Nat) (sa : Nat → Nat) (th : Nat) (l1 : Option Nat) (l2 : Option Nat) (K : Int32 → xS → Prop) (G : xS) (h : p_Sc_pointsOf th l1 l2 K G) : xMet l y_Sc_pointsOf b_Sc_pointsOf 6 (some FieldType.int) 3 70 D dA base sa [va_rf (some th), va_rf l1, va_rf l2] G (fun v G2 => ∃ r : Int32, v = some (.int r) ∧ K r G2) := by
  refine xMet.of (by decide) (by simp [x_cat, x_catI]) (Nat.le_of_ble_eq_true rfl) ?_
  intro p e s m args below meth c F hret hname
  unfold p_Sc_pointsOf at h
  refine x_sub (lv' := [(0, va_rf (some th)), (1, va_rf l1), (2, va_rf l2)]) [0, 1, 2] rfl ?_
  refine x_aload_n F 2 d_Sc_pointsOf_0 rfl rfl ?_
  refine x_getR F cl_Do in_Do (k := 1) (by decide) k_382 rfl d_Sc_pointsOf_1 h (fun v1 h => ?_)
  refine x_astore_n F (lv' := [(3, va_rf v1), (0, va_rf (some th)), (1, va_rf l1), (2, va_rf l2)]) d_Sc_pointsOf_4 rfl (by decide) rfl ?_
  refine x_aload_n F 2 d_Sc_pointsOf_5 rfl rfl ?_
  refine x_getI F cl_Qu in_Qu (k := 4) (by decide) k_144 rfl d_Sc_pointsOf_6 h (fun v2 h => ?_)
  refine x_iconst F (v := 1) d_Sc_pointsOf_9 (by decide) ?_
  refine x_isub F d_Sc_pointsOf_10 ?_
  refine x_istore F (lv' := [(4, .int (v2 - 1)), (3, va_rf v1), (0, va_rf (some th)), (1, va_rf l1), (2, va_rf l2)]) d_Sc_pointsOf_11 (by decide) rfl ?_
  refine x_sub (lv' := [(0, va_rf (some th)), (1, va_rf l1), (3, va_rf v1), (4, .int (v2 - 1))]) [2, 3, 1, 0] rfl ?_
  refine w_Sc_pointsOf_L13 F hret th l1 v1 (fun G h => ?_) _ _ _ h
  refine x_aload_n F 0 d_Sc_pointsOf_77 rfl rfl ?_
  refine x_getR F cl_Sc in_Sc (k := 2) (by decide) k_173 rfl d_Sc_pointsOf_78 h (fun v11 h => ?_)
  refine x_iconst F (v := 0) d_Sc_pointsOf_81 (by decide) ?_
  refine x_aald F (t := 2) rfl rfl d_Sc_pointsOf_82 h (fun v12 h => ?_)
  refine x_aload_n F 1 d_Sc_pointsOf_83 rfl rfl ?_
  refine x_len F (t := 3) rfl d_Sc_pointsOf_84 h (fun v13 h => ?_)
  refine x_iconst F (v := 1) d_Sc_pointsOf_85 (by decide) ?_
  refine x_isub F d_Sc_pointsOf_86 ?_
  refine x_iald F (t := 0) rfl d_Sc_pointsOf_87 h (fun v14 h => ?_)
  exact x_iret F rfl hret d_Sc_pointsOf_88 ⟨_, rfl, h⟩
def p_Hi_insert_L30 (th : Nat) (l1 : Option Nat) (l2 : Int32) (l3 : Int32) (l4 : Option Nat) (K : Unit → xS → Prop) (Kx72 : Int32 → xS → Prop) : Nat → Int32 → xS → Prop
  | 0, _ => fun _ => False
  | n + 1, l5 => xif (l5 ≤ 0) (Kx72 l5) (xgR 0 0 (some th) fun v8 => xalR 2 v8 (l5 - 1) fun v9 => xal 0 v9 1 fun v10 => xif (l3 ≤ v10) (Kx72 l5) (xgR 0 0 (some th) fun v11 => xgR 0 0 (some th) fun v12 => xalR 2 v12 (l5 - 1) fun v13 => xasG 2 0 v11 l5 v13 (p_Hi_insert_L30 th l1 l2 l3 l4 K Kx72 n (l5 + (-1)))))
def p_Hi_insert_B72 (th : Nat) (l1 : Option Nat) (l2 : Int32) (l3 : Int32) (l4 : Option Nat) (l5 : Int32)  (K : Unit → xS → Prop) : xS → Prop := xgR 0 0 (some th) fun v15 => xasG 2 0 v15 l5 l4 (xgR 4 2 l1 fun v16 => xalR 4 v16 l2 fun v17 => xgI 5 0 v17 fun v18 => xas 0 l4 0 v18 (xas 0 l4 1 l3 (xgR 4 4 l1 fun v19 => xal 0 v19 l2 fun v20 => xas 0 l4 2 v20 (xgR 4 5 l1 fun v21 => xal 0 v21 l2 fun v22 => xas 0 l4 3 v22 (xgR 4 2 l1 fun v23 => xalR 4 v23 l2 fun v24 => xgR 5 1 v24 fun v25 => xlen 3 v25 fun v26 => xas 0 l4 4 v26 (xgI 0 1 (some th) fun v27 => xpI 0 1 (some th) (v27 + 1) (K ())))))))
def p_Hi_insert (th : Nat) (l1 : Option Nat) (l2 : Int32) (l3 : Int32) (K : Unit → xS → Prop) : xS → Prop := xgI 0 1 (some th) fun v1 => xgR 0 0 (some th) fun v2 => xlen 2 v2 fun v3 => xif (v1 < v3) (xgR 0 0 (some th) fun v4 => xgI 0 1 (some th) fun v5 => xalR 2 v4 v5 fun v6 => xgI 0 1 (some th) fun v7 => p_Hi_insert_L30 th l1 l2 l3 v6 K (fun m14 => p_Hi_insert_B72 th l1 l2 l3 v6 m14 K) 1000 v7) (K ())
abbrev X_Hi_insert (p : Program) (l : Launch) (e : Env) (s : State) (m : MethodId) (args : Array Value) (below : List Frame) (meth : Method) (c : Code) (C0 S0 : Nat) (K : Unit → xS → Prop) (D : va_G) (dA : Nat → ClassId) (base : Nat) (sa : Nat → Nat) (pc : Nat) (lv : List (Nat × Value)) (st : List Value) (G : xS) : Prop := xW p l e { frames := 0, cells := C0, slots := S0, locals := 0 } s m args below meth c 6 (MQ below (xQ D dA base (fun v G2 => ∃ r : Unit, v = (none : Option Value) ∧ K r G2)) args s C0 S0 (fun q : Nat => base ≤ q)) D dA base sa pc lv st G
set_option maxHeartbeats 4000000 in
set_option maxRecDepth 100000 in
theorem w_Hi_insert_L30 {p : Program} {l : Launch} {e : Env} {s : State} {m : MethodId} {args : Array Value} {below : List Frame} {meth : Method} {c : Code} {C0 S0 : Nat} {D : va_G} {dA : Nat → ClassId} {base : Nat} {sa : Nat → Nat} (F : xFix p { frames := 0, cells := C0, slots := S0, locals := 0 } s m args meth c b_Hi_insert 6 "BlockSearch$Hits" D dA base sa) (hret : meth.sig.returnType = none) {K : Unit → xS → Prop} {Kx72 : Int32 → xS → Prop} (th : Nat) (l1 : Option Nat) (l2 : Int32) (l3 : Int32) (l4 : Option Nat) (hKx72 : ∀ (l5 : Int32) (G : xS), Kx72 l5 G → X_Hi_insert p l e s m args below meth c C0 S0 K D dA base sa 72 [(0, va_rf (some th)), (1, va_rf l1), (2, .int l2), (3, .int l3), (4, va_rf l4), (5, .int l5)] [] G) : ∀ (n : Nat) (l5 : Int32) (G : xS), p_Hi_insert_L30 th l1 l2 l3 l4 K Kx72 n l5 G → X_Hi_insert p l e s m args below meth c C0 S0 K D dA base sa 30 [(0, va_rf (some th)), (1, va_rf l1), (2, .int l2), (3, .int l3), (4, va_rf l4), (5, .int l5)] [] G := by
  intro n
  induction n with
  | zero => intro l5 G h; exact h.elim
  | succ n ih =>
    intro l5 G h
    unfold p_Hi_insert_L30 at h
    refine x_iload F 5 d_Hi_insert_30 rfl ?_
    refine x_if_le F (tgt := 72) d_Hi_insert_32 (by decide) h (fun q h => ?_) (fun q h => ?_)
    · exact hKx72 _ _ h
    · refine x_aload_n F 0 d_Hi_insert_35 rfl rfl ?_
      refine x_getR F cl_Hi in_Hi (k := 0) (by decide) k_188 rfl d_Hi_insert_36 h (fun v8 h => ?_)
      refine x_iload F 5 d_Hi_insert_39 rfl ?_
      refine x_iconst F (v := 1) d_Hi_insert_41 (by decide) ?_
      refine x_isub F d_Hi_insert_42 ?_
      refine x_aald F (t := 2) rfl rfl d_Hi_insert_43 h (fun v9 h => ?_)
      refine x_iconst F (v := 1) d_Hi_insert_44 (by decide) ?_
      refine x_iald F (t := 0) rfl d_Hi_insert_45 h (fun v10 h => ?_)
      refine x_iload_n F 3 d_Hi_insert_46 rfl rfl ?_
      refine x_icmp_ge F (tgt := 72) d_Hi_insert_47 (by decide) h (fun q h => ?_) (fun q h => ?_)
      · exact hKx72 _ _ h
      · refine x_aload_n F 0 d_Hi_insert_50 rfl rfl ?_
        refine x_getR F cl_Hi in_Hi (k := 0) (by decide) k_188 rfl d_Hi_insert_51 h (fun v11 h => ?_)
        refine x_iload F 5 d_Hi_insert_54 rfl ?_
        refine x_aload_n F 0 d_Hi_insert_56 rfl rfl ?_
        refine x_getR F cl_Hi in_Hi (k := 0) (by decide) k_188 rfl d_Hi_insert_57 h (fun v12 h => ?_)
        refine x_iload F 5 d_Hi_insert_60 rfl ?_
        refine x_iconst F (v := 1) d_Hi_insert_62 (by decide) ?_
        refine x_isub F d_Hi_insert_63 ?_
        refine x_aald F (t := 2) rfl rfl d_Hi_insert_64 h (fun v13 h => ?_)
        refine x_gast F d_Hi_insert_65 h (fun G h => ?_)
        refine x_iinc F 5 (v := (l5 + (-1))) (lv' := [(5, .int (l5 + (-1))), (0, va_rf (some th)), (1, va_rf l1), (2, .int l2), (3, .int l3), (4, va_rf l4)]) d_Hi_insert_66 rfl (congrArg (fun z : Int32 => l5 + z) (by decide)) (by decide) rfl ?_
        refine x_goto F (tgt := 30) d_Hi_insert_69 (by decide) ?_
        refine x_sub (lv' := [(0, va_rf (some th)), (1, va_rf l1), (2, .int l2), (3, .int l3), (4, va_rf l4), (5, .int (l5 + (-1)))]) [1, 2, 3, 4, 5, 0] rfl ?_
        exact ih _ _ h
set_option maxHeartbeats 4000000 in
set_option maxRecDepth 100000 in
theorem w_Hi_insert_B72 {p : Program} {l : Launch} {e : Env} {s : State} {m : MethodId} {args : Array Value} {below : List Frame} {meth : Method} {c : Code} {C0 S0 : Nat} {D : va_G} {dA : Nat → ClassId} {base : Nat} {sa : Nat → Nat} (F : xFix p { frames := 0, cells := C0, slots := S0, locals := 0 } s m args meth c b_Hi_insert 6 "BlockSearch$Hits" D dA base sa) (hret : meth.sig.returnType = none) {K : Unit → xS → Prop} (th : Nat) (l1 : Option Nat) (l2 : Int32) (l3 : Int32) (l4 : Option Nat) (l5 : Int32)  {G : xS} (h : p_Hi_insert_B72 th l1 l2 l3 l4 l5 K  G) : X_Hi_insert p l e s m args below meth c C0 S0 K D dA base sa 72 [(0, va_rf (some th)), (1, va_rf l1), (2, .int l2), (3, .int l3), (4, va_rf l4), (5, .int l5)] [] G := by
  unfold p_Hi_insert_B72 at h
  refine x_aload_n F 0 d_Hi_insert_72 rfl rfl ?_
  refine x_getR F cl_Hi in_Hi (k := 0) (by decide) k_188 rfl d_Hi_insert_73 h (fun v15 h => ?_)
  refine x_iload F 5 d_Hi_insert_76 rfl ?_
  refine x_aload F 4 d_Hi_insert_78 rfl ?_
  refine x_gast F d_Hi_insert_80 h (fun G h => ?_)
  refine x_aload F 4 d_Hi_insert_81 rfl ?_
  refine x_iconst F (v := 0) d_Hi_insert_83 (by decide) ?_
  refine x_aload_n F 1 d_Hi_insert_84 rfl rfl ?_
  refine x_getR F cl_Sn in_Sn (k := 2) (by decide) k_107 rfl d_Hi_insert_85 h (fun v16 h => ?_)
  refine x_iload_n F 2 d_Hi_insert_88 rfl rfl ?_
  refine x_aald F (t := 4) rfl rfl d_Hi_insert_89 h (fun v17 h => ?_)
  refine x_getI F cl_Do in_Do (k := 0) (by decide) k_377 rfl d_Hi_insert_90 h (fun v18 h => ?_)
  refine x_iast F (t := 0) rfl d_Hi_insert_93 h (fun G h => ?_)
  refine x_aload F 4 d_Hi_insert_94 rfl ?_
  refine x_iconst F (v := 1) d_Hi_insert_96 (by decide) ?_
  refine x_iload_n F 3 d_Hi_insert_97 rfl rfl ?_
  refine x_iast F (t := 0) rfl d_Hi_insert_98 h (fun G h => ?_)
  refine x_aload F 4 d_Hi_insert_99 rfl ?_
  refine x_iconst F (v := 2) d_Hi_insert_101 (by decide) ?_
  refine x_aload_n F 1 d_Hi_insert_102 rfl rfl ?_
  refine x_getR F cl_Sn in_Sn (k := 4) (by decide) k_112 rfl d_Hi_insert_103 h (fun v19 h => ?_)
  refine x_iload_n F 2 d_Hi_insert_106 rfl rfl ?_
  refine x_iald F (t := 0) rfl d_Hi_insert_107 h (fun v20 h => ?_)
  refine x_iast F (t := 0) rfl d_Hi_insert_108 h (fun G h => ?_)
  refine x_aload F 4 d_Hi_insert_109 rfl ?_
  refine x_iconst F (v := 3) d_Hi_insert_111 (by decide) ?_
  refine x_aload_n F 1 d_Hi_insert_112 rfl rfl ?_
  refine x_getR F cl_Sn in_Sn (k := 5) (by decide) k_114 rfl d_Hi_insert_113 h (fun v21 h => ?_)
  refine x_iload_n F 2 d_Hi_insert_116 rfl rfl ?_
  refine x_iald F (t := 0) rfl d_Hi_insert_117 h (fun v22 h => ?_)
  refine x_iast F (t := 0) rfl d_Hi_insert_118 h (fun G h => ?_)
  refine x_aload F 4 d_Hi_insert_119 rfl ?_
  refine x_iconst F (v := 4) d_Hi_insert_121 (by decide) ?_
  refine x_aload_n F 1 d_Hi_insert_122 rfl rfl ?_
  refine x_getR F cl_Sn in_Sn (k := 2) (by decide) k_107 rfl d_Hi_insert_123 h (fun v23 h => ?_)
  refine x_iload_n F 2 d_Hi_insert_126 rfl rfl ?_
  refine x_aald F (t := 4) rfl rfl d_Hi_insert_127 h (fun v24 h => ?_)
  refine x_getR F cl_Do in_Do (k := 1) (by decide) k_384 rfl d_Hi_insert_128 h (fun v25 h => ?_)
  refine x_len F (t := 3) rfl d_Hi_insert_131 h (fun v26 h => ?_)
  refine x_iast F (t := 0) rfl d_Hi_insert_132 h (fun G h => ?_)
  refine x_aload_n F 0 d_Hi_insert_133 rfl rfl ?_
  refine x_dup F (x_cat _) d_Hi_insert_134 ?_
  refine x_getI F cl_Hi in_Hi (k := 1) (by decide) k_190 rfl d_Hi_insert_135 h (fun v27 h => ?_)
  refine x_iconst F (v := 1) d_Hi_insert_138 (by decide) ?_
  refine x_iadd F d_Hi_insert_139 ?_
  refine x_putI F cl_Hi in_Hi (k := 1) (by decide) k_190 rfl ty_Hi n_Hi rfl rfl d_Hi_insert_140 h (fun G h => ?_)
  exact x_vret F rfl hret d_Hi_insert_143 ⟨(), rfl, h⟩
set_option maxHeartbeats 4000000 in
set_option maxRecDepth 100000 in
theorem c_Hi_insert (l : Launch) (D : va_G) (dA : Nat → ClassId) (base : Nat) (sa : Nat → Nat) (th : Nat) (l1 : Option Nat) (l2 : Int32) (l3 : Int32) (K : Unit → xS → Prop) (G : xS) (h : p_Hi_insert th l1 l2 l3 K G) : xMet l y_Hi_insert b_Hi_insert 6 none 0 0 D dA base sa [va_rf (some th), va_rf l1, .int l2, .int l3] G (fun v G2 => ∃ r : Unit, v = none ∧ K r G2) := by
  refine xMet.of (by decide) (by simp [x_cat, x_catI]) (Nat.le_of_ble_eq_true rfl) ?_
  intro p e s m args below meth c F hret hname
  unfold p_Hi_insert at h
  refine x_sub (lv' := [(0, va_rf (some th)), (1, va_rf l1), (2, .int l2), (3, .int l3)]) [0, 1, 2, 3] rfl ?_
  refine x_aload_n F 0 d_Hi_insert_0 rfl rfl ?_
  refine x_getI F cl_Hi in_Hi (k := 1) (by decide) k_190 rfl d_Hi_insert_1 h (fun v1 h => ?_)
  refine x_aload_n F 0 d_Hi_insert_4 rfl rfl ?_
  refine x_getR F cl_Hi in_Hi (k := 0) (by decide) k_188 rfl d_Hi_insert_5 h (fun v2 h => ?_)
  refine x_len F (t := 2) rfl d_Hi_insert_8 h (fun v3 h => ?_)
  refine x_icmp_lt F (tgt := 13) d_Hi_insert_9 (by decide) h (fun q h => ?_) (fun q h => ?_)
  · refine x_aload_n F 0 d_Hi_insert_13 rfl rfl ?_
    refine x_getR F cl_Hi in_Hi (k := 0) (by decide) k_188 rfl d_Hi_insert_14 h (fun v4 h => ?_)
    refine x_aload_n F 0 d_Hi_insert_17 rfl rfl ?_
    refine x_getI F cl_Hi in_Hi (k := 1) (by decide) k_190 rfl d_Hi_insert_18 h (fun v5 h => ?_)
    refine x_aald F (t := 2) rfl rfl d_Hi_insert_21 h (fun v6 h => ?_)
    refine x_astore F (lv' := [(4, va_rf v6), (0, va_rf (some th)), (1, va_rf l1), (2, .int l2), (3, .int l3)]) d_Hi_insert_22 (by decide) rfl ?_
    refine x_aload_n F 1 d_Hi_insert_24 rfl rfl ?_
    refine x_getI F cl_Hi in_Hi (k := 1) (by decide) k_190 rfl d_Hi_insert_25 h (fun v7 h => ?_)
    refine x_istore F (lv' := [(5, .int v7), (4, va_rf v6), (0, va_rf (some th)), (1, va_rf l1), (2, .int l2), (3, .int l3)]) d_Hi_insert_28 (by decide) rfl ?_
    refine x_sub (lv' := [(0, va_rf (some th)), (1, va_rf l1), (2, .int l2), (3, .int l3), (4, va_rf v6), (5, .int v7)]) [2, 3, 4, 5, 1, 0] rfl ?_
    refine w_Hi_insert_L30 F hret th l1 l2 l3 v6 (fun m14 G h => ?_) _ _ _ h
    exact w_Hi_insert_B72 F hret th l1 l2 l3 v6 m14 h
  · exact x_vret F rfl hret d_Hi_insert_12 ⟨(), rfl, h⟩
def p_B_search_L47 (th : Nat) (K : Int32 → xS → Prop) (Kx115 : xS → Prop) : Nat → Int32 → xS → Prop
  | 0, _ => fun _ => False
  | n + 1, l1 => xgR 9 4 (some th) fun v9 => xgI 4 1 v9 fun v10 => xif (v10 ≤ l1) (Kx115) (xgR 9 4 (some th) fun v11 => xgR 4 3 v11 fun v12 => xal 1 v12 l1 fun v13 => xif (v13 = 0) (p_B_search_L47 th K Kx115 n (l1 + 1)) (xgR 9 6 (some th) fun v14 => xgR 9 5 (some th) fun v15 => xgR 9 4 (some th) fun v16 => xgR 4 2 v16 fun v17 => xalR 4 v17 l1 fun v18 => xob 7 v14 fun b => xcall 0 0 (p_Sc_pointsOf b v15 v18) fun v19 => xif (v19 = (-1)) (p_B_search_L47 th K Kx115 n (l1 + 1)) (xgR 9 7 (some th) fun v20 => xgR 9 4 (some th) fun v21 => xob 0 v20 fun b => xcall 0 0 (p_Hi_insert b v21 l1 v19) fun _ => p_B_search_L47 th K Kx115 n (l1 + 1))))
def p_B_search (th : Nat) (K : Int32 → xS → Prop) : xS → Prop := xgR 9 5 (some th) fun v1 => xob 3 v1 fun b => xcall 0 0 (p_Qu_isComplete b ) fun v2 => xif (v2 = 0) (K (-2)) (xgR 9 4 (some th) fun v3 => xgI 4 0 v3 fun v4 => xif (v4 = 0) (K (-2)) (xgR 9 6 (some th) fun v5 => xgR 9 5 (some th) fun v6 => xgR 9 4 (some th) fun v7 => xob 7 v5 fun b => xcall 0 0 (p_Sc_prepare b v6 v7) fun _ => xgR 9 7 (some th) fun v8 => xob 0 v8 fun b => xcall 0 0 (p_Hi_drop b ) fun _ => p_B_search_L47 th K (xgR 9 7 (some th) fun v22 => xgI 0 1 v22 fun v23 => K v23) 1000 0))
abbrev X_B_search (p : Program) (l : Launch) (e : Env) (s : State) (m : MethodId) (args : Array Value) (below : List Frame) (meth : Method) (c : Code) (C0 S0 : Nat) (K : Int32 → xS → Prop) (D : va_G) (dA : Nat → ClassId) (base : Nat) (sa : Nat → Nat) (pc : Nat) (lv : List (Nat × Value)) (st : List Value) (G : xS) : Prop := xW p l e { frames := 4, cells := C0, slots := S0, locals := 95 } s m args below meth c 3 (MQ below (xQ D dA base (fun v G2 => ∃ r : Int32, v = some (.int r) ∧ K r G2)) args s C0 S0 (fun q : Nat => base ≤ q)) D dA base sa pc lv st G
set_option maxHeartbeats 4000000 in
set_option maxRecDepth 100000 in
theorem w_B_search_L47 {p : Program} {l : Launch} {e : Env} {s : State} {m : MethodId} {args : Array Value} {below : List Frame} {meth : Method} {c : Code} {C0 S0 : Nat} {D : va_G} {dA : Nat → ClassId} {base : Nat} {sa : Nat → Nat} (F : xFix p { frames := 4, cells := C0, slots := S0, locals := 95 } s m args meth c b_B_search 3 "BlockSearch" D dA base sa) (hret : meth.sig.returnType = (some FieldType.int)) {K : Int32 → xS → Prop} {Kx115 : xS → Prop} (th : Nat) (hKx115 : ∀ (G : xS), Kx115  G → X_B_search p l e s m args below meth c C0 S0 K D dA base sa 115 [(0, va_rf (some th))] [] G) : ∀ (n : Nat) (l1 : Int32) (G : xS), p_B_search_L47 th K Kx115 n l1 G → X_B_search p l e s m args below meth c C0 S0 K D dA base sa 47 [(0, va_rf (some th)), (1, .int l1)] [] G := by
  intro n
  induction n with
  | zero => intro l1 G h; exact h.elim
  | succ n ih =>
    intro l1 G h
    unfold p_B_search_L47 at h
    refine x_iload_n F 1 d_B_search_47 rfl rfl ?_
    refine x_aload_n F 0 d_B_search_48 rfl rfl ?_
    refine x_getR F cl_B in_B (k := 4) (by decide) k_201 rfl d_B_search_49 h (fun v9 h => ?_)
    refine x_getI F cl_Sn in_Sn (k := 1) (by decide) k_104 rfl d_B_search_52 h (fun v10 h => ?_)
    refine x_icmp_ge F (tgt := 115) d_B_search_55 (by decide) h (fun q h => ?_) (fun q h => ?_)
    · refine x_sub (lv' := [(0, va_rf (some th))]) [0] rfl ?_
      exact hKx115  _ h
    · refine x_aload_n F 0 d_B_search_58 rfl rfl ?_
      refine x_getR F cl_B in_B (k := 4) (by decide) k_201 rfl d_B_search_59 h (fun v11 h => ?_)
      refine x_getR F cl_Sn in_Sn (k := 3) (by decide) k_110 rfl d_B_search_62 h (fun v12 h => ?_)
      refine x_iload_n F 1 d_B_search_65 rfl rfl ?_
      refine x_zald F (t := 1) rfl d_B_search_66 h (fun v13 h => ?_)
      refine x_if_eq F (tgt := 109) d_B_search_67 (by decide) h (fun q h => ?_) (fun q h => ?_)
      · refine x_iinc F 1 (v := (l1 + 1)) (lv' := [(1, .int (l1 + 1)), (0, va_rf (some th))]) d_B_search_109 rfl (congrArg (fun z : Int32 => l1 + z) (by decide)) (by decide) rfl ?_
        refine x_goto F (tgt := 47) d_B_search_112 (by decide) ?_
        refine x_sub (lv' := [(0, va_rf (some th)), (1, .int (l1 + 1))]) [1, 0] rfl ?_
        exact ih _ _ h
      · refine x_aload_n F 0 d_B_search_70 rfl rfl ?_
        refine x_getR F cl_B in_B (k := 6) (by decide) k_203 rfl d_B_search_71 h (fun v14 h => ?_)
        refine x_aload_n F 0 d_B_search_74 rfl rfl ?_
        refine x_getR F cl_B in_B (k := 5) (by decide) k_202 rfl d_B_search_75 h (fun v15 h => ?_)
        refine x_aload_n F 0 d_B_search_78 rfl rfl ?_
        refine x_getR F cl_B in_B (k := 4) (by decide) k_201 rfl d_B_search_79 h (fun v16 h => ?_)
        refine x_getR F cl_Sn in_Sn (k := 2) (by decide) k_108 rfl d_B_search_82 h (fun v17 h => ?_)
        refine x_iload_n F 1 d_B_search_85 rfl rfl ?_
        refine x_aald F (t := 4) rfl rfl d_B_search_86 h (fun v18 h => ?_)
        refine x_callV F (enc := fun r => some (.int r)) (P := fun b => p_Sc_pointsOf b v15 v18) (n := 2) (As := [va_rf v15, va_rf v18]) (st := []) k_512 k_7 k_510 k_511 k_509 ⟨by decide, by decide, by decide +kernel⟩ rfl ⟨Nat.le_of_ble_eq_true rfl, Nat.le_of_ble_eq_true rfl⟩ (by simp [x_cat, x_catI, x_catL]) cl_Sc rfl (ro := v14) (fun b K' G' h' _ => c_Sc_pointsOf l D dA base sa b v15 v18 K' G' h') d_B_search_87 h (fun v19 G h => ?_)
        refine x_istore_n F (lv' := [(2, .int v19), (0, va_rf (some th)), (1, .int l1)]) d_B_search_90 rfl (by decide) rfl ?_
        refine x_iload_n F 0 d_B_search_91 rfl rfl ?_
        refine x_iconst F (v := (-1)) d_B_search_92 (by decide) ?_
        refine x_icmp_eq F (tgt := 109) d_B_search_93 (by decide) h (fun q h => ?_) (fun q h => ?_)
        · refine x_iinc F 2 (v := (l1 + 1)) (lv' := [(1, .int (l1 + 1)), (2, .int v19), (0, va_rf (some th))]) d_B_search_109 rfl (congrArg (fun z : Int32 => l1 + z) (by decide)) (by decide) rfl ?_
          refine x_goto F (tgt := 47) d_B_search_112 (by decide) ?_
          refine x_sub (lv' := [(0, va_rf (some th)), (1, .int (l1 + 1))]) [2, 0] rfl ?_
          exact ih _ _ h
        · refine x_aload_n F 1 d_B_search_96 rfl rfl ?_
          refine x_getR F cl_B in_B (k := 7) (by decide) k_204 rfl d_B_search_97 h (fun v20 h => ?_)
          refine x_aload_n F 1 d_B_search_100 rfl rfl ?_
          refine x_getR F cl_B in_B (k := 4) (by decide) k_201 rfl d_B_search_101 h (fun v21 h => ?_)
          refine x_iload_n F 2 d_B_search_104 rfl rfl ?_
          refine x_iload_n F 0 d_B_search_105 rfl rfl ?_
          refine x_callV F (enc := fun r => none) (P := fun b => p_Hi_insert b v21 l1 v19) (n := 3) (As := [va_rf v21, .int l1, .int v19]) (st := []) k_546 k_8 k_544 k_545 k_543 ⟨by decide, by decide, by decide +kernel⟩ rfl ⟨Nat.le_of_ble_eq_true rfl, Nat.le_of_ble_eq_true rfl⟩ (by simp [x_cat, x_catI, x_catL]) cl_Hi rfl (ro := v20) (fun b K' G' h' _ => c_Hi_insert l D dA base sa b v21 l1 v19 K' G' h') d_B_search_106 h (fun _ G h => ?_)
          refine x_iinc F 2 (v := (l1 + 1)) (lv' := [(1, .int (l1 + 1)), (2, .int v19), (0, va_rf (some th))]) d_B_search_109 rfl (congrArg (fun z : Int32 => l1 + z) (by decide)) (by decide) rfl ?_
          refine x_goto F (tgt := 47) d_B_search_112 (by decide) ?_
          refine x_sub (lv' := [(0, va_rf (some th)), (1, .int (l1 + 1))]) [2, 0] rfl ?_
          exact ih _ _ h
set_option maxHeartbeats 4000000 in
set_option maxRecDepth 100000 in
theorem c_B_search (l : Launch) (D : va_G) (dA : Nat → ClassId) (base : Nat) (sa : Nat → Nat) (th : Nat) (K : Int32 → xS → Prop) (G : xS) (h : p_B_search th K G) : xMet l y_B_search b_B_search 3 (some FieldType.int) 4 95 D dA base sa [va_rf (some th)] G (fun v G2 => ∃ r : Int32, v = some (.int r) ∧ K r G2) := by
  refine xMet.of (by decide) (by simp [x_cat, x_catI]) (Nat.le_of_ble_eq_true rfl) ?_
  intro p e s m args below meth c F hret hname
  unfold p_B_search at h
  refine x_sub (lv' := [(0, va_rf (some th))]) [0] rfl ?_
  refine x_aload_n F 0 d_B_search_0 rfl rfl ?_
  refine x_getR F cl_B in_B (k := 5) (by decide) k_202 rfl d_B_search_1 h (fun v1 h => ?_)
  refine x_callV F (enc := fun r => some (.int r)) (P := fun b => p_Qu_isComplete b ) (n := 0) (As := []) (st := []) k_464 k_6 k_462 k_463 k_461 ⟨by decide, by decide, by decide +kernel⟩ rfl ⟨Nat.le_of_ble_eq_true rfl, Nat.le_of_ble_eq_true rfl⟩ (by simp [x_cat, x_catI, x_catL]) cl_Qu rfl (ro := v1) (fun b K' G' h' _ => c_Qu_isComplete l D dA base sa b  K' G' h') d_B_search_4 h (fun v2 G h => ?_)
  refine x_if_eq F (tgt := 20) d_B_search_7 (by decide) h (fun q h => ?_) (fun q h => ?_)
  · refine x_bipush F (v := (-2)) d_B_search_20 (by decide) ?_
    exact x_iret F rfl hret d_B_search_22 ⟨_, rfl, h⟩
  · refine x_aload_n F 0 d_B_search_10 rfl rfl ?_
    refine x_getR F cl_B in_B (k := 4) (by decide) k_201 rfl d_B_search_11 h (fun v3 h => ?_)
    refine x_getI F cl_Sn in_Sn (k := 0) (by decide) k_101 rfl d_B_search_14 h (fun v4 h => ?_)
    refine x_if_ne F (tgt := 23) d_B_search_17 (by decide) h (fun q h => ?_) (fun q h => ?_)
    · refine x_aload_n F 0 d_B_search_23 rfl rfl ?_
      refine x_getR F cl_B in_B (k := 6) (by decide) k_203 rfl d_B_search_24 h (fun v5 h => ?_)
      refine x_aload_n F 0 d_B_search_27 rfl rfl ?_
      refine x_getR F cl_B in_B (k := 5) (by decide) k_202 rfl d_B_search_28 h (fun v6 h => ?_)
      refine x_aload_n F 0 d_B_search_31 rfl rfl ?_
      refine x_getR F cl_B in_B (k := 4) (by decide) k_201 rfl d_B_search_32 h (fun v7 h => ?_)
      refine x_callV F (enc := fun r => none) (P := fun b => p_Sc_prepare b v6 v7) (n := 2) (As := [va_rf v6, va_rf v7]) (st := []) k_493 k_7 k_491 k_492 k_490 ⟨by decide, by decide, by decide +kernel⟩ rfl ⟨Nat.le_of_ble_eq_true rfl, Nat.le_of_ble_eq_true rfl⟩ (by simp [x_cat, x_catI, x_catL]) cl_Sc rfl (ro := v5) (fun b K' G' h' _ => c_Sc_prepare l D dA base sa b v6 v7 K' G' h') d_B_search_35 h (fun _ G h => ?_)
      refine x_aload_n F 0 d_B_search_38 rfl rfl ?_
      refine x_getR F cl_B in_B (k := 7) (by decide) k_204 rfl d_B_search_39 h (fun v8 h => ?_)
      refine x_callV F (enc := fun r => none) (P := fun b => p_Hi_drop b ) (n := 0) (As := []) (st := []) k_508 k_8 k_506 k_507 k_505 ⟨by decide, by decide, by decide +kernel⟩ rfl ⟨Nat.le_of_ble_eq_true rfl, Nat.le_of_ble_eq_true rfl⟩ (by simp [x_cat, x_catI, x_catL]) cl_Hi rfl (ro := v8) (fun b K' G' h' _ => c_Hi_drop l D dA base sa b  K' G' h') d_B_search_42 h (fun _ G h => ?_)
      refine x_iconst F (v := 0) d_B_search_45 (by decide) ?_
      refine x_istore_n F (lv' := [(1, .int 0), (0, va_rf (some th))]) d_B_search_46 rfl (by decide) rfl ?_
      refine x_sub (lv' := [(0, va_rf (some th)), (1, .int 0)]) [1, 0] rfl ?_
      refine w_B_search_L47 F hret th (fun G h => ?_) _ _ _ h
      refine x_aload_n F 0 d_B_search_115 rfl rfl ?_
      refine x_getR F cl_B in_B (k := 7) (by decide) k_204 rfl d_B_search_116 h (fun v22 h => ?_)
      refine x_getI F cl_Hi in_Hi (k := 1) (by decide) k_191 rfl d_B_search_119 h (fun v23 h => ?_)
      exact x_iret F rfl hret d_B_search_122 ⟨_, rfl, h⟩
    · refine x_bipush F (v := (-2)) d_B_search_20 (by decide) ?_
      exact x_iret F rfl hret d_B_search_22 ⟨_, rfl, h⟩
def p_B_hit (th : Nat) (l1 : Int32) (l2 : Int32) (K : Int32 → xS → Prop) : xS → Prop := xif (l2 < 0) (K (-1)) (xif (l2 < 5) (xif (l1 < 0) (K (-2)) (xgR 9 7 (some th) fun v1 => xgI 0 1 v1 fun v2 => xif (l1 < v2) (xgR 9 7 (some th) fun v3 => xgR 0 0 v3 fun v4 => xalR 2 v4 l1 fun v5 => xal 0 v5 l2 fun v6 => K v6) (K (-2)))) (K (-1)))
abbrev X_B_hit (p : Program) (l : Launch) (e : Env) (s : State) (m : MethodId) (args : Array Value) (below : List Frame) (meth : Method) (c : Code) (C0 S0 : Nat) (K : Int32 → xS → Prop) (D : va_G) (dA : Nat → ClassId) (base : Nat) (sa : Nat → Nat) (pc : Nat) (lv : List (Nat × Value)) (st : List Value) (G : xS) : Prop := xW p l e { frames := 0, cells := C0, slots := S0, locals := 0 } s m args below meth c 3 (MQ below (xQ D dA base (fun v G2 => ∃ r : Int32, v = some (.int r) ∧ K r G2)) args s C0 S0 (fun q : Nat => base ≤ q)) D dA base sa pc lv st G
set_option maxHeartbeats 4000000 in
set_option maxRecDepth 100000 in
theorem c_B_hit (l : Launch) (D : va_G) (dA : Nat → ClassId) (base : Nat) (sa : Nat → Nat) (th : Nat) (l1 : Int32) (l2 : Int32) (K : Int32 → xS → Prop) (G : xS) (h : p_B_hit th l1 l2 K G) : xMet l y_B_hit b_B_hit 3 (some FieldType.int) 0 0 D dA base sa [va_rf (some th), .int l1, .int l2] G (fun v G2 => ∃ r : Int32, v = some (.int r) ∧ K r G2) := by
  refine xMet.of (by decide) (by simp [x_cat, x_catI]) (Nat.le_of_ble_eq_true rfl) ?_
  intro p e s m args below meth c F hret hname
  unfold p_B_hit at h
  refine x_sub (lv' := [(0, va_rf (some th)), (1, .int l1), (2, .int l2)]) [0, 1, 2] rfl ?_
  refine x_iload_n F 2 d_B_hit_0 rfl rfl ?_
  refine x_if_lt F (tgt := 9) d_B_hit_1 (by decide) h (fun q h => ?_) (fun q h => ?_)
  · refine x_iconst F (v := (-1)) d_B_hit_9 (by decide) ?_
    exact x_iret F rfl hret d_B_hit_10 ⟨_, rfl, h⟩
  · refine x_iload_n F 2 d_B_hit_4 rfl rfl ?_
    refine x_iconst F (v := 5) d_B_hit_5 (by decide) ?_
    refine x_icmp_lt F (tgt := 11) d_B_hit_6 (by decide) h (fun q h => ?_) (fun q h => ?_)
    · refine x_iload_n F 1 d_B_hit_11 rfl rfl ?_
      refine x_if_lt F (tgt := 26) d_B_hit_12 (by decide) h (fun q h => ?_) (fun q h => ?_)
      · refine x_bipush F (v := (-2)) d_B_hit_26 (by decide) ?_
        exact x_iret F rfl hret d_B_hit_28 ⟨_, rfl, h⟩
      · refine x_iload_n F 1 d_B_hit_15 rfl rfl ?_
        refine x_aload_n F 0 d_B_hit_16 rfl rfl ?_
        refine x_getR F cl_B in_B (k := 7) (by decide) k_204 rfl d_B_hit_17 h (fun v1 h => ?_)
        refine x_getI F cl_Hi in_Hi (k := 1) (by decide) k_191 rfl d_B_hit_20 h (fun v2 h => ?_)
        refine x_icmp_lt F (tgt := 29) d_B_hit_23 (by decide) h (fun q h => ?_) (fun q h => ?_)
        · refine x_aload_n F 0 d_B_hit_29 rfl rfl ?_
          refine x_getR F cl_B in_B (k := 7) (by decide) k_204 rfl d_B_hit_30 h (fun v3 h => ?_)
          refine x_getR F cl_Hi in_Hi (k := 0) (by decide) k_189 rfl d_B_hit_33 h (fun v4 h => ?_)
          refine x_iload_n F 1 d_B_hit_36 rfl rfl ?_
          refine x_aald F (t := 2) rfl rfl d_B_hit_37 h (fun v5 h => ?_)
          refine x_iload_n F 2 d_B_hit_38 rfl rfl ?_
          refine x_iald F (t := 0) rfl d_B_hit_39 h (fun v6 h => ?_)
          exact x_iret F rfl hret d_B_hit_40 ⟨_, rfl, h⟩
        · refine x_bipush F (v := (-2)) d_B_hit_26 (by decide) ?_
          exact x_iret F rfl hret d_B_hit_28 ⟨_, rfl, h⟩
    · refine x_iconst F (v := (-1)) d_B_hit_9 (by decide) ?_
      exact x_iret F rfl hret d_B_hit_10 ⟨_, rfl, h⟩
