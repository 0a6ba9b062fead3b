def p_Sn_liveWith_L2 (th : Nat) (l1 : Int32) (K : Option Nat → xS → Prop) (Kx45 : xS → Prop) : Nat → Int32 → xS → Prop
  | 0, _ => fun _ => False
  | n + 1, l2 => xgI 4 1 (some th) fun v1 => xif (v1 ≤ l2) (Kx45) (xgR 4 3 (some th) fun v2 => xal 1 v2 l2 fun v3 => xif (v3 = 0) (p_Sn_liveWith_L2 th l1 K Kx45 n (l2 + 1)) (xgR 4 2 (some th) fun v4 => xalR 4 v4 l2 fun v5 => xgI 5 0 v5 fun v6 => xif (v6 = l1) (xgR 4 2 (some th) fun v7 => xalR 4 v7 l2 fun v8 => K v8) (p_Sn_liveWith_L2 th l1 K Kx45 n (l2 + 1))))
def p_Sn_liveWith (th : Nat) (l1 : Int32) (K : Option Nat → xS → Prop) : xS → Prop := p_Sn_liveWith_L2 th l1 K (K none) 1000 0
abbrev X_Sn_liveWith (p : Program) (l : Launch) (e : Env) (s : State) (m : MethodId) (args : Array Value) (below : List Frame) (meth : Method) (c : Code) (C0 S0 : Nat) (K : Option Nat → xS → Prop) (D : va_G) (dA : Nat → ClassId) (base : Nat) (sa : Nat → Nat) (pc : Nat) (lv : List (Nat × Value)) (st : List Value) (G : xS) : Prop := xW p l e { frames := 0, cells := C0, slots := S0, locals := 0 } s m args below meth c 3 (MQ below (xQ D dA base (fun v G2 => ∃ r : Option Nat, v = some (va_rf r) ∧ K r G2)) args s C0 S0 (fun q : Nat => base ≤ q)) D dA base sa pc lv st G
set_option maxHeartbeats 4000000 in
set_option maxRecDepth 100000 in
theorem w_Sn_liveWith_L2 {p : Program} {l : Launch} {e : Env} {s : State} {m : MethodId} {args : Array Value} {below : List Frame} {meth : Method} {c : Code} {C0 S0 : Nat} {D : va_G} {dA : Nat → ClassId} {base : Nat} {sa : Nat → Nat} (F : xFix p { frames := 0, cells := C0, slots := S0, locals := 0 } s m args meth c b_Sn_liveWith 3 "BlockSearch$Snapshot" D dA base sa) (hret : meth.sig.returnType = (some (FieldType.object "BlockSearch$Document"))) {K : Option Nat → xS → Prop} {Kx45 : xS → Prop} (th : Nat) (l1 : Int32) (hKx45 : ∀ (G : xS), Kx45  G → X_Sn_liveWith p l e s m args below meth c C0 S0 K D dA base sa 45 [] [] G) : ∀ (n : Nat) (l2 : Int32) (G : xS), p_Sn_liveWith_L2 th l1 K Kx45 n l2 G → X_Sn_liveWith p l e s m args below meth c C0 S0 K D dA base sa 2 [(0, va_rf (some th)), (1, .int l1), (2, .int l2)] [] G := by
  intro n
  induction n with
  | zero => intro l2 G h; exact h.elim
  | succ n ih =>
    intro l2 G h
    unfold p_Sn_liveWith_L2 at h
    refine x_iload_n F 2 d_Sn_liveWith_2 rfl rfl ?_
    refine x_aload_n F 0 d_Sn_liveWith_3 rfl rfl ?_
    refine x_getI F cl_Sn in_Sn (k := 1) (by decide) k_102 rfl d_Sn_liveWith_4 h (fun v1 h => ?_)
    refine x_icmp_ge F (tgt := 45) d_Sn_liveWith_7 (by decide) h (fun q h => ?_) (fun q h => ?_)
    · refine x_sub (lv' := []) [] rfl ?_
      exact hKx45  _ h
    · refine x_aload_n F 0 d_Sn_liveWith_10 rfl rfl ?_
      refine x_getR F cl_Sn in_Sn (k := 3) (by decide) k_109 rfl d_Sn_liveWith_11 h (fun v2 h => ?_)
      refine x_iload_n F 2 d_Sn_liveWith_14 rfl rfl ?_
      refine x_zald F (t := 1) rfl d_Sn_liveWith_15 h (fun v3 h => ?_)
      refine x_if_eq F (tgt := 39) d_Sn_liveWith_16 (by decide) h (fun q h => ?_) (fun q h => ?_)
      · refine x_iinc F 2 (v := (l2 + 1)) (lv' := [(2, .int (l2 + 1)), (0, va_rf (some th)), (1, .int l1)]) d_Sn_liveWith_39 rfl (congrArg (fun z : Int32 => l2 + z) (by decide)) (by decide) rfl ?_
        refine x_goto F (tgt := 2) d_Sn_liveWith_42 (by decide) ?_
        refine x_sub (lv' := [(0, va_rf (some th)), (1, .int l1), (2, .int (l2 + 1))]) [1, 2, 0] rfl ?_
        exact ih _ _ h
      · refine x_aload_n F 0 d_Sn_liveWith_19 rfl rfl ?_
        refine x_getR F cl_Sn in_Sn (k := 2) (by decide) k_105 rfl d_Sn_liveWith_20 h (fun v4 h => ?_)
        refine x_iload_n F 2 d_Sn_liveWith_23 rfl rfl ?_
        refine x_aald F (t := 4) rfl rfl d_Sn_liveWith_24 h (fun v5 h => ?_)
        refine x_getI F cl_Do in_Do (k := 0) (by decide) k_378 rfl d_Sn_liveWith_25 h (fun v6 h => ?_)
        refine x_iload_n F 1 d_Sn_liveWith_28 rfl rfl ?_
        refine x_icmp_ne F (tgt := 39) d_Sn_liveWith_29 (by decide) h (fun q h => ?_) (fun q h => ?_)
        · refine x_iinc F 2 (v := (l2 + 1)) (lv' := [(2, .int (l2 + 1)), (0, va_rf (some th)), (1, .int l1)]) d_Sn_liveWith_39 rfl (congrArg (fun z : Int32 => l2 + z) (by decide)) (by decide) rfl ?_
          refine x_goto F (tgt := 2) d_Sn_liveWith_42 (by decide) ?_
          refine x_sub (lv' := [(0, va_rf (some th)), (1, .int l1), (2, .int (l2 + 1))]) [1, 2, 0] rfl ?_
          exact ih _ _ h
        · refine x_aload_n F 0 d_Sn_liveWith_32 rfl rfl ?_
          refine x_getR F cl_Sn in_Sn (k := 2) (by decide) k_105 rfl d_Sn_liveWith_33 h (fun v7 h => ?_)
          refine x_iload_n F 2 d_Sn_liveWith_36 rfl rfl ?_
          refine x_aald F (t := 4) rfl rfl d_Sn_liveWith_37 h (fun v8 h => ?_)
          exact x_aret F rfl hret (Or.inl ⟨_, rfl⟩) d_Sn_liveWith_38 ⟨_, rfl, h⟩
set_option maxHeartbeats 4000000 in
set_option maxRecDepth 100000 in
theorem c_Sn_liveWith (l : Launch) (D : va_G) (dA : Nat → ClassId) (base : Nat) (sa : Nat → Nat) (th : Nat) (l1 : Int32) (K : Option Nat → xS → Prop) (G : xS) (h : p_Sn_liveWith th l1 K G) : xMet l y_Sn_liveWith b_Sn_liveWith 3 (some (FieldType.object "BlockSearch$Document")) 0 0 D dA base sa [va_rf (some th), .int l1] G (fun v G2 => ∃ r : Option Nat, v = some (va_rf r) ∧ K r G2) := by
  refine xMet.of (by decide) (by simp [x_cat, x_catI]) (Nat.le_of_ble_eq_true rfl) ?_
  intro p e s m args below meth c F hret hname
  unfold p_Sn_liveWith at h
  refine x_sub (lv' := [(0, va_rf (some th)), (1, .int l1)]) [0, 1] rfl ?_
  refine x_iconst F (v := 0) d_Sn_liveWith_0 (by decide) ?_
  refine x_istore_n F (lv' := [(2, .int 0), (0, va_rf (some th)), (1, .int l1)]) d_Sn_liveWith_1 rfl (by decide) rfl ?_
  refine x_sub (lv' := [(0, va_rf (some th)), (1, .int l1), (2, .int 0)]) [1, 2, 0] rfl ?_
  refine w_Sn_liveWith_L2 F hret th l1 (fun G h => ?_) _ _ _ h
  refine x_null F d_Sn_liveWith_45 ?_
  exact x_aret F rfl hret (Or.inl ⟨_, rfl⟩) d_Sn_liveWith_46 ⟨_, rfl, h⟩
def p_B_score (th : Nat) (l1 : Int32) (K : Int32 → xS → Prop) : xS → Prop := xgR 9 5 (some th) fun v1 => xob 3 v1 fun b => xcall 0 0 (p_Qu_isComplete b ) fun v2 => xif (v2 = 0) (K (-2)) (xgR 9 4 (some th) fun v3 => xgI 4 0 v3 fun v4 => xif (v4 = 0) (K (-2)) (xgR 9 4 (some th) fun v5 => xob 4 v5 fun b => xcall 0 0 (p_Sn_liveWith b l1) fun v6 => xnn v6 (fun _ => xgR 9 6 (some th) fun v7 => xgR 9 5 (some th) fun v8 => xgR 9 4 (some th) fun v9 => xob 7 v7 fun b => xcall 0 0 (p_Sc_prepare b v8 v9) fun _ => xgR 9 6 (some th) fun v10 => xgR 9 5 (some th) fun v11 => xob 7 v10 fun b => xcall 0 0 (p_Sc_pointsOf b v11 v6) fun v12 => xif (v12 = (-1)) (K (-2)) (K v12)) (K (-2))))
abbrev X_B_score (p : Program) (l : Launch) (e : Env) (s : State) (m : MethodId) (args : Array Value) (below : List Frame) (meth : Method) (c : Code) (C0 S0 : Nat) (K : Int32 → xS → Prop) (D : va_G) (dA : Nat → ClassId) (base : Nat) (sa : Nat → Nat) (pc : Nat) (lv : List (Nat × Value)) (st : List Value) (G : xS) : Prop := xW p l e { frames := 4, cells := C0, slots := S0, locals := 95 } s m args below meth c 4 (MQ below (xQ D dA base (fun v G2 => ∃ r : Int32, v = some (.int r) ∧ K r G2)) args s C0 S0 (fun q : Nat => base ≤ q)) D dA base sa pc lv st G
set_option maxHeartbeats 4000000 in
set_option maxRecDepth 100000 in
theorem c_B_score (l : Launch) (D : va_G) (dA : Nat → ClassId) (base : Nat) (sa : Nat → Nat) (th : Nat) (l1 : Int32) (K : Int32 → xS → Prop) (G : xS) (h : p_B_score th l1 K G) : xMet l y_B_score b_B_score 4 (some FieldType.int) 4 95 D dA base sa [va_rf (some th), .int l1] G (fun v G2 => ∃ r : Int32, v = some (.int r) ∧ K r G2) := by
  refine xMet.of (by decide) (by simp [x_cat, x_catI]) (Nat.le_of_ble_eq_true rfl) ?_
  intro p e s m args below meth c F hret hname
  unfold p_B_score at h
  refine x_sub (lv' := [(0, va_rf (some th)), (1, .int l1)]) [0, 1] rfl ?_
  refine x_aload_n F 0 d_B_score_0 rfl rfl ?_
  refine x_getR F cl_B in_B (k := 5) (by decide) k_202 rfl d_B_score_1 h (fun v1 h => ?_)
  refine x_callV F (enc := fun r => some (.int r)) (P := fun b => p_Qu_isComplete b ) (n := 0) (As := []) (st := []) k_464 k_6 k_462 k_463 k_461 ⟨by decide, by decide, by decide +kernel⟩ rfl ⟨Nat.le_of_ble_eq_true rfl, Nat.le_of_ble_eq_true rfl⟩ (by simp [x_cat, x_catI, x_catL]) cl_Qu rfl (ro := v1) (fun b K' G' h' _ => c_Qu_isComplete l D dA base sa b  K' G' h') d_B_score_4 h (fun v2 G h => ?_)
  refine x_if_eq F (tgt := 20) d_B_score_7 (by decide) h (fun q h => ?_) (fun q h => ?_)
  · refine x_bipush F (v := (-2)) d_B_score_20 (by decide) ?_
    exact x_iret F rfl hret d_B_score_22 ⟨_, rfl, h⟩
  · refine x_aload_n F 0 d_B_score_10 rfl rfl ?_
    refine x_getR F cl_B in_B (k := 4) (by decide) k_201 rfl d_B_score_11 h (fun v3 h => ?_)
    refine x_getI F cl_Sn in_Sn (k := 0) (by decide) k_101 rfl d_B_score_14 h (fun v4 h => ?_)
    refine x_if_ne F (tgt := 23) d_B_score_17 (by decide) h (fun q h => ?_) (fun q h => ?_)
    · refine x_aload_n F 0 d_B_score_23 rfl rfl ?_
      refine x_getR F cl_B in_B (k := 4) (by decide) k_201 rfl d_B_score_24 h (fun v5 h => ?_)
      refine x_iload_n F 1 d_B_score_27 rfl rfl ?_
      refine x_callV F (enc := fun r => some (va_rf r)) (P := fun b => p_Sn_liveWith b l1) (n := 1) (As := [.int l1]) (st := []) k_558 k_5 k_556 k_557 k_555 ⟨by decide, by decide, by decide +kernel⟩ rfl ⟨Nat.le_of_ble_eq_true rfl, Nat.le_of_ble_eq_true rfl⟩ (by simp [x_cat, x_catI, x_catL]) cl_Sn rfl (ro := v5) (fun b K' G' h' _ => c_Sn_liveWith l D dA base sa b l1 K' G' h') d_B_score_28 h (fun v6 G h => ?_)
      refine x_astore_n F (lv' := [(2, va_rf v6), (0, va_rf (some th)), (1, .int l1)]) d_B_score_31 rfl (by decide) rfl ?_
      refine x_aload_n F 0 d_B_score_32 rfl rfl ?_
      refine x_ifnonnull F (tgt := 39) d_B_score_33 (by decide) h (fun _ q h => ?_) (fun q h => ?_)
      · refine x_aload_n F 1 d_B_score_39 rfl rfl ?_
        refine x_getR F cl_B in_B (k := 6) (by decide) k_203 rfl d_B_score_40 h (fun v7 h => ?_)
        refine x_aload_n F 1 d_B_score_43 rfl rfl ?_
        refine x_getR F cl_B in_B (k := 5) (by decide) k_202 rfl d_B_score_44 h (fun v8 h => ?_)
        refine x_aload_n F 1 d_B_score_47 rfl rfl ?_
        refine x_getR F cl_B in_B (k := 4) (by decide) k_201 rfl d_B_score_48 h (fun v9 h => ?_)
        refine x_callV F (enc := fun r => none) (P := fun b => p_Sc_prepare b v8 v9) (n := 2) (As := [va_rf v8, va_rf v9]) (st := []) k_493 k_7 k_491 k_492 k_490 ⟨by decide, by decide, by decide +kernel⟩ rfl ⟨Nat.le_of_ble_eq_true rfl, Nat.le_of_ble_eq_true rfl⟩ (by simp [x_cat, x_catI, x_catL]) cl_Sc rfl (ro := v7) (fun b K' G' h' _ => c_Sc_prepare l D dA base sa b v8 v9 K' G' h') d_B_score_51 h (fun _ G h => ?_)
        refine x_aload_n F 1 d_B_score_54 rfl rfl ?_
        refine x_getR F cl_B in_B (k := 6) (by decide) k_203 rfl d_B_score_55 h (fun v10 h => ?_)
        refine x_aload_n F 1 d_B_score_58 rfl rfl ?_
        refine x_getR F cl_B in_B (k := 5) (by decide) k_202 rfl d_B_score_59 h (fun v11 h => ?_)
        refine x_aload_n F 0 d_B_score_62 rfl rfl ?_
        refine x_callV F (enc := fun r => some (.int r)) (P := fun b => p_Sc_pointsOf b v11 v6) (n := 2) (As := [va_rf v11, va_rf v6]) (st := []) k_512 k_7 k_510 k_511 k_509 ⟨by decide, by decide, by decide +kernel⟩ rfl ⟨Nat.le_of_ble_eq_true rfl, Nat.le_of_ble_eq_true rfl⟩ (by simp [x_cat, x_catI, x_catL]) cl_Sc rfl (ro := v10) (fun b K' G' h' _ => c_Sc_pointsOf l D dA base sa b v11 v6 K' G' h') d_B_score_63 h (fun v12 G h => ?_)
        refine x_istore_n F (lv' := [(3, .int v12), (2, va_rf v6), (0, va_rf (some th)), (1, .int l1)]) d_B_score_66 rfl (by decide) rfl ?_
        refine x_iload_n F 0 d_B_score_67 rfl rfl ?_
        refine x_iconst F (v := (-1)) d_B_score_68 (by decide) ?_
        refine x_icmp_ne F (tgt := 77) d_B_score_69 (by decide) h (fun q h => ?_) (fun q h => ?_)
        · refine x_iload_n F 0 d_B_score_77 rfl rfl ?_
          exact x_iret F rfl hret d_B_score_78 ⟨_, rfl, h⟩
        · refine x_bipush F (v := (-2)) d_B_score_72 (by decide) ?_
          refine x_goto F (tgt := 78) d_B_score_74 (by decide) ?_
          exact x_iret F rfl hret d_B_score_78 ⟨_, rfl, h⟩
      · refine x_bipush F (v := (-2)) d_B_score_36 (by decide) ?_
        exact x_iret F rfl hret d_B_score_38 ⟨_, rfl, h⟩
    · refine x_bipush F (v := (-2)) d_B_score_20 (by decide) ?_
      exact x_iret F rfl hret d_B_score_22 ⟨_, rfl, h⟩
def p_Nd_fieldFact (th : Nat) (l1 : Int32) (K : Int32 → xS → Prop) : xS → Prop := xgR 2 4 (some th) fun v1 => xal 0 v1 l1 fun v2 => xif (v2 = 0) (K (-2)) (xgR 2 4 (some th) fun v3 => xal 0 v3 l1 fun v4 => xif (v4 = 1) (xgR 2 5 (some th) fun v7 => xal 0 v7 l1 fun v8 => K v8) (xgR 2 5 (some th) fun v5 => xal 0 v5 l1 fun v6 => K (2000 + v6)))
abbrev X_Nd_fieldFact (p : Program) (l : Launch) (e : Env) (s : State) (m : MethodId) (args : Array Value) (below : List Frame) (meth : Method) (c : Code) (C0 S0 : Nat) (K : Int32 → xS → Prop) (D : va_G) (dA : Nat → ClassId) (base : Nat) (sa : Nat → Nat) (pc : Nat) (lv : List (Nat × Value)) (st : List Value) (G : xS) : Prop := xW p l e { frames := 0, cells := C0, slots := S0, locals := 0 } s m args below meth c 2 (MQ below (xQ D dA base (fun v G2 => ∃ r : Int32, v = some (.int r) ∧ K r G2)) args s C0 S0 (fun q : Nat => base ≤ q)) D dA base sa pc lv st G
set_option maxHeartbeats 4000000 in
set_option maxRecDepth 100000 in
theorem c_Nd_fieldFact (l : Launch) (D : va_G) (dA : Nat → ClassId) (base : Nat) (sa : Nat → Nat) (th : Nat) (l1 : Int32) (K : Int32 → xS → Prop) (G : xS) (h : p_Nd_fieldFact th l1 K G) : xMet l y_Nd_fieldFact b_Nd_fieldFact 2 (some FieldType.int) 0 0 D dA base sa [va_rf (some th), .int l1] G (fun v G2 => ∃ r : Int32, v = some (.int r) ∧ K r G2) := by
  refine xMet.of (by decide) (by simp [x_cat, x_catI]) (Nat.le_of_ble_eq_true rfl) ?_
  intro p e s m args below meth c F hret hname
  unfold p_Nd_fieldFact at h
  refine x_sub (lv' := [(0, va_rf (some th)), (1, .int l1)]) [0, 1] rfl ?_
  refine x_aload_n F 0 d_Nd_fieldFact_0 rfl rfl ?_
  refine x_getR F cl_Nd in_Nd (k := 4) (by decide) k_268 rfl d_Nd_fieldFact_1 h (fun v1 h => ?_)
  refine x_iload_n F 1 d_Nd_fieldFact_4 rfl rfl ?_
  refine x_iald F (t := 0) rfl d_Nd_fieldFact_5 h (fun v2 h => ?_)
  refine x_if_ne F (tgt := 12) d_Nd_fieldFact_6 (by decide) h (fun q h => ?_) (fun q h => ?_)
  · refine x_aload_n F 0 d_Nd_fieldFact_12 rfl rfl ?_
    refine x_getR F cl_Nd in_Nd (k := 4) (by decide) k_268 rfl d_Nd_fieldFact_13 h (fun v3 h => ?_)
    refine x_iload_n F 1 d_Nd_fieldFact_16 rfl rfl ?_
    refine x_iald F (t := 0) rfl d_Nd_fieldFact_17 h (fun v4 h => ?_)
    refine x_iconst F (v := 1) d_Nd_fieldFact_18 (by decide) ?_
    refine x_icmp_ne F (tgt := 31) d_Nd_fieldFact_19 (by decide) h (fun q h => ?_) (fun q h => ?_)
    · refine x_sipush F (v := 2000) d_Nd_fieldFact_31 (by decide) ?_
      refine x_aload_n F 0 d_Nd_fieldFact_34 rfl rfl ?_
      refine x_getR F cl_Nd in_Nd (k := 5) (by decide) k_272 rfl d_Nd_fieldFact_35 h (fun v5 h => ?_)
      refine x_iload_n F 1 d_Nd_fieldFact_38 rfl rfl ?_
      refine x_iald F (t := 0) rfl d_Nd_fieldFact_39 h (fun v6 h => ?_)
      refine x_iadd F d_Nd_fieldFact_40 ?_
      exact x_iret F rfl hret d_Nd_fieldFact_41 ⟨_, rfl, h⟩
    · refine x_aload_n F 0 d_Nd_fieldFact_22 rfl rfl ?_
      refine x_getR F cl_Nd in_Nd (k := 5) (by decide) k_272 rfl d_Nd_fieldFact_23 h (fun v7 h => ?_)
      refine x_iload_n F 1 d_Nd_fieldFact_26 rfl rfl ?_
      refine x_iald F (t := 0) rfl d_Nd_fieldFact_27 h (fun v8 h => ?_)
      refine x_goto F (tgt := 41) d_Nd_fieldFact_28 (by decide) ?_
      exact x_iret F rfl hret d_Nd_fieldFact_41 ⟨_, rfl, h⟩
  · refine x_bipush F (v := (-2)) d_Nd_fieldFact_9 (by decide) ?_
    exact x_iret F rfl hret d_Nd_fieldFact_11 ⟨_, rfl, h⟩
def p_Do_factOf (th : Nat) (l1 : Int32) (l2 : Int32) (l3 : Int32) (K : Int32 → xS → Prop) : xS → Prop := xgR 5 1 (some th) fun v1 => xalR 3 v1 l1 fun v2 => xif (l3 = 0) (xgI 2 0 v2 fun v3 => K v3) (xif (l3 = 1) (xgR 2 1 v2 fun v4 => xnn v4 (fun _ => xgR 2 1 v2 fun v5 => xgI 2 3 v5 fun v6 => K (l2 + v6)) (K (-2))) (xif (l3 = 2) (xgI 5 0 (some th) fun v7 => K v7) (xif (l3 = 3) (xgI 5 2 (some th) fun v8 => xif (v8 = 0) (K 0) (K 1)) (xif (l3 = 4) (xgI 2 2 v2 fun v9 => K (l2 + v9)) (xob 2 v2 fun b => xcall 0 0 (p_Nd_fieldFact b (l3 - 10)) fun v10 => K v10)))))
abbrev X_Do_factOf (p : Program) (l : Launch) (e : Env) (s : State) (m : MethodId) (args : Array Value) (below : List Frame) (meth : Method) (c : Code) (C0 S0 : Nat) (K : Int32 → xS → Prop) (D : va_G) (dA : Nat → ClassId) (base : Nat) (sa : Nat → Nat) (pc : Nat) (lv : List (Nat × Value)) (st : List Value) (G : xS) : Prop := xW p l e { frames := 1, cells := C0, slots := S0, locals := 21 } s m args below meth c 5 (MQ below (xQ D dA base (fun v G2 => ∃ r : Int32, v = some (.int r) ∧ K r G2)) args s C0 S0 (fun q : Nat => base ≤ q)) D dA base sa pc lv st G
set_option maxHeartbeats 4000000 in
set_option maxRecDepth 100000 in
theorem c_Do_factOf (l : Launch) (D : va_G) (dA : Nat → ClassId) (base : Nat) (sa : Nat → Nat) (th : Nat) (l1 : Int32) (l2 : Int32) (l3 : Int32) (K : Int32 → xS → Prop) (G : xS) (h : p_Do_factOf th l1 l2 l3 K G) : xMet l y_Do_factOf b_Do_factOf 5 (some FieldType.int) 1 21 D dA base sa [va_rf (some th), .int l1, .int l2, .int l3] G (fun v G2 => ∃ r : Int32, v = some (.int r) ∧ K r G2) := by
  refine xMet.of (by decide) (by simp [x_cat, x_catI]) (Nat.le_of_ble_eq_true rfl) ?_
  intro p e s m args below meth c F hret hname
  unfold p_Do_factOf at h
  refine x_sub (lv' := [(0, va_rf (some th)), (1, .int l1), (2, .int l2), (3, .int l3)]) [0, 1, 2, 3] rfl ?_
  refine x_aload_n F 0 d_Do_factOf_0 rfl rfl ?_
  refine x_getR F cl_Do in_Do (k := 1) (by decide) k_380 rfl d_Do_factOf_1 h (fun v1 h => ?_)
  refine x_iload_n F 1 d_Do_factOf_4 rfl rfl ?_
  refine x_aald F (t := 3) rfl rfl d_Do_factOf_5 h (fun v2 h => ?_)
  refine x_astore F (lv' := [(4, va_rf v2), (0, va_rf (some th)), (1, .int l1), (2, .int l2), (3, .int l3)]) d_Do_factOf_6 (by decide) rfl ?_
  refine x_iload_n F 4 d_Do_factOf_8 rfl rfl ?_
  by_cases q0 : l3 = 0
  · have h := h.1 q0
    refine x_tabIn F (off := 35) (tgt := 44) d_Do_factOf_9 q0 (by decide) (by decide) (by decide) (by decide) ?_
    refine x_aload F 0 d_Do_factOf_44 rfl ?_
    refine x_getI F cl_Nd in_Nd (k := 0) (by decide) k_254 rfl d_Do_factOf_46 h (fun v3 h => ?_)
    exact x_iret F rfl hret d_Do_factOf_49 ⟨_, rfl, h⟩
  have h := h.2 q0
  by_cases q1 : l3 = 1
  · have h := h.1 q1
    refine x_tabIn F (off := 41) (tgt := 50) d_Do_factOf_9 q1 (by decide) (by decide) (by decide) (by decide) ?_
    refine x_aload F 0 d_Do_factOf_50 rfl ?_
    refine x_getR F cl_Nd in_Nd (k := 1) (by decide) k_259 rfl d_Do_factOf_52 h (fun v4 h => ?_)
    refine x_ifnonnull F (tgt := 63) d_Do_factOf_55 (by decide) h (fun _ q h => ?_) (fun q h => ?_)
    · refine x_iload_n F 3 d_Do_factOf_63 rfl rfl ?_
      refine x_aload F 0 d_Do_factOf_64 rfl ?_
      refine x_getR F cl_Nd in_Nd (k := 1) (by decide) k_259 rfl d_Do_factOf_66 h (fun v5 h => ?_)
      refine x_getI F cl_Nd in_Nd (k := 3) (by decide) k_266 rfl d_Do_factOf_69 h (fun v6 h => ?_)
      refine x_iadd F d_Do_factOf_72 ?_
      exact x_iret F rfl hret d_Do_factOf_73 ⟨_, rfl, h⟩
    · refine x_bipush F (v := (-2)) d_Do_factOf_58 (by decide) ?_
      refine x_goto F (tgt := 73) d_Do_factOf_60 (by decide) ?_
      exact x_iret F rfl hret d_Do_factOf_73 ⟨_, rfl, h⟩
  have h := h.2 q1
  by_cases q2 : l3 = 2
  · have h := h.1 q2
    refine x_tabIn F (off := 65) (tgt := 74) d_Do_factOf_9 q2 (by decide) (by decide) (by decide) (by decide) ?_
    refine x_aload_n F 1 d_Do_factOf_74 rfl rfl ?_
    refine x_getI F cl_Do in_Do (k := 0) (by decide) k_376 rfl d_Do_factOf_75 h (fun v7 h => ?_)
    exact x_iret F rfl hret d_Do_factOf_78 ⟨_, rfl, h⟩
  have h := h.2 q2
  by_cases q3 : l3 = 3
  · have h := h.1 q3
    refine x_tabIn F (off := 70) (tgt := 79) d_Do_factOf_9 q3 (by decide) (by decide) (by decide) (by decide) ?_
    refine x_aload_n F 1 d_Do_factOf_79 rfl rfl ?_
    refine x_getI F cl_Do in_Do (k := 2) (by decide) k_385 rfl d_Do_factOf_80 h (fun v8 h => ?_)
    refine x_if_eq F (tgt := 90) d_Do_factOf_83 (by decide) h (fun q h => ?_) (fun q h => ?_)
    · refine x_iconst F (v := 0) d_Do_factOf_90 (by decide) ?_
      exact x_iret F rfl hret d_Do_factOf_91 ⟨_, rfl, h⟩
    · refine x_iconst F (v := 1) d_Do_factOf_86 (by decide) ?_
      refine x_goto F (tgt := 91) d_Do_factOf_87 (by decide) ?_
      exact x_iret F rfl hret d_Do_factOf_91 ⟨_, rfl, h⟩
  have h := h.2 q3
  by_cases q4 : l3 = 4
  · have h := h.1 q4
    refine x_tabIn F (off := 83) (tgt := 92) d_Do_factOf_9 q4 (by decide) (by decide) (by decide) (by decide) ?_
    refine x_iload_n F 3 d_Do_factOf_92 rfl rfl ?_
    refine x_aload F 0 d_Do_factOf_93 rfl ?_
    refine x_getI F cl_Nd in_Nd (k := 2) (by decide) k_263 rfl d_Do_factOf_95 h (fun v9 h => ?_)
    refine x_iadd F d_Do_factOf_98 ?_
    exact x_iret F rfl hret d_Do_factOf_99 ⟨_, rfl, h⟩
  have h := h.2 q4
  refine x_tabOut F (tgt := 100) d_Do_factOf_9 (by have a0 := lv_neT (a := 0) q0 (by decide); have a1 := lv_neT (a := 1) q1 (by decide); have a2 := lv_neT (a := 2) q2 (by decide); have a3 := lv_neT (a := 3) q3 (by decide); have a4 := lv_neT (a := 4) q4 (by decide); omega) (by decide) ?_
  refine x_aload F 0 d_Do_factOf_100 rfl ?_
  refine x_iload_n F 4 d_Do_factOf_102 rfl rfl ?_
  refine x_bipush F (v := 10) d_Do_factOf_103 (by decide) ?_
  refine x_isub F d_Do_factOf_105 ?_
  refine x_callV F (enc := fun r => some (.int r)) (P := fun b => p_Nd_fieldFact b (l3 - 10)) (n := 1) (As := [.int (l3 - 10)]) (st := []) k_574 k_10 k_572 k_573 k_571 ⟨by decide, by decide, by decide +kernel⟩ rfl ⟨Nat.le_of_ble_eq_true rfl, Nat.le_of_ble_eq_true rfl⟩ (by simp [x_cat, x_catI, x_catL]) cl_Nd rfl (ro := v2) (fun b K' G' h' _ => c_Nd_fieldFact l D dA base sa b (l3 - 10) K' G' h') d_Do_factOf_106 h (fun v10 G h => ?_)
  exact x_iret F rfl hret d_Do_factOf_109 ⟨_, rfl, h⟩
def p_Rw_factOf_L5 (th : Nat) (l1 : Int32) (l2 : Int32) (K : Int32 → xS → Prop) (Kx60 : xS → Prop) : Nat → Int32 → Int32 → xS → Prop
  | 0, _, _ => fun _ => False
  | n + 1, l3, l4 => xgI 8 1 (some th) fun v1 => xif (v1 ≤ l4) (Kx60) (xgR 8 0 (some th) fun v2 => xalR 4 v2 l4 fun v3 => xgR 5 1 v3 fun v4 => xlen 3 v4 fun v5 => xif ((l3 + v5) ≤ l1) (p_Rw_factOf_L5 th l1 l2 K Kx60 n (l3 + v5) (l4 + 1)) (xgR 8 0 (some th) fun v6 => xalR 4 v6 l4 fun v7 => xob 5 v7 fun b => xcall 0 0 (p_Do_factOf b (l1 - l3) l3 l2) fun v8 => K v8))
def p_Rw_factOf (th : Nat) (l1 : Int32) (l2 : Int32) (K : Int32 → xS → Prop) : xS → Prop := p_Rw_factOf_L5 th l1 l2 K (K (-2)) 1000 0 0
abbrev X_Rw_factOf (p : Program) (l : Launch) (e : Env) (s : State) (m : MethodId) (args : Array Value) (below : List Frame) (meth : Method) (c : Code) (C0 S0 : Nat) (K : Int32 → xS → Prop) (D : va_G) (dA : Nat → ClassId) (base : Nat) (sa : Nat → Nat) (pc : Nat) (lv : List (Nat × Value)) (st : List Value) (G : xS) : Prop := xW p l e { frames := 2, cells := C0, slots := S0, locals := 45 } s m args below meth c 6 (MQ below (xQ D dA base (fun v G2 => ∃ r : Int32, v = some (.int r) ∧ K r G2)) args s C0 S0 (fun q : Nat => base ≤ q)) D dA base sa pc lv st G
set_option maxHeartbeats 4000000 in
set_option maxRecDepth 100000 in
theorem w_Rw_factOf_L5 {p : Program} {l : Launch} {e : Env} {s : State} {m : MethodId} {args : Array Value} {below : List Frame} {meth : Method} {c : Code} {C0 S0 : Nat} {D : va_G} {dA : Nat → ClassId} {base : Nat} {sa : Nat → Nat} (F : xFix p { frames := 2, cells := C0, slots := S0, locals := 45 } s m args meth c b_Rw_factOf 6 "BlockSearch$DocumentRow" D dA base sa) (hret : meth.sig.returnType = (some FieldType.int)) {K : Int32 → xS → Prop} {Kx60 : xS → Prop} (th : Nat) (l1 : Int32) (l2 : Int32) (hKx60 : ∀ (G : xS), Kx60  G → X_Rw_factOf p l e s m args below meth c C0 S0 K D dA base sa 60 [] [] G) : ∀ (n : Nat) (l3 : Int32) (l4 : Int32) (G : xS), p_Rw_factOf_L5 th l1 l2 K Kx60 n l3 l4 G → X_Rw_factOf p l e s m args below meth c C0 S0 K D dA base sa 5 [(0, va_rf (some th)), (1, .int l1), (2, .int l2), (3, .int l3), (4, .int l4)] [] G := by
  intro n
  induction n with
  | zero => intro l3 l4 G h; exact h.elim
  | succ n ih =>
    intro l3 l4 G h
    unfold p_Rw_factOf_L5 at h
    refine x_iload F 4 d_Rw_factOf_5 rfl ?_
    refine x_aload_n F 0 d_Rw_factOf_7 rfl rfl ?_
    refine x_getI F cl_Rw in_Rw (k := 1) (by decide) k_81 rfl d_Rw_factOf_8 h (fun v1 h => ?_)
    refine x_icmp_ge F (tgt := 60) d_Rw_factOf_11 (by decide) h (fun q h => ?_) (fun q h => ?_)
    · refine x_sub (lv' := []) [] rfl ?_
      exact hKx60  _ h
    · refine x_iload_n F 3 d_Rw_factOf_14 rfl rfl ?_
      refine x_aload_n F 0 d_Rw_factOf_15 rfl rfl ?_
      refine x_getR F cl_Rw in_Rw (k := 0) (by decide) k_79 rfl d_Rw_factOf_16 h (fun v2 h => ?_)
      refine x_iload F 4 d_Rw_factOf_19 rfl ?_
      refine x_aald F (t := 4) rfl rfl d_Rw_factOf_21 h (fun v3 h => ?_)
      refine x_getR F cl_Do in_Do (k := 1) (by decide) k_381 rfl d_Rw_factOf_22 h (fun v4 h => ?_)
      refine x_len F (t := 3) rfl d_Rw_factOf_25 h (fun v5 h => ?_)
      refine x_iadd F d_Rw_factOf_26 ?_
      refine x_istore F (lv' := [(5, .int (l3 + v5)), (0, va_rf (some th)), (1, .int l1), (2, .int l2), (3, .int l3), (4, .int l4)]) d_Rw_factOf_27 (by decide) rfl ?_
      refine x_iload_n F 2 d_Rw_factOf_29 rfl rfl ?_
      refine x_iload F 0 d_Rw_factOf_30 rfl ?_
      refine x_icmp_ge F (tgt := 51) d_Rw_factOf_32 (by decide) h (fun q h => ?_) (fun q h => ?_)
      · refine x_iload F 0 d_Rw_factOf_51 rfl ?_
        refine x_istore_n F (lv' := [(3, .int (l3 + v5)), (5, .int (l3 + v5)), (0, va_rf (some th)), (1, .int l1), (2, .int l2), (4, .int l4)]) d_Rw_factOf_53 rfl (by decide) rfl ?_
        refine x_iinc F 5 (v := (l4 + 1)) (lv' := [(4, .int (l4 + 1)), (3, .int (l3 + v5)), (5, .int (l3 + v5)), (0, va_rf (some th)), (1, .int l1), (2, .int l2)]) d_Rw_factOf_54 rfl (congrArg (fun z : Int32 => l4 + z) (by decide)) (by decide) rfl ?_
        refine x_goto F (tgt := 5) d_Rw_factOf_57 (by decide) ?_
        refine x_sub (lv' := [(0, va_rf (some th)), (1, .int l1), (2, .int l2), (3, .int (l3 + v5)), (4, .int (l4 + 1))]) [3, 4, 5, 1, 0] rfl ?_
        exact ih _ _ _ h
      · refine x_aload_n F 1 d_Rw_factOf_35 rfl rfl ?_
        refine x_getR F cl_Rw in_Rw (k := 0) (by decide) k_79 rfl d_Rw_factOf_36 h (fun v6 h => ?_)
        refine x_iload F 5 d_Rw_factOf_39 rfl ?_
        refine x_aald F (t := 4) rfl rfl d_Rw_factOf_41 h (fun v7 h => ?_)
        refine x_iload_n F 2 d_Rw_factOf_42 rfl rfl ?_
        refine x_iload_n F 4 d_Rw_factOf_43 rfl rfl ?_
        refine x_isub F d_Rw_factOf_44 ?_
        refine x_iload_n F 4 d_Rw_factOf_45 rfl rfl ?_
        refine x_iload_n F 3 d_Rw_factOf_46 rfl rfl ?_
        refine x_callV F (enc := fun r => some (.int r)) (P := fun b => p_Do_factOf b (l1 - l3) l3 l2) (n := 3) (As := [.int (l1 - l3), .int l3, .int l2]) (st := []) k_570 k_12 k_568 k_569 k_567 ⟨by decide, by decide, by decide +kernel⟩ rfl ⟨Nat.le_of_ble_eq_true rfl, Nat.le_of_ble_eq_true rfl⟩ (by simp [x_cat, x_catI, x_catL]) cl_Do rfl (ro := v7) (fun b K' G' h' _ => c_Do_factOf l D dA base sa b (l1 - l3) l3 l2 K' G' h') d_Rw_factOf_47 h (fun v8 G h => ?_)
        exact x_iret F rfl hret d_Rw_factOf_50 ⟨_, rfl, h⟩
set_option maxHeartbeats 4000000 in
set_option maxRecDepth 100000 in
theorem c_Rw_factOf (l : Launch) (D : va_G) (dA : Nat → ClassId) (base : Nat) (sa : Nat → Nat) (th : Nat) (l1 : Int32) (l2 : Int32) (K : Int32 → xS → Prop) (G : xS) (h : p_Rw_factOf th l1 l2 K G) : xMet l y_Rw_factOf b_Rw_factOf 6 (some FieldType.int) 2 45 D dA base sa [va_rf (some th), .int l1, .int l2] G (fun v G2 => ∃ r : Int32, v = some (.int r) ∧ K r G2) := by
  refine xMet.of (by decide) (by simp [x_cat, x_catI]) (Nat.le_of_ble_eq_true rfl) ?_
  intro p e s m args below meth c F hret hname
  unfold p_Rw_factOf at h
  refine x_sub (lv' := [(0, va_rf (some th)), (1, .int l1), (2, .int l2)]) [0, 1, 2] rfl ?_
  refine x_iconst F (v := 0) d_Rw_factOf_0 (by decide) ?_
  refine x_istore_n F (lv' := [(3, .int 0), (0, va_rf (some th)), (1, .int l1), (2, .int l2)]) d_Rw_factOf_1 rfl (by decide) rfl ?_
  refine x_iconst F (v := 0) d_Rw_factOf_2 (by decide) ?_
  refine x_istore F (lv' := [(4, .int 0), (3, .int 0), (0, va_rf (some th)), (1, .int l1), (2, .int l2)]) d_Rw_factOf_3 (by decide) rfl ?_
  refine x_sub (lv' := [(0, va_rf (some th)), (1, .int l1), (2, .int l2), (3, .int 0), (4, .int 0)]) [2, 3, 4, 1, 0] rfl ?_
  refine w_Rw_factOf_L5 F hret th l1 l2 (fun G h => ?_) _ _ _ _ h
  refine x_bipush F (v := (-2)) d_Rw_factOf_60 (by decide) ?_
  exact x_iret F rfl hret d_Rw_factOf_62 ⟨_, rfl, h⟩
def p_B_object_B35 (th : Nat) (l1 : Int32) (l2 : Int32) (l3 : Int32)  (K : Int32 → xS → Prop) : xS → Prop := xif (l1 < 0) (K (-2)) (xgI 9 8 (some th) fun v1 => xif (v1 ≤ l1) (K (-2)) (xif (0 ≤ l2) (xgR 9 3 (some th) fun v2 => xalR 5 v2 l1 fun v3 => xob 8 v3 fun b => xcall 0 0 (p_Rw_factOf b l2 l3) fun v4 => K v4) (K (-2))))
def p_B_object_B17 (th : Nat) (l1 : Int32) (l2 : Int32) (l3 : Int32) (s0 : Int32) (K : Int32 → xS → Prop) : xS → Prop := xif (s0 = 0) (xif (l3 < 0) (K (-1)) (xif (l3 ≤ 4) (p_B_object_B35 th l1 l2 l3 K) (K (-1)))) (p_B_object_B35 th l1 l2 l3 K)
def p_B_object_B16 (th : Nat) (l1 : Int32) (l2 : Int32) (l3 : Int32)  (K : Int32 → xS → Prop) : xS → Prop := p_B_object_B17 th l1 l2 l3 0 K
def p_B_object (th : Nat) (l1 : Int32) (l2 : Int32) (l3 : Int32) (K : Int32 → xS → Prop) : xS → Prop := xif (l3 < 10) (p_B_object_B16 th l1 l2 l3 K) (xif (14 ≤ l3) (p_B_object_B16 th l1 l2 l3 K) (p_B_object_B17 th l1 l2 l3 1 K))
abbrev X_B_object (p : Program) (l : Launch) (e : Env) (s : State) (m : MethodId) (args : Array Value) (below : List Frame) (meth : Method) (c : Code) (C0 S0 : Nat) (K : Int32 → xS → Prop) (D : va_G) (dA : Nat → ClassId) (base : Nat) (sa : Nat → Nat) (pc : Nat) (lv : List (Nat × Value)) (st : List Value) (G : xS) : Prop := xW p l e { frames := 3, cells := C0, slots := S0, locals := 70 } s m args below meth c 5 (MQ below (xQ D dA base (fun v G2 => ∃ r : Int32, v = some (.int r) ∧ K r G2)) args s C0 S0 (fun q : Nat => base ≤ q)) D dA base sa pc lv st G
set_option maxHeartbeats 4000000 in
set_option maxRecDepth 100000 in
theorem w_B_object_B35 {p : Program} {l : Launch} {e : Env} {s : State} {m : MethodId} {args : Array Value} {below : List Frame} {meth : Method} {c : Code} {C0 S0 : Nat} {D : va_G} {dA : Nat → ClassId} {base : Nat} {sa : Nat → Nat} (F : xFix p { frames := 3, cells := C0, slots := S0, locals := 70 } s m args meth c b_B_object 5 "BlockSearch" D dA base sa) (hret : meth.sig.returnType = (some FieldType.int)) {K : Int32 → xS → Prop} (th : Nat) (l1 : Int32) (l2 : Int32) (l3 : Int32)  {G : xS} (h : p_B_object_B35 th l1 l2 l3 K  G) : X_B_object p l e s m args below meth c C0 S0 K D dA base sa 35 [(0, va_rf (some th)), (1, .int l1), (2, .int l2), (3, .int l3)] [] G := by
  unfold p_B_object_B35 at h
  refine x_iload_n F 1 d_B_object_35 rfl rfl ?_
  refine x_if_lt F (tgt := 51) d_B_object_36 (by decide) h (fun q h => ?_) (fun q h => ?_)
  · refine x_bipush F (v := (-2)) d_B_object_51 (by decide) ?_
    exact x_iret F rfl hret d_B_object_53 ⟨_, rfl, h⟩
  · refine x_iload_n F 1 d_B_object_39 rfl rfl ?_
    refine x_aload_n F 0 d_B_object_40 rfl rfl ?_
    refine x_getI F cl_B in_B (k := 8) (by decide) k_205 rfl d_B_object_41 h (fun v1 h => ?_)
    refine x_icmp_ge F (tgt := 51) d_B_object_44 (by decide) h (fun q h => ?_) (fun q h => ?_)
    · refine x_bipush F (v := (-2)) d_B_object_51 (by decide) ?_
      exact x_iret F rfl hret d_B_object_53 ⟨_, rfl, h⟩
    · refine x_iload_n F 2 d_B_object_47 rfl rfl ?_
      refine x_if_ge F (tgt := 54) d_B_object_48 (by decide) h (fun q h => ?_) (fun q h => ?_)
      · refine x_aload_n F 0 d_B_object_54 rfl rfl ?_
        refine x_getR F cl_B in_B (k := 3) (by decide) k_200 rfl d_B_object_55 h (fun v2 h => ?_)
        refine x_iload_n F 1 d_B_object_58 rfl rfl ?_
        refine x_aald F (t := 5) rfl rfl d_B_object_59 h (fun v3 h => ?_)
        refine x_iload_n F 2 d_B_object_60 rfl rfl ?_
        refine x_iload_n F 3 d_B_object_61 rfl rfl ?_
        refine x_callV F (enc := fun r => some (.int r)) (P := fun b => p_Rw_factOf b l2 l3) (n := 2) (As := [.int l2, .int l3]) (st := []) k_566 k_4 k_564 k_565 k_563 ⟨by decide, by decide, by decide +kernel⟩ rfl ⟨Nat.le_of_ble_eq_true rfl, Nat.le_of_ble_eq_true rfl⟩ (by simp [x_cat, x_catI, x_catL]) cl_Rw rfl (ro := v3) (fun b K' G' h' _ => c_Rw_factOf l D dA base sa b l2 l3 K' G' h') d_B_object_62 h (fun v4 G h => ?_)
        exact x_iret F rfl hret d_B_object_65 ⟨_, rfl, h⟩
      · refine x_bipush F (v := (-2)) d_B_object_51 (by decide) ?_
        exact x_iret F rfl hret d_B_object_53 ⟨_, rfl, h⟩
set_option maxHeartbeats 4000000 in
set_option maxRecDepth 100000 in
theorem w_B_object_B17 {p : Program} {l : Launch} {e : Env} {s : State} {m : MethodId} {args : Array Value} {below : List Frame} {meth : Method} {c : Code} {C0 S0 : Nat} {D : va_G} {dA : Nat → ClassId} {base : Nat} {sa : Nat → Nat} (F : xFix p { frames := 3, cells := C0, slots := S0, locals := 70 } s m args meth c b_B_object 5 "BlockSearch" D dA base sa) (hret : meth.sig.returnType = (some FieldType.int)) {K : Int32 → xS → Prop} (th : Nat) (l1 : Int32) (l2 : Int32) (l3 : Int32) (s0 : Int32) {G : xS} (h : p_B_object_B17 th l1 l2 l3 s0 K  G) : X_B_object p l e s m args below meth c C0 S0 K D dA base sa 17 [(0, va_rf (some th)), (1, .int l1), (2, .int l2), (3, .int l3)] [.int s0] G := by
  unfold p_B_object_B17 at h
  refine x_istore F (lv' := [(4, .int s0), (0, va_rf (some th)), (1, .int l1), (2, .int l2), (3, .int l3)]) d_B_object_17 (by decide) rfl ?_
  refine x_iload F 0 d_B_object_19 rfl ?_
  refine x_if_ne F (tgt := 35) d_B_object_21 (by decide) h (fun q h => ?_) (fun q h => ?_)
  · refine x_sub (lv' := [(0, va_rf (some th)), (1, .int l1), (2, .int l2), (3, .int l3)]) [1, 2, 3, 4] rfl ?_
    exact w_B_object_B35 F hret th l1 l2 l3 h
  · refine x_iload_n F 4 d_B_object_24 rfl rfl ?_
    refine x_if_lt F (tgt := 33) d_B_object_25 (by decide) h (fun q h => ?_) (fun q h => ?_)
    · refine x_iconst F (v := (-1)) d_B_object_33 (by decide) ?_
      exact x_iret F rfl hret d_B_object_34 ⟨_, rfl, h⟩
    · refine x_iload_n F 4 d_B_object_28 rfl rfl ?_
      refine x_iconst F (v := 4) d_B_object_29 (by decide) ?_
      refine x_icmp_le F (tgt := 35) d_B_object_30 (by decide) h (fun q h => ?_) (fun q h => ?_)
      · refine x_sub (lv' := [(0, va_rf (some th)), (1, .int l1), (2, .int l2), (3, .int l3)]) [1, 2, 3, 4] rfl ?_
        exact w_B_object_B35 F hret th l1 l2 l3 h
      · refine x_iconst F (v := (-1)) d_B_object_33 (by decide) ?_
        exact x_iret F rfl hret d_B_object_34 ⟨_, rfl, h⟩
set_option maxHeartbeats 4000000 in
set_option maxRecDepth 100000 in
theorem w_B_object_B16 {p : Program} {l : Launch} {e : Env} {s : State} {m : MethodId} {args : Array Value} {below : List Frame} {meth : Method} {c : Code} {C0 S0 : Nat} {D : va_G} {dA : Nat → ClassId} {base : Nat} {sa : Nat → Nat} (F : xFix p { frames := 3, cells := C0, slots := S0, locals := 70 } s m args meth c b_B_object 5 "BlockSearch" D dA base sa) (hret : meth.sig.returnType = (some FieldType.int)) {K : Int32 → xS → Prop} (th : Nat) (l1 : Int32) (l2 : Int32) (l3 : Int32)  {G : xS} (h : p_B_object_B16 th l1 l2 l3 K  G) : X_B_object p l e s m args below meth c C0 S0 K D dA base sa 16 [(0, va_rf (some th)), (1, .int l1), (2, .int l2), (3, .int l3)] [] G := by
  unfold p_B_object_B16 at h
  refine x_iconst F (v := 0) d_B_object_16 (by decide) ?_
  exact w_B_object_B17 F hret th l1 l2 l3 0 h
set_option maxHeartbeats 4000000 in
set_option maxRecDepth 100000 in
theorem c_B_object (l : Launch) (D : va_G) (dA : Nat → ClassId) (base : Nat) (sa : Nat → Nat) (th : Nat) (l1 : Int32) (l2 : Int32) (l3 : Int32) (K : Int32 → xS → Prop) (G : xS) (h : p_B_object th l1 l2 l3 K G) : xMet l y_B_object b_B_object 5 (some FieldType.int) 3 70 D dA base sa [va_rf (some th), .int l1, .int l2, .int l3] G (fun v G2 => ∃ r : Int32, v = some (.int r) ∧ K r G2) := by
  refine xMet.of (by decide) (by simp [x_cat, x_catI]) (Nat.le_of_ble_eq_true rfl) ?_
  intro p e s m args below meth c F hret hname
  unfold p_B_object at h
  refine x_sub (lv' := [(0, va_rf (some th)), (1, .int l1), (2, .int l2), (3, .int l3)]) [0, 1, 2, 3] rfl ?_
  refine x_iload_n F 3 d_B_object_0 rfl rfl ?_
  refine x_bipush F (v := 10) d_B_object_1 (by decide) ?_
  refine x_icmp_lt F (tgt := 16) d_B_object_3 (by decide) h (fun q h => ?_) (fun q h => ?_)
  · exact w_B_object_B16 F hret th l1 l2 l3 h
  · refine x_iload_n F 3 d_B_object_6 rfl rfl ?_
    refine x_bipush F (v := 14) d_B_object_7 (by decide) ?_
    refine x_icmp_ge F (tgt := 16) d_B_object_9 (by decide) h (fun q h => ?_) (fun q h => ?_)
    · exact w_B_object_B16 F hret th l1 l2 l3 h
    · refine x_iconst F (v := 1) d_B_object_12 (by decide) ?_
      refine x_goto F (tgt := 17) d_B_object_13 (by decide) ?_
      exact w_B_object_B17 F hret th l1 l2 l3 1 h
def p_B_type (th : Nat) (l1 : Int32) (l2 : Int32) (K : Int32 → xS → Prop) : xS → Prop := xcall 0 0 (p_B_isPath l1) fun v1 => xif (v1 = 0) (K (-1)) (xcall 0 0 (p_B_isField l2) fun v2 => xif (v2 = 0) (K (-1)) (xgR 9 1 (some th) fun v3 => xgR 1 0 v3 fun v4 => xalR 2 v4 l1 fun v5 => xal 0 v5 l2 fun v6 => K v6))
abbrev X_B_type (p : Program) (l : Launch) (e : Env) (s : State) (m : MethodId) (args : Array Value) (below : List Frame) (meth : Method) (c : Code) (C0 S0 : Nat) (K : Int32 → xS → Prop) (D : va_G) (dA : Nat → ClassId) (base : Nat) (sa : Nat → Nat) (pc : Nat) (lv : List (Nat × Value)) (st : List Value) (G : xS) : Prop := xW p l e { frames := 1, cells := C0, slots := S0, locals := 20 } s m args below meth c 3 (MQ below (xQ D dA base (fun v G2 => ∃ r : Int32, v = some (.int r) ∧ K r G2)) args s C0 S0 (fun q : Nat => base ≤ q)) D dA base sa pc lv st G
set_option maxHeartbeats 4000000 in
set_option maxRecDepth 100000 in
theorem c_B_type (l : Launch) (D : va_G) (dA : Nat → ClassId) (base : Nat) (sa : Nat → Nat) (th : Nat) (l1 : Int32) (l2 : Int32) (K : Int32 → xS → Prop) (G : xS) (h : p_B_type th l1 l2 K G) : xMet l y_B_type b_B_type 3 (some FieldType.int) 1 20 D dA base sa [va_rf (some th), .int l1, .int l2] G (fun v G2 => ∃ r : Int32, v = some (.int r) ∧ K r G2) := by
  refine xMet.of (by decide) (by simp [x_cat, x_catI]) (Nat.le_of_ble_eq_true rfl) ?_
  intro p e s m args below meth c F hret hname
  unfold p_B_type at h
  refine x_sub (lv' := [(0, va_rf (some th)), (1, .int l1), (2, .int l2)]) [0, 1, 2] rfl ?_
  refine x_iload_n F 1 d_B_type_0 rfl rfl ?_
  refine x_callS F (enc := fun r => some (.int r)) (P := p_B_isPath l1) (n := 1) (As := [.int l1]) (st := []) k_237 k_1 k_236 k_235 ⟨by decide, by decide, by decide +kernel⟩ rfl ⟨Nat.le_of_ble_eq_true rfl, Nat.le_of_ble_eq_true rfl⟩ (by simp [x_cat, x_catI, x_catL]) (fun K' G' h' _ => c_B_isPath l D dA base sa l1 K' G' h') d_B_type_1 h (fun v1 G h => ?_)
  refine x_if_eq F (tgt := 14) d_B_type_4 (by decide) h (fun q h => ?_) (fun q h => ?_)
  · refine x_iconst F (v := (-1)) d_B_type_14 (by decide) ?_
    exact x_iret F rfl hret d_B_type_15 ⟨_, rfl, h⟩
  · refine x_iload_n F 2 d_B_type_7 rfl rfl ?_
    refine x_callS F (enc := fun r => some (.int r)) (P := p_B_isField l2) (n := 1) (As := [.int l2]) (st := []) k_296 k_1 k_295 k_294 ⟨by decide, by decide, by decide +kernel⟩ rfl ⟨Nat.le_of_ble_eq_true rfl, Nat.le_of_ble_eq_true rfl⟩ (by simp [x_cat, x_catI, x_catL]) (fun K' G' h' _ => c_B_isField l D dA base sa l2 K' G' h') d_B_type_8 h (fun v2 G h => ?_)
    refine x_if_ne F (tgt := 16) d_B_type_11 (by decide) h (fun q h => ?_) (fun q h => ?_)
    · refine x_aload_n F 0 d_B_type_16 rfl rfl ?_
      refine x_getR F cl_B in_B (k := 1) (by decide) k_198 rfl d_B_type_17 h (fun v3 h => ?_)
      refine x_getR F cl_Mp in_Mp (k := 0) (by decide) k_59 rfl d_B_type_20 h (fun v4 h => ?_)
      refine x_iload_n F 1 d_B_type_23 rfl rfl ?_
      refine x_aald F (t := 2) rfl rfl d_B_type_24 h (fun v5 h => ?_)
      refine x_iload_n F 2 d_B_type_25 rfl rfl ?_
      refine x_iald F (t := 0) rfl d_B_type_26 h (fun v6 h => ?_)
      exact x_iret F rfl hret d_B_type_27 ⟨_, rfl, h⟩
    · refine x_iconst F (v := (-1)) d_B_type_14 (by decide) ?_
      exact x_iret F rfl hret d_B_type_15 ⟨_, rfl, h⟩
def p_B_liveInSegments_L4 (th : Nat) (K : Int32 → xS → Prop) (Kx30 : Int32 → xS → Prop) : Nat → Int32 → Int32 → xS → Prop
  | 0, _, _ => fun _ => False
  | n + 1, l1, l2 => xgI 9 8 (some th) fun v1 => xif (v1 ≤ l2) (Kx30 l1) (xgR 9 3 (some th) fun v2 => xalR 5 v2 l2 fun v3 => xob 8 v3 fun b => xcall 0 0 (p_Rw_liveCount b ) fun v4 => p_B_liveInSegments_L4 th K Kx30 n (l1 + v4) (l2 + 1))
def p_B_liveInSegments (th : Nat) (K : Int32 → xS → Prop) : xS → Prop := p_B_liveInSegments_L4 th K (fun m5 => K m5) 1000 0 0
abbrev X_B_liveInSegments (p : Program) (l : Launch) (e : Env) (s : State) (m : MethodId) (args : Array Value) (below : List Frame) (meth : Method) (c : Code) (C0 S0 : Nat) (K : Int32 → xS → Prop) (D : va_G) (dA : Nat → ClassId) (base : Nat) (sa : Nat → Nat) (pc : Nat) (lv : List (Nat × Value)) (st : List Value) (G : xS) : Prop := xW p l e { frames := 1, cells := C0, slots := S0, locals := 22 } s m args below meth c 3 (MQ below (xQ D dA base (fun v G2 => ∃ r : Int32, v = some (.int r) ∧ K r G2)) args s C0 S0 (fun q : Nat => base ≤ q)) D dA base sa pc lv st G
set_option maxHeartbeats 4000000 in
set_option maxRecDepth 100000 in
theorem w_B_liveInSegments_L4 {p : Program} {l : Launch} {e : Env} {s : State} {m : MethodId} {args : Array Value} {below : List Frame} {meth : Method} {c : Code} {C0 S0 : Nat} {D : va_G} {dA : Nat → ClassId} {base : Nat} {sa : Nat → Nat} (F : xFix p { frames := 1, cells := C0, slots := S0, locals := 22 } s m args meth c b_B_liveInSegments 3 "BlockSearch" D dA base sa) (hret : meth.sig.returnType = (some FieldType.int)) {K : Int32 → xS → Prop} {Kx30 : Int32 → xS → Prop} (th : Nat) (hKx30 : ∀ (l1 : Int32) (G : xS), Kx30 l1 G → X_B_liveInSegments p l e s m args below meth c C0 S0 K D dA base sa 30 [(1, .int l1)] [] G) : ∀ (n : Nat) (l1 : Int32) (l2 : Int32) (G : xS), p_B_liveInSegments_L4 th K Kx30 n l1 l2 G → X_B_liveInSegments p l e s m args below meth c C0 S0 K D dA base sa 4 [(0, va_rf (some th)), (1, .int l1), (2, .int l2)] [] G := by
  intro n
  induction n with
  | zero => intro l1 l2 G h; exact h.elim
  | succ n ih =>
    intro l1 l2 G h
    unfold p_B_liveInSegments_L4 at h
    refine x_iload_n F 2 d_B_liveInSegments_4 rfl rfl ?_
    refine x_aload_n F 0 d_B_liveInSegments_5 rfl rfl ?_
    refine x_getI F cl_B in_B (k := 8) (by decide) k_205 rfl d_B_liveInSegments_6 h (fun v1 h => ?_)
    refine x_icmp_ge F (tgt := 30) d_B_liveInSegments_9 (by decide) h (fun q h => ?_) (fun q h => ?_)
    · refine x_sub (lv' := [(1, .int l1)]) [1] rfl ?_
      exact hKx30 _ _ h
    · refine x_iload_n F 1 d_B_liveInSegments_12 rfl rfl ?_
      refine x_aload_n F 0 d_B_liveInSegments_13 rfl rfl ?_
      refine x_getR F cl_B in_B (k := 3) (by decide) k_200 rfl d_B_liveInSegments_14 h (fun v2 h => ?_)
      refine x_iload_n F 2 d_B_liveInSegments_17 rfl rfl ?_
      refine x_aald F (t := 5) rfl rfl d_B_liveInSegments_18 h (fun v3 h => ?_)
      refine x_callV F (enc := fun r => some (.int r)) (P := fun b => p_Rw_liveCount b ) (n := 0) (As := []) (st := [.int l1]) k_411 k_4 k_409 k_410 k_408 ⟨by decide, by decide, by decide +kernel⟩ rfl ⟨Nat.le_of_ble_eq_true rfl, Nat.le_of_ble_eq_true rfl⟩ (by simp [x_cat, x_catI, x_catL]) cl_Rw rfl (ro := v3) (fun b K' G' h' _ => c_Rw_liveCount l D dA base sa b  K' G' h') d_B_liveInSegments_19 h (fun v4 G h => ?_)
      refine x_iadd F d_B_liveInSegments_22 ?_
      refine x_istore_n F (lv' := [(1, .int (l1 + v4)), (0, va_rf (some th)), (2, .int l2)]) d_B_liveInSegments_23 rfl (by decide) rfl ?_
      refine x_iinc F 2 (v := (l2 + 1)) (lv' := [(2, .int (l2 + 1)), (1, .int (l1 + v4)), (0, va_rf (some th))]) d_B_liveInSegments_24 rfl (congrArg (fun z : Int32 => l2 + z) (by decide)) (by decide) rfl ?_
      refine x_goto F (tgt := 4) d_B_liveInSegments_27 (by decide) ?_
      refine x_sub (lv' := [(0, va_rf (some th)), (1, .int (l1 + v4)), (2, .int (l2 + 1))]) [2, 1, 0] rfl ?_
      exact ih _ _ _ h
set_option maxHeartbeats 4000000 in
set_option maxRecDepth 100000 in
theorem c_B_liveInSegments (l : Launch) (D : va_G) (dA : Nat → ClassId) (base : Nat) (sa : Nat → Nat) (th : Nat) (K : Int32 → xS → Prop) (G : xS) (h : p_B_liveInSegments th K G) : xMet l y_B_liveInSegments b_B_liveInSegments 3 (some FieldType.int) 1 22 D dA base sa [va_rf (some th)] G (fun v G2 => ∃ r : Int32, v = some (.int r) ∧ K r G2) := by
  refine xMet.of (by decide) (by simp [x_cat, x_catI]) (Nat.le_of_ble_eq_true rfl) ?_
  intro p e s m args below meth c F hret hname
  unfold p_B_liveInSegments at h
  refine x_sub (lv' := [(0, va_rf (some th))]) [0] rfl ?_
  refine x_iconst F (v := 0) d_B_liveInSegments_0 (by decide) ?_
  refine x_istore_n F (lv' := [(1, .int 0), (0, va_rf (some th))]) d_B_liveInSegments_1 rfl (by decide) rfl ?_
  refine x_iconst F (v := 0) d_B_liveInSegments_2 (by decide) ?_
  refine x_istore_n F (lv' := [(2, .int 0), (1, .int 0), (0, va_rf (some th))]) d_B_liveInSegments_3 rfl (by decide) rfl ?_
  refine x_sub (lv' := [(0, va_rf (some th)), (1, .int 0), (2, .int 0)]) [2, 1, 0] rfl ?_
  refine w_B_liveInSegments_L4 F hret th (fun m5 G h => ?_) _ _ _ _ h
  refine x_iload_n F 0 d_B_liveInSegments_30 rfl rfl ?_
  exact x_iret F rfl hret d_B_liveInSegments_31 ⟨_, rfl, h⟩
def p_B_deletedInSegments_L4 (th : Nat) (K : Int32 → xS → Prop) (Kx30 : Int32 → xS → Prop) : Nat → Int32 → Int32 → xS → Prop
  | 0, _, _ => fun _ => False
  | n + 1, l1, l2 => xgI 9 8 (some th) fun v1 => xif (v1 ≤ l2) (Kx30 l1) (xgR 9 3 (some th) fun v2 => xalR 5 v2 l2 fun v3 => xob 8 v3 fun b => xcall 0 0 (p_Rw_deletedCount b ) fun v4 => p_B_deletedInSegments_L4 th K Kx30 n (l1 + v4) (l2 + 1))
def p_B_deletedInSegments (th : Nat) (K : Int32 → xS → Prop) : xS → Prop := p_B_deletedInSegments_L4 th K (fun m5 => K m5) 1000 0 0
abbrev X_B_deletedInSegments (p : Program) (l : Launch) (e : Env) (s : State) (m : MethodId) (args : Array Value) (below : List Frame) (meth : Method) (c : Code) (C0 S0 : Nat) (K : Int32 → xS → Prop) (D : va_G) (dA : Nat → ClassId) (base : Nat) (sa : Nat → Nat) (pc : Nat) (lv : List (Nat × Value)) (st : List Value) (G : xS) : Prop := xW p l e { frames := 2, cells := C0, slots := S0, locals := 42 } s m args below meth c 3 (MQ below (xQ D dA base (fun v G2 => ∃ r : Int32, v = some (.int r) ∧ K r G2)) args s C0 S0 (fun q : Nat => base ≤ q)) D dA base sa pc lv st G
set_option maxHeartbeats 4000000 in
set_option maxRecDepth 100000 in
theorem w_B_deletedInSegments_L4 {p : Program} {l : Launch} {e : Env} {s : State} {m : MethodId} {args : Array Value} {below : List Frame} {meth : Method} {c : Code} {C0 S0 : Nat} {D : va_G} {dA : Nat → ClassId} {base : Nat} {sa : Nat → Nat} (F : xFix p { frames := 2, cells := C0, slots := S0, locals := 42 } s m args meth c b_B_deletedInSegments 3 "BlockSearch" D dA base sa) (hret : meth.sig.returnType = (some FieldType.int)) {K : Int32 → xS → Prop} {Kx30 : Int32 → xS → Prop} (th : Nat) (hKx30 : ∀ (l1 : Int32) (G : xS), Kx30 l1 G → X_B_deletedInSegments p l e s m args below meth c C0 S0 K D dA base sa 30 [(1, .int l1)] [] G) : ∀ (n : Nat) (l1 : Int32) (l2 : Int32) (G : xS), p_B_deletedInSegments_L4 th K Kx30 n l1 l2 G → X_B_deletedInSegments p l e s m args below meth c C0 S0 K D dA base sa 4 [(0, va_rf (some th)), (1, .int l1), (2, .int l2)] [] G := by
  intro n
  induction n with
  | zero => intro l1 l2 G h; exact h.elim
  | succ n ih =>
    intro l1 l2 G h
    unfold p_B_deletedInSegments_L4 at h
    refine x_iload_n F 2 d_B_deletedInSegments_4 rfl rfl ?_
    refine x_aload_n F 0 d_B_deletedInSegments_5 rfl rfl ?_
    refine x_getI F cl_B in_B (k := 8) (by decide) k_205 rfl d_B_deletedInSegments_6 h (fun v1 h => ?_)
    refine x_icmp_ge F (tgt := 30) d_B_deletedInSegments_9 (by decide) h (fun q h => ?_) (fun q h => ?_)
    · refine x_sub (lv' := [(1, .int l1)]) [1] rfl ?_
      exact hKx30 _ _ h
    · refine x_iload_n F 1 d_B_deletedInSegments_12 rfl rfl ?_
      refine x_aload_n F 0 d_B_deletedInSegments_13 rfl rfl ?_
      refine x_getR F cl_B in_B (k := 3) (by decide) k_200 rfl d_B_deletedInSegments_14 h (fun v2 h => ?_)
      refine x_iload_n F 2 d_B_deletedInSegments_17 rfl rfl ?_
      refine x_aald F (t := 5) rfl rfl d_B_deletedInSegments_18 h (fun v3 h => ?_)
      refine x_callV F (enc := fun r => some (.int r)) (P := fun b => p_Rw_deletedCount b ) (n := 0) (As := []) (st := [.int l1]) k_428 k_4 k_426 k_427 k_425 ⟨by decide, by decide, by decide +kernel⟩ rfl ⟨Nat.le_of_ble_eq_true rfl, Nat.le_of_ble_eq_true rfl⟩ (by simp [x_cat, x_catI, x_catL]) cl_Rw rfl (ro := v3) (fun b K' G' h' _ => c_Rw_deletedCount l D dA base sa b  K' G' h') d_B_deletedInSegments_19 h (fun v4 G h => ?_)
      refine x_iadd F d_B_deletedInSegments_22 ?_
      refine x_istore_n F (lv' := [(1, .int (l1 + v4)), (0, va_rf (some th)), (2, .int l2)]) d_B_deletedInSegments_23 rfl (by decide) rfl ?_
      refine x_iinc F 2 (v := (l2 + 1)) (lv' := [(2, .int (l2 + 1)), (1, .int (l1 + v4)), (0, va_rf (some th))]) d_B_deletedInSegments_24 rfl (congrArg (fun z : Int32 => l2 + z) (by decide)) (by decide) rfl ?_
      refine x_goto F (tgt := 4) d_B_deletedInSegments_27 (by decide) ?_
      refine x_sub (lv' := [(0, va_rf (some th)), (1, .int (l1 + v4)), (2, .int (l2 + 1))]) [2, 1, 0] rfl ?_
      exact ih _ _ _ h
set_option maxHeartbeats 4000000 in
set_option maxRecDepth 100000 in
theorem c_B_deletedInSegments (l : Launch) (D : va_G) (dA : Nat → ClassId) (base : Nat) (sa : Nat → Nat) (th : Nat) (K : Int32 → xS → Prop) (G : xS) (h : p_B_deletedInSegments th K G) : xMet l y_B_deletedInSegments b_B_deletedInSegments 3 (some FieldType.int) 2 42 D dA base sa [va_rf (some th)] G (fun v G2 => ∃ r : Int32, v = some (.int r) ∧ K r G2) := by
  refine xMet.of (by decide) (by simp [x_cat, x_catI]) (Nat.le_of_ble_eq_true rfl) ?_
  intro p e s m args below meth c F hret hname
  unfold p_B_deletedInSegments at h
  refine x_sub (lv' := [(0, va_rf (some th))]) [0] rfl ?_
  refine x_iconst F (v := 0) d_B_deletedInSegments_0 (by decide) ?_
  refine x_istore_n F (lv' := [(1, .int 0), (0, va_rf (some th))]) d_B_deletedInSegments_1 rfl (by decide) rfl ?_
  refine x_iconst F (v := 0) d_B_deletedInSegments_2 (by decide) ?_
  refine x_istore_n F (lv' := [(2, .int 0), (1, .int 0), (0, va_rf (some th))]) d_B_deletedInSegments_3 rfl (by decide) rfl ?_
  refine x_sub (lv' := [(0, va_rf (some th)), (1, .int 0), (2, .int 0)]) [2, 1, 0] rfl ?_
  refine w_B_deletedInSegments_L4 F hret th (fun m5 G h => ?_) _ _ _ _ h
  refine x_iload_n F 0 d_B_deletedInSegments_30 rfl rfl ?_
  exact x_iret F rfl hret d_B_deletedInSegments_31 ⟨_, rfl, h⟩
def p_B_segmentFact_B40 (th : Nat) (l1 : Int32)  (K : Int32 → xS → Prop) : xS → Prop := xif (l1 < 30) (K (-1)) (xif (36 ≤ l1) (K (-1)) (xgI 9 8 (some th) fun v1 => xif (v1 ≤ (l1 - 30)) (K (-2)) (xgR 9 3 (some th) fun v2 => xalR 5 v2 (l1 - 30) fun v3 => xob 8 v3 fun b => xcall 0 0 (p_Rw_liveCount b ) fun v4 => K v4)))
def p_B_segmentFact (th : Nat) (l1 : Int32) (K : Int32 → xS → Prop) : xS → Prop := xif (l1 < 20) (p_B_segmentFact_B40 th l1 K) (xif (26 ≤ l1) (p_B_segmentFact_B40 th l1 K) (xgI 9 8 (some th) fun v5 => xif (v5 ≤ (l1 - 20)) (K (-2)) (xgR 9 3 (some th) fun v6 => xalR 5 v6 (l1 - 20) fun v7 => xgI 8 2 v7 fun v8 => K v8)))
abbrev X_B_segmentFact (p : Program) (l : Launch) (e : Env) (s : State) (m : MethodId) (args : Array Value) (below : List Frame) (meth : Method) (c : Code) (C0 S0 : Nat) (K : Int32 → xS → Prop) (D : va_G) (dA : Nat → ClassId) (base : Nat) (sa : Nat → Nat) (pc : Nat) (lv : List (Nat × Value)) (st : List Value) (G : xS) : Prop := xW p l e { frames := 1, cells := C0, slots := S0, locals := 22 } s m args below meth c 3 (MQ below (xQ D dA base (fun v G2 => ∃ r : Int32, v = some (.int r) ∧ K r G2)) args s C0 S0 (fun q : Nat => base ≤ q)) D dA base sa pc lv st G
set_option maxHeartbeats 4000000 in
set_option maxRecDepth 100000 in
theorem w_B_segmentFact_B40 {p : Program} {l : Launch} {e : Env} {s : State} {m : MethodId} {args : Array Value} {below : List Frame} {meth : Method} {c : Code} {C0 S0 : Nat} {D : va_G} {dA : Nat → ClassId} {base : Nat} {sa : Nat → Nat} (F : xFix p { frames := 1, cells := C0, slots := S0, locals := 22 } s m args meth c b_B_segmentFact 3 "BlockSearch" D dA base sa) (hret : meth.sig.returnType = (some FieldType.int)) {K : Int32 → xS → Prop} (th : Nat) (l1 : Int32)  {G : xS} (h : p_B_segmentFact_B40 th l1 K  G) : X_B_segmentFact p l e s m args below meth c C0 S0 K D dA base sa 40 [(0, va_rf (some th)), (1, .int l1)] [] G := by
  unfold p_B_segmentFact_B40 at h
  refine x_iload_n F 1 d_B_segmentFact_40 rfl rfl ?_
  refine x_bipush F (v := 30) d_B_segmentFact_41 (by decide) ?_
  refine x_icmp_lt F (tgt := 80) d_B_segmentFact_43 (by decide) h (fun q h => ?_) (fun q h => ?_)
  · refine x_iconst F (v := (-1)) d_B_segmentFact_80 (by decide) ?_
    exact x_iret F rfl hret d_B_segmentFact_81 ⟨_, rfl, h⟩
  · refine x_iload_n F 1 d_B_segmentFact_46 rfl rfl ?_
    refine x_bipush F (v := 36) d_B_segmentFact_47 (by decide) ?_
    refine x_icmp_ge F (tgt := 80) d_B_segmentFact_49 (by decide) h (fun q h => ?_) (fun q h => ?_)
    · refine x_iconst F (v := (-1)) d_B_segmentFact_80 (by decide) ?_
      exact x_iret F rfl hret d_B_segmentFact_81 ⟨_, rfl, h⟩
    · refine x_iload_n F 1 d_B_segmentFact_52 rfl rfl ?_
      refine x_bipush F (v := 30) d_B_segmentFact_53 (by decide) ?_
      refine x_isub F d_B_segmentFact_55 ?_
      refine x_istore_n F (lv' := [(2, .int (l1 - 30)), (0, va_rf (some th)), (1, .int l1)]) d_B_segmentFact_56 rfl (by decide) rfl ?_
      refine x_iload_n F 0 d_B_segmentFact_57 rfl rfl ?_
      refine x_aload_n F 1 d_B_segmentFact_58 rfl rfl ?_
      refine x_getI F cl_B in_B (k := 8) (by decide) k_205 rfl d_B_segmentFact_59 h (fun v1 h => ?_)
      refine x_icmp_ge F (tgt := 77) d_B_segmentFact_62 (by decide) h (fun q h => ?_) (fun q h => ?_)
      · refine x_bipush F (v := (-2)) d_B_segmentFact_77 (by decide) ?_
        exact x_iret F rfl hret d_B_segmentFact_79 ⟨_, rfl, h⟩
      · refine x_aload_n F 1 d_B_segmentFact_65 rfl rfl ?_
        refine x_getR F cl_B in_B (k := 3) (by decide) k_200 rfl d_B_segmentFact_66 h (fun v2 h => ?_)
        refine x_iload_n F 0 d_B_segmentFact_69 rfl rfl ?_
        refine x_aald F (t := 5) rfl rfl d_B_segmentFact_70 h (fun v3 h => ?_)
        refine x_callV F (enc := fun r => some (.int r)) (P := fun b => p_Rw_liveCount b ) (n := 0) (As := []) (st := []) k_411 k_4 k_409 k_410 k_408 ⟨by decide, by decide, by decide +kernel⟩ rfl ⟨Nat.le_of_ble_eq_true rfl, Nat.le_of_ble_eq_true rfl⟩ (by simp [x_cat, x_catI, x_catL]) cl_Rw rfl (ro := v3) (fun b K' G' h' _ => c_Rw_liveCount l D dA base sa b  K' G' h') d_B_segmentFact_71 h (fun v4 G h => ?_)
        refine x_goto F (tgt := 79) d_B_segmentFact_74 (by decide) ?_
        exact x_iret F rfl hret d_B_segmentFact_79 ⟨_, rfl, h⟩
set_option maxHeartbeats 4000000 in
set_option maxRecDepth 100000 in
theorem c_B_segmentFact (l : Launch) (D : va_G) (dA : Nat → ClassId) (base : Nat) (sa : Nat → Nat) (th : Nat) (l1 : Int32) (K : Int32 → xS → Prop) (G : xS) (h : p_B_segmentFact th l1 K G) : xMet l y_B_segmentFact b_B_segmentFact 3 (some FieldType.int) 1 22 D dA base sa [va_rf (some th), .int l1] G (fun v G2 => ∃ r : Int32, v = some (.int r) ∧ K r G2) := by
  refine xMet.of (by decide) (by simp [x_cat, x_catI]) (Nat.le_of_ble_eq_true rfl) ?_
  intro p e s m args below meth c F hret hname
  unfold p_B_segmentFact at h
  refine x_sub (lv' := [(0, va_rf (some th)), (1, .int l1)]) [0, 1] rfl ?_
  refine x_iload_n F 1 d_B_segmentFact_0 rfl rfl ?_
  refine x_bipush F (v := 20) d_B_segmentFact_1 (by decide) ?_
  refine x_icmp_lt F (tgt := 40) d_B_segmentFact_3 (by decide) h (fun q h => ?_) (fun q h => ?_)
  · exact w_B_segmentFact_B40 F hret th l1 h
  · refine x_iload_n F 1 d_B_segmentFact_6 rfl rfl ?_
    refine x_bipush F (v := 26) d_B_segmentFact_7 (by decide) ?_
    refine x_icmp_ge F (tgt := 40) d_B_segmentFact_9 (by decide) h (fun q h => ?_) (fun q h => ?_)
    · exact w_B_segmentFact_B40 F hret th l1 h
    · refine x_iload_n F 1 d_B_segmentFact_12 rfl rfl ?_
      refine x_bipush F (v := 20) d_B_segmentFact_13 (by decide) ?_
      refine x_isub F d_B_segmentFact_15 ?_
      refine x_istore_n F (lv' := [(2, .int (l1 - 20)), (0, va_rf (some th)), (1, .int l1)]) d_B_segmentFact_16 rfl (by decide) rfl ?_
      refine x_iload_n F 0 d_B_segmentFact_17 rfl rfl ?_
      refine x_aload_n F 1 d_B_segmentFact_18 rfl rfl ?_
      refine x_getI F cl_B in_B (k := 8) (by decide) k_205 rfl d_B_segmentFact_19 h (fun v5 h => ?_)
      refine x_icmp_ge F (tgt := 37) d_B_segmentFact_22 (by decide) h (fun q h => ?_) (fun q h => ?_)
      · refine x_bipush F (v := (-2)) d_B_segmentFact_37 (by decide) ?_
        exact x_iret F rfl hret d_B_segmentFact_39 ⟨_, rfl, h⟩
      · refine x_aload_n F 1 d_B_segmentFact_25 rfl rfl ?_
        refine x_getR F cl_B in_B (k := 3) (by decide) k_200 rfl d_B_segmentFact_26 h (fun v6 h => ?_)
        refine x_iload_n F 0 d_B_segmentFact_29 rfl rfl ?_
        refine x_aald F (t := 5) rfl rfl d_B_segmentFact_30 h (fun v7 h => ?_)
        refine x_getI F cl_Rw in_Rw (k := 2) (by decide) k_84 rfl d_B_segmentFact_31 h (fun v8 h => ?_)
        refine x_goto F (tgt := 39) d_B_segmentFact_34 (by decide) ?_
        exact x_iret F rfl hret d_B_segmentFact_39 ⟨_, rfl, h⟩
def p_B_count (th : Nat) (l1 : Int32) (K : Int32 → xS → Prop) : xS → Prop := xif (l1 = 0) (xgI 9 8 (some th) fun v1 => K v1) (xif (l1 = 1) (xgR 9 0 (some th) fun v2 => xgI 6 2 v2 fun v3 => K v3) (xif (l1 = 2) (xgR 9 2 (some th) fun v4 => xgI 8 2 v4 fun v5 => K v5) (xif (l1 = 3) (xgR 9 2 (some th) fun v6 => xob 8 v6 fun b => xcall 0 0 (p_Rw_liveCount b ) fun v7 => xob 9 (some th) fun b => xcall 0 0 (p_B_liveInSegments b ) fun v8 => K (v7 + v8)) (xif (l1 = 4) (xob 9 (some th) fun b => xcall 0 0 (p_B_deletedInSegments b ) fun v9 => K v9) (xif (l1 = 5) (xgI 9 9 (some th) fun v10 => K v10) (xif (l1 = 6) (xgR 9 1 (some th) fun v11 => xgI 1 1 v11 fun v12 => K v12) (xif (l1 = 7) (xgR 9 4 (some th) fun v13 => xgI 4 1 v13 fun v14 => K v14) (xif (l1 = 8) (xgR 9 7 (some th) fun v15 => xgI 0 1 v15 fun v16 => K v16) (xif (l1 = 9) (xgI 9 10 (some th) fun v17 => K v17) (xob 9 (some th) fun b => xcall 0 0 (p_B_segmentFact b l1) fun v18 => K v18))))))))))
abbrev X_B_count (p : Program) (l : Launch) (e : Env) (s : State) (m : MethodId) (args : Array Value) (below : List Frame) (meth : Method) (c : Code) (C0 S0 : Nat) (K : Int32 → xS → Prop) (D : va_G) (dA : Nat → ClassId) (base : Nat) (sa : Nat → Nat) (pc : Nat) (lv : List (Nat × Value)) (st : List Value) (G : xS) : Prop := xW p l e { frames := 3, cells := C0, slots := S0, locals := 64 } s m args below meth c 2 (MQ below (xQ D dA base (fun v G2 => ∃ r : Int32, v = some (.int r) ∧ K r G2)) args s C0 S0 (fun q : Nat => base ≤ q)) D dA base sa pc lv st G
set_option maxHeartbeats 4000000 in
set_option maxRecDepth 100000 in
theorem c_B_count (l : Launch) (D : va_G) (dA : Nat → ClassId) (base : Nat) (sa : Nat → Nat) (th : Nat) (l1 : Int32) (K : Int32 → xS → Prop) (G : xS) (h : p_B_count th l1 K G) : xMet l y_B_count b_B_count 2 (some FieldType.int) 3 64 D dA base sa [va_rf (some th), .int l1] G (fun v G2 => ∃ r : Int32, v = some (.int r) ∧ K r G2) := by
  refine xMet.of (by decide) (by simp [x_cat, x_catI]) (Nat.le_of_ble_eq_true rfl) ?_
  intro p e s m args below meth c F hret hname
  unfold p_B_count at h
  refine x_sub (lv' := [(0, va_rf (some th)), (1, .int l1)]) [0, 1] rfl ?_
  refine x_iload_n F 1 d_B_count_0 rfl rfl ?_
  by_cases q0 : l1 = 0
  · have h := h.1 q0
    refine x_tabIn F (off := 55) (tgt := 56) d_B_count_1 q0 (by decide) (by decide) (by decide) (by decide) ?_
    refine x_aload_n F 0 d_B_count_56 rfl rfl ?_
    refine x_getI F cl_B in_B (k := 8) (by decide) k_205 rfl d_B_count_57 h (fun v1 h => ?_)
    exact x_iret F rfl hret d_B_count_60 ⟨_, rfl, h⟩
  have h := h.2 q0
  by_cases q1 : l1 = 1
  · have h := h.1 q1
    refine x_tabIn F (off := 60) (tgt := 61) d_B_count_1 q1 (by decide) (by decide) (by decide) (by decide) ?_
    refine x_aload_n F 0 d_B_count_61 rfl rfl ?_
    refine x_getR F cl_B in_B (k := 0) (by decide) k_197 rfl d_B_count_62 h (fun v2 h => ?_)
    refine x_getI F cl_Dr in_Dr (k := 2) (by decide) k_38 rfl d_B_count_65 h (fun v3 h => ?_)
    exact x_iret F rfl hret d_B_count_68 ⟨_, rfl, h⟩
  have h := h.2 q1
  by_cases q2 : l1 = 2
  · have h := h.1 q2
    refine x_tabIn F (off := 68) (tgt := 69) d_B_count_1 q2 (by decide) (by decide) (by decide) (by decide) ?_
    refine x_aload_n F 0 d_B_count_69 rfl rfl ?_
    refine x_getR F cl_B in_B (k := 2) (by decide) k_199 rfl d_B_count_70 h (fun v4 h => ?_)
    refine x_getI F cl_Rw in_Rw (k := 2) (by decide) k_84 rfl d_B_count_73 h (fun v5 h => ?_)
    exact x_iret F rfl hret d_B_count_76 ⟨_, rfl, h⟩
  have h := h.2 q2
  by_cases q3 : l1 = 3
  · have h := h.1 q3
    refine x_tabIn F (off := 76) (tgt := 77) d_B_count_1 q3 (by decide) (by decide) (by decide) (by decide) ?_
    refine x_aload_n F 0 d_B_count_77 rfl rfl ?_
    refine x_getR F cl_B in_B (k := 2) (by decide) k_199 rfl d_B_count_78 h (fun v6 h => ?_)
    refine x_callV F (enc := fun r => some (.int r)) (P := fun b => p_Rw_liveCount b ) (n := 0) (As := []) (st := []) k_411 k_4 k_409 k_410 k_408 ⟨by decide, by decide, by decide +kernel⟩ rfl ⟨Nat.le_of_ble_eq_true rfl, Nat.le_of_ble_eq_true rfl⟩ (by simp [x_cat, x_catI, x_catL]) cl_Rw rfl (ro := v6) (fun b K' G' h' _ => c_Rw_liveCount l D dA base sa b  K' G' h') d_B_count_81 h (fun v7 G h => ?_)
    refine x_aload_n F 0 d_B_count_84 rfl rfl ?_
    refine x_callV F (enc := fun r => some (.int r)) (P := fun b => p_B_liveInSegments b ) (n := 0) (As := []) (st := [.int v7]) k_586 k_1 k_585 kp_7 k_583 ⟨by decide, by decide, by decide +kernel⟩ rfl ⟨Nat.le_of_ble_eq_true rfl, Nat.le_of_ble_eq_true rfl⟩ (by simp [x_cat, x_catI, x_catL]) cl_B rfl (ro := some th) (fun b K' G' h' _ => c_B_liveInSegments l D dA base sa b  K' G' h') d_B_count_85 h (fun v8 G h => ?_)
    refine x_iadd F d_B_count_88 ?_
    exact x_iret F rfl hret d_B_count_89 ⟨_, rfl, h⟩
  have h := h.2 q3
  by_cases q4 : l1 = 4
  · have h := h.1 q4
    refine x_tabIn F (off := 89) (tgt := 90) d_B_count_1 q4 (by decide) (by decide) (by decide) (by decide) ?_
    refine x_aload_n F 0 d_B_count_90 rfl rfl ?_
    refine x_callV F (enc := fun r => some (.int r)) (P := fun b => p_B_deletedInSegments b ) (n := 0) (As := []) (st := []) k_590 k_1 k_589 kp_8 k_587 ⟨by decide, by decide, by decide +kernel⟩ rfl ⟨Nat.le_of_ble_eq_true rfl, Nat.le_of_ble_eq_true rfl⟩ (by simp [x_cat, x_catI, x_catL]) cl_B rfl (ro := some th) (fun b K' G' h' _ => c_B_deletedInSegments l D dA base sa b  K' G' h') d_B_count_91 h (fun v9 G h => ?_)
    exact x_iret F rfl hret d_B_count_94 ⟨_, rfl, h⟩
  have h := h.2 q4
  by_cases q5 : l1 = 5
  · have h := h.1 q5
    refine x_tabIn F (off := 94) (tgt := 95) d_B_count_1 q5 (by decide) (by decide) (by decide) (by decide) ?_
    refine x_aload_n F 0 d_B_count_95 rfl rfl ?_
    refine x_getI F cl_B in_B (k := 9) (by decide) k_206 rfl d_B_count_96 h (fun v10 h => ?_)
    exact x_iret F rfl hret d_B_count_99 ⟨_, rfl, h⟩
  have h := h.2 q5
  by_cases q6 : l1 = 6
  · have h := h.1 q6
    refine x_tabIn F (off := 99) (tgt := 100) d_B_count_1 q6 (by decide) (by decide) (by decide) (by decide) ?_
    refine x_aload_n F 0 d_B_count_100 rfl rfl ?_
    refine x_getR F cl_B in_B (k := 1) (by decide) k_198 rfl d_B_count_101 h (fun v11 h => ?_)
    refine x_getI F cl_Mp in_Mp (k := 1) (by decide) k_61 rfl d_B_count_104 h (fun v12 h => ?_)
    exact x_iret F rfl hret d_B_count_107 ⟨_, rfl, h⟩
  have h := h.2 q6
  by_cases q7 : l1 = 7
  · have h := h.1 q7
    refine x_tabIn F (off := 107) (tgt := 108) d_B_count_1 q7 (by decide) (by decide) (by decide) (by decide) ?_
    refine x_aload_n F 0 d_B_count_108 rfl rfl ?_
    refine x_getR F cl_B in_B (k := 4) (by decide) k_201 rfl d_B_count_109 h (fun v13 h => ?_)
    refine x_getI F cl_Sn in_Sn (k := 1) (by decide) k_104 rfl d_B_count_112 h (fun v14 h => ?_)
    exact x_iret F rfl hret d_B_count_115 ⟨_, rfl, h⟩
  have h := h.2 q7
  by_cases q8 : l1 = 8
  · have h := h.1 q8
    refine x_tabIn F (off := 115) (tgt := 116) d_B_count_1 q8 (by decide) (by decide) (by decide) (by decide) ?_
    refine x_aload_n F 0 d_B_count_116 rfl rfl ?_
    refine x_getR F cl_B in_B (k := 7) (by decide) k_204 rfl d_B_count_117 h (fun v15 h => ?_)
    refine x_getI F cl_Hi in_Hi (k := 1) (by decide) k_191 rfl d_B_count_120 h (fun v16 h => ?_)
    exact x_iret F rfl hret d_B_count_123 ⟨_, rfl, h⟩
  have h := h.2 q8
  by_cases q9 : l1 = 9
  · have h := h.1 q9
    refine x_tabIn F (off := 123) (tgt := 124) d_B_count_1 q9 (by decide) (by decide) (by decide) (by decide) ?_
    refine x_aload_n F 0 d_B_count_124 rfl rfl ?_
    refine x_getI F cl_B in_B (k := 10) (by decide) k_207 rfl d_B_count_125 h (fun v17 h => ?_)
    exact x_iret F rfl hret d_B_count_128 ⟨_, rfl, h⟩
  have h := h.2 q9
  refine x_tabOut F (tgt := 129) d_B_count_1 (by have a0 := lv_neT (a := 0) q0 (by decide); have a1 := lv_neT (a := 1) q1 (by decide); have a2 := lv_neT (a := 2) q2 (by decide); have a3 := lv_neT (a := 3) q3 (by decide); have a4 := lv_neT (a := 4) q4 (by decide); have a5 := lv_neT (a := 5) q5 (by decide); have a6 := lv_neT (a := 6) q6 (by decide); have a7 := lv_neT (a := 7) q7 (by decide); have a8 := lv_neT (a := 8) q8 (by decide); have a9 := lv_neT (a := 9) q9 (by decide); omega) (by decide) ?_
  refine x_aload_n F 0 d_B_count_129 rfl rfl ?_
  refine x_iload_n F 1 d_B_count_130 rfl rfl ?_
  refine x_callV F (enc := fun r => some (.int r)) (P := fun b => p_B_segmentFact b l1) (n := 1) (As := [.int l1]) (st := []) k_594 k_1 k_593 kp_9 k_591 ⟨by decide, by decide, by decide +kernel⟩ rfl ⟨Nat.le_of_ble_eq_true rfl, Nat.le_of_ble_eq_true rfl⟩ (by simp [x_cat, x_catI, x_catL]) cl_B rfl (ro := some th) (fun b K' G' h' _ => c_B_segmentFact l D dA base sa b l1 K' G' h') d_B_count_131 h (fun v18 G h => ?_)
  exact x_iret F rfl hret d_B_count_134 ⟨_, rfl, h⟩
def p_M_init (th : Nat) (K : Unit → xS → Prop) : xS → Prop := xnewI 0 10 fun a1 => xpR 10 0 (some th) (some a1) (xnewI 0 10 fun a2 => xpR 10 1 (some th) (some a2) (xnewI 0 10 fun a3 => xpR 10 2 (some th) (some a3) (xnewI 0 40 fun a4 => xpR 10 3 (some th) (some a4) (xnewI 0 40 fun a5 => xpR 10 4 (some th) (some a5) (xnewL 6 40 fun a6 => xpR 10 5 (some th) (some a6) (xpI 10 8 (some th) (-1) (xnewI 0 16 fun a7 => xpR 10 9 (some th) (some a7) (xnewI 0 180 fun a8 => xpR 10 11 (some th) (some a8) (xnewI 0 180 fun a9 => xpR 10 12 (some th) (some a9) (xnewI 0 180 fun a10 => xpR 10 13 (some th) (some a10) (xnewI 0 180 fun a11 => xpR 10 14 (some th) (some a11) (xnewI 0 180 fun a12 => xpR 10 15 (some th) (some a12) (xnewI 1 180 fun a13 => xpR 10 16 (some th) (some a13) (xnewI 1 180 fun a14 => xpR 10 17 (some th) (some a14) (xnewI 0 260 fun a15 => xpR 10 22 (some th) (some a15) (xnewI 0 260 fun a16 => xpR 10 23 (some th) (some a16) (xnewI 0 1040 fun a17 => xpR 10 24 (some th) (some a17) (xnewI 0 1040 fun a18 => xpR 10 25 (some th) (some a18) (xnewL 6 1040 fun a19 => xpR 10 26 (some th) (some a19) (xnewI 0 12 fun a20 => xpR 10 28 (some th) (some a20) (xnewI 0 12 fun a21 => xpR 10 29 (some th) (some a21) (xnewI 0 12 fun a22 => xpR 10 30 (some th) (some a22) (xnewI 0 12 fun a23 => xpR 10 31 (some th) (some a23) (xnewI 0 12 fun a24 => xpR 10 32 (some th) (some a24) (xnewI 0 12 fun a25 => xpR 10 33 (some th) (some a25) (xnewI 0 12 fun a26 => xpR 10 34 (some th) (some a26) (xnewI 0 12 fun a27 => xpR 10 35 (some th) (some a27) (xpI 10 37 (some th) 1 (xnewI 1 120 fun a28 => xpR 10 38 (some th) (some a28) (xnewI 0 120 fun a29 => xpR 10 39 (some th) (some a29) (xnewI 0 180 fun a30 => xpR 10 40 (some th) (some a30) (xnewI 0 180 fun a31 => xpR 10 41 (some th) (some a31) (xnewI 0 180 fun a32 => xpR 10 42 (some th) (some a32) (xnewI 0 180 fun a33 => xpR 10 43 (some th) (some a33) (K ())))))))))))))))))))))))))))))))))))
abbrev X_M_init (p : Program) (l : Launch) (e : Env) (s : State) (m : MethodId) (args : Array Value) (below : List Frame) (meth : Method) (c : Code) (C0 S0 : Nat) (K : Unit → xS → Prop) (D : va_G) (dA : Nat → ClassId) (base : Nat) (sa : Nat → Nat) (pc : Nat) (lv : List (Nat × Value)) (st : List Value) (G : xS) : Prop := xW p l e { frames := 1, cells := C0, slots := S0, locals := 12 } s m args below meth c 1 (MQ below (xQ D dA base (fun v G2 => ∃ r : Unit, v = (none : Option Value) ∧ K r G2)) args s C0 S0 (fun q : Nat => base ≤ q)) D dA base sa pc lv st G
set_option maxHeartbeats 4000000 in
set_option maxRecDepth 100000 in
theorem c_M_init (l : Launch) (D : va_G) (dA : Nat → ClassId) (base : Nat) (sa : Nat → Nat) (th : Nat) (K : Unit → xS → Prop) (G : xS) (h : p_M_init th K G) : xMet l y_M_init b_M_init 1 none 1 12 D dA base sa [va_rf (some th)] G (fun v G2 => ∃ r : Unit, v = none ∧ K r G2) := by
  refine xMet.of (by decide) (by simp [x_cat, x_catI]) (Nat.le_of_ble_eq_true rfl) ?_
  intro p e s m args below meth c F hret hname
  unfold p_M_init at h
  refine x_sub (lv' := [(0, va_rf (some th))]) [0] rfl ?_
  refine x_aload_n F 0 d_M_init_0 rfl rfl ?_
  refine x_obj F k_600 k_20 k_21 d_M_init_1 (Nat.le_of_ble_eq_true rfl) (by simp [x_cat, x_catI, x_catL]) ?_
  refine x_aload_n F 0 d_M_init_4 rfl rfl ?_
  refine x_bipush F (v := 10) d_M_init_5 (by decide) ?_
  refine x_newI F (t := 0) rfl k_70 d_M_init_7 h (fun a1 G h => ?_)
  refine x_putRF F cl_M in_M (k := 0) (by decide) k_601 rfl ty_M n_M rfl hname rfl (Or.inr ⟨_, rfl⟩) d_M_init_9 h (fun G h => ?_)
  refine x_aload_n F 0 d_M_init_12 rfl rfl ?_
  refine x_bipush F (v := 10) d_M_init_13 (by decide) ?_
  refine x_newI F (t := 0) rfl k_70 d_M_init_15 h (fun a2 G h => ?_)
  refine x_putRF F cl_M in_M (k := 1) (by decide) k_602 rfl ty_M n_M rfl hname rfl (Or.inr ⟨_, rfl⟩) d_M_init_17 h (fun G h => ?_)
  refine x_aload_n F 0 d_M_init_20 rfl rfl ?_
  refine x_bipush F (v := 10) d_M_init_21 (by decide) ?_
  refine x_newI F (t := 0) rfl k_70 d_M_init_23 h (fun a3 G h => ?_)
  refine x_putRF F cl_M in_M (k := 2) (by decide) k_603 rfl ty_M n_M rfl hname rfl (Or.inr ⟨_, rfl⟩) d_M_init_25 h (fun G h => ?_)
  refine x_aload_n F 0 d_M_init_28 rfl rfl ?_
  refine x_bipush F (v := 40) d_M_init_29 (by decide) ?_
  refine x_newI F (t := 0) rfl k_70 d_M_init_31 h (fun a4 G h => ?_)
  refine x_putRF F cl_M in_M (k := 3) (by decide) k_604 rfl ty_M n_M rfl hname rfl (Or.inr ⟨_, rfl⟩) d_M_init_33 h (fun G h => ?_)
  refine x_aload_n F 0 d_M_init_36 rfl rfl ?_
  refine x_bipush F (v := 40) d_M_init_37 (by decide) ?_
  refine x_newI F (t := 0) rfl k_70 d_M_init_39 h (fun a5 G h => ?_)
  refine x_putRF F cl_M in_M (k := 4) (by decide) k_605 rfl ty_M n_M rfl hname rfl (Or.inr ⟨_, rfl⟩) d_M_init_41 h (fun G h => ?_)
  refine x_aload_n F 0 d_M_init_44 rfl rfl ?_
  refine x_bipush F (v := 40) d_M_init_45 (by decide) ?_
  refine x_newL F (t := 6) rfl k_737 d_M_init_47 h (fun a6 G h => ?_)
  refine x_putRF F cl_M in_M (k := 5) (by decide) k_606 rfl ty_M n_M rfl hname rfl (Or.inr ⟨_, rfl⟩) d_M_init_49 h (fun G h => ?_)
  refine x_aload_n F 0 d_M_init_52 rfl rfl ?_
  refine x_iconst F (v := (-1)) d_M_init_53 (by decide) ?_
  refine x_putI F cl_M in_M (k := 8) (by decide) k_609 rfl ty_M n_M rfl rfl d_M_init_54 h (fun G h => ?_)
  refine x_aload_n F 0 d_M_init_57 rfl rfl ?_
  refine x_bipush F (v := 16) d_M_init_58 (by decide) ?_
  refine x_newI F (t := 0) rfl k_70 d_M_init_60 h (fun a7 G h => ?_)
  refine x_putRF F cl_M in_M (k := 9) (by decide) k_610 rfl ty_M n_M rfl hname rfl (Or.inr ⟨_, rfl⟩) d_M_init_62 h (fun G h => ?_)
  refine x_aload_n F 0 d_M_init_65 rfl rfl ?_
  refine x_sipush F (v := 180) d_M_init_66 (by decide) ?_
  refine x_newI F (t := 0) rfl k_70 d_M_init_69 h (fun a8 G h => ?_)
  refine x_putRF F cl_M in_M (k := 11) (by decide) k_612 rfl ty_M n_M rfl hname rfl (Or.inr ⟨_, rfl⟩) d_M_init_71 h (fun G h => ?_)
  refine x_aload_n F 0 d_M_init_74 rfl rfl ?_
  refine x_sipush F (v := 180) d_M_init_75 (by decide) ?_
  refine x_newI F (t := 0) rfl k_70 d_M_init_78 h (fun a9 G h => ?_)
  refine x_putRF F cl_M in_M (k := 12) (by decide) k_613 rfl ty_M n_M rfl hname rfl (Or.inr ⟨_, rfl⟩) d_M_init_80 h (fun G h => ?_)
  refine x_aload_n F 0 d_M_init_83 rfl rfl ?_
  refine x_sipush F (v := 180) d_M_init_84 (by decide) ?_
  refine x_newI F (t := 0) rfl k_70 d_M_init_87 h (fun a10 G h => ?_)
  refine x_putRF F cl_M in_M (k := 13) (by decide) k_614 rfl ty_M n_M rfl hname rfl (Or.inr ⟨_, rfl⟩) d_M_init_89 h (fun G h => ?_)
  refine x_aload_n F 0 d_M_init_92 rfl rfl ?_
  refine x_sipush F (v := 180) d_M_init_93 (by decide) ?_
  refine x_newI F (t := 0) rfl k_70 d_M_init_96 h (fun a11 G h => ?_)
  refine x_putRF F cl_M in_M (k := 14) (by decide) k_615 rfl ty_M n_M rfl hname rfl (Or.inr ⟨_, rfl⟩) d_M_init_98 h (fun G h => ?_)
  refine x_aload_n F 0 d_M_init_101 rfl rfl ?_
  refine x_sipush F (v := 180) d_M_init_102 (by decide) ?_
  refine x_newI F (t := 0) rfl k_70 d_M_init_105 h (fun a12 G h => ?_)
  refine x_putRF F cl_M in_M (k := 15) (by decide) k_616 rfl ty_M n_M rfl hname rfl (Or.inr ⟨_, rfl⟩) d_M_init_107 h (fun G h => ?_)
  refine x_aload_n F 0 d_M_init_110 rfl rfl ?_
  refine x_sipush F (v := 180) d_M_init_111 (by decide) ?_
  refine x_newZ F (t := 1) rfl k_128 d_M_init_114 h (fun a13 G h => ?_)
  refine x_putRF F cl_M in_M (k := 16) (by decide) k_617 rfl ty_M n_M rfl hname rfl (Or.inr ⟨_, rfl⟩) d_M_init_116 h (fun G h => ?_)
  refine x_aload_n F 0 d_M_init_119 rfl rfl ?_
  refine x_sipush F (v := 180) d_M_init_120 (by decide) ?_
  refine x_newZ F (t := 1) rfl k_128 d_M_init_123 h (fun a14 G h => ?_)
  refine x_putRF F cl_M in_M (k := 17) (by decide) k_618 rfl ty_M n_M rfl hname rfl (Or.inr ⟨_, rfl⟩) d_M_init_125 h (fun G h => ?_)
  refine x_aload_n F 0 d_M_init_128 rfl rfl ?_
  refine x_sipush F (v := 260) d_M_init_129 (by decide) ?_
  refine x_newI F (t := 0) rfl k_70 d_M_init_132 h (fun a15 G h => ?_)
  refine x_putRF F cl_M in_M (k := 22) (by decide) k_623 rfl ty_M n_M rfl hname rfl (Or.inr ⟨_, rfl⟩) d_M_init_134 h (fun G h => ?_)
  refine x_aload_n F 0 d_M_init_137 rfl rfl ?_
  refine x_sipush F (v := 260) d_M_init_138 (by decide) ?_
  refine x_newI F (t := 0) rfl k_70 d_M_init_141 h (fun a16 G h => ?_)
  refine x_putRF F cl_M in_M (k := 23) (by decide) k_624 rfl ty_M n_M rfl hname rfl (Or.inr ⟨_, rfl⟩) d_M_init_143 h (fun G h => ?_)
  refine x_aload_n F 0 d_M_init_146 rfl rfl ?_
  refine x_sipush F (v := 1040) d_M_init_147 (by decide) ?_
  refine x_newI F (t := 0) rfl k_70 d_M_init_150 h (fun a17 G h => ?_)
  refine x_putRF F cl_M in_M (k := 24) (by decide) k_625 rfl ty_M n_M rfl hname rfl (Or.inr ⟨_, rfl⟩) d_M_init_152 h (fun G h => ?_)
  refine x_aload_n F 0 d_M_init_155 rfl rfl ?_
  refine x_sipush F (v := 1040) d_M_init_156 (by decide) ?_
  refine x_newI F (t := 0) rfl k_70 d_M_init_159 h (fun a18 G h => ?_)
  refine x_putRF F cl_M in_M (k := 25) (by decide) k_626 rfl ty_M n_M rfl hname rfl (Or.inr ⟨_, rfl⟩) d_M_init_161 h (fun G h => ?_)
  refine x_aload_n F 0 d_M_init_164 rfl rfl ?_
  refine x_sipush F (v := 1040) d_M_init_165 (by decide) ?_
  refine x_newL F (t := 6) rfl k_737 d_M_init_168 h (fun a19 G h => ?_)
  refine x_putRF F cl_M in_M (k := 26) (by decide) k_627 rfl ty_M n_M rfl hname rfl (Or.inr ⟨_, rfl⟩) d_M_init_170 h (fun G h => ?_)
  refine x_aload_n F 0 d_M_init_173 rfl rfl ?_
  refine x_bipush F (v := 12) d_M_init_174 (by decide) ?_
  refine x_newI F (t := 0) rfl k_70 d_M_init_176 h (fun a20 G h => ?_)
  refine x_putRF F cl_M in_M (k := 28) (by decide) k_629 rfl ty_M n_M rfl hname rfl (Or.inr ⟨_, rfl⟩) d_M_init_178 h (fun G h => ?_)
  refine x_aload_n F 0 d_M_init_181 rfl rfl ?_
  refine x_bipush F (v := 12) d_M_init_182 (by decide) ?_
  refine x_newI F (t := 0) rfl k_70 d_M_init_184 h (fun a21 G h => ?_)
  refine x_putRF F cl_M in_M (k := 29) (by decide) k_630 rfl ty_M n_M rfl hname rfl (Or.inr ⟨_, rfl⟩) d_M_init_186 h (fun G h => ?_)
  refine x_aload_n F 0 d_M_init_189 rfl rfl ?_
  refine x_bipush F (v := 12) d_M_init_190 (by decide) ?_
  refine x_newI F (t := 0) rfl k_70 d_M_init_192 h (fun a22 G h => ?_)
  refine x_putRF F cl_M in_M (k := 30) (by decide) k_631 rfl ty_M n_M rfl hname rfl (Or.inr ⟨_, rfl⟩) d_M_init_194 h (fun G h => ?_)
  refine x_aload_n F 0 d_M_init_197 rfl rfl ?_
  refine x_bipush F (v := 12) d_M_init_198 (by decide) ?_
  refine x_newI F (t := 0) rfl k_70 d_M_init_200 h (fun a23 G h => ?_)
  refine x_putRF F cl_M in_M (k := 31) (by decide) k_632 rfl ty_M n_M rfl hname rfl (Or.inr ⟨_, rfl⟩) d_M_init_202 h (fun G h => ?_)
  refine x_aload_n F 0 d_M_init_205 rfl rfl ?_
  refine x_bipush F (v := 12) d_M_init_206 (by decide) ?_
  refine x_newI F (t := 0) rfl k_70 d_M_init_208 h (fun a24 G h => ?_)
  refine x_putRF F cl_M in_M (k := 32) (by decide) k_633 rfl ty_M n_M rfl hname rfl (Or.inr ⟨_, rfl⟩) d_M_init_210 h (fun G h => ?_)
  refine x_aload_n F 0 d_M_init_213 rfl rfl ?_
  refine x_bipush F (v := 12) d_M_init_214 (by decide) ?_
  refine x_newI F (t := 0) rfl k_70 d_M_init_216 h (fun a25 G h => ?_)
  refine x_putRF F cl_M in_M (k := 33) (by decide) k_634 rfl ty_M n_M rfl hname rfl (Or.inr ⟨_, rfl⟩) d_M_init_218 h (fun G h => ?_)
  refine x_aload_n F 0 d_M_init_221 rfl rfl ?_
  refine x_bipush F (v := 12) d_M_init_222 (by decide) ?_
  refine x_newI F (t := 0) rfl k_70 d_M_init_224 h (fun a26 G h => ?_)
  refine x_putRF F cl_M in_M (k := 34) (by decide) k_635 rfl ty_M n_M rfl hname rfl (Or.inr ⟨_, rfl⟩) d_M_init_226 h (fun G h => ?_)
  refine x_aload_n F 0 d_M_init_229 rfl rfl ?_
  refine x_bipush F (v := 12) d_M_init_230 (by decide) ?_
  refine x_newI F (t := 0) rfl k_70 d_M_init_232 h (fun a27 G h => ?_)
  refine x_putRF F cl_M in_M (k := 35) (by decide) k_636 rfl ty_M n_M rfl hname rfl (Or.inr ⟨_, rfl⟩) d_M_init_234 h (fun G h => ?_)
  refine x_aload_n F 0 d_M_init_237 rfl rfl ?_
  refine x_iconst F (v := 1) d_M_init_238 (by decide) ?_
  refine x_putI F cl_M in_M (k := 37) (by decide) k_638 rfl ty_M n_M rfl rfl d_M_init_239 h (fun G h => ?_)
  refine x_aload_n F 0 d_M_init_242 rfl rfl ?_
  refine x_bipush F (v := 120) d_M_init_243 (by decide) ?_
  refine x_newZ F (t := 1) rfl k_128 d_M_init_245 h (fun a28 G h => ?_)
  refine x_putRF F cl_M in_M (k := 38) (by decide) k_639 rfl ty_M n_M rfl hname rfl (Or.inr ⟨_, rfl⟩) d_M_init_247 h (fun G h => ?_)
  refine x_aload_n F 0 d_M_init_250 rfl rfl ?_
  refine x_bipush F (v := 120) d_M_init_251 (by decide) ?_
  refine x_newI F (t := 0) rfl k_70 d_M_init_253 h (fun a29 G h => ?_)
  refine x_putRF F cl_M in_M (k := 39) (by decide) k_640 rfl ty_M n_M rfl hname rfl (Or.inr ⟨_, rfl⟩) d_M_init_255 h (fun G h => ?_)
  refine x_aload_n F 0 d_M_init_258 rfl rfl ?_
  refine x_sipush F (v := 180) d_M_init_259 (by decide) ?_
  refine x_newI F (t := 0) rfl k_70 d_M_init_262 h (fun a30 G h => ?_)
  refine x_putRF F cl_M in_M (k := 40) (by decide) k_641 rfl ty_M n_M rfl hname rfl (Or.inr ⟨_, rfl⟩) d_M_init_264 h (fun G h => ?_)
  refine x_aload_n F 0 d_M_init_267 rfl rfl ?_
  refine x_sipush F (v := 180) d_M_init_268 (by decide) ?_
  refine x_newI F (t := 0) rfl k_70 d_M_init_271 h (fun a31 G h => ?_)
  refine x_putRF F cl_M in_M (k := 41) (by decide) k_642 rfl ty_M n_M rfl hname rfl (Or.inr ⟨_, rfl⟩) d_M_init_273 h (fun G h => ?_)
  refine x_aload_n F 0 d_M_init_276 rfl rfl ?_
  refine x_sipush F (v := 180) d_M_init_277 (by decide) ?_
  refine x_newI F (t := 0) rfl k_70 d_M_init_280 h (fun a32 G h => ?_)
  refine x_putRF F cl_M in_M (k := 42) (by decide) k_643 rfl ty_M n_M rfl hname rfl (Or.inr ⟨_, rfl⟩) d_M_init_282 h (fun G h => ?_)
  refine x_aload_n F 0 d_M_init_285 rfl rfl ?_
  refine x_sipush F (v := 180) d_M_init_286 (by decide) ?_
  refine x_newI F (t := 0) rfl k_70 d_M_init_289 h (fun a33 G h => ?_)
  refine x_putRF F cl_M in_M (k := 43) (by decide) k_644 rfl ty_M n_M rfl hname rfl (Or.inr ⟨_, rfl⟩) d_M_init_291 h (fun G h => ?_)
  exact x_vret F rfl hret d_M_init_294 ⟨(), rfl, h⟩
def p_M_in (l0 : Int32) (l1 : Int32) (l2 : Int32) (K : Int32 → xS → Prop) : xS → Prop := xif (l0 < l1) (xrz 0 K) (xif (l2 < l0) (xrz 0 K) (xrz 1 K))
abbrev X_M_in (p : Program) (l : Launch) (e : Env) (s : State) (m : MethodId) (args : Array Value) (below : List Frame) (meth : Method) (c : Code) (C0 S0 : Nat) (K : Int32 → xS → Prop) (D : va_G) (dA : Nat → ClassId) (base : Nat) (sa : Nat → Nat) (pc : Nat) (lv : List (Nat × Value)) (st : List Value) (G : xS) : Prop := xW p l e { frames := 0, cells := C0, slots := S0, locals := 0 } s m args below meth c 3 (MQ below (xQ D dA base (fun v G2 => ∃ r : Int32, v = some (.int r) ∧ K r G2)) args s C0 S0 (fun q : Nat => base ≤ q)) D dA base sa pc lv st G
set_option maxHeartbeats 4000000 in
set_option maxRecDepth 100000 in
theorem c_M_in (l : Launch) (D : va_G) (dA : Nat → ClassId) (base : Nat) (sa : Nat → Nat) (l0 : Int32) (l1 : Int32) (l2 : Int32) (K : Int32 → xS → Prop) (G : xS) (h : p_M_in l0 l1 l2 K G) : xMet l y_M_in b_M_in 3 (some FieldType.boolean) 0 0 D dA base sa [.int l0, .int l1, .int l2] G (fun v G2 => ∃ r : Int32, v = some (.int r) ∧ K r G2) := by
  refine xMet.of (by decide) (by simp [x_cat, x_catI]) (Nat.le_of_ble_eq_true rfl) ?_
  intro p e s m args below meth c F hret hname
  unfold p_M_in at h
  refine x_sub (lv' := [(0, .int l0), (1, .int l1), (2, .int l2)]) [0, 1, 2] rfl ?_
  refine x_iload_n F 0 d_M_in_0 rfl rfl ?_
  refine x_iload_n F 1 d_M_in_1 rfl rfl ?_
  refine x_icmp_lt F (tgt := 14) d_M_in_2 (by decide) h (fun q h => ?_) (fun q h => ?_)
  · refine x_iconst F (v := 0) d_M_in_14 (by decide) ?_
    exact x_zret F rfl hret d_M_in_15 h (fun h => ⟨_, rfl, h⟩)
  · refine x_iload_n F 0 d_M_in_5 rfl rfl ?_
    refine x_iload_n F 2 d_M_in_6 rfl rfl ?_
    refine x_icmp_gt F (tgt := 14) d_M_in_7 (by decide) h (fun q h => ?_) (fun q h => ?_)
    · refine x_iconst F (v := 0) d_M_in_14 (by decide) ?_
      exact x_zret F rfl hret d_M_in_15 h (fun h => ⟨_, rfl, h⟩)
    · refine x_iconst F (v := 1) d_M_in_10 (by decide) ?_
      refine x_goto F (tgt := 15) d_M_in_11 (by decide) ?_
      exact x_zret F rfl hret d_M_in_15 h (fun h => ⟨_, rfl, h⟩)
def p_M_parentOf (l0 : Int32) (K : Int32 → xS → Prop) : xS → Prop := xif (l0 = 0) (K (-1)) (xif (l0 = 2) (K 1) (K 0))
abbrev X_M_parentOf (p : Program) (l : Launch) (e : Env) (s : State) (m : MethodId) (args : Array Value) (below : List Frame) (meth : Method) (c : Code) (C0 S0 : Nat) (K : Int32 → xS → Prop) (D : va_G) (dA : Nat → ClassId) (base : Nat) (sa : Nat → Nat) (pc : Nat) (lv : List (Nat × Value)) (st : List Value) (G : xS) : Prop := xW p l e { frames := 0, cells := C0, slots := S0, locals := 0 } s m args below meth c 1 (MQ below (xQ D dA base (fun v G2 => ∃ r : Int32, v = some (.int r) ∧ K r G2)) args s C0 S0 (fun q : Nat => base ≤ q)) D dA base sa pc lv st G
set_option maxHeartbeats 4000000 in
set_option maxRecDepth 100000 in
theorem c_M_parentOf (l : Launch) (D : va_G) (dA : Nat → ClassId) (base : Nat) (sa : Nat → Nat) (l0 : Int32) (K : Int32 → xS → Prop) (G : xS) (h : p_M_parentOf l0 K G) : xMet l y_M_parentOf b_M_parentOf 1 (some FieldType.int) 0 0 D dA base sa [.int l0] G (fun v G2 => ∃ r : Int32, v = some (.int r) ∧ K r G2) := by
  refine xMet.of (by decide) (by simp [x_cat, x_catI]) (Nat.le_of_ble_eq_true rfl) ?_
  intro p e s m args below meth c F hret hname
  unfold p_M_parentOf at h
  refine x_sub (lv' := [(0, .int l0)]) [0] rfl ?_
  refine x_iload_n F 0 d_M_parentOf_0 rfl rfl ?_
  refine x_if_ne F (tgt := 8) d_M_parentOf_1 (by decide) h (fun q h => ?_) (fun q h => ?_)
  · refine x_iload_n F 0 d_M_parentOf_8 rfl rfl ?_
    refine x_iconst F (v := 2) d_M_parentOf_9 (by decide) ?_
    refine x_icmp_ne F (tgt := 17) d_M_parentOf_10 (by decide) h (fun q h => ?_) (fun q h => ?_)
    · refine x_iconst F (v := 0) d_M_parentOf_17 (by decide) ?_
      exact x_iret F rfl hret d_M_parentOf_18 ⟨_, rfl, h⟩
    · refine x_iconst F (v := 1) d_M_parentOf_13 (by decide) ?_
      refine x_goto F (tgt := 18) d_M_parentOf_14 (by decide) ?_
      exact x_iret F rfl hret d_M_parentOf_18 ⟨_, rfl, h⟩
  · refine x_iconst F (v := (-1)) d_M_parentOf_4 (by decide) ?_
    refine x_goto F (tgt := 18) d_M_parentOf_5 (by decide) ?_
    exact x_iret F rfl hret d_M_parentOf_18 ⟨_, rfl, h⟩
def p_M_open_L98 (th : Nat) (K : Int32 → xS → Prop) (Kx151 : xS → Prop) : Nat → Int32 → xS → Prop
  | 0, _ => fun _ => False
  | n + 1, l2 => xif (4 ≤ l2) (Kx151) (xgR 10 3 (some th) fun v16 => xgI 10 6 (some th) fun v17 => xas 0 v16 ((4 * v17) + l2) 0 (xgR 10 4 (some th) fun v18 => xgI 10 6 (some th) fun v19 => xas 0 v18 ((4 * v19) + l2) 0 (xgR 10 5 (some th) fun v20 => xgI 10 6 (some th) fun v21 => xasL 6 v20 ((4 * v21) + l2) 0 (p_M_open_L98 th K Kx151 n (l2 + 1)))))
def p_M_open_B51 (th : Nat) (l1 : Int32)  (K : Int32 → xS → Prop) : xS → Prop := xgI 10 6 (some th) fun v8 => xif (v8 = 10) (K (-3)) (xgR 10 0 (some th) fun v9 => xgI 10 6 (some th) fun v10 => xas 0 v9 v10 l1 (xgR 10 1 (some th) fun v11 => xgI 10 6 (some th) fun v12 => xgI 10 8 (some th) fun v13 => xas 0 v11 v12 v13 (xgR 10 2 (some th) fun v14 => xgI 10 6 (some th) fun v15 => xas 0 v14 v15 (-1) (p_M_open_L98 th K (xgI 10 6 (some th) fun v22 => xpI 10 8 (some th) v22 (xgI 10 6 (some th) fun v23 => xpI 10 6 (some th) (v23 + 1) (xgI 10 6 (some th) fun v24 => K v24))) 1000 0))))
def p_M_open (th : Nat) (l1 : Int32) (K : Int32 → xS → Prop) : xS → Prop := xcall 0 0 (p_M_in l1 0 3) fun v1 => xif (v1 = 0) (K (-1)) (xgI 10 6 (some th) fun v2 => xif (v2 = 0) (xif (l1 = 0) (p_M_open_B51 th l1 K) (K (-2))) (xgI 10 8 (some th) fun v3 => xif (v3 < 0) (K (-2)) (xgR 10 0 (some th) fun v4 => xgI 10 8 (some th) fun v5 => xal 0 v4 v5 fun v6 => xcall 0 0 (p_M_parentOf l1) fun v7 => xif (v6 = v7) (p_M_open_B51 th l1 K) (K (-2)))))
abbrev X_M_open (p : Program) (l : Launch) (e : Env) (s : State) (m : MethodId) (args : Array Value) (below : List Frame) (meth : Method) (c : Code) (C0 S0 : Nat) (K : Int32 → xS → Prop) (D : va_G) (dA : Nat → ClassId) (base : Nat) (sa : Nat → Nat) (pc : Nat) (lv : List (Nat × Value)) (st : List Value) (G : xS) : Prop := xW p l e { frames := 1, cells := C0, slots := S0, locals := 22 } s m args below meth c 3 (MQ below (xQ D dA base (fun v G2 => ∃ r : Int32, v = some (.int r) ∧ K r G2)) args s C0 S0 (fun q : Nat => base ≤ q)) D dA base sa pc lv st G
set_option maxHeartbeats 4000000 in
set_option maxRecDepth 100000 in
theorem w_M_open_L98 {p : Program} {l : Launch} {e : Env} {s : State} {m : MethodId} {args : Array Value} {below : List Frame} {meth : Method} {c : Code} {C0 S0 : Nat} {D : va_G} {dA : Nat → ClassId} {base : Nat} {sa : Nat → Nat} (F : xFix p { frames := 1, cells := C0, slots := S0, locals := 22 } s m args meth c b_M_open 3 "BlockSearchModel" D dA base sa) (hret : meth.sig.returnType = (some FieldType.int)) {K : Int32 → xS → Prop} {Kx151 : xS → Prop} (th : Nat) (hKx151 : ∀ (G : xS), Kx151  G → X_M_open p l e s m args below meth c C0 S0 K D dA base sa 151 [(0, va_rf (some th))] [] G) : ∀ (n : Nat) (l2 : Int32) (G : xS), p_M_open_L98 th K Kx151 n l2 G → X_M_open p l e s m args below meth c C0 S0 K D dA base sa 98 [(0, va_rf (some th)), (2, .int l2)] [] G := by
  intro n
  induction n with
  | zero => intro l2 G h; exact h.elim
  | succ n ih =>
    intro l2 G h
    unfold p_M_open_L98 at h
    refine x_iload_n F 1 d_M_open_98 rfl rfl ?_
    refine x_iconst F (v := 4) d_M_open_99 (by decide) ?_
    refine x_icmp_ge F (tgt := 151) d_M_open_100 (by decide) h (fun q h => ?_) (fun q h => ?_)
    · refine x_sub (lv' := [(0, va_rf (some th))]) [0] rfl ?_
      exact hKx151  _ h
    · refine x_aload_n F 0 d_M_open_103 rfl rfl ?_
      refine x_getR F cl_M in_M (k := 3) (by decide) k_604 rfl d_M_open_104 h (fun v16 h => ?_)
      refine x_iconst F (v := 4) d_M_open_107 (by decide) ?_
      refine x_aload_n F 0 d_M_open_108 rfl rfl ?_
      refine x_getI F cl_M in_M (k := 6) (by decide) k_607 rfl d_M_open_109 h (fun v17 h => ?_)
      refine x_imul F d_M_open_112 ?_
      refine x_iload_n F 1 d_M_open_113 rfl rfl ?_
      refine x_iadd F d_M_open_114 ?_
      refine x_iconst F (v := 0) d_M_open_115 (by decide) ?_
      refine x_iast F (t := 0) rfl d_M_open_116 h (fun G h => ?_)
      refine x_aload_n F 0 d_M_open_117 rfl rfl ?_
      refine x_getR F cl_M in_M (k := 4) (by decide) k_605 rfl d_M_open_118 h (fun v18 h => ?_)
      refine x_iconst F (v := 4) d_M_open_121 (by decide) ?_
      refine x_aload_n F 0 d_M_open_122 rfl rfl ?_
      refine x_getI F cl_M in_M (k := 6) (by decide) k_607 rfl d_M_open_123 h (fun v19 h => ?_)
      refine x_imul F d_M_open_126 ?_
      refine x_iload_n F 1 d_M_open_127 rfl rfl ?_
      refine x_iadd F d_M_open_128 ?_
      refine x_iconst F (v := 0) d_M_open_129 (by decide) ?_
      refine x_iast F (t := 0) rfl d_M_open_130 h (fun G h => ?_)
      refine x_aload_n F 0 d_M_open_131 rfl rfl ?_
      refine x_getR F cl_M in_M (k := 5) (by decide) k_606 rfl d_M_open_132 h (fun v20 h => ?_)
      refine x_iconst F (v := 4) d_M_open_135 (by decide) ?_
      refine x_aload_n F 0 d_M_open_136 rfl rfl ?_
      refine x_getI F cl_M in_M (k := 6) (by decide) k_607 rfl d_M_open_137 h (fun v21 h => ?_)
      refine x_imul F d_M_open_140 ?_
      refine x_iload_n F 1 d_M_open_141 rfl rfl ?_
      refine x_iadd F d_M_open_142 ?_
      refine x_lconst F (v := 0) d_M_open_143 (by decide) ?_
      refine x_last F (t := 6) rfl d_M_open_144 h (fun G h => ?_)
      refine x_iinc F 1 (v := (l2 + 1)) (lv' := [(2, .int (l2 + 1)), (0, va_rf (some th))]) d_M_open_145 rfl (congrArg (fun z : Int32 => l2 + z) (by decide)) (by decide) rfl ?_
      refine x_goto F (tgt := 98) d_M_open_148 (by decide) ?_
      refine x_sub (lv' := [(0, va_rf (some th)), (2, .int (l2 + 1))]) [1, 0] rfl ?_
      exact ih _ _ h
set_option maxHeartbeats 4000000 in
set_option maxRecDepth 100000 in
theorem w_M_open_B51 {p : Program} {l : Launch} {e : Env} {s : State} {m : MethodId} {args : Array Value} {below : List Frame} {meth : Method} {c : Code} {C0 S0 : Nat} {D : va_G} {dA : Nat → ClassId} {base : Nat} {sa : Nat → Nat} (F : xFix p { frames := 1, cells := C0, slots := S0, locals := 22 } s m args meth c b_M_open 3 "BlockSearchModel" D dA base sa) (hret : meth.sig.returnType = (some FieldType.int)) {K : Int32 → xS → Prop} (th : Nat) (l1 : Int32)  {G : xS} (h : p_M_open_B51 th l1 K  G) : X_M_open p l e s m args below meth c C0 S0 K D dA base sa 51 [(0, va_rf (some th)), (1, .int l1)] [] G := by
  unfold p_M_open_B51 at h
  refine x_aload_n F 0 d_M_open_51 rfl rfl ?_
  refine x_getI F cl_M in_M (k := 6) (by decide) k_607 rfl d_M_open_52 h (fun v8 h => ?_)
  refine x_bipush F (v := 10) d_M_open_55 (by decide) ?_
  refine x_icmp_ne F (tgt := 63) d_M_open_57 (by decide) h (fun q h => ?_) (fun q h => ?_)
  · refine x_aload_n F 0 d_M_open_63 rfl rfl ?_
    refine x_getR F cl_M in_M (k := 0) (by decide) k_601 rfl d_M_open_64 h (fun v9 h => ?_)
    refine x_aload_n F 0 d_M_open_67 rfl rfl ?_
    refine x_getI F cl_M in_M (k := 6) (by decide) k_607 rfl d_M_open_68 h (fun v10 h => ?_)
    refine x_iload_n F 1 d_M_open_71 rfl rfl ?_
    refine x_iast F (t := 0) rfl d_M_open_72 h (fun G h => ?_)
    refine x_aload_n F 0 d_M_open_73 rfl rfl ?_
    refine x_getR F cl_M in_M (k := 1) (by decide) k_602 rfl d_M_open_74 h (fun v11 h => ?_)
    refine x_aload_n F 0 d_M_open_77 rfl rfl ?_
    refine x_getI F cl_M in_M (k := 6) (by decide) k_607 rfl d_M_open_78 h (fun v12 h => ?_)
    refine x_aload_n F 0 d_M_open_81 rfl rfl ?_
    refine x_getI F cl_M in_M (k := 8) (by decide) k_609 rfl d_M_open_82 h (fun v13 h => ?_)
    refine x_iast F (t := 0) rfl d_M_open_85 h (fun G h => ?_)
    refine x_aload_n F 0 d_M_open_86 rfl rfl ?_
    refine x_getR F cl_M in_M (k := 2) (by decide) k_603 rfl d_M_open_87 h (fun v14 h => ?_)
    refine x_aload_n F 0 d_M_open_90 rfl rfl ?_
    refine x_getI F cl_M in_M (k := 6) (by decide) k_607 rfl d_M_open_91 h (fun v15 h => ?_)
    refine x_iconst F (v := (-1)) d_M_open_94 (by decide) ?_
    refine x_iast F (t := 0) rfl d_M_open_95 h (fun G h => ?_)
    refine x_iconst F (v := 0) d_M_open_96 (by decide) ?_
    refine x_istore_n F (lv' := [(2, .int 0), (0, va_rf (some th)), (1, .int l1)]) d_M_open_97 rfl (by decide) rfl ?_
    refine x_sub (lv' := [(0, va_rf (some th)), (2, .int 0)]) [1, 0] rfl ?_
    refine w_M_open_L98 F hret th (fun G h => ?_) _ _ _ h
    refine x_aload_n F 0 d_M_open_151 rfl rfl ?_
    refine x_aload_n F 0 d_M_open_152 rfl rfl ?_
    refine x_getI F cl_M in_M (k := 6) (by decide) k_607 rfl d_M_open_153 h (fun v22 h => ?_)
    refine x_putI F cl_M in_M (k := 8) (by decide) k_609 rfl ty_M n_M rfl rfl d_M_open_156 h (fun G h => ?_)
    refine x_aload_n F 0 d_M_open_159 rfl rfl ?_
    refine x_dup F (x_cat _) d_M_open_160 ?_
    refine x_getI F cl_M in_M (k := 6) (by decide) k_607 rfl d_M_open_161 h (fun v23 h => ?_)
    refine x_iconst F (v := 1) d_M_open_164 (by decide) ?_
    refine x_iadd F d_M_open_165 ?_
    refine x_putI F cl_M in_M (k := 6) (by decide) k_607 rfl ty_M n_M rfl rfl d_M_open_166 h (fun G h => ?_)
    refine x_aload_n F 0 d_M_open_169 rfl rfl ?_
    refine x_getI F cl_M in_M (k := 6) (by decide) k_607 rfl d_M_open_170 h (fun v24 h => ?_)
    exact x_iret F rfl hret d_M_open_173 ⟨_, rfl, h⟩
  · refine x_bipush F (v := (-3)) d_M_open_60 (by decide) ?_
    exact x_iret F rfl hret d_M_open_62 ⟨_, rfl, h⟩
set_option maxHeartbeats 4000000 in
set_option maxRecDepth 100000 in
theorem c_M_open (l : Launch) (D : va_G) (dA : Nat → ClassId) (base : Nat) (sa : Nat → Nat) (th : Nat) (l1 : Int32) (K : Int32 → xS → Prop) (G : xS) (h : p_M_open th l1 K G) : xMet l y_M_open b_M_open 3 (some FieldType.int) 1 22 D dA base sa [va_rf (some th), .int l1] G (fun v G2 => ∃ r : Int32, v = some (.int r) ∧ K r G2) := by
  refine xMet.of (by decide) (by simp [x_cat, x_catI]) (Nat.le_of_ble_eq_true rfl) ?_
  intro p e s m args below meth c F hret hname
  unfold p_M_open at h
  refine x_sub (lv' := [(0, va_rf (some th)), (1, .int l1)]) [0, 1] rfl ?_
  refine x_iload_n F 1 d_M_open_0 rfl rfl ?_
  refine x_iconst F (v := 0) d_M_open_1 (by decide) ?_
  refine x_iconst F (v := 3) d_M_open_2 (by decide) ?_
  refine x_callS F (enc := fun r => some (.int r)) (P := p_M_in l1 0 3) (n := 3) (As := [.int l1, .int 0, .int 3]) (st := []) k_744 k_9 k_743 k_742 ⟨by decide, by decide, by decide +kernel⟩ rfl ⟨Nat.le_of_ble_eq_true rfl, Nat.le_of_ble_eq_true rfl⟩ (by simp [x_cat, x_catI, x_catL]) (fun K' G' h' _ => c_M_in l D dA base sa l1 0 3 K' G' h') d_M_open_3 h (fun v1 G h => ?_)
  refine x_if_ne F (tgt := 11) d_M_open_6 (by decide) h (fun q h => ?_) (fun q h => ?_)
  · refine x_aload_n F 0 d_M_open_11 rfl rfl ?_
    refine x_getI F cl_M in_M (k := 6) (by decide) k_607 rfl d_M_open_12 h (fun v2 h => ?_)
    refine x_if_ne F (tgt := 25) d_M_open_15 (by decide) h (fun q h => ?_) (fun q h => ?_)
    · refine x_aload_n F 0 d_M_open_25 rfl rfl ?_
      refine x_getI F cl_M in_M (k := 8) (by decide) k_609 rfl d_M_open_26 h (fun v3 h => ?_)
      refine x_if_lt F (tgt := 48) d_M_open_29 (by decide) h (fun q h => ?_) (fun q h => ?_)
      · refine x_bipush F (v := (-2)) d_M_open_48 (by decide) ?_
        exact x_iret F rfl hret d_M_open_50 ⟨_, rfl, h⟩
      · refine x_aload_n F 0 d_M_open_32 rfl rfl ?_
        refine x_getR F cl_M in_M (k := 0) (by decide) k_601 rfl d_M_open_33 h (fun v4 h => ?_)
        refine x_aload_n F 0 d_M_open_36 rfl rfl ?_
        refine x_getI F cl_M in_M (k := 8) (by decide) k_609 rfl d_M_open_37 h (fun v5 h => ?_)
        refine x_iald F (t := 0) rfl d_M_open_40 h (fun v6 h => ?_)
        refine x_iload_n F 1 d_M_open_41 rfl rfl ?_
        refine x_callS F (enc := fun r => some (.int r)) (P := p_M_parentOf l1) (n := 1) (As := [.int l1]) (st := [.int v6]) k_747 k_9 k_746 k_745 ⟨by decide, by decide, by decide +kernel⟩ rfl ⟨Nat.le_of_ble_eq_true rfl, Nat.le_of_ble_eq_true rfl⟩ (by simp [x_cat, x_catI, x_catL]) (fun K' G' h' _ => c_M_parentOf l D dA base sa l1 K' G' h') d_M_open_42 h (fun v7 G h => ?_)
        refine x_icmp_eq F (tgt := 51) d_M_open_45 (by decide) h (fun q h => ?_) (fun q h => ?_)
        · exact w_M_open_B51 F hret th l1 h
        · refine x_bipush F (v := (-2)) d_M_open_48 (by decide) ?_
          exact x_iret F rfl hret d_M_open_50 ⟨_, rfl, h⟩
    · refine x_iload_n F 1 d_M_open_18 rfl rfl ?_
      refine x_if_eq F (tgt := 51) d_M_open_19 (by decide) h (fun q h => ?_) (fun q h => ?_)
      · exact w_M_open_B51 F hret th l1 h
      · refine x_goto F (tgt := 48) d_M_open_22 (by decide) ?_
        refine x_bipush F (v := (-2)) d_M_open_48 (by decide) ?_
        exact x_iret F rfl hret d_M_open_50 ⟨_, rfl, h⟩
  · refine x_iconst F (v := (-1)) d_M_open_9 (by decide) ?_
    exact x_iret F rfl hret d_M_open_10 ⟨_, rfl, h⟩
