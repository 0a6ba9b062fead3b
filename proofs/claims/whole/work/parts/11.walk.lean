def p_Rw_liveWith_L2 (th : Nat) (l1 : Int32) (K : Option Nat → xS → Prop) (Kx48 : xS → Prop) : Nat → Int32 → xS → Prop
  | 0, _ => fun _ => False
  | n + 1, l2 => xgI 8 1 (some th) fun v1 => xif (v1 ≤ l2) (Kx48) (xgR 8 0 (some th) fun v2 => xalR 4 v2 l2 fun v3 => xgI 5 2 v3 fun v4 => xif (v4 = 0) (p_Rw_liveWith_L2 th l1 K Kx48 n (l2 + 1)) (xgR 8 0 (some th) fun v5 => xalR 4 v5 l2 fun v6 => xgI 5 0 v6 fun v7 => xif (v7 = l1) (xgR 8 0 (some th) fun v8 => xalR 4 v8 l2 fun v9 => K v9) (p_Rw_liveWith_L2 th l1 K Kx48 n (l2 + 1))))
def p_Rw_liveWith (th : Nat) (l1 : Int32) (K : Option Nat → xS → Prop) : xS → Prop := p_Rw_liveWith_L2 th l1 K (K none) 1000 0
abbrev X_Rw_liveWith (p : Program) (l : Launch) (e : Env) (s : State) (m : MethodId) (args : Array Value) (below : List Frame) (meth : Method) (c : Code) (C0 S0 : Nat) (K : Option Nat → xS → Prop) (D : va_G) (dA : Nat → ClassId) (base : Nat) (sa : Nat → Nat) (pc : Nat) (lv : List (Nat × Value)) (st : List Value) (G : xS) : Prop := xW p l e { frames := 0, cells := C0, slots := S0, locals := 0 } s m args below meth c 3 (MQ below (xQ D dA base (fun v G2 => ∃ r : Option Nat, v = some (va_rf r) ∧ K r G2)) args s C0 S0 (fun q : Nat => base ≤ q)) D dA base sa pc lv st G
set_option maxHeartbeats 4000000 in
set_option maxRecDepth 100000 in
theorem w_Rw_liveWith_L2 {p : Program} {l : Launch} {e : Env} {s : State} {m : MethodId} {args : Array Value} {below : List Frame} {meth : Method} {c : Code} {C0 S0 : Nat} {D : va_G} {dA : Nat → ClassId} {base : Nat} {sa : Nat → Nat} (F : xFix p { frames := 0, cells := C0, slots := S0, locals := 0 } s m args meth c b_Rw_liveWith 3 "BlockSearch$DocumentRow" D dA base sa) (hret : meth.sig.returnType = (some (FieldType.object "BlockSearch$Document"))) {K : Option Nat → xS → Prop} {Kx48 : xS → Prop} (th : Nat) (l1 : Int32) (hKx48 : ∀ (G : xS), Kx48  G → X_Rw_liveWith p l e s m args below meth c C0 S0 K D dA base sa 48 [] [] G) : ∀ (n : Nat) (l2 : Int32) (G : xS), p_Rw_liveWith_L2 th l1 K Kx48 n l2 G → X_Rw_liveWith p l e s m args below meth c C0 S0 K D dA base sa 2 [(0, va_rf (some th)), (1, .int l1), (2, .int l2)] [] G := by
  intro n
  induction n with
  | zero => intro l2 G h; exact h.elim
  | succ n ih =>
    intro l2 G h
    unfold p_Rw_liveWith_L2 at h
    refine x_iload_n F 2 d_Rw_liveWith_2 rfl rfl ?_
    refine x_aload_n F 0 d_Rw_liveWith_3 rfl rfl ?_
    refine x_getI F cl_Rw in_Rw (k := 1) (by decide) k_81 rfl d_Rw_liveWith_4 h (fun v1 h => ?_)
    refine x_icmp_ge F (tgt := 48) d_Rw_liveWith_7 (by decide) h (fun q h => ?_) (fun q h => ?_)
    · refine x_sub (lv' := []) [] rfl ?_
      exact hKx48  _ h
    · refine x_aload_n F 0 d_Rw_liveWith_10 rfl rfl ?_
      refine x_getR F cl_Rw in_Rw (k := 0) (by decide) k_79 rfl d_Rw_liveWith_11 h (fun v2 h => ?_)
      refine x_iload_n F 2 d_Rw_liveWith_14 rfl rfl ?_
      refine x_aald F (t := 4) rfl rfl d_Rw_liveWith_15 h (fun v3 h => ?_)
      refine x_getI F cl_Do in_Do (k := 2) (by decide) k_386 rfl d_Rw_liveWith_16 h (fun v4 h => ?_)
      refine x_if_eq F (tgt := 42) d_Rw_liveWith_19 (by decide) h (fun q h => ?_) (fun q h => ?_)
      · refine x_iinc F 2 (v := (l2 + 1)) (lv' := [(2, .int (l2 + 1)), (0, va_rf (some th)), (1, .int l1)]) d_Rw_liveWith_42 rfl (congrArg (fun z : Int32 => l2 + z) (by decide)) (by decide) rfl ?_
        refine x_goto F (tgt := 2) d_Rw_liveWith_45 (by decide) ?_
        refine x_sub (lv' := [(0, va_rf (some th)), (1, .int l1), (2, .int (l2 + 1))]) [1, 2, 0] rfl ?_
        exact ih _ _ h
      · refine x_aload_n F 0 d_Rw_liveWith_22 rfl rfl ?_
        refine x_getR F cl_Rw in_Rw (k := 0) (by decide) k_79 rfl d_Rw_liveWith_23 h (fun v5 h => ?_)
        refine x_iload_n F 2 d_Rw_liveWith_26 rfl rfl ?_
        refine x_aald F (t := 4) rfl rfl d_Rw_liveWith_27 h (fun v6 h => ?_)
        refine x_getI F cl_Do in_Do (k := 0) (by decide) k_379 rfl d_Rw_liveWith_28 h (fun v7 h => ?_)
        refine x_iload_n F 1 d_Rw_liveWith_31 rfl rfl ?_
        refine x_icmp_ne F (tgt := 42) d_Rw_liveWith_32 (by decide) h (fun q h => ?_) (fun q h => ?_)
        · refine x_iinc F 2 (v := (l2 + 1)) (lv' := [(2, .int (l2 + 1)), (0, va_rf (some th)), (1, .int l1)]) d_Rw_liveWith_42 rfl (congrArg (fun z : Int32 => l2 + z) (by decide)) (by decide) rfl ?_
          refine x_goto F (tgt := 2) d_Rw_liveWith_45 (by decide) ?_
          refine x_sub (lv' := [(0, va_rf (some th)), (1, .int l1), (2, .int (l2 + 1))]) [1, 2, 0] rfl ?_
          exact ih _ _ h
        · refine x_aload_n F 0 d_Rw_liveWith_35 rfl rfl ?_
          refine x_getR F cl_Rw in_Rw (k := 0) (by decide) k_79 rfl d_Rw_liveWith_36 h (fun v8 h => ?_)
          refine x_iload_n F 2 d_Rw_liveWith_39 rfl rfl ?_
          refine x_aald F (t := 4) rfl rfl d_Rw_liveWith_40 h (fun v9 h => ?_)
          exact x_aret F rfl hret (Or.inl ⟨_, rfl⟩) d_Rw_liveWith_41 ⟨_, rfl, h⟩
set_option maxHeartbeats 4000000 in
set_option maxRecDepth 100000 in
theorem c_Rw_liveWith (l : Launch) (D : va_G) (dA : Nat → ClassId) (base : Nat) (sa : Nat → Nat) (th : Nat) (l1 : Int32) (K : Option Nat → xS → Prop) (G : xS) (h : p_Rw_liveWith th l1 K G) : xMet l y_Rw_liveWith b_Rw_liveWith 3 (some (FieldType.object "BlockSearch$Document")) 0 0 D dA base sa [va_rf (some th), .int l1] G (fun v G2 => ∃ r : Option Nat, v = some (va_rf r) ∧ K r G2) := by
  refine xMet.of (by decide) (by simp [x_cat, x_catI]) (Nat.le_of_ble_eq_true rfl) ?_
  intro p e s m args below meth c F hret hname
  unfold p_Rw_liveWith at h
  refine x_sub (lv' := [(0, va_rf (some th)), (1, .int l1)]) [0, 1] rfl ?_
  refine x_iconst F (v := 0) d_Rw_liveWith_0 (by decide) ?_
  refine x_istore_n F (lv' := [(2, .int 0), (0, va_rf (some th)), (1, .int l1)]) d_Rw_liveWith_1 rfl (by decide) rfl ?_
  refine x_sub (lv' := [(0, va_rf (some th)), (1, .int l1), (2, .int 0)]) [1, 2, 0] rfl ?_
  refine w_Rw_liveWith_L2 F hret th l1 (fun G h => ?_) _ _ _ h
  refine x_null F d_Rw_liveWith_48 ?_
  exact x_aret F rfl hret (Or.inl ⟨_, rfl⟩) d_Rw_liveWith_49 ⟨_, rfl, h⟩
def p_B_deleteLive_L11 (th : Nat) (l1 : Int32) (K : Int32 → xS → Prop) (Kx40 : Option Nat → xS → Prop) : Nat → Option Nat → Int32 → xS → Prop
  | 0, _, _ => fun _ => False
  | n + 1, l2, l3 => xgI 9 8 (some th) fun v3 => xif (v3 ≤ l3) (Kx40 l2) (xnn l2 (fun _ => Kx40 l2) (xgR 9 3 (some th) fun v4 => xalR 5 v4 l3 fun v5 => xob 8 v5 fun b => xcall 0 0 (p_Rw_liveWith b l1) fun v6 => p_B_deleteLive_L11 th l1 K Kx40 n v6 (l3 + 1)))
def p_B_deleteLive (th : Nat) (l1 : Int32) (K : Int32 → xS → Prop) : xS → Prop := xgR 9 2 (some th) fun v1 => xob 8 v1 fun b => xcall 0 0 (p_Rw_liveWith b l1) fun v2 => p_B_deleteLive_L11 th l1 K (fun m7 => xnn m7 (fun _ => xpZ 5 2 m7 0 (xrz 1 K)) (xrz 0 K)) 1000 v2 0
abbrev X_B_deleteLive (p : Program) (l : Launch) (e : Env) (s : State) (m : MethodId) (args : Array Value) (below : List Frame) (meth : Method) (c : Code) (C0 S0 : Nat) (K : Int32 → xS → Prop) (D : va_G) (dA : Nat → ClassId) (base : Nat) (sa : Nat → Nat) (pc : Nat) (lv : List (Nat × Value)) (st : List Value) (G : xS) : Prop := xW p l e { frames := 1, cells := C0, slots := S0, locals := 22 } s m args below meth c 4 (MQ below (xQ D dA base (fun v G2 => ∃ r : Int32, v = some (.int r) ∧ K r G2)) args s C0 S0 (fun q : Nat => base ≤ q)) D dA base sa pc lv st G
set_option maxHeartbeats 4000000 in
set_option maxRecDepth 100000 in
theorem w_B_deleteLive_L11 {p : Program} {l : Launch} {e : Env} {s : State} {m : MethodId} {args : Array Value} {below : List Frame} {meth : Method} {c : Code} {C0 S0 : Nat} {D : va_G} {dA : Nat → ClassId} {base : Nat} {sa : Nat → Nat} (F : xFix p { frames := 1, cells := C0, slots := S0, locals := 22 } s m args meth c b_B_deleteLive 4 "BlockSearch" D dA base sa) (hret : meth.sig.returnType = (some FieldType.boolean)) {K : Int32 → xS → Prop} {Kx40 : Option Nat → xS → Prop} (th : Nat) (l1 : Int32) (hKx40 : ∀ (l2 : Option Nat) (G : xS), Kx40 l2 G → X_B_deleteLive p l e s m args below meth c C0 S0 K D dA base sa 40 [(2, va_rf l2)] [] G) : ∀ (n : Nat) (l2 : Option Nat) (l3 : Int32) (G : xS), p_B_deleteLive_L11 th l1 K Kx40 n l2 l3 G → X_B_deleteLive p l e s m args below meth c C0 S0 K D dA base sa 11 [(0, va_rf (some th)), (1, .int l1), (2, va_rf l2), (3, .int l3)] [] G := by
  intro n
  induction n with
  | zero => intro l2 l3 G h; exact h.elim
  | succ n ih =>
    intro l2 l3 G h
    unfold p_B_deleteLive_L11 at h
    refine x_iload_n F 3 d_B_deleteLive_11 rfl rfl ?_
    refine x_aload_n F 0 d_B_deleteLive_12 rfl rfl ?_
    refine x_getI F cl_B in_B (k := 8) (by decide) k_205 rfl d_B_deleteLive_13 h (fun v3 h => ?_)
    refine x_icmp_ge F (tgt := 40) d_B_deleteLive_16 (by decide) h (fun q h => ?_) (fun q h => ?_)
    · refine x_sub (lv' := [(2, va_rf l2)]) [2] rfl ?_
      exact hKx40 _ _ h
    · refine x_aload_n F 2 d_B_deleteLive_19 rfl rfl ?_
      refine x_ifnonnull F (tgt := 40) d_B_deleteLive_20 (by decide) h (fun _ q h => ?_) (fun q h => ?_)
      · refine x_sub (lv' := [(2, va_rf l2)]) [2] rfl ?_
        exact hKx40 _ _ h
      · refine x_aload_n F 0 d_B_deleteLive_23 rfl rfl ?_
        refine x_getR F cl_B in_B (k := 3) (by decide) k_200 rfl d_B_deleteLive_24 h (fun v4 h => ?_)
        refine x_iload_n F 3 d_B_deleteLive_27 rfl rfl ?_
        refine x_aald F (t := 5) rfl rfl d_B_deleteLive_28 h (fun v5 h => ?_)
        refine x_iload_n F 1 d_B_deleteLive_29 rfl rfl ?_
        refine x_callV F (enc := fun r => some (va_rf r)) (P := fun b => p_Rw_liveWith b l1) (n := 1) (As := [.int l1]) (st := []) k_360 k_4 k_358 k_359 k_357 ⟨by decide, by decide, by decide +kernel⟩ rfl ⟨Nat.le_of_ble_eq_true rfl, Nat.le_of_ble_eq_true rfl⟩ (by simp [x_cat, x_catI, x_catL]) cl_Rw rfl (ro := v5) (fun b K' G' h' _ => c_Rw_liveWith l D dA base sa b l1 K' G' h') d_B_deleteLive_30 h (fun v6 G h => ?_)
        refine x_astore_n F (lv' := [(2, va_rf v6), (0, va_rf (some th)), (1, .int l1), (3, .int l3)]) d_B_deleteLive_33 rfl (by decide) rfl ?_
        refine x_iinc F 3 (v := (l3 + 1)) (lv' := [(3, .int (l3 + 1)), (2, va_rf v6), (0, va_rf (some th)), (1, .int l1)]) d_B_deleteLive_34 rfl (congrArg (fun z : Int32 => l3 + z) (by decide)) (by decide) rfl ?_
        refine x_goto F (tgt := 11) d_B_deleteLive_37 (by decide) ?_
        refine x_sub (lv' := [(0, va_rf (some th)), (1, .int l1), (2, va_rf v6), (3, .int (l3 + 1))]) [2, 3, 1, 0] rfl ?_
        exact ih _ _ _ h
set_option maxHeartbeats 4000000 in
set_option maxRecDepth 100000 in
theorem c_B_deleteLive (l : Launch) (D : va_G) (dA : Nat → ClassId) (base : Nat) (sa : Nat → Nat) (th : Nat) (l1 : Int32) (K : Int32 → xS → Prop) (G : xS) (h : p_B_deleteLive th l1 K G) : xMet l y_B_deleteLive b_B_deleteLive 4 (some FieldType.boolean) 1 22 D dA base sa [va_rf (some th), .int l1] G (fun v G2 => ∃ r : Int32, v = some (.int r) ∧ K r G2) := by
  refine xMet.of (by decide) (by simp [x_cat, x_catI]) (Nat.le_of_ble_eq_true rfl) ?_
  intro p e s m args below meth c F hret hname
  unfold p_B_deleteLive at h
  refine x_sub (lv' := [(0, va_rf (some th)), (1, .int l1)]) [0, 1] rfl ?_
  refine x_aload_n F 0 d_B_deleteLive_0 rfl rfl ?_
  refine x_getR F cl_B in_B (k := 2) (by decide) k_199 rfl d_B_deleteLive_1 h (fun v1 h => ?_)
  refine x_iload_n F 1 d_B_deleteLive_4 rfl rfl ?_
  refine x_callV F (enc := fun r => some (va_rf r)) (P := fun b => p_Rw_liveWith b l1) (n := 1) (As := [.int l1]) (st := []) k_360 k_4 k_358 k_359 k_357 ⟨by decide, by decide, by decide +kernel⟩ rfl ⟨Nat.le_of_ble_eq_true rfl, Nat.le_of_ble_eq_true rfl⟩ (by simp [x_cat, x_catI, x_catL]) cl_Rw rfl (ro := v1) (fun b K' G' h' _ => c_Rw_liveWith l D dA base sa b l1 K' G' h') d_B_deleteLive_5 h (fun v2 G h => ?_)
  refine x_astore_n F (lv' := [(2, va_rf v2), (0, va_rf (some th)), (1, .int l1)]) d_B_deleteLive_8 rfl (by decide) rfl ?_
  refine x_iconst F (v := 0) d_B_deleteLive_9 (by decide) ?_
  refine x_istore_n F (lv' := [(3, .int 0), (2, va_rf v2), (0, va_rf (some th)), (1, .int l1)]) d_B_deleteLive_10 rfl (by decide) rfl ?_
  refine x_sub (lv' := [(0, va_rf (some th)), (1, .int l1), (2, va_rf v2), (3, .int 0)]) [2, 3, 1, 0] rfl ?_
  refine w_B_deleteLive_L11 F hret th l1 (fun m7 G h => ?_) _ _ _ _ h
  refine x_aload_n F 0 d_B_deleteLive_40 rfl rfl ?_
  refine x_ifnonnull F (tgt := 46) d_B_deleteLive_41 (by decide) h (fun _ q h => ?_) (fun q h => ?_)
  · refine x_aload_n F 0 d_B_deleteLive_46 rfl rfl ?_
    refine x_iconst F (v := 0) d_B_deleteLive_47 (by decide) ?_
    refine x_putZ F cl_Do in_Do (k := 2) (by decide) k_388 rfl ty_Do n_Do rfl rfl d_B_deleteLive_48 h (fun G h => ?_)
    refine x_iconst F (v := 1) d_B_deleteLive_51 (by decide) ?_
    exact x_zret F rfl hret d_B_deleteLive_52 h (fun h => ⟨_, rfl, h⟩)
  · refine x_iconst F (v := 0) d_B_deleteLive_44 (by decide) ?_
    exact x_zret F rfl hret d_B_deleteLive_45 h (fun h => ⟨_, rfl, h⟩)
def p_Mp_learnFrom_L12 (th : Nat) (l1 : Option Nat) (l2 : Option Nat) (K : Unit → xS → Prop) (Kx57 : xS → Prop) : Nat → Int32 → xS → Prop
  | 0, _ => fun _ => False
  | n + 1, l3 => xif (4 ≤ l3) (Kx57) (xal 0 l2 l3 fun v4 => xif (v4 = 0) (xgR 2 4 l1 fun v5 => xal 0 v5 l3 fun v6 => xif (v6 = 0) (p_Mp_learnFrom_L12 th l1 l2 K Kx57 n (l3 + 1)) (xgR 2 4 l1 fun v7 => xal 0 v7 l3 fun v8 => xas 0 l2 l3 v8 (xgI 1 1 (some th) fun v9 => xpI 1 1 (some th) (v9 + 1) (p_Mp_learnFrom_L12 th l1 l2 K Kx57 n (l3 + 1))))) (p_Mp_learnFrom_L12 th l1 l2 K Kx57 n (l3 + 1)))
def p_Mp_learnFrom (th : Nat) (l1 : Option Nat) (K : Unit → xS → Prop) : xS → Prop := xgR 1 0 (some th) fun v1 => xgI 2 0 l1 fun v2 => xalR 2 v1 v2 fun v3 => p_Mp_learnFrom_L12 th l1 v3 K (K ()) 1000 0
abbrev X_Mp_learnFrom (p : Program) (l : Launch) (e : Env) (s : State) (m : MethodId) (args : Array Value) (below : List Frame) (meth : Method) (c : Code) (C0 S0 : Nat) (K : Unit → xS → Prop) (D : va_G) (dA : Nat → ClassId) (base : Nat) (sa : Nat → Nat) (pc : Nat) (lv : List (Nat × Value)) (st : List Value) (G : xS) : Prop := xW p l e { frames := 0, cells := C0, slots := S0, locals := 0 } s m args below meth c 4 (MQ below (xQ D dA base (fun v G2 => ∃ r : Unit, v = (none : Option Value) ∧ K r G2)) args s C0 S0 (fun q : Nat => base ≤ q)) D dA base sa pc lv st G
set_option maxHeartbeats 4000000 in
set_option maxRecDepth 100000 in
theorem w_Mp_learnFrom_L12 {p : Program} {l : Launch} {e : Env} {s : State} {m : MethodId} {args : Array Value} {below : List Frame} {meth : Method} {c : Code} {C0 S0 : Nat} {D : va_G} {dA : Nat → ClassId} {base : Nat} {sa : Nat → Nat} (F : xFix p { frames := 0, cells := C0, slots := S0, locals := 0 } s m args meth c b_Mp_learnFrom 4 "BlockSearch$Mapping" D dA base sa) (hret : meth.sig.returnType = none) {K : Unit → xS → Prop} {Kx57 : xS → Prop} (th : Nat) (l1 : Option Nat) (l2 : Option Nat) (hKx57 : ∀ (G : xS), Kx57  G → X_Mp_learnFrom p l e s m args below meth c C0 S0 K D dA base sa 57 [] [] G) : ∀ (n : Nat) (l3 : Int32) (G : xS), p_Mp_learnFrom_L12 th l1 l2 K Kx57 n l3 G → X_Mp_learnFrom p l e s m args below meth c C0 S0 K D dA base sa 12 [(0, va_rf (some th)), (1, va_rf l1), (2, va_rf l2), (3, .int l3)] [] G := by
  intro n
  induction n with
  | zero => intro l3 G h; exact h.elim
  | succ n ih =>
    intro l3 G h
    unfold p_Mp_learnFrom_L12 at h
    refine x_iload_n F 3 d_Mp_learnFrom_12 rfl rfl ?_
    refine x_iconst F (v := 4) d_Mp_learnFrom_13 (by decide) ?_
    refine x_icmp_ge F (tgt := 57) d_Mp_learnFrom_14 (by decide) h (fun q h => ?_) (fun q h => ?_)
    · refine x_sub (lv' := []) [] rfl ?_
      exact hKx57  _ h
    · refine x_aload_n F 2 d_Mp_learnFrom_17 rfl rfl ?_
      refine x_iload_n F 3 d_Mp_learnFrom_18 rfl rfl ?_
      refine x_iald F (t := 0) rfl d_Mp_learnFrom_19 h (fun v4 h => ?_)
      refine x_if_ne F (tgt := 51) d_Mp_learnFrom_20 (by decide) h (fun q h => ?_) (fun q h => ?_)
      · refine x_iinc F 3 (v := (l3 + 1)) (lv' := [(3, .int (l3 + 1)), (0, va_rf (some th)), (1, va_rf l1), (2, va_rf l2)]) d_Mp_learnFrom_51 rfl (congrArg (fun z : Int32 => l3 + z) (by decide)) (by decide) rfl ?_
        refine x_goto F (tgt := 12) d_Mp_learnFrom_54 (by decide) ?_
        refine x_sub (lv' := [(0, va_rf (some th)), (1, va_rf l1), (2, va_rf l2), (3, .int (l3 + 1))]) [1, 2, 3, 0] rfl ?_
        exact ih _ _ h
      · refine x_aload_n F 1 d_Mp_learnFrom_23 rfl rfl ?_
        refine x_getR F cl_Nd in_Nd (k := 4) (by decide) k_269 rfl d_Mp_learnFrom_24 h (fun v5 h => ?_)
        refine x_iload_n F 3 d_Mp_learnFrom_27 rfl rfl ?_
        refine x_iald F (t := 0) rfl d_Mp_learnFrom_28 h (fun v6 h => ?_)
        refine x_if_eq F (tgt := 51) d_Mp_learnFrom_29 (by decide) h (fun q h => ?_) (fun q h => ?_)
        · refine x_iinc F 3 (v := (l3 + 1)) (lv' := [(3, .int (l3 + 1)), (0, va_rf (some th)), (1, va_rf l1), (2, va_rf l2)]) d_Mp_learnFrom_51 rfl (congrArg (fun z : Int32 => l3 + z) (by decide)) (by decide) rfl ?_
          refine x_goto F (tgt := 12) d_Mp_learnFrom_54 (by decide) ?_
          refine x_sub (lv' := [(0, va_rf (some th)), (1, va_rf l1), (2, va_rf l2), (3, .int (l3 + 1))]) [1, 2, 3, 0] rfl ?_
          exact ih _ _ h
        · refine x_aload_n F 2 d_Mp_learnFrom_32 rfl rfl ?_
          refine x_iload_n F 3 d_Mp_learnFrom_33 rfl rfl ?_
          refine x_aload_n F 1 d_Mp_learnFrom_34 rfl rfl ?_
          refine x_getR F cl_Nd in_Nd (k := 4) (by decide) k_269 rfl d_Mp_learnFrom_35 h (fun v7 h => ?_)
          refine x_iload_n F 3 d_Mp_learnFrom_38 rfl rfl ?_
          refine x_iald F (t := 0) rfl d_Mp_learnFrom_39 h (fun v8 h => ?_)
          refine x_iast F (t := 0) rfl d_Mp_learnFrom_40 h (fun G h => ?_)
          refine x_aload_n F 0 d_Mp_learnFrom_41 rfl rfl ?_
          refine x_dup F (x_cat _) d_Mp_learnFrom_42 ?_
          refine x_getI F cl_Mp in_Mp (k := 1) (by decide) k_60 rfl d_Mp_learnFrom_43 h (fun v9 h => ?_)
          refine x_iconst F (v := 1) d_Mp_learnFrom_46 (by decide) ?_
          refine x_iadd F d_Mp_learnFrom_47 ?_
          refine x_putI F cl_Mp in_Mp (k := 1) (by decide) k_60 rfl ty_Mp n_Mp rfl rfl d_Mp_learnFrom_48 h (fun G h => ?_)
          refine x_iinc F 3 (v := (l3 + 1)) (lv' := [(3, .int (l3 + 1)), (0, va_rf (some th)), (1, va_rf l1), (2, va_rf l2)]) d_Mp_learnFrom_51 rfl (congrArg (fun z : Int32 => l3 + z) (by decide)) (by decide) rfl ?_
          refine x_goto F (tgt := 12) d_Mp_learnFrom_54 (by decide) ?_
          refine x_sub (lv' := [(0, va_rf (some th)), (1, va_rf l1), (2, va_rf l2), (3, .int (l3 + 1))]) [1, 2, 3, 0] rfl ?_
          exact ih _ _ h
set_option maxHeartbeats 4000000 in
set_option maxRecDepth 100000 in
theorem c_Mp_learnFrom (l : Launch) (D : va_G) (dA : Nat → ClassId) (base : Nat) (sa : Nat → Nat) (th : Nat) (l1 : Option Nat) (K : Unit → xS → Prop) (G : xS) (h : p_Mp_learnFrom th l1 K G) : xMet l y_Mp_learnFrom b_Mp_learnFrom 4 none 0 0 D dA base sa [va_rf (some th), va_rf l1] G (fun v G2 => ∃ r : Unit, v = none ∧ K r G2) := by
  refine xMet.of (by decide) (by simp [x_cat, x_catI]) (Nat.le_of_ble_eq_true rfl) ?_
  intro p e s m args below meth c F hret hname
  unfold p_Mp_learnFrom at h
  refine x_sub (lv' := [(0, va_rf (some th)), (1, va_rf l1)]) [0, 1] rfl ?_
  refine x_aload_n F 0 d_Mp_learnFrom_0 rfl rfl ?_
  refine x_getR F cl_Mp in_Mp (k := 0) (by decide) k_58 rfl d_Mp_learnFrom_1 h (fun v1 h => ?_)
  refine x_aload_n F 1 d_Mp_learnFrom_4 rfl rfl ?_
  refine x_getI F cl_Nd in_Nd (k := 0) (by decide) k_255 rfl d_Mp_learnFrom_5 h (fun v2 h => ?_)
  refine x_aald F (t := 2) rfl rfl d_Mp_learnFrom_8 h (fun v3 h => ?_)
  refine x_astore_n F (lv' := [(2, va_rf v3), (0, va_rf (some th)), (1, va_rf l1)]) d_Mp_learnFrom_9 rfl (by decide) rfl ?_
  refine x_iconst F (v := 0) d_Mp_learnFrom_10 (by decide) ?_
  refine x_istore_n F (lv' := [(3, .int 0), (2, va_rf v3), (0, va_rf (some th)), (1, va_rf l1)]) d_Mp_learnFrom_11 rfl (by decide) rfl ?_
  refine x_sub (lv' := [(0, va_rf (some th)), (1, va_rf l1), (2, va_rf v3), (3, .int 0)]) [2, 3, 1, 0] rfl ?_
  refine w_Mp_learnFrom_L12 F hret th l1 v3 (fun G h => ?_) _ _ _ h
  exact x_vret F rfl hret d_Mp_learnFrom_57 ⟨(), rfl, h⟩
def p_Mp_learn_L2 (th : Nat) (l1 : Option Nat) (K : Unit → xS → Prop) (Kx26 : xS → Prop) : Nat → Int32 → xS → Prop
  | 0, _ => fun _ => False
  | n + 1, l2 => xgI 6 1 l1 fun v1 => xif (v1 ≤ l2) (Kx26) (xgR 6 0 l1 fun v2 => xalR 3 v2 l2 fun v3 => xob 1 (some th) fun b => xcall 0 0 (p_Mp_learnFrom b v3) fun _ => p_Mp_learn_L2 th l1 K Kx26 n (l2 + 1))
def p_Mp_learn (th : Nat) (l1 : Option Nat) (K : Unit → xS → Prop) : xS → Prop := p_Mp_learn_L2 th l1 K (K ()) 1000 0
abbrev X_Mp_learn (p : Program) (l : Launch) (e : Env) (s : State) (m : MethodId) (args : Array Value) (below : List Frame) (meth : Method) (c : Code) (C0 S0 : Nat) (K : Unit → xS → Prop) (D : va_G) (dA : Nat → ClassId) (base : Nat) (sa : Nat → Nat) (pc : Nat) (lv : List (Nat × Value)) (st : List Value) (G : xS) : Prop := xW p l e { frames := 1, cells := C0, slots := S0, locals := 23 } s m args below meth c 3 (MQ below (xQ D dA base (fun v G2 => ∃ r : Unit, v = (none : Option Value) ∧ K r G2)) args s C0 S0 (fun q : Nat => base ≤ q)) D dA base sa pc lv st G
set_option maxHeartbeats 4000000 in
set_option maxRecDepth 100000 in
theorem w_Mp_learn_L2 {p : Program} {l : Launch} {e : Env} {s : State} {m : MethodId} {args : Array Value} {below : List Frame} {meth : Method} {c : Code} {C0 S0 : Nat} {D : va_G} {dA : Nat → ClassId} {base : Nat} {sa : Nat → Nat} (F : xFix p { frames := 1, cells := C0, slots := S0, locals := 23 } s m args meth c b_Mp_learn 3 "BlockSearch$Mapping" D dA base sa) (hret : meth.sig.returnType = none) {K : Unit → xS → Prop} {Kx26 : xS → Prop} (th : Nat) (l1 : Option Nat) (hKx26 : ∀ (G : xS), Kx26  G → X_Mp_learn p l e s m args below meth c C0 S0 K D dA base sa 26 [] [] G) : ∀ (n : Nat) (l2 : Int32) (G : xS), p_Mp_learn_L2 th l1 K Kx26 n l2 G → X_Mp_learn p l e s m args below meth c C0 S0 K D dA base sa 2 [(0, va_rf (some th)), (1, va_rf l1), (2, .int l2)] [] G := by
  intro n
  induction n with
  | zero => intro l2 G h; exact h.elim
  | succ n ih =>
    intro l2 G h
    unfold p_Mp_learn_L2 at h
    refine x_iload_n F 2 d_Mp_learn_2 rfl rfl ?_
    refine x_aload_n F 1 d_Mp_learn_3 rfl rfl ?_
    refine x_getI F cl_Dr in_Dr (k := 1) (by decide) k_35 rfl d_Mp_learn_4 h (fun v1 h => ?_)
    refine x_icmp_ge F (tgt := 26) d_Mp_learn_7 (by decide) h (fun q h => ?_) (fun q h => ?_)
    · refine x_sub (lv' := []) [] rfl ?_
      exact hKx26  _ h
    · refine x_aload_n F 0 d_Mp_learn_10 rfl rfl ?_
      refine x_aload_n F 1 d_Mp_learn_11 rfl rfl ?_
      refine x_getR F cl_Dr in_Dr (k := 0) (by decide) k_32 rfl d_Mp_learn_12 h (fun v2 h => ?_)
      refine x_iload_n F 2 d_Mp_learn_15 rfl rfl ?_
      refine x_aald F (t := 3) rfl rfl d_Mp_learn_16 h (fun v3 h => ?_)
      refine x_callV F (enc := fun r => none) (P := fun b => p_Mp_learnFrom b v3) (n := 1) (As := [va_rf v3]) (st := []) k_368 k_3 k_367 kp_2 k_365 ⟨by decide, by decide, by decide +kernel⟩ rfl ⟨Nat.le_of_ble_eq_true rfl, Nat.le_of_ble_eq_true rfl⟩ (by simp [x_cat, x_catI, x_catL]) cl_Mp rfl (ro := some th) (fun b K' G' h' _ => c_Mp_learnFrom l D dA base sa b v3 K' G' h') d_Mp_learn_17 h (fun _ G h => ?_)
      refine x_iinc F 2 (v := (l2 + 1)) (lv' := [(2, .int (l2 + 1)), (0, va_rf (some th)), (1, va_rf l1)]) d_Mp_learn_20 rfl (congrArg (fun z : Int32 => l2 + z) (by decide)) (by decide) rfl ?_
      refine x_goto F (tgt := 2) d_Mp_learn_23 (by decide) ?_
      refine x_sub (lv' := [(0, va_rf (some th)), (1, va_rf l1), (2, .int (l2 + 1))]) [1, 2, 0] rfl ?_
      exact ih _ _ h
set_option maxHeartbeats 4000000 in
set_option maxRecDepth 100000 in
theorem c_Mp_learn (l : Launch) (D : va_G) (dA : Nat → ClassId) (base : Nat) (sa : Nat → Nat) (th : Nat) (l1 : Option Nat) (K : Unit → xS → Prop) (G : xS) (h : p_Mp_learn th l1 K G) : xMet l y_Mp_learn b_Mp_learn 3 none 1 23 D dA base sa [va_rf (some th), va_rf l1] G (fun v G2 => ∃ r : Unit, v = none ∧ K r G2) := by
  refine xMet.of (by decide) (by simp [x_cat, x_catI]) (Nat.le_of_ble_eq_true rfl) ?_
  intro p e s m args below meth c F hret hname
  unfold p_Mp_learn at h
  refine x_sub (lv' := [(0, va_rf (some th)), (1, va_rf l1)]) [0, 1] rfl ?_
  refine x_iconst F (v := 0) d_Mp_learn_0 (by decide) ?_
  refine x_istore_n F (lv' := [(2, .int 0), (0, va_rf (some th)), (1, va_rf l1)]) d_Mp_learn_1 rfl (by decide) rfl ?_
  refine x_sub (lv' := [(0, va_rf (some th)), (1, va_rf l1), (2, .int 0)]) [1, 2, 0] rfl ?_
  refine w_Mp_learn_L2 F hret th l1 (fun G h => ?_) _ _ _ h
  exact x_vret F rfl hret d_Mp_learn_26 ⟨(), rfl, h⟩
def p_Do_init_L27 (th : Nat) (l2 : Option Nat) (K : Unit → xS → Prop) (Kx54 : xS → Prop) : Nat → Int32 → xS → Prop
  | 0, _ => fun _ => False
  | n + 1, l3 => xgR 5 1 (some th) fun v3 => xlen 3 v3 fun v4 => xif (v4 ≤ l3) (Kx54) (xgR 5 1 (some th) fun v5 => xgR 6 0 l2 fun v6 => xalR 3 v6 l3 fun v7 => xasR 3 2 v5 l3 v7 (p_Do_init_L27 th l2 K Kx54 n (l3 + 1)))
def p_Do_init (th : Nat) (l1 : Int32) (l2 : Option Nat) (K : Unit → xS → Prop) : xS → Prop := xpZ 5 2 (some th) 1 (xpI 5 0 (some th) l1 (xgI 6 1 l2 fun v1 => xnewR 3 v1 fun a2 => xpR 5 1 (some th) (some a2) (p_Do_init_L27 th l2 K (K ()) 1000 0)))
abbrev X_Do_init (p : Program) (l : Launch) (e : Env) (s : State) (m : MethodId) (args : Array Value) (below : List Frame) (meth : Method) (c : Code) (C0 S0 : Nat) (K : Unit → xS → Prop) (D : va_G) (dA : Nat → ClassId) (base : Nat) (sa : Nat → Nat) (pc : Nat) (lv : List (Nat × Value)) (st : List Value) (G : xS) : Prop := xW p l e { frames := 1, cells := C0, slots := S0, locals := 12 } s m args below meth c 4 (MQ below (xQ D dA base (fun v G2 => ∃ r : Unit, v = (none : Option Value) ∧ K r G2)) args s C0 S0 (fun q : Nat => base ≤ q)) D dA base sa pc lv st G
set_option maxHeartbeats 4000000 in
set_option maxRecDepth 100000 in
theorem w_Do_init_L27 {p : Program} {l : Launch} {e : Env} {s : State} {m : MethodId} {args : Array Value} {below : List Frame} {meth : Method} {c : Code} {C0 S0 : Nat} {D : va_G} {dA : Nat → ClassId} {base : Nat} {sa : Nat → Nat} (F : xFix p { frames := 1, cells := C0, slots := S0, locals := 12 } s m args meth c b_Do_init 4 "BlockSearch$Document" D dA base sa) (hret : meth.sig.returnType = none) {K : Unit → xS → Prop} {Kx54 : xS → Prop} (th : Nat) (l2 : Option Nat) (hKx54 : ∀ (G : xS), Kx54  G → X_Do_init p l e s m args below meth c C0 S0 K D dA base sa 54 [] [] G) : ∀ (n : Nat) (l3 : Int32) (G : xS), p_Do_init_L27 th l2 K Kx54 n l3 G → X_Do_init p l e s m args below meth c C0 S0 K D dA base sa 27 [(0, va_rf (some th)), (2, va_rf l2), (3, .int l3)] [] G := by
  intro n
  induction n with
  | zero => intro l3 G h; exact h.elim
  | succ n ih =>
    intro l3 G h
    unfold p_Do_init_L27 at h
    refine x_iload_n F 2 d_Do_init_27 rfl rfl ?_
    refine x_aload_n F 0 d_Do_init_28 rfl rfl ?_
    refine x_getR F cl_Do in_Do (k := 1) (by decide) k_380 rfl d_Do_init_29 h (fun v3 h => ?_)
    refine x_len F (t := 3) rfl d_Do_init_32 h (fun v4 h => ?_)
    refine x_icmp_ge F (tgt := 54) d_Do_init_33 (by decide) h (fun q h => ?_) (fun q h => ?_)
    · refine x_sub (lv' := []) [] rfl ?_
      exact hKx54  _ h
    · refine x_aload_n F 0 d_Do_init_36 rfl rfl ?_
      refine x_getR F cl_Do in_Do (k := 1) (by decide) k_380 rfl d_Do_init_37 h (fun v5 h => ?_)
      refine x_iload_n F 2 d_Do_init_40 rfl rfl ?_
      refine x_aload_n F 1 d_Do_init_41 rfl rfl ?_
      refine x_getR F cl_Dr in_Dr (k := 0) (by decide) k_31 rfl d_Do_init_42 h (fun v6 h => ?_)
      refine x_iload_n F 2 d_Do_init_45 rfl rfl ?_
      refine x_aald F (t := 3) rfl rfl d_Do_init_46 h (fun v7 h => ?_)
      refine x_aast F cl_Nd (t := 3) rfl d_Do_init_47 h (fun G h => ?_)
      refine x_iinc F 2 (v := (l3 + 1)) (lv' := [(3, .int (l3 + 1)), (0, va_rf (some th)), (2, va_rf l2)]) d_Do_init_48 rfl (congrArg (fun z : Int32 => l3 + z) (by decide)) (by decide) rfl ?_
      refine x_goto F (tgt := 27) d_Do_init_51 (by decide) ?_
      refine x_sub (lv' := [(0, va_rf (some th)), (2, va_rf l2), (3, .int (l3 + 1))]) [1, 2, 0] rfl ?_
      exact ih _ _ h
set_option maxHeartbeats 4000000 in
set_option maxRecDepth 100000 in
theorem c_Do_init (l : Launch) (D : va_G) (dA : Nat → ClassId) (base : Nat) (sa : Nat → Nat) (th : Nat) (l1 : Int32) (l2 : Option Nat) (K : Unit → xS → Prop) (G : xS) (h : p_Do_init th l1 l2 K G) : xMet l y_Do_init b_Do_init 4 none 1 12 D dA base sa [va_rf (some th), .int l1, va_rf l2] G (fun v G2 => ∃ r : Unit, v = none ∧ K r G2) := by
  refine xMet.of (by decide) (by simp [x_cat, x_catI]) (Nat.le_of_ble_eq_true rfl) ?_
  intro p e s m args below meth c F hret hname
  unfold p_Do_init at h
  refine x_sub (lv' := [(0, va_rf (some th)), (1, .int l1), (2, va_rf l2)]) [0, 1, 2] rfl ?_
  refine x_aload_n F 0 d_Do_init_0 rfl rfl ?_
  refine x_obj F k_374 k_20 k_21 d_Do_init_1 (Nat.le_of_ble_eq_true rfl) (by simp [x_cat, x_catI, x_catL]) ?_
  refine x_aload_n F 0 d_Do_init_4 rfl rfl ?_
  refine x_iconst F (v := 1) d_Do_init_5 (by decide) ?_
  refine x_putZ F cl_Do in_Do (k := 2) (by decide) k_385 rfl ty_Do n_Do rfl rfl d_Do_init_6 h (fun G h => ?_)
  refine x_aload_n F 0 d_Do_init_9 rfl rfl ?_
  refine x_iload_n F 1 d_Do_init_10 rfl rfl ?_
  refine x_putIF F cl_Do in_Do (k := 0) (by decide) k_376 rfl ty_Do n_Do rfl hname rfl rfl d_Do_init_11 h (fun G h => ?_)
  refine x_aload_n F 0 d_Do_init_14 rfl rfl ?_
  refine x_aload_n F 2 d_Do_init_15 rfl rfl ?_
  refine x_getI F cl_Dr in_Dr (k := 1) (by decide) k_34 rfl d_Do_init_16 h (fun v1 h => ?_)
  refine x_newR F (t := 3) rfl k_375 (by decide) d_Do_init_19 h (fun a2 G h => ?_)
  refine x_putRF F cl_Do in_Do (k := 1) (by decide) k_380 rfl ty_Do n_Do rfl hname rfl (Or.inr ⟨_, rfl⟩) d_Do_init_22 h (fun G h => ?_)
  refine x_iconst F (v := 0) d_Do_init_25 (by decide) ?_
  refine x_istore_n F (lv' := [(3, .int 0), (0, va_rf (some th)), (1, .int l1), (2, va_rf l2)]) d_Do_init_26 rfl (by decide) rfl ?_
  refine x_sub (lv' := [(0, va_rf (some th)), (2, va_rf l2), (3, .int 0)]) [1, 3, 0] rfl ?_
  refine w_Do_init_L27 F hret th l2 (fun G h => ?_) _ _ _ h
  exact x_vret F rfl hret d_Do_init_54 ⟨(), rfl, h⟩
def p_Rw_append (th : Nat) (l1 : Option Nat) (K : Unit → xS → Prop) : xS → Prop := xgI 8 1 (some th) fun v1 => xgR 8 0 (some th) fun v2 => xlen 4 v2 fun v3 => xif (v3 ≤ v1) (K ()) (xgR 8 0 (some th) fun v4 => xgI 8 1 (some th) fun v5 => xasR 4 5 v4 v5 l1 (xgI 8 1 (some th) fun v6 => xpI 8 1 (some th) (v6 + 1) (xgI 8 2 (some th) fun v7 => xgR 5 1 l1 fun v8 => xlen 3 v8 fun v9 => xpI 8 2 (some th) (v7 + v9) (K ()))))
abbrev X_Rw_append (p : Program) (l : Launch) (e : Env) (s : State) (m : MethodId) (args : Array Value) (below : List Frame) (meth : Method) (c : Code) (C0 S0 : Nat) (K : Unit → xS → Prop) (D : va_G) (dA : Nat → ClassId) (base : Nat) (sa : Nat → Nat) (pc : Nat) (lv : List (Nat × Value)) (st : List Value) (G : xS) : Prop := xW p l e { frames := 0, cells := C0, slots := S0, locals := 0 } s m args below meth c 2 (MQ below (xQ D dA base (fun v G2 => ∃ r : Unit, v = (none : Option Value) ∧ K r G2)) args s C0 S0 (fun q : Nat => base ≤ q)) D dA base sa pc lv st G
set_option maxHeartbeats 4000000 in
set_option maxRecDepth 100000 in
theorem c_Rw_append (l : Launch) (D : va_G) (dA : Nat → ClassId) (base : Nat) (sa : Nat → Nat) (th : Nat) (l1 : Option Nat) (K : Unit → xS → Prop) (G : xS) (h : p_Rw_append th l1 K G) : xMet l y_Rw_append b_Rw_append 2 none 0 0 D dA base sa [va_rf (some th), va_rf l1] G (fun v G2 => ∃ r : Unit, v = none ∧ K r G2) := by
  refine xMet.of (by decide) (by simp [x_cat, x_catI]) (Nat.le_of_ble_eq_true rfl) ?_
  intro p e s m args below meth c F hret hname
  unfold p_Rw_append at h
  refine x_sub (lv' := [(0, va_rf (some th)), (1, va_rf l1)]) [0, 1] rfl ?_
  refine x_aload_n F 0 d_Rw_append_0 rfl rfl ?_
  refine x_getI F cl_Rw in_Rw (k := 1) (by decide) k_81 rfl d_Rw_append_1 h (fun v1 h => ?_)
  refine x_aload_n F 0 d_Rw_append_4 rfl rfl ?_
  refine x_getR F cl_Rw in_Rw (k := 0) (by decide) k_79 rfl d_Rw_append_5 h (fun v2 h => ?_)
  refine x_len F (t := 4) rfl d_Rw_append_8 h (fun v3 h => ?_)
  refine x_icmp_ge F (tgt := 46) d_Rw_append_9 (by decide) h (fun q h => ?_) (fun q h => ?_)
  · exact x_vret F rfl hret d_Rw_append_46 ⟨(), rfl, h⟩
  · refine x_aload_n F 0 d_Rw_append_12 rfl rfl ?_
    refine x_getR F cl_Rw in_Rw (k := 0) (by decide) k_79 rfl d_Rw_append_13 h (fun v4 h => ?_)
    refine x_aload_n F 0 d_Rw_append_16 rfl rfl ?_
    refine x_getI F cl_Rw in_Rw (k := 1) (by decide) k_81 rfl d_Rw_append_17 h (fun v5 h => ?_)
    refine x_aload_n F 1 d_Rw_append_20 rfl rfl ?_
    refine x_aast F cl_Do (t := 4) rfl d_Rw_append_21 h (fun G h => ?_)
    refine x_aload_n F 0 d_Rw_append_22 rfl rfl ?_
    refine x_dup F (x_cat _) d_Rw_append_23 ?_
    refine x_getI F cl_Rw in_Rw (k := 1) (by decide) k_81 rfl d_Rw_append_24 h (fun v6 h => ?_)
    refine x_iconst F (v := 1) d_Rw_append_27 (by decide) ?_
    refine x_iadd F d_Rw_append_28 ?_
    refine x_putI F cl_Rw in_Rw (k := 1) (by decide) k_81 rfl ty_Rw n_Rw rfl rfl d_Rw_append_29 h (fun G h => ?_)
    refine x_aload_n F 0 d_Rw_append_32 rfl rfl ?_
    refine x_dup F (x_cat _) d_Rw_append_33 ?_
    refine x_getI F cl_Rw in_Rw (k := 2) (by decide) k_83 rfl d_Rw_append_34 h (fun v7 h => ?_)
    refine x_aload_n F 1 d_Rw_append_37 rfl rfl ?_
    refine x_getR F cl_Do in_Do (k := 1) (by decide) k_381 rfl d_Rw_append_38 h (fun v8 h => ?_)
    refine x_len F (t := 3) rfl d_Rw_append_41 h (fun v9 h => ?_)
    refine x_iadd F d_Rw_append_42 ?_
    refine x_putI F cl_Rw in_Rw (k := 2) (by decide) k_83 rfl ty_Rw n_Rw rfl rfl d_Rw_append_43 h (fun G h => ?_)
    exact x_vret F rfl hret d_Rw_append_46 ⟨(), rfl, h⟩
def p_B_add (th : Nat) (l1 : Int32) (K : Int32 → xS → Prop) : xS → Prop := xcall 0 0 (p_B_isId l1) fun v1 => xif (v1 = 0) (K (-1)) (xgR 9 0 (some th) fun v2 => xob 6 v2 fun b => xcall 0 0 (p_Dr_isComplete b ) fun v3 => xif (v3 = 0) (K (-2)) (xgR 9 1 (some th) fun v4 => xgR 9 0 (some th) fun v5 => xob 1 v4 fun b => xcall 0 0 (p_Mp_fits b v5) fun v6 => xif (v6 = 0) (K (-4)) (xgR 9 2 (some th) fun v7 => xgI 8 2 v7 fun v8 => xgR 9 0 (some th) fun v9 => xgI 6 1 v9 fun v10 => xif ((v8 + v10) ≤ 30) (xob 9 (some th) fun b => xcall 0 0 (p_B_deleteLive b l1) fun v11 => xgR 9 1 (some th) fun v12 => xgR 9 0 (some th) fun v13 => xob 1 v12 fun b => xcall 0 0 (p_Mp_learn b v13) fun _ => xgR 9 2 (some th) fun v14 => xnew 5 3 z_Do fun a15 => xgR 9 0 (some th) fun v16 => xcall 1 10 (p_Do_init a15 l1 v16) fun _ => xob 8 v14 fun b => xcall 0 0 (p_Rw_append b (some a15)) fun _ => xgR 9 0 (some th) fun v17 => xob 6 v17 fun b => xcall 0 0 (p_Dr_drop b ) fun _ => xgI 9 9 (some th) fun v18 => xpI 9 9 (some th) (v18 + 1) (xgR 9 2 (some th) fun v19 => xgI 8 2 v19 fun v20 => K v20)) (K (-3)))))
abbrev X_B_add (p : Program) (l : Launch) (e : Env) (s : State) (m : MethodId) (args : Array Value) (below : List Frame) (meth : Method) (c : Code) (C0 S0 : Nat) (K : Int32 → xS → Prop) (D : va_G) (dA : Nat → ClassId) (base : Nat) (sa : Nat → Nat) (pc : Nat) (lv : List (Nat × Value)) (st : List Value) (G : xS) : Prop := xW p l e { frames := 2, cells := C0, slots := S0, locals := 62 } s m args below meth c 2 (MQ below (xQ D dA base (fun v G2 => ∃ r : Int32, v = some (.int r) ∧ K r G2)) args s C0 S0 (fun q : Nat => base ≤ q)) D dA base sa pc lv st G
set_option maxHeartbeats 4000000 in
set_option maxRecDepth 100000 in
theorem c_B_add (l : Launch) (D : va_G) (dA : Nat → ClassId) (base : Nat) (sa : Nat → Nat) (th : Nat) (l1 : Int32) (K : Int32 → xS → Prop) (G : xS) (h : p_B_add th l1 K G) : xMet l y_B_add b_B_add 2 (some FieldType.int) 2 62 D dA base sa [va_rf (some th), .int l1] G (fun v G2 => ∃ r : Int32, v = some (.int r) ∧ K r G2) := by
  refine xMet.of (by decide) (by simp [x_cat, x_catI]) (Nat.le_of_ble_eq_true rfl) ?_
  intro p e s m args below meth c F hret hname
  unfold p_B_add at h
  refine x_sub (lv' := [(0, va_rf (some th)), (1, .int l1)]) [0, 1] rfl ?_
  refine x_iload_n F 1 d_B_add_0 rfl rfl ?_
  refine x_callS F (enc := fun r => some (.int r)) (P := p_B_isId l1) (n := 1) (As := [.int l1]) (st := []) k_337 k_1 k_336 k_335 ⟨by decide, by decide, by decide +kernel⟩ rfl ⟨Nat.le_of_ble_eq_true rfl, Nat.le_of_ble_eq_true rfl⟩ (by simp [x_cat, x_catI, x_catL]) (fun K' G' h' _ => c_B_isId l D dA base sa l1 K' G' h') d_B_add_1 h (fun v1 G h => ?_)
  refine x_if_ne F (tgt := 9) d_B_add_4 (by decide) h (fun q h => ?_) (fun q h => ?_)
  · refine x_aload_n F 0 d_B_add_9 rfl rfl ?_
    refine x_getR F cl_B in_B (k := 0) (by decide) k_197 rfl d_B_add_10 h (fun v2 h => ?_)
    refine x_callV F (enc := fun r => some (.int r)) (P := fun b => p_Dr_isComplete b ) (n := 0) (As := []) (st := []) k_341 k_2 k_339 k_340 k_338 ⟨by decide, by decide, by decide +kernel⟩ rfl ⟨Nat.le_of_ble_eq_true rfl, Nat.le_of_ble_eq_true rfl⟩ (by simp [x_cat, x_catI, x_catL]) cl_Dr rfl (ro := v2) (fun b K' G' h' _ => c_Dr_isComplete l D dA base sa b  K' G' h') d_B_add_13 h (fun v3 G h => ?_)
    refine x_if_ne F (tgt := 22) d_B_add_16 (by decide) h (fun q h => ?_) (fun q h => ?_)
    · refine x_aload_n F 0 d_B_add_22 rfl rfl ?_
      refine x_getR F cl_B in_B (k := 1) (by decide) k_198 rfl d_B_add_23 h (fun v4 h => ?_)
      refine x_aload_n F 0 d_B_add_26 rfl rfl ?_
      refine x_getR F cl_B in_B (k := 0) (by decide) k_197 rfl d_B_add_27 h (fun v5 h => ?_)
      refine x_callV F (enc := fun r => some (.int r)) (P := fun b => p_Mp_fits b v5) (n := 1) (As := [va_rf v5]) (st := []) k_345 k_3 k_343 k_344 k_342 ⟨by decide, by decide, by decide +kernel⟩ rfl ⟨Nat.le_of_ble_eq_true rfl, Nat.le_of_ble_eq_true rfl⟩ (by simp [x_cat, x_catI, x_catL]) cl_Mp rfl (ro := v4) (fun b K' G' h' _ => c_Mp_fits l D dA base sa b v5 K' G' h') d_B_add_30 h (fun v6 G h => ?_)
      refine x_if_ne F (tgt := 39) d_B_add_33 (by decide) h (fun q h => ?_) (fun q h => ?_)
      · refine x_aload_n F 0 d_B_add_39 rfl rfl ?_
        refine x_getR F cl_B in_B (k := 2) (by decide) k_199 rfl d_B_add_40 h (fun v7 h => ?_)
        refine x_getI F cl_Rw in_Rw (k := 2) (by decide) k_84 rfl d_B_add_43 h (fun v8 h => ?_)
        refine x_aload_n F 0 d_B_add_46 rfl rfl ?_
        refine x_getR F cl_B in_B (k := 0) (by decide) k_197 rfl d_B_add_47 h (fun v9 h => ?_)
        refine x_getI F cl_Dr in_Dr (k := 1) (by decide) k_36 rfl d_B_add_50 h (fun v10 h => ?_)
        refine x_iadd F d_B_add_53 ?_
        refine x_bipush F (v := 30) d_B_add_54 (by decide) ?_
        refine x_icmp_le F (tgt := 62) d_B_add_56 (by decide) h (fun q h => ?_) (fun q h => ?_)
        · refine x_aload_n F 0 d_B_add_62 rfl rfl ?_
          refine x_iload_n F 1 d_B_add_63 rfl rfl ?_
          refine x_callV F (enc := fun r => some (.int r)) (P := fun b => p_B_deleteLive b l1) (n := 1) (As := [.int l1]) (st := []) k_356 k_1 k_355 kp_1 k_353 ⟨by decide, by decide, by decide +kernel⟩ rfl ⟨Nat.le_of_ble_eq_true rfl, Nat.le_of_ble_eq_true rfl⟩ (by simp [x_cat, x_catI, x_catL]) cl_B rfl (ro := some th) (fun b K' G' h' _ => c_B_deleteLive l D dA base sa b l1 K' G' h') d_B_add_64 h (fun v11 G h => ?_)
          refine x_pop F rfl d_B_add_67 ?_
          refine x_aload_n F 0 d_B_add_68 rfl rfl ?_
          refine x_getR F cl_B in_B (k := 1) (by decide) k_198 rfl d_B_add_69 h (fun v12 h => ?_)
          refine x_aload_n F 0 d_B_add_72 rfl rfl ?_
          refine x_getR F cl_B in_B (k := 0) (by decide) k_197 rfl d_B_add_73 h (fun v13 h => ?_)
          refine x_callV F (enc := fun r => none) (P := fun b => p_Mp_learn b v13) (n := 1) (As := [va_rf v13]) (st := []) k_364 k_3 k_362 k_363 k_361 ⟨by decide, by decide, by decide +kernel⟩ rfl ⟨Nat.le_of_ble_eq_true rfl, Nat.le_of_ble_eq_true rfl⟩ (by simp [x_cat, x_catI, x_catL]) cl_Mp rfl (ro := v12) (fun b K' G' h' _ => c_Mp_learn l D dA base sa b v13 K' G' h') d_B_add_76 h (fun _ G h => ?_)
          refine x_aload_n F 0 d_B_add_79 rfl rfl ?_
          refine x_getR F cl_B in_B (k := 2) (by decide) k_199 rfl d_B_add_80 h (fun v14 h => ?_)
          refine x_new F cl_Do in_Do ty_Do k_369 k_370 k_12 df_Do d_B_add_83 h (fun a15 G h => ?_)
          refine x_dup F (x_cat _) d_B_add_86 ?_
          refine x_iload_n F 1 d_B_add_87 rfl rfl ?_
          refine x_aload_n F 0 d_B_add_88 rfl rfl ?_
          refine x_getR F cl_B in_B (k := 0) (by decide) k_197 rfl d_B_add_89 h (fun v16 h => ?_)
          refine x_callI F (enc := fun r => none) (P := p_Do_init a15 l1 v16) (n := 2) (As := [.int l1, va_rf v16]) (st := [va_rf (some a15), va_rf v14]) k_373 k_12 k_372 rfl k_371 ⟨by decide, by decide, by decide +kernel⟩ rfl ⟨Nat.le_of_ble_eq_true rfl, Nat.le_of_ble_eq_true rfl⟩ (by simp [x_cat, x_catI, x_catL]) (b := a15) (fun K' G' h' _ => c_Do_init l D dA base sa a15 l1 v16 K' G' h') d_B_add_92 h (fun _ G h => ?_)
          refine x_callV F (enc := fun r => none) (P := fun b => p_Rw_append b (some a15)) (n := 1) (As := [va_rf (some a15)]) (st := []) k_399 k_4 k_397 k_398 k_396 ⟨by decide, by decide, by decide +kernel⟩ rfl ⟨Nat.le_of_ble_eq_true rfl, Nat.le_of_ble_eq_true rfl⟩ (by simp [x_cat, x_catI, x_catL]) cl_Rw rfl (ro := v14) (fun b K' G' h' _ => c_Rw_append l D dA base sa b (some a15) K' G' h') d_B_add_95 h (fun _ G h => ?_)
          refine x_aload_n F 0 d_B_add_98 rfl rfl ?_
          refine x_getR F cl_B in_B (k := 0) (by decide) k_197 rfl d_B_add_99 h (fun v17 h => ?_)
          refine x_callV F (enc := fun r => none) (P := fun b => p_Dr_drop b ) (n := 0) (As := []) (st := []) k_330 k_2 k_328 k_329 k_327 ⟨by decide, by decide, by decide +kernel⟩ rfl ⟨Nat.le_of_ble_eq_true rfl, Nat.le_of_ble_eq_true rfl⟩ (by simp [x_cat, x_catI, x_catL]) cl_Dr rfl (ro := v17) (fun b K' G' h' _ => c_Dr_drop l D dA base sa b  K' G' h') d_B_add_102 h (fun _ G h => ?_)
          refine x_aload_n F 0 d_B_add_105 rfl rfl ?_
          refine x_dup F (x_cat _) d_B_add_106 ?_
          refine x_getI F cl_B in_B (k := 9) (by decide) k_206 rfl d_B_add_107 h (fun v18 h => ?_)
          refine x_iconst F (v := 1) d_B_add_110 (by decide) ?_
          refine x_iadd F d_B_add_111 ?_
          refine x_putI F cl_B in_B (k := 9) (by decide) k_206 rfl ty_B n_B rfl rfl d_B_add_112 h (fun G h => ?_)
          refine x_aload_n F 0 d_B_add_115 rfl rfl ?_
          refine x_getR F cl_B in_B (k := 2) (by decide) k_199 rfl d_B_add_116 h (fun v19 h => ?_)
          refine x_getI F cl_Rw in_Rw (k := 2) (by decide) k_84 rfl d_B_add_119 h (fun v20 h => ?_)
          exact x_iret F rfl hret d_B_add_122 ⟨_, rfl, h⟩
        · refine x_bipush F (v := (-3)) d_B_add_59 (by decide) ?_
          exact x_iret F rfl hret d_B_add_61 ⟨_, rfl, h⟩
      · refine x_bipush F (v := (-4)) d_B_add_36 (by decide) ?_
        exact x_iret F rfl hret d_B_add_38 ⟨_, rfl, h⟩
    · refine x_bipush F (v := (-2)) d_B_add_19 (by decide) ?_
      exact x_iret F rfl hret d_B_add_21 ⟨_, rfl, h⟩
  · refine x_iconst F (v := (-1)) d_B_add_7 (by decide) ?_
    exact x_iret F rfl hret d_B_add_8 ⟨_, rfl, h⟩
def p_B_remove (th : Nat) (l1 : Int32) (K : Int32 → xS → Prop) : xS → Prop := xob 9 (some th) fun b => xcall 0 0 (p_B_deleteLive b l1) fun v1 => xrz v1 K
abbrev X_B_remove (p : Program) (l : Launch) (e : Env) (s : State) (m : MethodId) (args : Array Value) (below : List Frame) (meth : Method) (c : Code) (C0 S0 : Nat) (K : Int32 → xS → Prop) (D : va_G) (dA : Nat → ClassId) (base : Nat) (sa : Nat → Nat) (pc : Nat) (lv : List (Nat × Value)) (st : List Value) (G : xS) : Prop := xW p l e { frames := 2, cells := C0, slots := S0, locals := 45 } s m args below meth c 2 (MQ below (xQ D dA base (fun v G2 => ∃ r : Int32, v = some (.int r) ∧ K r G2)) args s C0 S0 (fun q : Nat => base ≤ q)) D dA base sa pc lv st G
set_option maxHeartbeats 4000000 in
set_option maxRecDepth 100000 in
theorem c_B_remove (l : Launch) (D : va_G) (dA : Nat → ClassId) (base : Nat) (sa : Nat → Nat) (th : Nat) (l1 : Int32) (K : Int32 → xS → Prop) (G : xS) (h : p_B_remove th l1 K G) : xMet l y_B_remove b_B_remove 2 (some FieldType.boolean) 2 45 D dA base sa [va_rf (some th), .int l1] G (fun v G2 => ∃ r : Int32, v = some (.int r) ∧ K r G2) := by
  refine xMet.of (by decide) (by simp [x_cat, x_catI]) (Nat.le_of_ble_eq_true rfl) ?_
  intro p e s m args below meth c F hret hname
  unfold p_B_remove at h
  refine x_sub (lv' := [(0, va_rf (some th)), (1, .int l1)]) [0, 1] rfl ?_
  refine x_aload_n F 0 d_B_remove_0 rfl rfl ?_
  refine x_iload_n F 1 d_B_remove_1 rfl rfl ?_
  refine x_callV F (enc := fun r => some (.int r)) (P := fun b => p_B_deleteLive b l1) (n := 1) (As := [.int l1]) (st := []) k_356 k_1 k_355 kp_1 k_353 ⟨by decide, by decide, by decide +kernel⟩ rfl ⟨Nat.le_of_ble_eq_true rfl, Nat.le_of_ble_eq_true rfl⟩ (by simp [x_cat, x_catI, x_catL]) cl_B rfl (ro := some th) (fun b K' G' h' _ => c_B_deleteLive l D dA base sa b l1 K' G' h') d_B_remove_2 h (fun v1 G h => ?_)
  exact x_zret F rfl hret d_B_remove_5 h (fun h => ⟨_, rfl, h⟩)
def p_Rw_liveCount_L4 (th : Nat) (K : Int32 → xS → Prop) (Kx33 : Int32 → xS → Prop) : Nat → Int32 → Int32 → xS → Prop
  | 0, _, _ => fun _ => False
  | n + 1, l1, l2 => xgI 8 1 (some th) fun v1 => xif (v1 ≤ l2) (Kx33 l1) (xgR 8 0 (some th) fun v2 => xalR 4 v2 l2 fun v3 => xgI 5 2 v3 fun v4 => xif (v4 = 0) (p_Rw_liveCount_L4 th K Kx33 n l1 (l2 + 1)) (p_Rw_liveCount_L4 th K Kx33 n (l1 + 1) (l2 + 1)))
def p_Rw_liveCount (th : Nat) (K : Int32 → xS → Prop) : xS → Prop := p_Rw_liveCount_L4 th K (fun m5 => K m5) 1000 0 0
abbrev X_Rw_liveCount (p : Program) (l : Launch) (e : Env) (s : State) (m : MethodId) (args : Array Value) (below : List Frame) (meth : Method) (c : Code) (C0 S0 : Nat) (K : Int32 → xS → Prop) (D : va_G) (dA : Nat → ClassId) (base : Nat) (sa : Nat → Nat) (pc : Nat) (lv : List (Nat × Value)) (st : List Value) (G : xS) : Prop := xW p l e { frames := 0, cells := C0, slots := S0, locals := 0 } s m args below meth c 3 (MQ below (xQ D dA base (fun v G2 => ∃ r : Int32, v = some (.int r) ∧ K r G2)) args s C0 S0 (fun q : Nat => base ≤ q)) D dA base sa pc lv st G
set_option maxHeartbeats 4000000 in
set_option maxRecDepth 100000 in
theorem w_Rw_liveCount_L4 {p : Program} {l : Launch} {e : Env} {s : State} {m : MethodId} {args : Array Value} {below : List Frame} {meth : Method} {c : Code} {C0 S0 : Nat} {D : va_G} {dA : Nat → ClassId} {base : Nat} {sa : Nat → Nat} (F : xFix p { frames := 0, cells := C0, slots := S0, locals := 0 } s m args meth c b_Rw_liveCount 3 "BlockSearch$DocumentRow" D dA base sa) (hret : meth.sig.returnType = (some FieldType.int)) {K : Int32 → xS → Prop} {Kx33 : Int32 → xS → Prop} (th : Nat) (hKx33 : ∀ (l1 : Int32) (G : xS), Kx33 l1 G → X_Rw_liveCount p l e s m args below meth c C0 S0 K D dA base sa 33 [(1, .int l1)] [] G) : ∀ (n : Nat) (l1 : Int32) (l2 : Int32) (G : xS), p_Rw_liveCount_L4 th K Kx33 n l1 l2 G → X_Rw_liveCount p l e s m args below meth c C0 S0 K D dA base sa 4 [(0, va_rf (some th)), (1, .int l1), (2, .int l2)] [] G := by
  intro n
  induction n with
  | zero => intro l1 l2 G h; exact h.elim
  | succ n ih =>
    intro l1 l2 G h
    unfold p_Rw_liveCount_L4 at h
    refine x_iload_n F 2 d_Rw_liveCount_4 rfl rfl ?_
    refine x_aload_n F 0 d_Rw_liveCount_5 rfl rfl ?_
    refine x_getI F cl_Rw in_Rw (k := 1) (by decide) k_81 rfl d_Rw_liveCount_6 h (fun v1 h => ?_)
    refine x_icmp_ge F (tgt := 33) d_Rw_liveCount_9 (by decide) h (fun q h => ?_) (fun q h => ?_)
    · refine x_sub (lv' := [(1, .int l1)]) [1] rfl ?_
      exact hKx33 _ _ h
    · refine x_aload_n F 0 d_Rw_liveCount_12 rfl rfl ?_
      refine x_getR F cl_Rw in_Rw (k := 0) (by decide) k_79 rfl d_Rw_liveCount_13 h (fun v2 h => ?_)
      refine x_iload_n F 2 d_Rw_liveCount_16 rfl rfl ?_
      refine x_aald F (t := 4) rfl rfl d_Rw_liveCount_17 h (fun v3 h => ?_)
      refine x_getI F cl_Do in_Do (k := 2) (by decide) k_386 rfl d_Rw_liveCount_18 h (fun v4 h => ?_)
      refine x_if_eq F (tgt := 27) d_Rw_liveCount_21 (by decide) h (fun q h => ?_) (fun q h => ?_)
      · refine x_iinc F 2 (v := (l2 + 1)) (lv' := [(2, .int (l2 + 1)), (0, va_rf (some th)), (1, .int l1)]) d_Rw_liveCount_27 rfl (congrArg (fun z : Int32 => l2 + z) (by decide)) (by decide) rfl ?_
        refine x_goto F (tgt := 4) d_Rw_liveCount_30 (by decide) ?_
        refine x_sub (lv' := [(0, va_rf (some th)), (1, .int l1), (2, .int (l2 + 1))]) [1, 2, 0] rfl ?_
        exact ih _ _ _ h
      · refine x_iinc F 1 (v := (l1 + 1)) (lv' := [(1, .int (l1 + 1)), (0, va_rf (some th)), (2, .int l2)]) d_Rw_liveCount_24 rfl (congrArg (fun z : Int32 => l1 + z) (by decide)) (by decide) rfl ?_
        refine x_iinc F 2 (v := (l2 + 1)) (lv' := [(2, .int (l2 + 1)), (1, .int (l1 + 1)), (0, va_rf (some th))]) d_Rw_liveCount_27 rfl (congrArg (fun z : Int32 => l2 + z) (by decide)) (by decide) rfl ?_
        refine x_goto F (tgt := 4) d_Rw_liveCount_30 (by decide) ?_
        refine x_sub (lv' := [(0, va_rf (some th)), (1, .int (l1 + 1)), (2, .int (l2 + 1))]) [2, 1, 0] rfl ?_
        exact ih _ _ _ h
set_option maxHeartbeats 4000000 in
set_option maxRecDepth 100000 in
theorem c_Rw_liveCount (l : Launch) (D : va_G) (dA : Nat → ClassId) (base : Nat) (sa : Nat → Nat) (th : Nat) (K : Int32 → xS → Prop) (G : xS) (h : p_Rw_liveCount th K G) : xMet l y_Rw_liveCount b_Rw_liveCount 3 (some FieldType.int) 0 0 D dA base sa [va_rf (some th)] G (fun v G2 => ∃ r : Int32, v = some (.int r) ∧ K r G2) := by
  refine xMet.of (by decide) (by simp [x_cat, x_catI]) (Nat.le_of_ble_eq_true rfl) ?_
  intro p e s m args below meth c F hret hname
  unfold p_Rw_liveCount at h
  refine x_sub (lv' := [(0, va_rf (some th))]) [0] rfl ?_
  refine x_iconst F (v := 0) d_Rw_liveCount_0 (by decide) ?_
  refine x_istore_n F (lv' := [(1, .int 0), (0, va_rf (some th))]) d_Rw_liveCount_1 rfl (by decide) rfl ?_
  refine x_iconst F (v := 0) d_Rw_liveCount_2 (by decide) ?_
  refine x_istore_n F (lv' := [(2, .int 0), (1, .int 0), (0, va_rf (some th))]) d_Rw_liveCount_3 rfl (by decide) rfl ?_
  refine x_sub (lv' := [(0, va_rf (some th)), (1, .int 0), (2, .int 0)]) [2, 1, 0] rfl ?_
  refine w_Rw_liveCount_L4 F hret th (fun m5 G h => ?_) _ _ _ _ h
  refine x_iload_n F 0 d_Rw_liveCount_33 rfl rfl ?_
  exact x_iret F rfl hret d_Rw_liveCount_34 ⟨_, rfl, h⟩
def p_Rw_appendLive_L2 (th : Nat) (l1 : Option Nat) (K : Unit → xS → Prop) (Kx38 : xS → Prop) : Nat → Int32 → xS → Prop
  | 0, _ => fun _ => False
  | n + 1, l2 => xgI 8 1 l1 fun v1 => xif (v1 ≤ l2) (Kx38) (xgR 8 0 l1 fun v2 => xalR 4 v2 l2 fun v3 => xgI 5 2 v3 fun v4 => xif (v4 = 0) (p_Rw_appendLive_L2 th l1 K Kx38 n (l2 + 1)) (xgR 8 0 l1 fun v5 => xalR 4 v5 l2 fun v6 => xob 8 (some th) fun b => xcall 0 0 (p_Rw_append b v6) fun _ => p_Rw_appendLive_L2 th l1 K Kx38 n (l2 + 1)))
def p_Rw_appendLive (th : Nat) (l1 : Option Nat) (K : Unit → xS → Prop) : xS → Prop := p_Rw_appendLive_L2 th l1 K (K ()) 1000 0
abbrev X_Rw_appendLive (p : Program) (l : Launch) (e : Env) (s : State) (m : MethodId) (args : Array Value) (below : List Frame) (meth : Method) (c : Code) (C0 S0 : Nat) (K : Unit → xS → Prop) (D : va_G) (dA : Nat → ClassId) (base : Nat) (sa : Nat → Nat) (pc : Nat) (lv : List (Nat × Value)) (st : List Value) (G : xS) : Prop := xW p l e { frames := 1, cells := C0, slots := S0, locals := 21 } s m args below meth c 3 (MQ below (xQ D dA base (fun v G2 => ∃ r : Unit, v = (none : Option Value) ∧ K r G2)) args s C0 S0 (fun q : Nat => base ≤ q)) D dA base sa pc lv st G
set_option maxHeartbeats 4000000 in
set_option maxRecDepth 100000 in
theorem w_Rw_appendLive_L2 {p : Program} {l : Launch} {e : Env} {s : State} {m : MethodId} {args : Array Value} {below : List Frame} {meth : Method} {c : Code} {C0 S0 : Nat} {D : va_G} {dA : Nat → ClassId} {base : Nat} {sa : Nat → Nat} (F : xFix p { frames := 1, cells := C0, slots := S0, locals := 21 } s m args meth c b_Rw_appendLive 3 "BlockSearch$DocumentRow" D dA base sa) (hret : meth.sig.returnType = none) {K : Unit → xS → Prop} {Kx38 : xS → Prop} (th : Nat) (l1 : Option Nat) (hKx38 : ∀ (G : xS), Kx38  G → X_Rw_appendLive p l e s m args below meth c C0 S0 K D dA base sa 38 [] [] G) : ∀ (n : Nat) (l2 : Int32) (G : xS), p_Rw_appendLive_L2 th l1 K Kx38 n l2 G → X_Rw_appendLive p l e s m args below meth c C0 S0 K D dA base sa 2 [(0, va_rf (some th)), (1, va_rf l1), (2, .int l2)] [] G := by
  intro n
  induction n with
  | zero => intro l2 G h; exact h.elim
  | succ n ih =>
    intro l2 G h
    unfold p_Rw_appendLive_L2 at h
    refine x_iload_n F 2 d_Rw_appendLive_2 rfl rfl ?_
    refine x_aload_n F 1 d_Rw_appendLive_3 rfl rfl ?_
    refine x_getI F cl_Rw in_Rw (k := 1) (by decide) k_81 rfl d_Rw_appendLive_4 h (fun v1 h => ?_)
    refine x_icmp_ge F (tgt := 38) d_Rw_appendLive_7 (by decide) h (fun q h => ?_) (fun q h => ?_)
    · refine x_sub (lv' := []) [] rfl ?_
      exact hKx38  _ h
    · refine x_aload_n F 1 d_Rw_appendLive_10 rfl rfl ?_
      refine x_getR F cl_Rw in_Rw (k := 0) (by decide) k_79 rfl d_Rw_appendLive_11 h (fun v2 h => ?_)
      refine x_iload_n F 2 d_Rw_appendLive_14 rfl rfl ?_
      refine x_aald F (t := 4) rfl rfl d_Rw_appendLive_15 h (fun v3 h => ?_)
      refine x_getI F cl_Do in_Do (k := 2) (by decide) k_386 rfl d_Rw_appendLive_16 h (fun v4 h => ?_)
      refine x_if_eq F (tgt := 32) d_Rw_appendLive_19 (by decide) h (fun q h => ?_) (fun q h => ?_)
      · refine x_iinc F 2 (v := (l2 + 1)) (lv' := [(2, .int (l2 + 1)), (0, va_rf (some th)), (1, va_rf l1)]) d_Rw_appendLive_32 rfl (congrArg (fun z : Int32 => l2 + z) (by decide)) (by decide) rfl ?_
        refine x_goto F (tgt := 2) d_Rw_appendLive_35 (by decide) ?_
        refine x_sub (lv' := [(0, va_rf (some th)), (1, va_rf l1), (2, .int (l2 + 1))]) [1, 2, 0] rfl ?_
        exact ih _ _ h
      · refine x_aload_n F 0 d_Rw_appendLive_22 rfl rfl ?_
        refine x_aload_n F 1 d_Rw_appendLive_23 rfl rfl ?_
        refine x_getR F cl_Rw in_Rw (k := 0) (by decide) k_79 rfl d_Rw_appendLive_24 h (fun v5 h => ?_)
        refine x_iload_n F 2 d_Rw_appendLive_27 rfl rfl ?_
        refine x_aald F (t := 4) rfl rfl d_Rw_appendLive_28 h (fun v6 h => ?_)
        refine x_callV F (enc := fun r => none) (P := fun b => p_Rw_append b v6) (n := 1) (As := [va_rf v6]) (st := []) k_399 k_4 k_397 k_398 k_416 ⟨by decide, by decide, by decide +kernel⟩ rfl ⟨Nat.le_of_ble_eq_true rfl, Nat.le_of_ble_eq_true rfl⟩ (by simp [x_cat, x_catI, x_catL]) cl_Rw rfl (ro := some th) (fun b K' G' h' _ => c_Rw_append l D dA base sa b v6 K' G' h') d_Rw_appendLive_29 h (fun _ G h => ?_)
        refine x_iinc F 2 (v := (l2 + 1)) (lv' := [(2, .int (l2 + 1)), (0, va_rf (some th)), (1, va_rf l1)]) d_Rw_appendLive_32 rfl (congrArg (fun z : Int32 => l2 + z) (by decide)) (by decide) rfl ?_
        refine x_goto F (tgt := 2) d_Rw_appendLive_35 (by decide) ?_
        refine x_sub (lv' := [(0, va_rf (some th)), (1, va_rf l1), (2, .int (l2 + 1))]) [1, 2, 0] rfl ?_
        exact ih _ _ h
set_option maxHeartbeats 4000000 in
set_option maxRecDepth 100000 in
theorem c_Rw_appendLive (l : Launch) (D : va_G) (dA : Nat → ClassId) (base : Nat) (sa : Nat → Nat) (th : Nat) (l1 : Option Nat) (K : Unit → xS → Prop) (G : xS) (h : p_Rw_appendLive th l1 K G) : xMet l y_Rw_appendLive b_Rw_appendLive 3 none 1 21 D dA base sa [va_rf (some th), va_rf l1] G (fun v G2 => ∃ r : Unit, v = none ∧ K r G2) := by
  refine xMet.of (by decide) (by simp [x_cat, x_catI]) (Nat.le_of_ble_eq_true rfl) ?_
  intro p e s m args below meth c F hret hname
  unfold p_Rw_appendLive at h
  refine x_sub (lv' := [(0, va_rf (some th)), (1, va_rf l1)]) [0, 1] rfl ?_
  refine x_iconst F (v := 0) d_Rw_appendLive_0 (by decide) ?_
  refine x_istore_n F (lv' := [(2, .int 0), (0, va_rf (some th)), (1, va_rf l1)]) d_Rw_appendLive_1 rfl (by decide) rfl ?_
  refine x_sub (lv' := [(0, va_rf (some th)), (1, va_rf l1), (2, .int 0)]) [1, 2, 0] rfl ?_
  refine w_Rw_appendLive_L2 F hret th l1 (fun G h => ?_) _ _ _ h
  exact x_vret F rfl hret d_Rw_appendLive_38 ⟨(), rfl, h⟩
def p_Rw_drop (th : Nat) (K : Unit → xS → Prop) : xS → Prop := xpI 8 1 (some th) 0 (xpI 8 2 (some th) 0 (K ()))
abbrev X_Rw_drop (p : Program) (l : Launch) (e : Env) (s : State) (m : MethodId) (args : Array Value) (below : List Frame) (meth : Method) (c : Code) (C0 S0 : Nat) (K : Unit → xS → Prop) (D : va_G) (dA : Nat → ClassId) (base : Nat) (sa : Nat → Nat) (pc : Nat) (lv : List (Nat × Value)) (st : List Value) (G : xS) : Prop := xW p l e { frames := 0, cells := C0, slots := S0, locals := 0 } s m args below meth c 1 (MQ below (xQ D dA base (fun v G2 => ∃ r : Unit, v = (none : Option Value) ∧ K r G2)) args s C0 S0 (fun q : Nat => base ≤ q)) D dA base sa pc lv st G
set_option maxHeartbeats 4000000 in
set_option maxRecDepth 100000 in
theorem c_Rw_drop (l : Launch) (D : va_G) (dA : Nat → ClassId) (base : Nat) (sa : Nat → Nat) (th : Nat) (K : Unit → xS → Prop) (G : xS) (h : p_Rw_drop th K G) : xMet l y_Rw_drop b_Rw_drop 1 none 0 0 D dA base sa [va_rf (some th)] G (fun v G2 => ∃ r : Unit, v = none ∧ K r G2) := by
  refine xMet.of (by decide) (by simp [x_cat, x_catI]) (Nat.le_of_ble_eq_true rfl) ?_
  intro p e s m args below meth c F hret hname
  unfold p_Rw_drop at h
  refine x_sub (lv' := [(0, va_rf (some th))]) [0] rfl ?_
  refine x_aload_n F 0 d_Rw_drop_0 rfl rfl ?_
  refine x_iconst F (v := 0) d_Rw_drop_1 (by decide) ?_
  refine x_putI F cl_Rw in_Rw (k := 1) (by decide) k_81 rfl ty_Rw n_Rw rfl rfl d_Rw_drop_2 h (fun G h => ?_)
  refine x_aload_n F 0 d_Rw_drop_5 rfl rfl ?_
  refine x_iconst F (v := 0) d_Rw_drop_6 (by decide) ?_
  refine x_putI F cl_Rw in_Rw (k := 2) (by decide) k_83 rfl ty_Rw n_Rw rfl rfl d_Rw_drop_7 h (fun G h => ?_)
  exact x_vret F rfl hret d_Rw_drop_10 ⟨(), rfl, h⟩
def p_B_flush_B24 (th : Nat) (l1 : Int32)  (K : Int32 → xS → Prop) : xS → Prop := xif (l1 ≤ 0) (xgR 9 2 (some th) fun v3 => xob 8 v3 fun b => xcall 0 0 (p_Rw_drop b ) fun _ => K 0) (xnew 8 3 z_Rw fun a4 => xcall 1 180 (p_Rw_init a4 l1) fun _ => xgR 9 2 (some th) fun v5 => xob 8 (some a4) fun b => xcall 0 0 (p_Rw_appendLive b v5) fun _ => xgR 9 3 (some th) fun v6 => xgI 9 8 (some th) fun v7 => xasR 5 8 v6 v7 (some a4) (xgI 9 8 (some th) fun v8 => xpI 9 8 (some th) (v8 + 1) (xgI 8 2 (some a4) fun v9 => xgR 9 2 (some th) fun v10 => xob 8 v10 fun b => xcall 0 0 (p_Rw_drop b ) fun _ => K v9)))
def p_B_flush (th : Nat) (K : Int32 → xS → Prop) : xS → Prop := xgR 9 2 (some th) fun v1 => xob 8 v1 fun b => xcall 0 0 (p_Rw_liveCount b ) fun v2 => xif (v2 ≤ 0) (p_B_flush_B24 th v2 K) (xgI 9 8 (some th) fun v11 => xif (v11 < 6) (p_B_flush_B24 th v2 K) (K (-3)))
abbrev X_B_flush (p : Program) (l : Launch) (e : Env) (s : State) (m : MethodId) (args : Array Value) (below : List Frame) (meth : Method) (c : Code) (C0 S0 : Nat) (K : Int32 → xS → Prop) (D : va_G) (dA : Nat → ClassId) (base : Nat) (sa : Nat → Nat) (pc : Nat) (lv : List (Nat × Value)) (st : List Value) (G : xS) : Prop := xW p l e { frames := 2, cells := C0, slots := S0, locals := 43 } s m args below meth c 4 (MQ below (xQ D dA base (fun v G2 => ∃ r : Int32, v = some (.int r) ∧ K r G2)) args s C0 S0 (fun q : Nat => base ≤ q)) D dA base sa pc lv st G
set_option maxHeartbeats 4000000 in
set_option maxRecDepth 100000 in
theorem w_B_flush_B24 {p : Program} {l : Launch} {e : Env} {s : State} {m : MethodId} {args : Array Value} {below : List Frame} {meth : Method} {c : Code} {C0 S0 : Nat} {D : va_G} {dA : Nat → ClassId} {base : Nat} {sa : Nat → Nat} (F : xFix p { frames := 2, cells := C0, slots := S0, locals := 43 } s m args meth c b_B_flush 4 "BlockSearch" D dA base sa) (hret : meth.sig.returnType = (some FieldType.int)) {K : Int32 → xS → Prop} (th : Nat) (l1 : Int32)  {G : xS} (h : p_B_flush_B24 th l1 K  G) : X_B_flush p l e s m args below meth c C0 S0 K D dA base sa 24 [(0, va_rf (some th)), (1, .int l1)] [] G := by
  unfold p_B_flush_B24 at h
  refine x_iconst F (v := 0) d_B_flush_24 (by decide) ?_
  refine x_istore_n F (lv' := [(2, .int 0), (0, va_rf (some th)), (1, .int l1)]) d_B_flush_25 rfl (by decide) rfl ?_
  refine x_iload_n F 2 d_B_flush_26 rfl rfl ?_
  refine x_if_le F (tgt := 72) d_B_flush_27 (by decide) h (fun q h => ?_) (fun q h => ?_)
  · refine x_aload_n F 1 d_B_flush_72 rfl rfl ?_
    refine x_getR F cl_B in_B (k := 2) (by decide) k_199 rfl d_B_flush_73 h (fun v3 h => ?_)
    refine x_callV F (enc := fun r => none) (P := fun b => p_Rw_drop b ) (n := 0) (As := []) (st := []) k_420 k_4 k_418 k_419 k_417 ⟨by decide, by decide, by decide +kernel⟩ rfl ⟨Nat.le_of_ble_eq_true rfl, Nat.le_of_ble_eq_true rfl⟩ (by simp [x_cat, x_catI, x_catL]) cl_Rw rfl (ro := v3) (fun b K' G' h' _ => c_Rw_drop l D dA base sa b  K' G' h') d_B_flush_76 h (fun _ G h => ?_)
    refine x_iload_n F 0 d_B_flush_79 rfl rfl ?_
    exact x_iret F rfl hret d_B_flush_80 ⟨_, rfl, h⟩
  · refine x_new F cl_Rw in_Rw ty_Rw k_71 k_72 k_4 df_Rw d_B_flush_30 h (fun a4 G h => ?_)
    refine x_dup F (x_cat _) d_B_flush_33 ?_
    refine x_iload_n F 2 d_B_flush_34 rfl rfl ?_
    refine x_callI F (enc := fun r => none) (P := p_Rw_init a4 l1) (n := 1) (As := [.int l1]) (st := [va_rf (some a4)]) k_75 k_4 k_74 rfl k_73 ⟨by decide, by decide, by decide +kernel⟩ rfl ⟨Nat.le_of_ble_eq_true rfl, Nat.le_of_ble_eq_true rfl⟩ (by simp [x_cat, x_catI, x_catL]) (b := a4) (fun K' G' h' _ => c_Rw_init l D dA base sa a4 l1 K' G' h') d_B_flush_35 h (fun _ G h => ?_)
    refine x_astore_n F (lv' := [(3, va_rf (some a4)), (2, .int 0), (0, va_rf (some th)), (1, .int l1)]) d_B_flush_38 rfl (by decide) rfl ?_
    refine x_aload_n F 0 d_B_flush_39 rfl rfl ?_
    refine x_aload_n F 2 d_B_flush_40 rfl rfl ?_
    refine x_getR F cl_B in_B (k := 2) (by decide) k_199 rfl d_B_flush_41 h (fun v5 h => ?_)
    refine x_callV F (enc := fun r => none) (P := fun b => p_Rw_appendLive b v5) (n := 1) (As := [va_rf v5]) (st := []) k_415 k_4 k_413 k_414 k_412 ⟨by decide, by decide, by decide +kernel⟩ rfl ⟨Nat.le_of_ble_eq_true rfl, Nat.le_of_ble_eq_true rfl⟩ (by simp [x_cat, x_catI, x_catL]) cl_Rw rfl (ro := some a4) (fun b K' G' h' _ => c_Rw_appendLive l D dA base sa b v5 K' G' h') d_B_flush_44 h (fun _ G h => ?_)
    refine x_aload_n F 2 d_B_flush_47 rfl rfl ?_
    refine x_getR F cl_B in_B (k := 3) (by decide) k_200 rfl d_B_flush_48 h (fun v6 h => ?_)
    refine x_aload_n F 2 d_B_flush_51 rfl rfl ?_
    refine x_getI F cl_B in_B (k := 8) (by decide) k_205 rfl d_B_flush_52 h (fun v7 h => ?_)
    refine x_aload_n F 0 d_B_flush_55 rfl rfl ?_
    refine x_aast F cl_Rw (t := 5) rfl d_B_flush_56 h (fun G h => ?_)
    refine x_aload_n F 2 d_B_flush_57 rfl rfl ?_
    refine x_dup F (x_cat _) d_B_flush_58 ?_
    refine x_getI F cl_B in_B (k := 8) (by decide) k_205 rfl d_B_flush_59 h (fun v8 h => ?_)
    refine x_iconst F (v := 1) d_B_flush_62 (by decide) ?_
    refine x_iadd F d_B_flush_63 ?_
    refine x_putI F cl_B in_B (k := 8) (by decide) k_205 rfl ty_B n_B rfl rfl d_B_flush_64 h (fun G h => ?_)
    refine x_aload_n F 0 d_B_flush_67 rfl rfl ?_
    refine x_getI F cl_Rw in_Rw (k := 2) (by decide) k_84 rfl d_B_flush_68 h (fun v9 h => ?_)
    refine x_istore_n F (lv' := [(2, .int v9), (3, va_rf (some a4)), (0, va_rf (some th)), (1, .int l1)]) d_B_flush_71 rfl (by decide) rfl ?_
    refine x_aload_n F 2 d_B_flush_72 rfl rfl ?_
    refine x_getR F cl_B in_B (k := 2) (by decide) k_199 rfl d_B_flush_73 h (fun v10 h => ?_)
    refine x_callV F (enc := fun r => none) (P := fun b => p_Rw_drop b ) (n := 0) (As := []) (st := []) k_420 k_4 k_418 k_419 k_417 ⟨by decide, by decide, by decide +kernel⟩ rfl ⟨Nat.le_of_ble_eq_true rfl, Nat.le_of_ble_eq_true rfl⟩ (by simp [x_cat, x_catI, x_catL]) cl_Rw rfl (ro := v10) (fun b K' G' h' _ => c_Rw_drop l D dA base sa b  K' G' h') d_B_flush_76 h (fun _ G h => ?_)
    refine x_iload_n F 0 d_B_flush_79 rfl rfl ?_
    exact x_iret F rfl hret d_B_flush_80 ⟨_, rfl, h⟩
set_option maxHeartbeats 4000000 in
set_option maxRecDepth 100000 in
theorem c_B_flush (l : Launch) (D : va_G) (dA : Nat → ClassId) (base : Nat) (sa : Nat → Nat) (th : Nat) (K : Int32 → xS → Prop) (G : xS) (h : p_B_flush th K G) : xMet l y_B_flush b_B_flush 4 (some FieldType.int) 2 43 D dA base sa [va_rf (some th)] G (fun v G2 => ∃ r : Int32, v = some (.int r) ∧ K r G2) := by
  refine xMet.of (by decide) (by simp [x_cat, x_catI]) (Nat.le_of_ble_eq_true rfl) ?_
  intro p e s m args below meth c F hret hname
  unfold p_B_flush at h
  refine x_sub (lv' := [(0, va_rf (some th))]) [0] rfl ?_
  refine x_aload_n F 0 d_B_flush_0 rfl rfl ?_
  refine x_getR F cl_B in_B (k := 2) (by decide) k_199 rfl d_B_flush_1 h (fun v1 h => ?_)
  refine x_callV F (enc := fun r => some (.int r)) (P := fun b => p_Rw_liveCount b ) (n := 0) (As := []) (st := []) k_411 k_4 k_409 k_410 k_408 ⟨by decide, by decide, by decide +kernel⟩ rfl ⟨Nat.le_of_ble_eq_true rfl, Nat.le_of_ble_eq_true rfl⟩ (by simp [x_cat, x_catI, x_catL]) cl_Rw rfl (ro := v1) (fun b K' G' h' _ => c_Rw_liveCount l D dA base sa b  K' G' h') d_B_flush_4 h (fun v2 G h => ?_)
  refine x_istore_n F (lv' := [(1, .int v2), (0, va_rf (some th))]) d_B_flush_7 rfl (by decide) rfl ?_
  refine x_iload_n F 0 d_B_flush_8 rfl rfl ?_
  refine x_if_le F (tgt := 24) d_B_flush_9 (by decide) h (fun q h => ?_) (fun q h => ?_)
  · refine x_sub (lv' := [(0, va_rf (some th)), (1, .int v2)]) [1, 0] rfl ?_
    exact w_B_flush_B24 F hret th v2 h
  · refine x_aload_n F 1 d_B_flush_12 rfl rfl ?_
    refine x_getI F cl_B in_B (k := 8) (by decide) k_205 rfl d_B_flush_13 h (fun v11 h => ?_)
    refine x_bipush F (v := 6) d_B_flush_16 (by decide) ?_
    refine x_icmp_lt F (tgt := 24) d_B_flush_18 (by decide) h (fun q h => ?_) (fun q h => ?_)
    · refine x_sub (lv' := [(0, va_rf (some th)), (1, .int v2)]) [1, 0] rfl ?_
      exact w_B_flush_B24 F hret th v2 h
    · refine x_bipush F (v := (-3)) d_B_flush_21 (by decide) ?_
      exact x_iret F rfl hret d_B_flush_23 ⟨_, rfl, h⟩
def p_Rw_deletedCount (th : Nat) (K : Int32 → xS → Prop) : xS → Prop := xgI 8 1 (some th) fun v1 => xob 8 (some th) fun b => xcall 0 0 (p_Rw_liveCount b ) fun v2 => K (v1 - v2)
abbrev X_Rw_deletedCount (p : Program) (l : Launch) (e : Env) (s : State) (m : MethodId) (args : Array Value) (below : List Frame) (meth : Method) (c : Code) (C0 S0 : Nat) (K : Int32 → xS → Prop) (D : va_G) (dA : Nat → ClassId) (base : Nat) (sa : Nat → Nat) (pc : Nat) (lv : List (Nat × Value)) (st : List Value) (G : xS) : Prop := xW p l e { frames := 1, cells := C0, slots := S0, locals := 22 } s m args below meth c 1 (MQ below (xQ D dA base (fun v G2 => ∃ r : Int32, v = some (.int r) ∧ K r G2)) args s C0 S0 (fun q : Nat => base ≤ q)) D dA base sa pc lv st G
set_option maxHeartbeats 4000000 in
set_option maxRecDepth 100000 in
theorem c_Rw_deletedCount (l : Launch) (D : va_G) (dA : Nat → ClassId) (base : Nat) (sa : Nat → Nat) (th : Nat) (K : Int32 → xS → Prop) (G : xS) (h : p_Rw_deletedCount th K G) : xMet l y_Rw_deletedCount b_Rw_deletedCount 1 (some FieldType.int) 1 22 D dA base sa [va_rf (some th)] G (fun v G2 => ∃ r : Int32, v = some (.int r) ∧ K r G2) := by
  refine xMet.of (by decide) (by simp [x_cat, x_catI]) (Nat.le_of_ble_eq_true rfl) ?_
  intro p e s m args below meth c F hret hname
  unfold p_Rw_deletedCount at h
  refine x_sub (lv' := [(0, va_rf (some th))]) [0] rfl ?_
  refine x_aload_n F 0 d_Rw_deletedCount_0 rfl rfl ?_
  refine x_getI F cl_Rw in_Rw (k := 1) (by decide) k_81 rfl d_Rw_deletedCount_1 h (fun v1 h => ?_)
  refine x_aload_n F 0 d_Rw_deletedCount_4 rfl rfl ?_
  refine x_callV F (enc := fun r => some (.int r)) (P := fun b => p_Rw_liveCount b ) (n := 0) (As := []) (st := [.int v1]) k_411 k_4 k_409 k_410 k_429 ⟨by decide, by decide, by decide +kernel⟩ rfl ⟨Nat.le_of_ble_eq_true rfl, Nat.le_of_ble_eq_true rfl⟩ (by simp [x_cat, x_catI, x_catL]) cl_Rw rfl (ro := some th) (fun b K' G' h' _ => c_Rw_liveCount l D dA base sa b  K' G' h') d_Rw_deletedCount_5 h (fun v2 G h => ?_)
  refine x_isub F d_Rw_deletedCount_8 ?_
  exact x_iret F rfl hret d_Rw_deletedCount_9 ⟨_, rfl, h⟩
def p_B_mergedRow_L13 (th : Nat) (l1 : Int32) (l2 : Int32) (l4 : Option Nat) (K : Option Nat → xS → Prop) (Kx39 : xS → Prop) : Nat → Int32 → xS → Prop
  | 0, _ => fun _ => False
  | n + 1, l5 => xif ((l1 + l2) ≤ l5) (Kx39) (xgR 9 3 (some th) fun v2 => xalR 5 v2 l5 fun v3 => xob 8 l4 fun b => xcall 0 0 (p_Rw_appendLive b v3) fun _ => p_B_mergedRow_L13 th l1 l2 l4 K Kx39 n (l5 + 1))
def p_B_mergedRow (th : Nat) (l1 : Int32) (l2 : Int32) (l3 : Int32) (K : Option Nat → xS → Prop) : xS → Prop := xnew 8 3 z_Rw fun a1 => xcall 1 180 (p_Rw_init a1 l3) fun _ => p_B_mergedRow_L13 th l1 l2 (some a1) K (K (some a1)) 1000 l1
abbrev X_B_mergedRow (p : Program) (l : Launch) (e : Env) (s : State) (m : MethodId) (args : Array Value) (below : List Frame) (meth : Method) (c : Code) (C0 S0 : Nat) (K : Option Nat → xS → Prop) (D : va_G) (dA : Nat → ClassId) (base : Nat) (sa : Nat → Nat) (pc : Nat) (lv : List (Nat × Value)) (st : List Value) (G : xS) : Prop := xW p l e { frames := 2, cells := C0, slots := S0, locals := 43 } s m args below meth c 6 (MQ below (xQ D dA base (fun v G2 => ∃ r : Option Nat, v = some (va_rf r) ∧ K r G2)) args s C0 S0 (fun q : Nat => base ≤ q)) D dA base sa pc lv st G
set_option maxHeartbeats 4000000 in
set_option maxRecDepth 100000 in
theorem w_B_mergedRow_L13 {p : Program} {l : Launch} {e : Env} {s : State} {m : MethodId} {args : Array Value} {below : List Frame} {meth : Method} {c : Code} {C0 S0 : Nat} {D : va_G} {dA : Nat → ClassId} {base : Nat} {sa : Nat → Nat} (F : xFix p { frames := 2, cells := C0, slots := S0, locals := 43 } s m args meth c b_B_mergedRow 6 "BlockSearch" D dA base sa) (hret : meth.sig.returnType = (some (FieldType.object "BlockSearch$DocumentRow"))) {K : Option Nat → xS → Prop} {Kx39 : xS → Prop} (th : Nat) (l1 : Int32) (l2 : Int32) (l4 : Option Nat) (hKx39 : ∀ (G : xS), Kx39  G → X_B_mergedRow p l e s m args below meth c C0 S0 K D dA base sa 39 [(4, va_rf l4)] [] G) : ∀ (n : Nat) (l5 : Int32) (G : xS), p_B_mergedRow_L13 th l1 l2 l4 K Kx39 n l5 G → X_B_mergedRow p l e s m args below meth c C0 S0 K D dA base sa 13 [(0, va_rf (some th)), (1, .int l1), (2, .int l2), (4, va_rf l4), (5, .int l5)] [] G := by
  intro n
  induction n with
  | zero => intro l5 G h; exact h.elim
  | succ n ih =>
    intro l5 G h
    unfold p_B_mergedRow_L13 at h
    refine x_iload F 4 d_B_mergedRow_13 rfl ?_
    refine x_iload_n F 1 d_B_mergedRow_15 rfl rfl ?_
    refine x_iload_n F 2 d_B_mergedRow_16 rfl rfl ?_
    refine x_iadd F d_B_mergedRow_17 ?_
    refine x_icmp_ge F (tgt := 39) d_B_mergedRow_18 (by decide) h (fun q h => ?_) (fun q h => ?_)
    · refine x_sub (lv' := [(4, va_rf l4)]) [3] rfl ?_
      exact hKx39  _ h
    · refine x_aload F 3 d_B_mergedRow_21 rfl ?_
      refine x_aload_n F 0 d_B_mergedRow_23 rfl rfl ?_
      refine x_getR F cl_B in_B (k := 3) (by decide) k_200 rfl d_B_mergedRow_24 h (fun v2 h => ?_)
      refine x_iload F 4 d_B_mergedRow_27 rfl ?_
      refine x_aald F (t := 5) rfl rfl d_B_mergedRow_29 h (fun v3 h => ?_)
      refine x_callV F (enc := fun r => none) (P := fun b => p_Rw_appendLive b v3) (n := 1) (As := [va_rf v3]) (st := []) k_415 k_4 k_413 k_414 k_412 ⟨by decide, by decide, by decide +kernel⟩ rfl ⟨Nat.le_of_ble_eq_true rfl, Nat.le_of_ble_eq_true rfl⟩ (by simp [x_cat, x_catI, x_catL]) cl_Rw rfl (ro := l4) (fun b K' G' h' _ => c_Rw_appendLive l D dA base sa b v3 K' G' h') d_B_mergedRow_30 h (fun _ G h => ?_)
      refine x_iinc F 4 (v := (l5 + 1)) (lv' := [(5, .int (l5 + 1)), (0, va_rf (some th)), (1, .int l1), (2, .int l2), (4, va_rf l4)]) d_B_mergedRow_33 rfl (congrArg (fun z : Int32 => l5 + z) (by decide)) (by decide) rfl ?_
      refine x_goto F (tgt := 13) d_B_mergedRow_36 (by decide) ?_
      refine x_sub (lv' := [(0, va_rf (some th)), (1, .int l1), (2, .int l2), (4, va_rf l4), (5, .int (l5 + 1))]) [1, 2, 3, 4, 0] rfl ?_
      exact ih _ _ h
set_option maxHeartbeats 4000000 in
set_option maxRecDepth 100000 in
theorem c_B_mergedRow (l : Launch) (D : va_G) (dA : Nat → ClassId) (base : Nat) (sa : Nat → Nat) (th : Nat) (l1 : Int32) (l2 : Int32) (l3 : Int32) (K : Option Nat → xS → Prop) (G : xS) (h : p_B_mergedRow th l1 l2 l3 K G) : xMet l y_B_mergedRow b_B_mergedRow 6 (some (FieldType.object "BlockSearch$DocumentRow")) 2 43 D dA base sa [va_rf (some th), .int l1, .int l2, .int l3] G (fun v G2 => ∃ r : Option Nat, v = some (va_rf r) ∧ K r G2) := by
  refine xMet.of (by decide) (by simp [x_cat, x_catI]) (Nat.le_of_ble_eq_true rfl) ?_
  intro p e s m args below meth c F hret hname
  unfold p_B_mergedRow at h
  refine x_sub (lv' := [(0, va_rf (some th)), (1, .int l1), (2, .int l2), (3, .int l3)]) [0, 1, 2, 3] rfl ?_
  refine x_new F cl_Rw in_Rw ty_Rw k_71 k_72 k_4 df_Rw d_B_mergedRow_0 h (fun a1 G h => ?_)
  refine x_dup F (x_cat _) d_B_mergedRow_3 ?_
  refine x_iload_n F 3 d_B_mergedRow_4 rfl rfl ?_
  refine x_callI F (enc := fun r => none) (P := p_Rw_init a1 l3) (n := 1) (As := [.int l3]) (st := [va_rf (some a1)]) k_75 k_4 k_74 rfl k_73 ⟨by decide, by decide, by decide +kernel⟩ rfl ⟨Nat.le_of_ble_eq_true rfl, Nat.le_of_ble_eq_true rfl⟩ (by simp [x_cat, x_catI, x_catL]) (b := a1) (fun K' G' h' _ => c_Rw_init l D dA base sa a1 l3 K' G' h') d_B_mergedRow_5 h (fun _ G h => ?_)
  refine x_astore F (lv' := [(4, va_rf (some a1)), (0, va_rf (some th)), (1, .int l1), (2, .int l2), (3, .int l3)]) d_B_mergedRow_8 (by decide) rfl ?_
  refine x_iload_n F 2 d_B_mergedRow_10 rfl rfl ?_
  refine x_istore F (lv' := [(5, .int l1), (4, va_rf (some a1)), (0, va_rf (some th)), (1, .int l1), (2, .int l2), (3, .int l3)]) d_B_mergedRow_11 (by decide) rfl ?_
  refine x_sub (lv' := [(0, va_rf (some th)), (1, .int l1), (2, .int l2), (4, va_rf (some a1)), (5, .int l1)]) [2, 3, 4, 1, 0] rfl ?_
  refine w_B_mergedRow_L13 F hret th l1 l2 (some a1) (fun G h => ?_) _ _ _ h
  refine x_aload F 0 d_B_mergedRow_39 rfl ?_
  exact x_aret F rfl hret (Or.inl ⟨_, rfl⟩) d_B_mergedRow_41 ⟨_, rfl, h⟩
def p_B_moveDown_L2 (th : Nat) (l2 : Int32) (K : Unit → xS → Prop) (Kx30 : xS → Prop) : Nat → Int32 → xS → Prop
  | 0, _ => fun _ => False
  | n + 1, l3 => xgI 9 8 (some th) fun v1 => xif (v1 ≤ l3) (Kx30) (xgR 9 3 (some th) fun v2 => xgR 9 3 (some th) fun v3 => xalR 5 v3 l3 fun v4 => xasR 5 8 v2 (l3 - l2) v4 (p_B_moveDown_L2 th l2 K Kx30 n (l3 + 1)))
def p_B_moveDown (th : Nat) (l1 : Int32) (l2 : Int32) (K : Unit → xS → Prop) : xS → Prop := p_B_moveDown_L2 th l2 K (xgI 9 8 (some th) fun v5 => xpI 9 8 (some th) (v5 - l2) (K ())) 1000 l1
abbrev X_B_moveDown (p : Program) (l : Launch) (e : Env) (s : State) (m : MethodId) (args : Array Value) (below : List Frame) (meth : Method) (c : Code) (C0 S0 : Nat) (K : Unit → xS → Prop) (D : va_G) (dA : Nat → ClassId) (base : Nat) (sa : Nat → Nat) (pc : Nat) (lv : List (Nat × Value)) (st : List Value) (G : xS) : Prop := xW p l e { frames := 0, cells := C0, slots := S0, locals := 0 } s m args below meth c 4 (MQ below (xQ D dA base (fun v G2 => ∃ r : Unit, v = (none : Option Value) ∧ K r G2)) args s C0 S0 (fun q : Nat => base ≤ q)) D dA base sa pc lv st G
set_option maxHeartbeats 4000000 in
set_option maxRecDepth 100000 in
theorem w_B_moveDown_L2 {p : Program} {l : Launch} {e : Env} {s : State} {m : MethodId} {args : Array Value} {below : List Frame} {meth : Method} {c : Code} {C0 S0 : Nat} {D : va_G} {dA : Nat → ClassId} {base : Nat} {sa : Nat → Nat} (F : xFix p { frames := 0, cells := C0, slots := S0, locals := 0 } s m args meth c b_B_moveDown 4 "BlockSearch" D dA base sa) (hret : meth.sig.returnType = none) {K : Unit → xS → Prop} {Kx30 : xS → Prop} (th : Nat) (l2 : Int32) (hKx30 : ∀ (G : xS), Kx30  G → X_B_moveDown p l e s m args below meth c C0 S0 K D dA base sa 30 [(0, va_rf (some th)), (2, .int l2)] [] G) : ∀ (n : Nat) (l3 : Int32) (G : xS), p_B_moveDown_L2 th l2 K Kx30 n l3 G → X_B_moveDown p l e s m args below meth c C0 S0 K D dA base sa 2 [(0, va_rf (some th)), (2, .int l2), (3, .int l3)] [] G := by
  intro n
  induction n with
  | zero => intro l3 G h; exact h.elim
  | succ n ih =>
    intro l3 G h
    unfold p_B_moveDown_L2 at h
    refine x_iload_n F 2 d_B_moveDown_2 rfl rfl ?_
    refine x_aload_n F 0 d_B_moveDown_3 rfl rfl ?_
    refine x_getI F cl_B in_B (k := 8) (by decide) k_205 rfl d_B_moveDown_4 h (fun v1 h => ?_)
    refine x_icmp_ge F (tgt := 30) d_B_moveDown_7 (by decide) h (fun q h => ?_) (fun q h => ?_)
    · refine x_sub (lv' := [(0, va_rf (some th)), (2, .int l2)]) [0, 1] rfl ?_
      exact hKx30  _ h
    · refine x_aload_n F 0 d_B_moveDown_10 rfl rfl ?_
      refine x_getR F cl_B in_B (k := 3) (by decide) k_200 rfl d_B_moveDown_11 h (fun v2 h => ?_)
      refine x_iload_n F 2 d_B_moveDown_14 rfl rfl ?_
      refine x_iload_n F 1 d_B_moveDown_15 rfl rfl ?_
      refine x_isub F d_B_moveDown_16 ?_
      refine x_aload_n F 0 d_B_moveDown_17 rfl rfl ?_
      refine x_getR F cl_B in_B (k := 3) (by decide) k_200 rfl d_B_moveDown_18 h (fun v3 h => ?_)
      refine x_iload_n F 2 d_B_moveDown_21 rfl rfl ?_
      refine x_aald F (t := 5) rfl rfl d_B_moveDown_22 h (fun v4 h => ?_)
      refine x_aast F cl_Rw (t := 5) rfl d_B_moveDown_23 h (fun G h => ?_)
      refine x_iinc F 2 (v := (l3 + 1)) (lv' := [(3, .int (l3 + 1)), (0, va_rf (some th)), (2, .int l2)]) d_B_moveDown_24 rfl (congrArg (fun z : Int32 => l3 + z) (by decide)) (by decide) rfl ?_
      refine x_goto F (tgt := 2) d_B_moveDown_27 (by decide) ?_
      refine x_sub (lv' := [(0, va_rf (some th)), (2, .int l2), (3, .int (l3 + 1))]) [1, 2, 0] rfl ?_
      exact ih _ _ h
set_option maxHeartbeats 4000000 in
set_option maxRecDepth 100000 in
theorem c_B_moveDown (l : Launch) (D : va_G) (dA : Nat → ClassId) (base : Nat) (sa : Nat → Nat) (th : Nat) (l1 : Int32) (l2 : Int32) (K : Unit → xS → Prop) (G : xS) (h : p_B_moveDown th l1 l2 K G) : xMet l y_B_moveDown b_B_moveDown 4 none 0 0 D dA base sa [va_rf (some th), .int l1, .int l2] G (fun v G2 => ∃ r : Unit, v = none ∧ K r G2) := by
  refine xMet.of (by decide) (by simp [x_cat, x_catI]) (Nat.le_of_ble_eq_true rfl) ?_
  intro p e s m args below meth c F hret hname
  unfold p_B_moveDown at h
  refine x_sub (lv' := [(0, va_rf (some th)), (1, .int l1), (2, .int l2)]) [0, 1, 2] rfl ?_
  refine x_iload_n F 1 d_B_moveDown_0 rfl rfl ?_
  refine x_istore_n F (lv' := [(3, .int l1), (0, va_rf (some th)), (1, .int l1), (2, .int l2)]) d_B_moveDown_1 rfl (by decide) rfl ?_
  refine x_sub (lv' := [(0, va_rf (some th)), (2, .int l2), (3, .int l1)]) [1, 3, 0] rfl ?_
  refine w_B_moveDown_L2 F hret th l2 (fun G h => ?_) _ _ _ h
  refine x_aload_n F 0 d_B_moveDown_30 rfl rfl ?_
  refine x_dup F (x_cat _) d_B_moveDown_31 ?_
  refine x_getI F cl_B in_B (k := 8) (by decide) k_205 rfl d_B_moveDown_32 h (fun v5 h => ?_)
  refine x_iload_n F 1 d_B_moveDown_35 rfl rfl ?_
  refine x_isub F d_B_moveDown_36 ?_
  refine x_putI F cl_B in_B (k := 8) (by decide) k_205 rfl ty_B n_B rfl rfl d_B_moveDown_37 h (fun G h => ?_)
  exact x_vret F rfl hret d_B_moveDown_40 ⟨(), rfl, h⟩
def p_B_merge_L35 (th : Nat) (l1 : Int32) (l2 : Int32) (K : Int32 → xS → Prop) (Kx77 : Int32 → Int32 → xS → Prop) : Nat → Int32 → Int32 → Int32 → xS → Prop
  | 0, _, _, _ => fun _ => False
  | n + 1, l3, l4, l5 => xif ((l1 + l2) ≤ l5) (Kx77 l3 l4) (xgR 9 3 (some th) fun v2 => xalR 5 v2 l5 fun v3 => xob 8 v3 fun b => xcall 0 0 (p_Rw_liveCount b ) fun v4 => xgR 9 3 (some th) fun v5 => xalR 5 v5 l5 fun v6 => xob 8 v6 fun b => xcall 0 0 (p_Rw_deletedCount b ) fun v7 => p_B_merge_L35 th l1 l2 K Kx77 n (l3 + v4) (l4 + v7) (l5 + 1))
def p_B_merge_B100 (th : Nat) (l1 : Int32) (l2 : Int32) (l4 : Int32) (l5 : Int32)  (K : Int32 → xS → Prop) : xS → Prop := xob 9 (some th) fun b => xcall 0 0 (p_B_moveDown b (l1 + l2) (l2 - l5)) fun _ => xgI 9 10 (some th) fun v10 => xpI 9 10 (some th) (v10 + l4) (xgI 9 8 (some th) fun v11 => K v11)
def p_B_merge (th : Nat) (l1 : Int32) (l2 : Int32) (K : Int32 → xS → Prop) : xS → Prop := xif (l2 < 2) (K (-1)) (xif (6 < l2) (K (-1)) (xif (l1 < 0) (K (-1)) (xgI 9 8 (some th) fun v1 => xif (l1 ≤ (v1 - l2)) (p_B_merge_L35 th l1 l2 K (fun m8 m9 => xif (m8 ≤ 0) (p_B_merge_B100 th l1 l2 m9 0 K) (xgR 9 3 (some th) fun v12 => xob 9 (some th) fun b => xcall 2 183 (p_B_mergedRow b l1 l2 m8) fun v13 => xasR 5 8 v12 l1 v13 (p_B_merge_B100 th l1 l2 m9 1 K))) 1000 0 0 l1) (K (-1)))))
abbrev X_B_merge (p : Program) (l : Launch) (e : Env) (s : State) (m : MethodId) (args : Array Value) (below : List Frame) (meth : Method) (c : Code) (C0 S0 : Nat) (K : Int32 → xS → Prop) (D : va_G) (dA : Nat → ClassId) (base : Nat) (sa : Nat → Nat) (pc : Nat) (lv : List (Nat × Value)) (st : List Value) (G : xS) : Prop := xW p l e { frames := 3, cells := C0, slots := S0, locals := 68 } s m args below meth c 6 (MQ below (xQ D dA base (fun v G2 => ∃ r : Int32, v = some (.int r) ∧ K r G2)) args s C0 S0 (fun q : Nat => base ≤ q)) D dA base sa pc lv st G
set_option maxHeartbeats 4000000 in
set_option maxRecDepth 100000 in
theorem w_B_merge_L35 {p : Program} {l : Launch} {e : Env} {s : State} {m : MethodId} {args : Array Value} {below : List Frame} {meth : Method} {c : Code} {C0 S0 : Nat} {D : va_G} {dA : Nat → ClassId} {base : Nat} {sa : Nat → Nat} (F : xFix p { frames := 3, cells := C0, slots := S0, locals := 68 } s m args meth c b_B_merge 6 "BlockSearch" D dA base sa) (hret : meth.sig.returnType = (some FieldType.int)) {K : Int32 → xS → Prop} {Kx77 : Int32 → Int32 → xS → Prop} (th : Nat) (l1 : Int32) (l2 : Int32) (hKx77 : ∀ (l3 : Int32) (l4 : Int32) (G : xS), Kx77 l3 l4 G → X_B_merge p l e s m args below meth c C0 S0 K D dA base sa 77 [(0, va_rf (some th)), (1, .int l1), (2, .int l2), (3, .int l3), (4, .int l4)] [] G) : ∀ (n : Nat) (l3 : Int32) (l4 : Int32) (l5 : Int32) (G : xS), p_B_merge_L35 th l1 l2 K Kx77 n l3 l4 l5 G → X_B_merge p l e s m args below meth c C0 S0 K D dA base sa 35 [(0, va_rf (some th)), (1, .int l1), (2, .int l2), (3, .int l3), (4, .int l4), (5, .int l5)] [] G := by
  intro n
  induction n with
  | zero => intro l3 l4 l5 G h; exact h.elim
  | succ n ih =>
    intro l3 l4 l5 G h
    unfold p_B_merge_L35 at h
    refine x_iload F 5 d_B_merge_35 rfl ?_
    refine x_iload_n F 1 d_B_merge_37 rfl rfl ?_
    refine x_iload_n F 2 d_B_merge_38 rfl rfl ?_
    refine x_iadd F d_B_merge_39 ?_
    refine x_icmp_ge F (tgt := 77) d_B_merge_40 (by decide) h (fun q h => ?_) (fun q h => ?_)
    · refine x_sub (lv' := [(0, va_rf (some th)), (1, .int l1), (2, .int l2), (3, .int l3), (4, .int l4)]) [0, 1, 2, 3, 4] rfl ?_
      exact hKx77 _ _ _ h
    · refine x_iload_n F 3 d_B_merge_43 rfl rfl ?_
      refine x_aload_n F 0 d_B_merge_44 rfl rfl ?_
      refine x_getR F cl_B in_B (k := 3) (by decide) k_200 rfl d_B_merge_45 h (fun v2 h => ?_)
      refine x_iload F 5 d_B_merge_48 rfl ?_
      refine x_aald F (t := 5) rfl rfl d_B_merge_50 h (fun v3 h => ?_)
      refine x_callV F (enc := fun r => some (.int r)) (P := fun b => p_Rw_liveCount b ) (n := 0) (As := []) (st := [.int l3]) k_411 k_4 k_409 k_410 k_408 ⟨by decide, by decide, by decide +kernel⟩ rfl ⟨Nat.le_of_ble_eq_true rfl, Nat.le_of_ble_eq_true rfl⟩ (by simp [x_cat, x_catI, x_catL]) cl_Rw rfl (ro := v3) (fun b K' G' h' _ => c_Rw_liveCount l D dA base sa b  K' G' h') d_B_merge_51 h (fun v4 G h => ?_)
      refine x_iadd F d_B_merge_54 ?_
      refine x_istore_n F (lv' := [(3, .int (l3 + v4)), (0, va_rf (some th)), (1, .int l1), (2, .int l2), (4, .int l4), (5, .int l5)]) d_B_merge_55 rfl (by decide) rfl ?_
      refine x_iload F 4 d_B_merge_56 rfl ?_
      refine x_aload_n F 1 d_B_merge_58 rfl rfl ?_
      refine x_getR F cl_B in_B (k := 3) (by decide) k_200 rfl d_B_merge_59 h (fun v5 h => ?_)
      refine x_iload F 5 d_B_merge_62 rfl ?_
      refine x_aald F (t := 5) rfl rfl d_B_merge_64 h (fun v6 h => ?_)
      refine x_callV F (enc := fun r => some (.int r)) (P := fun b => p_Rw_deletedCount b ) (n := 0) (As := []) (st := [.int l4]) k_428 k_4 k_426 k_427 k_425 ⟨by decide, by decide, by decide +kernel⟩ rfl ⟨Nat.le_of_ble_eq_true rfl, Nat.le_of_ble_eq_true rfl⟩ (by simp [x_cat, x_catI, x_catL]) cl_Rw rfl (ro := v6) (fun b K' G' h' _ => c_Rw_deletedCount l D dA base sa b  K' G' h') d_B_merge_65 h (fun v7 G h => ?_)
      refine x_iadd F d_B_merge_68 ?_
      refine x_istore F (lv' := [(4, .int (l4 + v7)), (3, .int (l3 + v4)), (0, va_rf (some th)), (1, .int l1), (2, .int l2), (5, .int l5)]) d_B_merge_69 (by decide) rfl ?_
      refine x_iinc F 5 (v := (l5 + 1)) (lv' := [(5, .int (l5 + 1)), (4, .int (l4 + v7)), (3, .int (l3 + v4)), (0, va_rf (some th)), (1, .int l1), (2, .int l2)]) d_B_merge_71 rfl (congrArg (fun z : Int32 => l5 + z) (by decide)) (by decide) rfl ?_
      refine x_goto F (tgt := 35) d_B_merge_74 (by decide) ?_
      refine x_sub (lv' := [(0, va_rf (some th)), (1, .int l1), (2, .int l2), (3, .int (l3 + v4)), (4, .int (l4 + v7)), (5, .int (l5 + 1))]) [3, 4, 5, 2, 1, 0] rfl ?_
      exact ih _ _ _ _ h
set_option maxHeartbeats 4000000 in
set_option maxRecDepth 100000 in
theorem w_B_merge_B100 {p : Program} {l : Launch} {e : Env} {s : State} {m : MethodId} {args : Array Value} {below : List Frame} {meth : Method} {c : Code} {C0 S0 : Nat} {D : va_G} {dA : Nat → ClassId} {base : Nat} {sa : Nat → Nat} (F : xFix p { frames := 3, cells := C0, slots := S0, locals := 68 } s m args meth c b_B_merge 6 "BlockSearch" D dA base sa) (hret : meth.sig.returnType = (some FieldType.int)) {K : Int32 → xS → Prop} (th : Nat) (l1 : Int32) (l2 : Int32) (l4 : Int32) (l5 : Int32)  {G : xS} (h : p_B_merge_B100 th l1 l2 l4 l5 K  G) : X_B_merge p l e s m args below meth c C0 S0 K D dA base sa 100 [(0, va_rf (some th)), (1, .int l1), (2, .int l2), (4, .int l4), (5, .int l5)] [] G := by
  unfold p_B_merge_B100 at h
  refine x_aload_n F 0 d_B_merge_100 rfl rfl ?_
  refine x_iload_n F 1 d_B_merge_101 rfl rfl ?_
  refine x_iload_n F 2 d_B_merge_102 rfl rfl ?_
  refine x_iadd F d_B_merge_103 ?_
  refine x_iload_n F 2 d_B_merge_104 rfl rfl ?_
  refine x_iload F 4 d_B_merge_105 rfl ?_
  refine x_isub F d_B_merge_107 ?_
  refine x_callV F (enc := fun r => none) (P := fun b => p_B_moveDown b (l1 + l2) (l2 - l5)) (n := 2) (As := [.int (l1 + l2), .int (l2 - l5)]) (st := []) k_437 k_1 k_436 kp_4 k_434 ⟨by decide, by decide, by decide +kernel⟩ rfl ⟨Nat.le_of_ble_eq_true rfl, Nat.le_of_ble_eq_true rfl⟩ (by simp [x_cat, x_catI, x_catL]) cl_B rfl (ro := some th) (fun b K' G' h' _ => c_B_moveDown l D dA base sa b (l1 + l2) (l2 - l5) K' G' h') d_B_merge_108 h (fun _ G h => ?_)
  refine x_aload_n F 0 d_B_merge_111 rfl rfl ?_
  refine x_dup F (x_cat _) d_B_merge_112 ?_
  refine x_getI F cl_B in_B (k := 10) (by decide) k_207 rfl d_B_merge_113 h (fun v10 h => ?_)
  refine x_iload F 3 d_B_merge_116 rfl ?_
  refine x_iadd F d_B_merge_118 ?_
  refine x_putI F cl_B in_B (k := 10) (by decide) k_207 rfl ty_B n_B rfl rfl d_B_merge_119 h (fun G h => ?_)
  refine x_aload_n F 0 d_B_merge_122 rfl rfl ?_
  refine x_getI F cl_B in_B (k := 8) (by decide) k_205 rfl d_B_merge_123 h (fun v11 h => ?_)
  exact x_iret F rfl hret d_B_merge_126 ⟨_, rfl, h⟩
set_option maxHeartbeats 4000000 in
set_option maxRecDepth 100000 in
theorem c_B_merge (l : Launch) (D : va_G) (dA : Nat → ClassId) (base : Nat) (sa : Nat → Nat) (th : Nat) (l1 : Int32) (l2 : Int32) (K : Int32 → xS → Prop) (G : xS) (h : p_B_merge th l1 l2 K G) : xMet l y_B_merge b_B_merge 6 (some FieldType.int) 3 68 D dA base sa [va_rf (some th), .int l1, .int l2] G (fun v G2 => ∃ r : Int32, v = some (.int r) ∧ K r G2) := by
  refine xMet.of (by decide) (by simp [x_cat, x_catI]) (Nat.le_of_ble_eq_true rfl) ?_
  intro p e s m args below meth c F hret hname
  unfold p_B_merge at h
  refine x_sub (lv' := [(0, va_rf (some th)), (1, .int l1), (2, .int l2)]) [0, 1, 2] rfl ?_
  refine x_iload_n F 2 d_B_merge_0 rfl rfl ?_
  refine x_iconst F (v := 2) d_B_merge_1 (by decide) ?_
  refine x_icmp_lt F (tgt := 25) d_B_merge_2 (by decide) h (fun q h => ?_) (fun q h => ?_)
  · refine x_iconst F (v := (-1)) d_B_merge_25 (by decide) ?_
    exact x_iret F rfl hret d_B_merge_26 ⟨_, rfl, h⟩
  · refine x_iload_n F 2 d_B_merge_5 rfl rfl ?_
    refine x_bipush F (v := 6) d_B_merge_6 (by decide) ?_
    refine x_icmp_gt F (tgt := 25) d_B_merge_8 (by decide) h (fun q h => ?_) (fun q h => ?_)
    · refine x_iconst F (v := (-1)) d_B_merge_25 (by decide) ?_
      exact x_iret F rfl hret d_B_merge_26 ⟨_, rfl, h⟩
    · refine x_iload_n F 1 d_B_merge_11 rfl rfl ?_
      refine x_if_lt F (tgt := 25) d_B_merge_12 (by decide) h (fun q h => ?_) (fun q h => ?_)
      · refine x_iconst F (v := (-1)) d_B_merge_25 (by decide) ?_
        exact x_iret F rfl hret d_B_merge_26 ⟨_, rfl, h⟩
      · refine x_iload_n F 1 d_B_merge_15 rfl rfl ?_
        refine x_aload_n F 0 d_B_merge_16 rfl rfl ?_
        refine x_getI F cl_B in_B (k := 8) (by decide) k_205 rfl d_B_merge_17 h (fun v1 h => ?_)
        refine x_iload_n F 2 d_B_merge_20 rfl rfl ?_
        refine x_isub F d_B_merge_21 ?_
        refine x_icmp_le F (tgt := 27) d_B_merge_22 (by decide) h (fun q h => ?_) (fun q h => ?_)
        · refine x_iconst F (v := 0) d_B_merge_27 (by decide) ?_
          refine x_istore_n F (lv' := [(3, .int 0), (0, va_rf (some th)), (1, .int l1), (2, .int l2)]) d_B_merge_28 rfl (by decide) rfl ?_
          refine x_iconst F (v := 0) d_B_merge_29 (by decide) ?_
          refine x_istore F (lv' := [(4, .int 0), (3, .int 0), (0, va_rf (some th)), (1, .int l1), (2, .int l2)]) d_B_merge_30 (by decide) rfl ?_
          refine x_iload_n F 3 d_B_merge_32 rfl rfl ?_
          refine x_istore F (lv' := [(5, .int l1), (4, .int 0), (3, .int 0), (0, va_rf (some th)), (1, .int l1), (2, .int l2)]) d_B_merge_33 (by decide) rfl ?_
          refine x_sub (lv' := [(0, va_rf (some th)), (1, .int l1), (2, .int l2), (3, .int 0), (4, .int 0), (5, .int l1)]) [3, 4, 5, 2, 1, 0] rfl ?_
          refine w_B_merge_L35 F hret th l1 l2 (fun m8 m9 G h => ?_) _ _ _ _ _ h
          refine x_iconst F (v := 0) d_B_merge_77 (by decide) ?_
          refine x_istore F (lv' := [(5, .int 0), (0, va_rf (some th)), (1, .int l1), (2, .int l2), (3, .int m8), (4, .int m9)]) d_B_merge_78 (by decide) rfl ?_
          refine x_iload_n F 4 d_B_merge_80 rfl rfl ?_
          refine x_if_le F (tgt := 100) d_B_merge_81 (by decide) h (fun q h => ?_) (fun q h => ?_)
          · refine x_sub (lv' := [(0, va_rf (some th)), (1, .int l1), (2, .int l2), (4, .int m9), (5, .int 0)]) [1, 2, 3, 5, 0] rfl ?_
            exact w_B_merge_B100 F hret th l1 l2 m9 0 h
          · refine x_aload_n F 1 d_B_merge_84 rfl rfl ?_
            refine x_getR F cl_B in_B (k := 3) (by decide) k_200 rfl d_B_merge_85 h (fun v12 h => ?_)
            refine x_iload_n F 2 d_B_merge_88 rfl rfl ?_
            refine x_aload_n F 1 d_B_merge_89 rfl rfl ?_
            refine x_iload_n F 2 d_B_merge_90 rfl rfl ?_
            refine x_iload_n F 3 d_B_merge_91 rfl rfl ?_
            refine x_iload_n F 4 d_B_merge_92 rfl rfl ?_
            refine x_callV F (enc := fun r => some (va_rf r)) (P := fun b => p_B_mergedRow b l1 l2 m8) (n := 3) (As := [.int l1, .int l2, .int m8]) (st := [.int l1, va_rf v12]) k_433 k_1 k_432 kp_3 k_430 ⟨by decide, by decide, by decide +kernel⟩ rfl ⟨Nat.le_of_ble_eq_true rfl, Nat.le_of_ble_eq_true rfl⟩ (by simp [x_cat, x_catI, x_catL]) cl_B rfl (ro := some th) (fun b K' G' h' _ => c_B_mergedRow l D dA base sa b l1 l2 m8 K' G' h') d_B_merge_93 h (fun v13 G h => ?_)
            refine x_aast F cl_Rw (t := 5) rfl d_B_merge_96 h (fun G h => ?_)
            refine x_iconst F (v := 1) d_B_merge_97 (by decide) ?_
            refine x_istore F (lv' := [(5, .int 1), (0, va_rf (some th)), (1, .int l1), (2, .int l2), (3, .int m8), (4, .int m9)]) d_B_merge_98 (by decide) rfl ?_
            refine x_sub (lv' := [(0, va_rf (some th)), (1, .int l1), (2, .int l2), (4, .int m9), (5, .int 1)]) [1, 2, 3, 5, 0] rfl ?_
            exact w_B_merge_B100 F hret th l1 l2 m9 1 h
        · refine x_iconst F (v := (-1)) d_B_merge_25 (by decide) ?_
          exact x_iret F rfl hret d_B_merge_26 ⟨_, rfl, h⟩
