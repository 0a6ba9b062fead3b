def p_M_counted_L4 (th : Nat) (l1 : Int32) (K : Int32 → xS → Prop) (Kx106 : Int32 → xS → Prop) : Nat → Int32 → Int32 → xS → Prop
  | 0, _, _ => fun _ => False
  | n + 1, l2, l3 => xgI 10 18 (some th) fun v1 => xif (v1 ≤ l3) (Kx106 l2) (xif (l1 = 3) (xgR 10 14 (some th) fun v8 => xal 0 v8 l3 fun v9 => xif (v9 = (-2)) (p_M_counted_L4 th l1 K Kx106 n l2 (l3 + 1)) (xgR 10 16 (some th) fun v10 => xal 1 v10 l3 fun v11 => xif (v11 = 0) (p_M_counted_L4 th l1 K Kx106 n l2 (l3 + 1)) (p_M_counted_L4 th l1 K Kx106 n (l2 + 1) (l3 + 1)))) (xif (l1 = 4) (xgR 10 14 (some th) fun v4 => xal 0 v4 l3 fun v5 => xif (v5 < 0) (p_M_counted_L4 th l1 K Kx106 n l2 (l3 + 1)) (xgR 10 16 (some th) fun v6 => xal 1 v6 l3 fun v7 => xif (v7 = 0) (p_M_counted_L4 th l1 K Kx106 n (l2 + 1) (l3 + 1)) (p_M_counted_L4 th l1 K Kx106 n l2 (l3 + 1)))) (xgR 10 15 (some th) fun v2 => xal 0 v2 l3 fun v3 => xif (v3 < 0) (p_M_counted_L4 th l1 K Kx106 n l2 (l3 + 1)) (p_M_counted_L4 th l1 K Kx106 n (l2 + 1) (l3 + 1)))))
def p_M_counted (th : Nat) (l1 : Int32) (K : Int32 → xS → Prop) : xS → Prop := p_M_counted_L4 th l1 K (fun m12 => K m12) 1000 0 0
abbrev X_M_counted (p : Program) (l : Launch) (e : Env) (s : State) (m : MethodId) (args : Array Value) (below : List Frame) (meth : Method) (c : Code) (C0 S0 : Nat) (K : Int32 → xS → Prop) (D : va_G) (dA : Nat → ClassId) (base : Nat) (sa : Nat → Nat) (pc : Nat) (lv : List (Nat × Value)) (st : List Value) (G : xS) : Prop := xW p l e { frames := 0, cells := C0, slots := S0, locals := 0 } s m args below meth c 5 (MQ below (xQ D dA base (fun v G2 => ∃ r : Int32, v = some (.int r) ∧ K r G2)) args s C0 S0 (fun q : Nat => base ≤ q)) D dA base sa pc lv st G
set_option maxHeartbeats 4000000 in
set_option maxRecDepth 100000 in
theorem w_M_counted_L4 {p : Program} {l : Launch} {e : Env} {s : State} {m : MethodId} {args : Array Value} {below : List Frame} {meth : Method} {c : Code} {C0 S0 : Nat} {D : va_G} {dA : Nat → ClassId} {base : Nat} {sa : Nat → Nat} (F : xFix p { frames := 0, cells := C0, slots := S0, locals := 0 } s m args meth c b_M_counted 5 "BlockSearchModel" D dA base sa) (hret : meth.sig.returnType = (some FieldType.int)) {K : Int32 → xS → Prop} {Kx106 : Int32 → xS → Prop} (th : Nat) (l1 : Int32) (hKx106 : ∀ (l2 : Int32) (G : xS), Kx106 l2 G → X_M_counted p l e s m args below meth c C0 S0 K D dA base sa 106 [(2, .int l2)] [] G) : ∀ (n : Nat) (l2 : Int32) (l3 : Int32) (G : xS), p_M_counted_L4 th l1 K Kx106 n l2 l3 G → X_M_counted p l e s m args below meth c C0 S0 K D dA base sa 4 [(0, va_rf (some th)), (1, .int l1), (2, .int l2), (3, .int l3)] [] G := by
  intro n
  induction n with
  | zero => intro l2 l3 G h; exact h.elim
  | succ n ih =>
    intro l2 l3 G h
    unfold p_M_counted_L4 at h
    refine x_iload_n F 3 d_M_counted_4 rfl rfl ?_
    refine x_aload_n F 0 d_M_counted_5 rfl rfl ?_
    refine x_getI F cl_M in_M (k := 18) (by decide) k_619 rfl d_M_counted_6 h (fun v1 h => ?_)
    refine x_icmp_ge F (tgt := 106) d_M_counted_9 (by decide) h (fun q h => ?_) (fun q h => ?_)
    · refine x_sub (lv' := [(2, .int l2)]) [2] rfl ?_
      exact hKx106 _ _ h
    · refine x_iload_n F 1 d_M_counted_12 rfl rfl ?_
      refine x_iconst F (v := 3) d_M_counted_13 (by decide) ?_
      refine x_icmp_ne F (tgt := 45) d_M_counted_14 (by decide) h (fun q h => ?_) (fun q h => ?_)
      · refine x_iload_n F 1 d_M_counted_45 rfl rfl ?_
        refine x_iconst F (v := 4) d_M_counted_46 (by decide) ?_
        refine x_icmp_ne F (tgt := 76) d_M_counted_47 (by decide) h (fun q h => ?_) (fun q h => ?_)
        · refine x_aload_n F 0 d_M_counted_76 rfl rfl ?_
          refine x_getR F cl_M in_M (k := 15) (by decide) k_616 rfl d_M_counted_77 h (fun v2 h => ?_)
          refine x_iload_n F 3 d_M_counted_80 rfl rfl ?_
          refine x_iald F (t := 0) rfl d_M_counted_81 h (fun v3 h => ?_)
          refine x_if_lt F (tgt := 89) d_M_counted_82 (by decide) h (fun q h => ?_) (fun q h => ?_)
          · refine x_iconst F (v := 0) d_M_counted_89 (by decide) ?_
            refine x_istore F (lv' := [(4, .int 0), (0, va_rf (some th)), (1, .int l1), (2, .int l2), (3, .int l3)]) d_M_counted_90 (by decide) rfl ?_
            refine x_iload F 0 d_M_counted_92 rfl ?_
            refine x_if_eq F (tgt := 100) d_M_counted_94 (by decide) (show xif ((0 : Int32) = 0) _ (fun _ => True) G from ⟨fun _ => h, fun _ => trivial⟩) (fun q h => ?_) (fun q _ => absurd (by decide) q)
            refine x_iinc F 4 (v := (l3 + 1)) (lv' := [(3, .int (l3 + 1)), (4, .int 0), (0, va_rf (some th)), (1, .int l1), (2, .int l2)]) d_M_counted_100 rfl (congrArg (fun z : Int32 => l3 + z) (by decide)) (by decide) rfl ?_
            refine x_goto F (tgt := 4) d_M_counted_103 (by decide) ?_
            refine x_sub (lv' := [(0, va_rf (some th)), (1, .int l1), (2, .int l2), (3, .int (l3 + 1))]) [2, 3, 4, 0] rfl ?_
            exact ih _ _ _ h
          · refine x_iconst F (v := 1) d_M_counted_85 (by decide) ?_
            refine x_goto F (tgt := 90) d_M_counted_86 (by decide) ?_
            refine x_istore F (lv' := [(4, .int 1), (0, va_rf (some th)), (1, .int l1), (2, .int l2), (3, .int l3)]) d_M_counted_90 (by decide) rfl ?_
            refine x_iload F 0 d_M_counted_92 rfl ?_
            refine x_if_eq F (tgt := 100) d_M_counted_94 (by decide) (show xif ((1 : Int32) = 0) (fun _ => True) _ G from ⟨fun _ => trivial, fun _ => h⟩) (fun q _ => absurd q (by decide)) (fun q h => ?_)
            refine x_iinc F 3 (v := (l2 + 1)) (lv' := [(2, .int (l2 + 1)), (4, .int 1), (0, va_rf (some th)), (1, .int l1), (3, .int l3)]) d_M_counted_97 rfl (congrArg (fun z : Int32 => l2 + z) (by decide)) (by decide) rfl ?_
            refine x_iinc F 4 (v := (l3 + 1)) (lv' := [(3, .int (l3 + 1)), (2, .int (l2 + 1)), (4, .int 1), (0, va_rf (some th)), (1, .int l1)]) d_M_counted_100 rfl (congrArg (fun z : Int32 => l3 + z) (by decide)) (by decide) rfl ?_
            refine x_goto F (tgt := 4) d_M_counted_103 (by decide) ?_
            refine x_sub (lv' := [(0, va_rf (some th)), (1, .int l1), (2, .int (l2 + 1)), (3, .int (l3 + 1))]) [3, 4, 1, 0] rfl ?_
            exact ih _ _ _ h
        · refine x_aload_n F 0 d_M_counted_50 rfl rfl ?_
          refine x_getR F cl_M in_M (k := 14) (by decide) k_615 rfl d_M_counted_51 h (fun v4 h => ?_)
          refine x_iload_n F 3 d_M_counted_54 rfl rfl ?_
          refine x_iald F (t := 0) rfl d_M_counted_55 h (fun v5 h => ?_)
          refine x_if_lt F (tgt := 72) d_M_counted_56 (by decide) h (fun q h => ?_) (fun q h => ?_)
          · refine x_iconst F (v := 0) d_M_counted_72 (by decide) ?_
            refine x_goto F (tgt := 90) d_M_counted_73 (by decide) ?_
            refine x_istore F (lv' := [(4, .int 0), (0, va_rf (some th)), (1, .int l1), (2, .int l2), (3, .int l3)]) d_M_counted_90 (by decide) rfl ?_
            refine x_iload F 0 d_M_counted_92 rfl ?_
            refine x_if_eq F (tgt := 100) d_M_counted_94 (by decide) (show xif ((0 : Int32) = 0) _ (fun _ => True) G from ⟨fun _ => h, fun _ => trivial⟩) (fun q h => ?_) (fun q _ => absurd (by decide) q)
            refine x_iinc F 4 (v := (l3 + 1)) (lv' := [(3, .int (l3 + 1)), (4, .int 0), (0, va_rf (some th)), (1, .int l1), (2, .int l2)]) d_M_counted_100 rfl (congrArg (fun z : Int32 => l3 + z) (by decide)) (by decide) rfl ?_
            refine x_goto F (tgt := 4) d_M_counted_103 (by decide) ?_
            refine x_sub (lv' := [(0, va_rf (some th)), (1, .int l1), (2, .int l2), (3, .int (l3 + 1))]) [2, 3, 4, 0] rfl ?_
            exact ih _ _ _ h
          · refine x_aload_n F 0 d_M_counted_59 rfl rfl ?_
            refine x_getR F cl_M in_M (k := 16) (by decide) k_617 rfl d_M_counted_60 h (fun v6 h => ?_)
            refine x_iload_n F 3 d_M_counted_63 rfl rfl ?_
            refine x_zald F (t := 1) rfl d_M_counted_64 h (fun v7 h => ?_)
            refine x_if_ne F (tgt := 72) d_M_counted_65 (by decide) h (fun q h => ?_) (fun q h => ?_)
            · refine x_iconst F (v := 0) d_M_counted_72 (by decide) ?_
              refine x_goto F (tgt := 90) d_M_counted_73 (by decide) ?_
              refine x_istore F (lv' := [(4, .int 0), (0, va_rf (some th)), (1, .int l1), (2, .int l2), (3, .int l3)]) d_M_counted_90 (by decide) rfl ?_
              refine x_iload F 0 d_M_counted_92 rfl ?_
              refine x_if_eq F (tgt := 100) d_M_counted_94 (by decide) (show xif ((0 : Int32) = 0) _ (fun _ => True) G from ⟨fun _ => h, fun _ => trivial⟩) (fun q h => ?_) (fun q _ => absurd (by decide) q)
              refine x_iinc F 4 (v := (l3 + 1)) (lv' := [(3, .int (l3 + 1)), (4, .int 0), (0, va_rf (some th)), (1, .int l1), (2, .int l2)]) d_M_counted_100 rfl (congrArg (fun z : Int32 => l3 + z) (by decide)) (by decide) rfl ?_
              refine x_goto F (tgt := 4) d_M_counted_103 (by decide) ?_
              refine x_sub (lv' := [(0, va_rf (some th)), (1, .int l1), (2, .int l2), (3, .int (l3 + 1))]) [2, 3, 4, 0] rfl ?_
              exact ih _ _ _ h
            · refine x_iconst F (v := 1) d_M_counted_68 (by decide) ?_
              refine x_goto F (tgt := 90) d_M_counted_69 (by decide) ?_
              refine x_istore F (lv' := [(4, .int 1), (0, va_rf (some th)), (1, .int l1), (2, .int l2), (3, .int l3)]) d_M_counted_90 (by decide) rfl ?_
              refine x_iload F 0 d_M_counted_92 rfl ?_
              refine x_if_eq F (tgt := 100) d_M_counted_94 (by decide) (show xif ((1 : Int32) = 0) (fun _ => True) _ G from ⟨fun _ => trivial, fun _ => h⟩) (fun q _ => absurd q (by decide)) (fun q h => ?_)
              refine x_iinc F 3 (v := (l2 + 1)) (lv' := [(2, .int (l2 + 1)), (4, .int 1), (0, va_rf (some th)), (1, .int l1), (3, .int l3)]) d_M_counted_97 rfl (congrArg (fun z : Int32 => l2 + z) (by decide)) (by decide) rfl ?_
              refine x_iinc F 4 (v := (l3 + 1)) (lv' := [(3, .int (l3 + 1)), (2, .int (l2 + 1)), (4, .int 1), (0, va_rf (some th)), (1, .int l1)]) d_M_counted_100 rfl (congrArg (fun z : Int32 => l3 + z) (by decide)) (by decide) rfl ?_
              refine x_goto F (tgt := 4) d_M_counted_103 (by decide) ?_
              refine x_sub (lv' := [(0, va_rf (some th)), (1, .int l1), (2, .int (l2 + 1)), (3, .int (l3 + 1))]) [3, 4, 1, 0] rfl ?_
              exact ih _ _ _ h
      · refine x_aload_n F 0 d_M_counted_17 rfl rfl ?_
        refine x_getR F cl_M in_M (k := 14) (by decide) k_615 rfl d_M_counted_18 h (fun v8 h => ?_)
        refine x_iload_n F 3 d_M_counted_21 rfl rfl ?_
        refine x_iald F (t := 0) rfl d_M_counted_22 h (fun v9 h => ?_)
        refine x_bipush F (v := (-2)) d_M_counted_23 (by decide) ?_
        refine x_icmp_eq F (tgt := 41) d_M_counted_25 (by decide) h (fun q h => ?_) (fun q h => ?_)
        · refine x_iconst F (v := 0) d_M_counted_41 (by decide) ?_
          refine x_goto F (tgt := 90) d_M_counted_42 (by decide) ?_
          refine x_istore F (lv' := [(4, .int 0), (0, va_rf (some th)), (1, .int l1), (2, .int l2), (3, .int l3)]) d_M_counted_90 (by decide) rfl ?_
          refine x_iload F 0 d_M_counted_92 rfl ?_
          refine x_if_eq F (tgt := 100) d_M_counted_94 (by decide) (show xif ((0 : Int32) = 0) _ (fun _ => True) G from ⟨fun _ => h, fun _ => trivial⟩) (fun q h => ?_) (fun q _ => absurd (by decide) q)
          refine x_iinc F 4 (v := (l3 + 1)) (lv' := [(3, .int (l3 + 1)), (4, .int 0), (0, va_rf (some th)), (1, .int l1), (2, .int l2)]) d_M_counted_100 rfl (congrArg (fun z : Int32 => l3 + z) (by decide)) (by decide) rfl ?_
          refine x_goto F (tgt := 4) d_M_counted_103 (by decide) ?_
          refine x_sub (lv' := [(0, va_rf (some th)), (1, .int l1), (2, .int l2), (3, .int (l3 + 1))]) [2, 3, 4, 0] rfl ?_
          exact ih _ _ _ h
        · refine x_aload_n F 0 d_M_counted_28 rfl rfl ?_
          refine x_getR F cl_M in_M (k := 16) (by decide) k_617 rfl d_M_counted_29 h (fun v10 h => ?_)
          refine x_iload_n F 3 d_M_counted_32 rfl rfl ?_
          refine x_zald F (t := 1) rfl d_M_counted_33 h (fun v11 h => ?_)
          refine x_if_eq F (tgt := 41) d_M_counted_34 (by decide) h (fun q h => ?_) (fun q h => ?_)
          · refine x_iconst F (v := 0) d_M_counted_41 (by decide) ?_
            refine x_goto F (tgt := 90) d_M_counted_42 (by decide) ?_
            refine x_istore F (lv' := [(4, .int 0), (0, va_rf (some th)), (1, .int l1), (2, .int l2), (3, .int l3)]) d_M_counted_90 (by decide) rfl ?_
            refine x_iload F 0 d_M_counted_92 rfl ?_
            refine x_if_eq F (tgt := 100) d_M_counted_94 (by decide) (show xif ((0 : Int32) = 0) _ (fun _ => True) G from ⟨fun _ => h, fun _ => trivial⟩) (fun q h => ?_) (fun q _ => absurd (by decide) q)
            refine x_iinc F 4 (v := (l3 + 1)) (lv' := [(3, .int (l3 + 1)), (4, .int 0), (0, va_rf (some th)), (1, .int l1), (2, .int l2)]) d_M_counted_100 rfl (congrArg (fun z : Int32 => l3 + z) (by decide)) (by decide) rfl ?_
            refine x_goto F (tgt := 4) d_M_counted_103 (by decide) ?_
            refine x_sub (lv' := [(0, va_rf (some th)), (1, .int l1), (2, .int l2), (3, .int (l3 + 1))]) [2, 3, 4, 0] rfl ?_
            exact ih _ _ _ h
          · refine x_iconst F (v := 1) d_M_counted_37 (by decide) ?_
            refine x_goto F (tgt := 90) d_M_counted_38 (by decide) ?_
            refine x_istore F (lv' := [(4, .int 1), (0, va_rf (some th)), (1, .int l1), (2, .int l2), (3, .int l3)]) d_M_counted_90 (by decide) rfl ?_
            refine x_iload F 0 d_M_counted_92 rfl ?_
            refine x_if_eq F (tgt := 100) d_M_counted_94 (by decide) (show xif ((1 : Int32) = 0) (fun _ => True) _ G from ⟨fun _ => trivial, fun _ => h⟩) (fun q _ => absurd q (by decide)) (fun q h => ?_)
            refine x_iinc F 3 (v := (l2 + 1)) (lv' := [(2, .int (l2 + 1)), (4, .int 1), (0, va_rf (some th)), (1, .int l1), (3, .int l3)]) d_M_counted_97 rfl (congrArg (fun z : Int32 => l2 + z) (by decide)) (by decide) rfl ?_
            refine x_iinc F 4 (v := (l3 + 1)) (lv' := [(3, .int (l3 + 1)), (2, .int (l2 + 1)), (4, .int 1), (0, va_rf (some th)), (1, .int l1)]) d_M_counted_100 rfl (congrArg (fun z : Int32 => l3 + z) (by decide)) (by decide) rfl ?_
            refine x_goto F (tgt := 4) d_M_counted_103 (by decide) ?_
            refine x_sub (lv' := [(0, va_rf (some th)), (1, .int l1), (2, .int (l2 + 1)), (3, .int (l3 + 1))]) [3, 4, 1, 0] rfl ?_
            exact ih _ _ _ h
set_option maxHeartbeats 4000000 in
set_option maxRecDepth 100000 in
theorem c_M_counted (l : Launch) (D : va_G) (dA : Nat → ClassId) (base : Nat) (sa : Nat → Nat) (th : Nat) (l1 : Int32) (K : Int32 → xS → Prop) (G : xS) (h : p_M_counted th l1 K G) : xMet l y_M_counted b_M_counted 5 (some FieldType.int) 0 0 D dA base sa [va_rf (some th), .int l1] G (fun v G2 => ∃ r : Int32, v = some (.int r) ∧ K r G2) := by
  refine xMet.of (by decide) (by simp [x_cat, x_catI]) (Nat.le_of_ble_eq_true rfl) ?_
  intro p e s m args below meth c F hret hname
  unfold p_M_counted at h
  refine x_sub (lv' := [(0, va_rf (some th)), (1, .int l1)]) [0, 1] rfl ?_
  refine x_iconst F (v := 0) d_M_counted_0 (by decide) ?_
  refine x_istore_n F (lv' := [(2, .int 0), (0, va_rf (some th)), (1, .int l1)]) d_M_counted_1 rfl (by decide) rfl ?_
  refine x_iconst F (v := 0) d_M_counted_2 (by decide) ?_
  refine x_istore_n F (lv' := [(3, .int 0), (2, .int 0), (0, va_rf (some th)), (1, .int l1)]) d_M_counted_3 rfl (by decide) rfl ?_
  refine x_sub (lv' := [(0, va_rf (some th)), (1, .int l1), (2, .int 0), (3, .int 0)]) [2, 3, 1, 0] rfl ?_
  refine w_M_counted_L4 F hret th l1 (fun m12 G h => ?_) _ _ _ _ h
  refine x_iload_n F 0 d_M_counted_106 rfl rfl ?_
  exact x_iret F rfl hret d_M_counted_107 ⟨_, rfl, h⟩
def p_M_count (th : Nat) (l1 : Int32) (K : Int32 → xS → Prop) : xS → Prop := xcall 0 0 (p_M_in l1 20 25) fun v1 => xif (v1 = 0) (xcall 0 0 (p_M_in l1 30 35) fun v2 => xif (v2 = 0) (xif (l1 = 0) (xgI 10 19 (some th) fun v3 => K v3) (xif (l1 = 1) (xgI 10 6 (some th) fun v4 => K v4) (xif (l1 = 2) (xob 10 (some th) fun b => xcall 0 0 (p_M_inBuffer b ) fun v5 => K v5) (xif (l1 = 3) (xob 10 (some th) fun b => xcall 0 0 (p_M_counted b l1) fun v6 => K v6) (xif (l1 = 4) (xob 10 (some th) fun b => xcall 0 0 (p_M_counted b l1) fun v7 => K v7) (xif (l1 = 5) (xgI 10 18 (some th) fun v8 => K v8) (xif (l1 = 6) (xgI 10 10 (some th) fun v9 => K v9) (xif (l1 = 7) (xob 10 (some th) fun b => xcall 0 0 (p_M_counted b l1) fun v10 => K v10) (xif (l1 = 8) (xgI 10 44 (some th) fun v11 => K v11) (xif (l1 = 9) (xgI 10 20 (some th) fun v12 => K v12) (K (-1)))))))))))) (xgI 10 19 (some th) fun v13 => xif (v13 ≤ (l1 - 30)) (K (-2)) (xob 10 (some th) fun b => xcall 0 0 (p_M_inSegment b (l1 - 30) 1) fun v14 => K v14))) (xgI 10 19 (some th) fun v15 => xif (v15 ≤ (l1 - 20)) (K (-2)) (xob 10 (some th) fun b => xcall 0 0 (p_M_inSegment b (l1 - 20) 0) fun v16 => K v16))
abbrev X_M_count (p : Program) (l : Launch) (e : Env) (s : State) (m : MethodId) (args : Array Value) (below : List Frame) (meth : Method) (c : Code) (C0 S0 : Nat) (K : Int32 → xS → Prop) (D : va_G) (dA : Nat → ClassId) (base : Nat) (sa : Nat → Nat) (pc : Nat) (lv : List (Nat × Value)) (st : List Value) (G : xS) : Prop := xW p l e { frames := 1, cells := C0, slots := S0, locals := 24 } s m args below meth c 2 (MQ below (xQ D dA base (fun v G2 => ∃ r : Int32, v = some (.int r) ∧ K r G2)) args s C0 S0 (fun q : Nat => base ≤ q)) D dA base sa pc lv st G
set_option maxHeartbeats 4000000 in
set_option maxRecDepth 100000 in
theorem c_M_count (l : Launch) (D : va_G) (dA : Nat → ClassId) (base : Nat) (sa : Nat → Nat) (th : Nat) (l1 : Int32) (K : Int32 → xS → Prop) (G : xS) (h : p_M_count th l1 K G) : xMet l y_M_count b_M_count 2 (some FieldType.int) 1 24 D dA base sa [va_rf (some th), .int l1] G (fun v G2 => ∃ r : Int32, v = some (.int r) ∧ K r G2) := by
  refine xMet.of (by decide) (by simp [x_cat, x_catI]) (Nat.le_of_ble_eq_true rfl) ?_
  intro p e s m args below meth c F hret hname
  unfold p_M_count at h
  refine x_sub (lv' := [(0, va_rf (some th)), (1, .int l1)]) [0, 1] rfl ?_
  refine x_iload_n F 1 d_M_count_0 rfl rfl ?_
  refine x_bipush F (v := 20) d_M_count_1 (by decide) ?_
  refine x_bipush F (v := 25) d_M_count_3 (by decide) ?_
  refine x_callS F (enc := fun r => some (.int r)) (P := p_M_in l1 20 25) (n := 3) (As := [.int l1, .int 20, .int 25]) (st := []) k_744 k_9 k_743 k_742 ⟨by decide, by decide, by decide +kernel⟩ rfl ⟨Nat.le_of_ble_eq_true rfl, Nat.le_of_ble_eq_true rfl⟩ (by simp [x_cat, x_catI, x_catL]) (fun K' G' h' _ => c_M_in l D dA base sa l1 20 25 K' G' h') d_M_count_5 h (fun v1 G h => ?_)
  refine x_if_eq F (tgt := 37) d_M_count_8 (by decide) h (fun q h => ?_) (fun q h => ?_)
  · refine x_iload_n F 1 d_M_count_37 rfl rfl ?_
    refine x_bipush F (v := 30) d_M_count_38 (by decide) ?_
    refine x_bipush F (v := 35) d_M_count_40 (by decide) ?_
    refine x_callS F (enc := fun r => some (.int r)) (P := p_M_in l1 30 35) (n := 3) (As := [.int l1, .int 30, .int 35]) (st := []) k_744 k_9 k_743 k_742 ⟨by decide, by decide, by decide +kernel⟩ rfl ⟨Nat.le_of_ble_eq_true rfl, Nat.le_of_ble_eq_true rfl⟩ (by simp [x_cat, x_catI, x_catL]) (fun K' G' h' _ => c_M_in l D dA base sa l1 30 35 K' G' h') d_M_count_42 h (fun v2 G h => ?_)
    refine x_if_eq F (tgt := 74) d_M_count_45 (by decide) h (fun q h => ?_) (fun q h => ?_)
    · refine x_iload_n F 1 d_M_count_74 rfl rfl ?_
      by_cases q0 : l1 = 0
      · have h := h.1 q0
        refine x_tabIn F (off := 53) (tgt := 128) d_M_count_75 q0 (by decide) (by decide) (by decide) (by decide) ?_
        refine x_aload_n F 0 d_M_count_128 rfl rfl ?_
        refine x_getI F cl_M in_M (k := 19) (by decide) k_620 rfl d_M_count_129 h (fun v3 h => ?_)
        exact x_iret F rfl hret d_M_count_132 ⟨_, rfl, h⟩
      have h := h.2 q0
      by_cases q1 : l1 = 1
      · have h := h.1 q1
        refine x_tabIn F (off := 58) (tgt := 133) d_M_count_75 q1 (by decide) (by decide) (by decide) (by decide) ?_
        refine x_aload_n F 0 d_M_count_133 rfl rfl ?_
        refine x_getI F cl_M in_M (k := 6) (by decide) k_607 rfl d_M_count_134 h (fun v4 h => ?_)
        exact x_iret F rfl hret d_M_count_137 ⟨_, rfl, h⟩
      have h := h.2 q1
      by_cases q2 : l1 = 2
      · have h := h.1 q2
        refine x_tabIn F (off := 63) (tgt := 138) d_M_count_75 q2 (by decide) (by decide) (by decide) (by decide) ?_
        refine x_aload_n F 0 d_M_count_138 rfl rfl ?_
        refine x_callV F (enc := fun r => some (.int r)) (P := fun b => p_M_inBuffer b ) (n := 0) (As := []) (st := []) k_775 k_9 k_774 kp_11 k_772 ⟨by decide, by decide, by decide +kernel⟩ rfl ⟨Nat.le_of_ble_eq_true rfl, Nat.le_of_ble_eq_true rfl⟩ (by simp [x_cat, x_catI, x_catL]) cl_M rfl (ro := some th) (fun b K' G' h' _ => c_M_inBuffer l D dA base sa b  K' G' h') d_M_count_139 h (fun v5 G h => ?_)
        exact x_iret F rfl hret d_M_count_142 ⟨_, rfl, h⟩
      have h := h.2 q2
      by_cases q3 : l1 = 3
      · have h := h.1 q3
        refine x_tabIn F (off := 68) (tgt := 143) d_M_count_75 q3 (by decide) (by decide) (by decide) (by decide) ?_
        refine x_aload_n F 0 d_M_count_143 rfl rfl ?_
        refine x_iload_n F 1 d_M_count_144 rfl rfl ?_
        refine x_callV F (enc := fun r => some (.int r)) (P := fun b => p_M_counted b l1) (n := 1) (As := [.int l1]) (st := []) k_891 k_9 k_890 kp_26 k_888 ⟨by decide, by decide, by decide +kernel⟩ rfl ⟨Nat.le_of_ble_eq_true rfl, Nat.le_of_ble_eq_true rfl⟩ (by simp [x_cat, x_catI, x_catL]) cl_M rfl (ro := some th) (fun b K' G' h' _ => c_M_counted l D dA base sa b l1 K' G' h') d_M_count_145 h (fun v6 G h => ?_)
        exact x_iret F rfl hret d_M_count_148 ⟨_, rfl, h⟩
      have h := h.2 q3
      by_cases q4 : l1 = 4
      · have h := h.1 q4
        refine x_tabIn F (off := 68) (tgt := 143) d_M_count_75 q4 (by decide) (by decide) (by decide) (by decide) ?_
        refine x_aload_n F 0 d_M_count_143 rfl rfl ?_
        refine x_iload_n F 1 d_M_count_144 rfl rfl ?_
        refine x_callV F (enc := fun r => some (.int r)) (P := fun b => p_M_counted b l1) (n := 1) (As := [.int l1]) (st := []) k_891 k_9 k_890 kp_26 k_888 ⟨by decide, by decide, by decide +kernel⟩ rfl ⟨Nat.le_of_ble_eq_true rfl, Nat.le_of_ble_eq_true rfl⟩ (by simp [x_cat, x_catI, x_catL]) cl_M rfl (ro := some th) (fun b K' G' h' _ => c_M_counted l D dA base sa b l1 K' G' h') d_M_count_145 h (fun v7 G h => ?_)
        exact x_iret F rfl hret d_M_count_148 ⟨_, rfl, h⟩
      have h := h.2 q4
      by_cases q5 : l1 = 5
      · have h := h.1 q5
        refine x_tabIn F (off := 74) (tgt := 149) d_M_count_75 q5 (by decide) (by decide) (by decide) (by decide) ?_
        refine x_aload_n F 0 d_M_count_149 rfl rfl ?_
        refine x_getI F cl_M in_M (k := 18) (by decide) k_619 rfl d_M_count_150 h (fun v8 h => ?_)
        exact x_iret F rfl hret d_M_count_153 ⟨_, rfl, h⟩
      have h := h.2 q5
      by_cases q6 : l1 = 6
      · have h := h.1 q6
        refine x_tabIn F (off := 79) (tgt := 154) d_M_count_75 q6 (by decide) (by decide) (by decide) (by decide) ?_
        refine x_aload_n F 0 d_M_count_154 rfl rfl ?_
        refine x_getI F cl_M in_M (k := 10) (by decide) k_611 rfl d_M_count_155 h (fun v9 h => ?_)
        exact x_iret F rfl hret d_M_count_158 ⟨_, rfl, h⟩
      have h := h.2 q6
      by_cases q7 : l1 = 7
      · have h := h.1 q7
        refine x_tabIn F (off := 68) (tgt := 143) d_M_count_75 q7 (by decide) (by decide) (by decide) (by decide) ?_
        refine x_aload_n F 0 d_M_count_143 rfl rfl ?_
        refine x_iload_n F 1 d_M_count_144 rfl rfl ?_
        refine x_callV F (enc := fun r => some (.int r)) (P := fun b => p_M_counted b l1) (n := 1) (As := [.int l1]) (st := []) k_891 k_9 k_890 kp_26 k_888 ⟨by decide, by decide, by decide +kernel⟩ rfl ⟨Nat.le_of_ble_eq_true rfl, Nat.le_of_ble_eq_true rfl⟩ (by simp [x_cat, x_catI, x_catL]) cl_M rfl (ro := some th) (fun b K' G' h' _ => c_M_counted l D dA base sa b l1 K' G' h') d_M_count_145 h (fun v10 G h => ?_)
        exact x_iret F rfl hret d_M_count_148 ⟨_, rfl, h⟩
      have h := h.2 q7
      by_cases q8 : l1 = 8
      · have h := h.1 q8
        refine x_tabIn F (off := 84) (tgt := 159) d_M_count_75 q8 (by decide) (by decide) (by decide) (by decide) ?_
        refine x_aload_n F 0 d_M_count_159 rfl rfl ?_
        refine x_getI F cl_M in_M (k := 44) (by decide) k_645 rfl d_M_count_160 h (fun v11 h => ?_)
        exact x_iret F rfl hret d_M_count_163 ⟨_, rfl, h⟩
      have h := h.2 q8
      by_cases q9 : l1 = 9
      · have h := h.1 q9
        refine x_tabIn F (off := 89) (tgt := 164) d_M_count_75 q9 (by decide) (by decide) (by decide) (by decide) ?_
        refine x_aload_n F 0 d_M_count_164 rfl rfl ?_
        refine x_getI F cl_M in_M (k := 20) (by decide) k_621 rfl d_M_count_165 h (fun v12 h => ?_)
        exact x_iret F rfl hret d_M_count_168 ⟨_, rfl, h⟩
      have h := h.2 q9
      refine x_tabOut F (tgt := 169) d_M_count_75 (by have a0 := lv_neT (a := 0) q0 (by decide); have a1 := lv_neT (a := 1) q1 (by decide); have a2 := lv_neT (a := 2) q2 (by decide); have a3 := lv_neT (a := 3) q3 (by decide); have a4 := lv_neT (a := 4) q4 (by decide); have a5 := lv_neT (a := 5) q5 (by decide); have a6 := lv_neT (a := 6) q6 (by decide); have a7 := lv_neT (a := 7) q7 (by decide); have a8 := lv_neT (a := 8) q8 (by decide); have a9 := lv_neT (a := 9) q9 (by decide); omega) (by decide) ?_
      refine x_iconst F (v := (-1)) d_M_count_169 (by decide) ?_
      exact x_iret F rfl hret d_M_count_170 ⟨_, rfl, h⟩
    · refine x_iload_n F 1 d_M_count_48 rfl rfl ?_
      refine x_bipush F (v := 30) d_M_count_49 (by decide) ?_
      refine x_isub F d_M_count_51 ?_
      refine x_aload_n F 0 d_M_count_52 rfl rfl ?_
      refine x_getI F cl_M in_M (k := 19) (by decide) k_620 rfl d_M_count_53 h (fun v13 h => ?_)
      refine x_icmp_ge F (tgt := 71) d_M_count_56 (by decide) h (fun q h => ?_) (fun q h => ?_)
      · refine x_bipush F (v := (-2)) d_M_count_71 (by decide) ?_
        exact x_iret F rfl hret d_M_count_73 ⟨_, rfl, h⟩
      · refine x_aload_n F 0 d_M_count_59 rfl rfl ?_
        refine x_iload_n F 1 d_M_count_60 rfl rfl ?_
        refine x_bipush F (v := 30) d_M_count_61 (by decide) ?_
        refine x_isub F d_M_count_63 ?_
        refine x_iconst F (v := 1) d_M_count_64 (by decide) ?_
        refine x_callV F (enc := fun r => some (.int r)) (P := fun b => p_M_inSegment b (l1 - 30) 1) (n := 2) (As := [.int (l1 - 30), .int 1]) (st := []) k_887 k_9 k_886 kp_25 k_884 ⟨by decide, by decide, by decide +kernel⟩ rfl ⟨Nat.le_of_ble_eq_true rfl, Nat.le_of_ble_eq_true rfl⟩ (by simp [x_cat, x_catI, x_catL]) cl_M rfl (ro := some th) (fun b K' G' h' _ => c_M_inSegment l D dA base sa b (l1 - 30) 1 K' G' h') d_M_count_65 h (fun v14 G h => ?_)
        refine x_goto F (tgt := 73) d_M_count_68 (by decide) ?_
        exact x_iret F rfl hret d_M_count_73 ⟨_, rfl, h⟩
  · refine x_iload_n F 1 d_M_count_11 rfl rfl ?_
    refine x_bipush F (v := 20) d_M_count_12 (by decide) ?_
    refine x_isub F d_M_count_14 ?_
    refine x_aload_n F 0 d_M_count_15 rfl rfl ?_
    refine x_getI F cl_M in_M (k := 19) (by decide) k_620 rfl d_M_count_16 h (fun v15 h => ?_)
    refine x_icmp_ge F (tgt := 34) d_M_count_19 (by decide) h (fun q h => ?_) (fun q h => ?_)
    · refine x_bipush F (v := (-2)) d_M_count_34 (by decide) ?_
      exact x_iret F rfl hret d_M_count_36 ⟨_, rfl, h⟩
    · refine x_aload_n F 0 d_M_count_22 rfl rfl ?_
      refine x_iload_n F 1 d_M_count_23 rfl rfl ?_
      refine x_bipush F (v := 20) d_M_count_24 (by decide) ?_
      refine x_isub F d_M_count_26 ?_
      refine x_iconst F (v := 0) d_M_count_27 (by decide) ?_
      refine x_callV F (enc := fun r => some (.int r)) (P := fun b => p_M_inSegment b (l1 - 20) 0) (n := 2) (As := [.int (l1 - 20), .int 0]) (st := []) k_887 k_9 k_886 kp_25 k_884 ⟨by decide, by decide, by decide +kernel⟩ rfl ⟨Nat.le_of_ble_eq_true rfl, Nat.le_of_ble_eq_true rfl⟩ (by simp [x_cat, x_catI, x_catL]) cl_M rfl (ro := some th) (fun b K' G' h' _ => c_M_inSegment l D dA base sa b (l1 - 20) 0 K' G' h') d_M_count_28 h (fun v16 G h => ?_)
      refine x_goto F (tgt := 36) d_M_count_31 (by decide) ?_
      exact x_iret F rfl hret d_M_count_36 ⟨_, rfl, h⟩
