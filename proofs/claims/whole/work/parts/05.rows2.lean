section XR2
variable {p : Program} {l : Launch} {e : Env} {R : Room} {s : State} {m : MethodId} {args : Array Value} {below : List Frame} {meth : Method} {c : Code} {nL : Nat} {Q : State → Prop} {D : va_G} {dA : Nat → ClassId} {base : Nat} {sa : Nat → Nat} {cc : ByteArray} {own : String} {pc : Nat} {lv lv' : List (Nat × Value)} {st : List Value} {G : xS}
theorem x_outer (c : ClassId) (N h0 : Nat) : ∀ i : Nat, Jvm.Free.Multi.outerC c N h0 i = arrV c N (fun j => va_rf (if j < i then some (h0 + 1 + j) else none))
  | 0 => by
    show ({ cls := c, slots := Array.replicate N .null, vm := .none } : Cell) = _
    rw [arrV_new]
    refine congrArg (arrV c N) (funext fun j => ?_)
    simp [va_rf]
  | i + 1 => by
    show (Jvm.Free.Multi.outerC c N h0 i).setSlot i (.ref (h0 + 1 + i)) = _
    rw [x_outer c N h0 i, arrV_store]
    refine congrArg (arrV c N) (funext fun j => ?_)
    by_cases e : j = i
    · subst e
      simp [updV, va_rf]
    · by_cases h : j < i
      · simp [updV, e, h, Nat.lt_succ_of_lt h]
      · simp [updV, e, h, show ¬ j < i + 1 by omega]
theorem x_newG (F : xFix p R s m args meth c cc nL own D dA base sa) {idx : Nat} (hw : Cond.classLink own idx "[[I" ∈ xBig) (hai : Cond.arrayClass .int ∈ xBig) {n k : Int32} {K : Nat → xS → Prop} (hd : decode cc pc = .ok (.multianewarray idx 2, 4)) (h : xnewG 2 0 n k K G) (kk : ∀ a G', K a G' → xW p l e R s m args below meth c nL Q D dA base sa (pc + 4) lv (va_rf (some a) :: st) G') : xW p l e R s m args below meth c nL Q D dA base sa pc lv (.int k :: .int n :: st) G := by
  intro H locs cells slots ls hR hS hc hs hL
  obtain ⟨N, M, rfl, rfl, hN, hM, h1, h2, hK⟩ := h
  intro T hT Xs
  have en : (nI N).toNatClampNeg = N := nI_clamp (by omega)
  have ek : (nI M).toNatClampNeg = M := nI_clamp (by omega)
  have hNM : N * M ≤ 1000 * 1000 := Nat.mul_le_mul hN hM
  obtain ⟨vm₁, cA, comp, -, fA, fC, hO, -, X', step⟩ := Xs.multianewarray2F F.1 (own := own) (index := idx) (ty := .int) F.2.2.2.1 (F.2.2.2.2.1 _ hw) F.2.2.2.2.2.1.2.2.2.2.1.1 (F.2.2.2.2.1 _ hai) (g := F0 m pc ls (.int (nI M) :: .int (nI N) :: st)) rfl (by rw [F.2.1]; exact hd) rfl (nI_pos (by omega)) (nI_pos (by omega)) (by rw [en]; omega) (by rw [ek]; simp only [componentBytes]; omega) (by rw [ek]; omega) rfl rfl (by rw [en]; omega) (by rw [en, ek]; omega)
  rw [en, ek] at X' step
  have hcA : cA = dA 2 := Option.some.inj (fA.symm.trans (F.2.2.2.2.2.1.1.2 2 _ rfl).2)
  have hco : comp = dA 0 := Option.some.inj (fC.symm.trans (F.2.2.2.2.2.1.1.2 0 _ rfl).2)
  subst hcA; subst hco
  generalize hFF : Jvm.Free.Multi.fill (T.setVm vm₁) (dA 2) (dA 0) N M (defaultValue .int) N = FF at X' step
  have hTh : (T.setVm vm₁).heap = H := hT
  obtain ⟨f1, f2, -, -⟩ := Jvm.Free.Multi.fill_facts (T.setVm vm₁) (dA 2) (dA 0) N M (defaultValue .int) N
  rw [hFF, hTh] at f1 f2
  have hold : ∀ x : Nat, x < H.size → FF.heap[x]? = H[x]? := fun x hx => by
    have := Jvm.Free.Multi.fill_old (T.setVm vm₁) (dA 2) (dA 0) N M (defaultValue .int) (a := x) (by rw [hTh]; exact hx) N
    rw [hFF, hTh] at this
    exact this
  have hrow : ∀ j : Nat, j < N → FF.heap[H.size + 1 + j]? = some (vp_cell (dA 0) (M, .inl (fun _ => 0))) := fun j hj => by
    have := Jvm.Free.Multi.fill_inner (T.setVm vm₁) (dA 2) (dA 0) N M (defaultValue .int) N j hj
    rw [hFF, hTh] at this
    rw [this, vp_cell_i, ← arrV_new]
    rfl
  rw [x_outer] at f2
  have hz := hR.1
  have hb : base ≤ H.size := Nat.le_trans F.2.2.2.2.2.2.2 hS.1
  obtain ⟨-, r1, r2, dj⟩ := hR
  have l1 : ∀ b c, G.1 b = some c → b < H.size := fun b c q => (r1 b c q).2.lt
  have l2 : ∀ b c, G.2.1 b = some c → b < H.size := fun b c q => (r2 b c q).2.lt
  have hR1 : xRep D dA base (xgrid G.1 2 0 G.2.2.1 N M, G.2.1, G.2.2.1 + (1 + N), G.2.2.2.1 - (1 + N), G.2.2.2.2 - (N + N * M)) FF.heap := by
    refine ⟨?_, fun b c hq => ?_, fun b c hq => ?_, fun b => ?_⟩
    · show FF.heap.size = G.2.2.1 + (1 + N); rw [f1, hz]; omega
    · have hq' : xgrid G.1 2 0 G.2.2.1 N M b = some c := hq
      unfold xgrid at hq'
      rw [← hz] at hq'
      by_cases e1 : b = H.size
      · rw [if_pos e1] at hq'
        cases hq'
        subst e1
        refine ⟨hb, ?_⟩
        show FF.heap[H.size]? = some (vp_cell _ _)
        rw [f2, vp_cell_q]
      · rw [if_neg e1] at hq'
        by_cases e2 : H.size < b ∧ b < H.size + 1 + N
        · rw [if_pos e2] at hq'
          cases hq'
          refine ⟨by omega, ?_⟩
          have := hrow (b - (H.size + 1)) (by omega)
          rw [show H.size + 1 + (b - (H.size + 1)) = b by omega] at this
          exact this
        · rw [if_neg e2] at hq'
          exact ⟨(r1 b c hq').1, (r1 b c hq').2.kept (hold b (l1 b c hq'))⟩
    · have hq' : G.2.1 b = some c := hq
      exact ⟨(r2 b c hq').1, (r2 b c hq').2.kept (hold b (l2 b c hq'))⟩
    · by_cases e1 : b < H.size
      · rcases dj b with q | q
        · refine Or.inl ?_
          show xgrid G.1 2 0 G.2.2.1 N M b = none
          unfold xgrid
          rw [← hz, if_neg (by omega), if_neg (by omega)]
          exact q
        · exact Or.inr q
      · refine Or.inr ?_
        show G.2.1 b = none
        cases hcb : G.2.1 b with
        | none => rfl
        | some c => exact absurd (l2 _ _ hcb) e1
  obtain ⟨t, a1, b1⟩ := kk _ _ hK FF.heap locs (cells + 1 + N) (slots + N + N * M) ls hR1 ⟨by rw [f1]; have := hS.1; omega, fun x q1 q2 => (hold x (Nat.lt_of_lt_of_le q1 hS.1)).trans (hS.2.1 x q1 q2), hS.2.2⟩ (by show cells + 1 + N + (G.2.2.2.1 - (1 + N)) ≤ _; omega) (by show slots + N + N * M + (G.2.2.2.2 - (N + N * M)) ≤ _; omega) hL FF rfl X'
  refine ⟨t, step t ?_, b1⟩
  have e0 : T.heap.size = G.2.2.1 := by rw [hT]; exact hz
  rw [e0]
  exact a1
theorem x_gast (F : xFix p R s m args meth c cc nL own D dA base sa) {r v : Option Nat} {i : Int32} {K : xS → Prop} (hd : decode cc pc = .ok (.aastore, 1)) (h : xasG 2 0 r i v K G) (kk : ∀ G', K G' → xW p l e R s m args below meth c nL Q D dA base sa (pc + 1) lv st G') : xW p l e R s m args below meth c nL Q D dA base sa pc lv (va_rf v :: .int i :: va_rf r :: st) G := by
  intro H locs cells slots ls hR hS hc hs hL
  obtain ⟨a, n, f, b, n1, f1, rfl, hG, hi, rfl, hGb, hK⟩ := h
  have hlt : i.toNatClampNeg < n := Nat.not_le.mp fun q => hi (Or.inr q)
  have h0 : ¬ i < 0 := fun q => hi (Or.inl q)
  have ha : H[a]? = some (vp_cell (dA 2) (n, .inr (.inr (.inr (.inr f))))) := (hR.2.1 a _ hG).2
  have hbv : H[b]? = some (vp_cell (dA 0) (n1, .inl f1)) := (hR.2.1 b _ hGb).2
  obtain ⟨-, ⟨kA, k1, k2⟩, ⟨k0, comp0, k3, k4⟩⟩ := F.2.2.2.2.2.1.2.2.2.2.1
  have has : s.vm.assignable (dA 0) (dA 0) = true := by
    unfold Vm.assignable
    rw [show (256 : Nat) = 255 + 1 from rfl, Vm.assignableAux]
    simp
  refine W.aast F.1 F.2.1 ha (fun q h => by cases h) (fun h => by cases h) k1 k2 rfl k3 ⟨h0, by show _ < (arrV _ _ _).slots.size; rw [arrV_size]; exact hlt⟩ hbv (fun q h => by cases h) k3 has rfl rfl hd fun H1 e1 z oq => ?_
  refine kk _ hK H1 _ cells slots ls (hR.put hG ?_ z oq) (hS.put z oq (hR.2.1 a _ hG).1) hc hs hL
  show H1[a]? = some (vp_cell _ _)
  rw [e1, vp_cell_q, vp_cell_q, arrV_store, x_upR]
  rfl
theorem x_cpy (F : xFix p R s m args meth c cc nL own D dA base sa) {idx : Nat} (hw : Cond.methodLink own idx arraycopyName ∈ xBig) (hnat : Cond.native arraycopyName ∈ xBig) (hst : Cond.static arraycopyName ∈ xBig) (hini : Cond.initialized "java/lang/System" ∈ xBig) (hf : 1 ≤ R.frames) (ho : (st.map fun v => v.category).sum + (nativeFrameWords "java/lang/System" "arraycopy" 5 + 11) ≤ R.locals) {r0 r1 : Option Nat} {sp dp n : Int32} {K : xS → Prop} (hd : decode cc pc = .ok (.invokestatic idx, 3)) (h : xcpy 0 r0 sp r1 dp n K G) (kk : ∀ G', K G' → xW p l e R s m args below meth c nL Q D dA base sa (pc + 3) lv st G') : xW p l e R s m args below meth c nL Q D dA base sa pc lv (.int n :: .int dp :: va_rf r1 :: .int sp :: va_rf r0 :: st) G := by
  intro H locs cells slots ls hR hS hc hs hL
  obtain ⟨a0, n0, f0, a1, n1, f1, rfl, rfl, hG0, hG1, hne, h1, h2, h3, h4, h5, hK⟩ := h
  have nn : ∀ z : Int32, ¬ z < 0 → z.toInt = (z.toNatClampNeg : Int) := by
    intro z hz
    have hz0 : (0 : Int) ≤ z.toInt := by
      have := Int32.not_lt.mp hz
      simpa using Int32.le_iff_toInt_le.mp this
    show z.toInt = ((z.toInt.toNat : Nat) : Int)
    omega
  intro T hT X
  have hts := F.2.2.2.2.1
  have hKn := F.2.2.2.2.2.1.1
  have hc0 : H[a0]? = some (vp_cell (dA 0) (n0, .inl f0)) := (hR.2.1 a0 _ hG0).2
  have hc1 : H[a1]? = some (vp_cell (dA 0) (n1, .inl f1)) := (hR.2.1 a1 _ hG1).2
  obtain ⟨-, k0, hk0, cm0, hkk0⟩ := (hKn.2 0 _ rfl).1 n0 (fun j => .int (f0 j))
  obtain ⟨-, k1, hk1, cm1, hkk1⟩ := (hKn.2 0 _ rfl).1 n1 (fun j => .int (f1 j))
  obtain ⟨vm', X', step⟩ := X.arraycopy F.1 F.2.2.2.1 (hts _ hw) (hts _ hnat) (hts _ hst) (hts _ hini) (src := a0) (dst := a1) (cs := vp_cell (dA 0) (n0, .inl f0)) (cd := vp_cell (dA 0) (n1, .inl f1)) (srcPos := sp) (destPos := dp) (n := n) (by rw [hT]; exact hc0) (by rw [hT]; exact hc1)
    (fun _ h => by cases h) (fun _ h => by cases h) (fun h => by cases h) (fun h => by cases h) hk0 hk1 hkk0 hkk1 (by simp [refKind]) h1 h2 h3
    (by rw [nn sp h1, nn n h3]; show ¬ _ > ((arrV (dA 0) n0 (fun j => .int (f0 j))).slots.size : Int); rw [arrV_size]; omega)
    (by rw [nn dp h2, nn n h3]; show ¬ _ > ((arrV (dA 0) n1 (fun j => .int (f1 j))).slots.size : Int); rw [arrV_size]; omega)
    (fun vm₁ _ i hi => by
      have e : (vp_cell (dA 0) (n0, .inl f0)).slots.getD (sp.toNatClampNeg + i) .null = .int (f0 (sp.toNatClampNeg + i)) := by
        show (arrV (dA 0) n0 (fun j => .int (f0 j))).slots.getD _ _ = _
        rw [Array.getD_eq_getD_getElem?, arrV_read _ _ (by omega)]
        rfl
      refine ⟨?_, ?_⟩
      · rw [e]
        rfl
      · rw [e]
        exact trivial)
    (g := F0 m pc ls (.int n :: .int dp :: va_rf (some a1) :: .int sp :: va_rf (some a0) :: st)) rfl (hL.1.1.trans F.2.2.1.symm) (rest := st) rfl (by rw [F.2.1]; exact hd) hf (by show 2 * 0 + _ + _ ≤ _; omega)
  have e1 : copied (vp_cell (dA 0) (n0, .inl f0)) (vp_cell (dA 0) (n1, .inl f1)) sp dp n = vp_cell (dA 0) (n1, .inl (va_cpy f0 f1 sp.toNatClampNeg dp.toNatClampNeg n.toNatClampNeg)) := va_copied (fun z => .int z) (dA 0) (dA 0) f0 f1 h4
  rw [e1] at X' step
  have hl : a1 < H.size := (Array.getElem?_eq_some_iff.mp hc1).1
  have hheap : ((T.setVm vm').setCell a1 (vp_cell (dA 0) (n1, .inl (va_cpy f0 f1 sp.toNatClampNeg dp.toNatClampNeg n.toNatClampNeg)))).heap = H.setIfInBounds a1 (vp_cell (dA 0) (n1, .inl (va_cpy f0 f1 sp.toNatClampNeg dp.toNatClampNeg n.toNatClampNeg))) := by rw [← hT]; rfl
  have oq : ∀ q : Nat, q ≠ a1 → (H.setIfInBounds a1 (vp_cell (dA 0) (n1, .inl (va_cpy f0 f1 sp.toNatClampNeg dp.toNatClampNeg n.toNatClampNeg))))[q]? = H[q]? := fun q hq => by simp [Array.getElem?_setIfInBounds, Ne.symm hq]
  obtain ⟨t, q1, b1⟩ := kk _ hK _ _ cells slots ls (hR.put hG1 (show (H.setIfInBounds a1 _)[a1]? = some _ by simp [Array.getElem?_setIfInBounds, hl]) (by simp) oq) ⟨by simp; exact hS.1, fun q g1 g2 => by
      rw [oq q (fun e => g2 (by rw [e]; exact (hR.2.1 a1 _ hG1).1))]
      exact hS.2.1 q g1 g2, fun q hq => by
      rcases List.mem_append.mp hq with h | h
      · exact hS.2.2 q h
      · obtain ⟨z, -, hz⟩ := List.mem_map.mp h
        rw [← hz]
        exact (hR.2.1 a1 _ hG1).1⟩ hc hs hL _ hheap X'
  exact ⟨t, step t q1, b1⟩
theorem x_lcmp (F : xFix p R s m args meth c cc nL own D dA base sa) {x y : Int64} (hd : decode cc pc = .ok (.lcmp, 1)) (kk : xW p l e R s m args below meth c nL Q D dA base sa (pc + 1) lv (.int (lg_cmp x y) :: st) G) : xW p l e R s m args below meth c nL Q D dA base sa pc lv (.long y :: .long x :: st) G := by
  intro H locs cells slots ls hR hS hc hs hL
  exact W.lcmp F.1 F.2.1 hd (kk H locs cells slots ls hR hS hc hs hL)
theorem x_catI (v : Int32) : (Value.int v).category = 1 := rfl
theorem x_catL (v : Int64) : (Value.long v).category = 2 := rfl
end XR2
