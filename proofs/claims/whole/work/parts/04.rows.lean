/-! An abstract heap: arrays (number of the type, length, contents) and objects (number of the class, fields). A state: the cells of the one who runs, the cells of the others, the next address, cells and slots that are left. -/
abbrev xA : Type := Nat × Nat × ((Nat → Int32) ⊕ ((Nat → Option Nat) ⊕ (Nat → Int64)))
abbrev xC : Type := xA ⊕ (Nat × List Value)
abbrev xM : Type := Nat → Option xC
abbrev xS : Type := xM × xM × Nat × Nat × Nat
def xE (dA : Nat → ClassId) (c : xC) : va_E := match c with
  | .inl (t, n, .inl f) => .inl (dA t, n, .inl f)
  | .inl (t, n, .inr (.inl f)) => .inl (dA t, n, .inr (.inr (.inr (.inr f))))
  | .inl (t, n, .inr (.inr f)) => .inl (dA t, n, .inr (.inl f))
  | .inr o => .inr o
def xRep (D : va_G) (dA : Nat → ClassId) (base : Nat) (G : xS) (H : Heap) : Prop :=
  H.size = G.2.2.1 ∧ (∀ a c, G.1 a = some c → base ≤ a ∧ va_at D classes (a, xE dA c) H) ∧ (∀ a c, G.2.1 a = some c → base ≤ a ∧ va_at D classes (a, xE dA c) H) ∧ (∀ a, G.1 a = none ∨ G.2.1 a = none)
theorem xRep.put {D : va_G} {dA : Nat → ClassId} {base : Nat} {G : xS} {H H1 : Heap} {a : Nat} {c0 c1 : xC} (h : xRep D dA base G H) (h0 : G.1 a = some c0) (h1 : va_at D classes (a, xE dA c1) H1) (hz : H1.size = H.size) (ho : ∀ q : Nat, q ≠ a → H1[q]? = H[q]?) : xRep D dA base (va_up G.1 a (some c1), G.2) H1 := by
  obtain ⟨z, r1, r2, dj⟩ := h
  refine ⟨hz.trans z, fun b c hb => ?_, fun b c hb => ?_, fun b => ?_⟩
  · by_cases e : b = a
    · subst e
      have hb' : va_up G.1 b (some c1) b = some c := hb
      rw [va_up_self] at hb'
      cases hb'
      exact ⟨(r1 _ _ h0).1, h1⟩
    · have hb' : va_up G.1 a (some c1) b = some c := hb
      rw [va_up_ne _ _ e] at hb'
      exact ⟨(r1 b c hb').1, (r1 b c hb').2.kept (ho b e)⟩
  · have e : b ≠ a := by
      intro e
      subst e
      rcases dj b with q | q
      · rw [h0] at q; cases q
      · have hb' : G.2.1 b = some c := hb
        rw [q] at hb'; cases hb'
    exact ⟨(r2 b c hb).1, (r2 b c hb).2.kept (ho b e)⟩
  · by_cases e : b = a
    · subst e
      rcases dj b with q | q
      · rw [h0] at q; cases q
      · exact Or.inr q
    · rcases dj b with q | q
      · exact Or.inl (by show va_up G.1 a (some c1) b = none; rw [va_up_ne _ _ e]; exact q)
      · exact Or.inr q
theorem xRep.new {D : va_G} {dA : Nat → ClassId} {base : Nat} {G : xS} {H H1 : Heap} {c1 : xC} {cb sb : Nat} (h : xRep D dA base G H) (hb : base ≤ H.size) (h1 : va_at D classes (H.size, xE dA c1) H1) (hz : H1.size = H.size + 1) (ho : ∀ q : Nat, q < H.size → H1[q]? = H[q]?) : xRep D dA base (va_up G.1 G.2.2.1 (some c1), G.2.1, G.2.2.1 + 1, cb, sb) H1 := by
  obtain ⟨z, r1, r2, dj⟩ := h
  rw [z] at h1 hz ho hb
  have l1 : ∀ b c, G.1 b = some c → b < G.2.2.1 := fun b c q => by rw [← z]; exact (r1 b c q).2.lt
  have l2 : ∀ b c, G.2.1 b = some c → b < G.2.2.1 := fun b c q => by rw [← z]; exact (r2 b c q).2.lt
  refine ⟨hz, fun b c hq => ?_, fun b c hq => ?_, fun b => ?_⟩
  · by_cases e : b = G.2.2.1
    · subst e
      have hq' : va_up G.1 G.2.2.1 (some c1) G.2.2.1 = some c := hq
      rw [va_up_self] at hq'
      cases hq'
      exact ⟨hb, h1⟩
    · have hq' : va_up G.1 G.2.2.1 (some c1) b = some c := hq
      rw [va_up_ne _ _ e] at hq'
      exact ⟨(r1 b c hq').1, (r1 b c hq').2.kept (ho b (l1 b c hq'))⟩
  · have hq' : G.2.1 b = some c := hq
    exact ⟨(r2 b c hq').1, (r2 b c hq').2.kept (ho b (l2 b c hq'))⟩
  · by_cases e : b = G.2.2.1
    · subst e
      refine Or.inr ?_
      show G.2.1 G.2.2.1 = none
      cases hc : G.2.1 G.2.2.1 with
      | none => rfl
      | some c => exact absurd (l2 _ _ hc) (Nat.lt_irrefl _)
    · rcases dj b with q | q
      · exact Or.inl (by show va_up G.1 G.2.2.1 (some c1) b = none; rw [va_up_ne _ _ e]; exact q)
      · exact Or.inr q
theorem xRep.swap {D : va_G} {dA : Nat → ClassId} {base : Nat} {m0 m1 : xM} {r : Nat × Nat × Nat} {H : Heap} (h : xRep D dA base (m0, m1, r) H) : xRep D dA base (m1, m0, r) H := ⟨h.1, h.2.2.1, h.2.1, fun a => (h.2.2.2 a).symm⟩
theorem xRep.pay {D : va_G} {dA : Nat → ClassId} {base : Nat} {m0 m1 : xM} {nx cb sb cb' sb' : Nat} {H : Heap} (h : xRep D dA base (m0, m1, nx, cb, sb) H) : xRep D dA base (m0, m1, nx, cb', sb') H := h
theorem xRep.pay' {D : va_G} {dA : Nat → ClassId} {base : Nat} {G : xS} {cb sb : Nat} {H : Heap} (h : xRep D dA base G H) : xRep D dA base (G.1, G.2.1, G.2.2.1, cb, sb) H := h
/-! locals, all of them of one word -/
def xL (ls : Array Slot) (nL : Nat) (lv : List (Nat × Value)) : Prop := lv_has ls nL lv ∧ ∀ q ∈ lv, q.2.category = 1
theorem xL.at {ls : Array Slot} {nL : Nat} {lv : List (Nat × Value)} (h : xL ls nL lv) (k : Nat) {i : Nat} {v : Value} (hk : lv[k]? = some (i, v)) : ls[i]? = some (.val v) := lv_at h.1 k hk
theorem xL.sub {ls : Array Slot} {nL : Nat} {lv lv' : List (Nat × Value)} (h : xL ls nL lv) (ks : List Nat) (hl : lv_pick lv ks = lv') : xL ls nL lv' := by
  refine ⟨lv_sub h.1 ks hl, fun q hq => ?_⟩
  rw [← hl] at hq
  obtain ⟨i, -, hi⟩ := List.mem_filterMap.mp hq
  exact h.2 q (List.mem_of_getElem? hi)
theorem xL.store {ls : Array Slot} {nL : Nat} {lv : List (Nat × Value)} {i : Nat} {v : Value} (h : xL ls nL lv) (hi : i < nL) (hc : v.category = 1) : ∃ ls', storeLocals ls i v = some ls' ∧ xL ls' nL ((i, v) :: lv.filter (fun q => !(q.1 == i))) := by
  obtain ⟨ls', h1, h2⟩ := lv_store1 h.1 hi hc
  refine ⟨ls', h1, ?_, ?_⟩
  · have e : lv.filter (fun q => !(q.1 == i) && !(q.1 + 1 == i && q.2.category == 2)) = lv.filter (fun q => !(q.1 == i)) := by
      apply List.filter_congr
      intro q hq
      have := h.2 q hq
      simp [this]
    rw [e] at h2
    exact h2
  · intro q hq
    rcases List.mem_cons.mp hq with rfl | hq
    · exact hc
    · exact h.2 q (List.mem_filter.mp hq).1
theorem x_cat (r : Option Nat) : (va_rf r).category = 1 := by cases r <;> rfl
theorem x_args : ∀ (vs : List Value) (i : Nat), (∀ v ∈ vs, v.category = 1) → ∀ q ∈ lv_args i vs, q.2.category = 1
  | [], _, _, q, hq => by cases hq
  | v :: vs, i, h, q, hq => by
    rcases List.mem_cons.mp hq with rfl | hq
    · exact h v List.mem_cons_self
    · exact x_args vs _ (fun w hw => h w (List.mem_cons_of_mem _ hw)) q hq
/-! programs: what they do to a state, as what must hold before for something to hold behind -/
def xif (c : Prop) (A B : xS → Prop) (G : xS) : Prop := (c → A G) ∧ (¬ c → B G)
def xgI (ci k : Nat) (r : Option Nat) (K : Int32 → xS → Prop) (G : xS) : Prop := ∃ a fs v, r = some a ∧ G.1 a = some (.inr (ci, fs)) ∧ fs[k]? = some (.int v) ∧ K v G
def xgR (ci k : Nat) (r : Option Nat) (K : Option Nat → xS → Prop) (G : xS) : Prop := ∃ a fs v, r = some a ∧ G.1 a = some (.inr (ci, fs)) ∧ fs[k]? = some (va_rf v) ∧ K v G
def xpI (ci k : Nat) (r : Option Nat) (v : Int32) (K : xS → Prop) (G : xS) : Prop := ∃ a fs, r = some a ∧ G.1 a = some (.inr (ci, fs)) ∧ k < fs.length ∧ K (va_up G.1 a (some (.inr (ci, fs.set k (.int v)))), G.2)
def xpZ (ci k : Nat) (r : Option Nat) (v : Int32) (K : xS → Prop) (G : xS) : Prop := ∃ a fs, r = some a ∧ G.1 a = some (.inr (ci, fs)) ∧ k < fs.length ∧ (v = 0 ∨ v = 1) ∧ K (va_up G.1 a (some (.inr (ci, fs.set k (.int v)))), G.2)
def xpR (ci k : Nat) (r : Option Nat) (v : Option Nat) (K : xS → Prop) (G : xS) : Prop := ∃ a fs, r = some a ∧ G.1 a = some (.inr (ci, fs)) ∧ k < fs.length ∧ K (va_up G.1 a (some (.inr (ci, fs.set k (va_rf v)))), G.2)
def xal (t : Nat) (r : Option Nat) (i : Int32) (K : Int32 → xS → Prop) (G : xS) : Prop := ∃ a n f, r = some a ∧ G.1 a = some (.inl (t, n, .inl f)) ∧ vp_in i n ∧ K (f i.toNatClampNeg) G
def xalR (t : Nat) (r : Option Nat) (i : Int32) (K : Option Nat → xS → Prop) (G : xS) : Prop := ∃ a n f, r = some a ∧ G.1 a = some (.inl (t, n, .inr (.inl f))) ∧ vp_in i n ∧ K (f i.toNatClampNeg) G
def xas (t : Nat) (r : Option Nat) (i v : Int32) (K : xS → Prop) (G : xS) : Prop := ∃ a n f, r = some a ∧ G.1 a = some (.inl (t, n, .inl f)) ∧ vp_in i n ∧ K (va_up G.1 a (some (.inl (t, n, .inl (va_up f i.toNatClampNeg v)))), G.2)
def xasZ (t : Nat) (r : Option Nat) (i v : Int32) (K : xS → Prop) (G : xS) : Prop := ∃ a n f, r = some a ∧ G.1 a = some (.inl (t, n, .inl f)) ∧ vp_in i n ∧ (v = 0 ∨ v = 1) ∧ K (va_up G.1 a (some (.inl (t, n, .inl (va_up f i.toNatClampNeg v)))), G.2)
/-- a reference is stored into an array over the class ci -/
def xasR (t ci : Nat) (r : Option Nat) (i : Int32) (v : Option Nat) (K : xS → Prop) (G : xS) : Prop := ∃ a n f, r = some a ∧ G.1 a = some (.inl (t, n, .inr (.inl f))) ∧ vp_in i n ∧ (∀ b, v = some b → ∃ fs, G.1 b = some (.inr (ci, fs))) ∧ K (va_up G.1 a (some (.inl (t, n, .inr (.inl (va_up f i.toNatClampNeg v))))), G.2)
/-- a row of ints is stored into an array of rows -/
def xasG (t t1 : Nat) (r : Option Nat) (i : Int32) (v : Option Nat) (K : xS → Prop) (G : xS) : Prop := ∃ a n f b n1 f1, r = some a ∧ G.1 a = some (.inl (t, n, .inr (.inl f))) ∧ vp_in i n ∧ v = some b ∧ G.1 b = some (.inl (t1, n1, .inl f1)) ∧ K (va_up G.1 a (some (.inl (t, n, .inr (.inl (va_up f i.toNatClampNeg v))))), G.2)
def xlen (t : Nat) (r : Option Nat) (K : Int32 → xS → Prop) (G : xS) : Prop := ∃ a n x, r = some a ∧ G.1 a = some (.inl (t, n, x)) ∧ K (nI n) G
def xnew (ci N : Nat) (fs : List Value) (K : Nat → xS → Prop) (G : xS) : Prop := 1 ≤ G.2.2.2.1 ∧ N ≤ G.2.2.2.2 ∧ K G.2.2.1 (va_up G.1 G.2.2.1 (some (.inr (ci, fs))), G.2.1, G.2.2.1 + 1, G.2.2.2.1 - 1, G.2.2.2.2 - N)
def xnewI (t : Nat) (n : Int32) (K : Nat → xS → Prop) (G : xS) : Prop := ∃ N : Nat, n = nI N ∧ N ≤ 100000 ∧ 1 ≤ G.2.2.2.1 ∧ N ≤ G.2.2.2.2 ∧ K G.2.2.1 (va_up G.1 G.2.2.1 (some (.inl (t, N, .inl (fun _ => 0)))), G.2.1, G.2.2.1 + 1, G.2.2.2.1 - 1, G.2.2.2.2 - N)
def xnewR (t : Nat) (n : Int32) (K : Nat → xS → Prop) (G : xS) : Prop := ∃ N : Nat, n = nI N ∧ N ≤ 100000 ∧ 1 ≤ G.2.2.2.1 ∧ N ≤ G.2.2.2.2 ∧ K G.2.2.1 (va_up G.1 G.2.2.1 (some (.inl (t, N, .inr (.inl (fun _ => none))))), G.2.1, G.2.2.1 + 1, G.2.2.2.1 - 1, G.2.2.2.2 - N)
def xalL (t : Nat) (r : Option Nat) (i : Int32) (K : Int64 → xS → Prop) (G : xS) : Prop := ∃ a n f, r = some a ∧ G.1 a = some (.inl (t, n, .inr (.inr f))) ∧ vp_in i n ∧ K (f i.toNatClampNeg) G
def xasL (t : Nat) (r : Option Nat) (i : Int32) (v : Int64) (K : xS → Prop) (G : xS) : Prop := ∃ a n f, r = some a ∧ G.1 a = some (.inl (t, n, .inr (.inr f))) ∧ vp_in i n ∧ K (va_up G.1 a (some (.inl (t, n, .inr (.inr (va_up f i.toNatClampNeg v))))), G.2)
def xnewL (t : Nat) (n : Int32) (K : Nat → xS → Prop) (G : xS) : Prop := ∃ N : Nat, n = nI N ∧ N ≤ 100000 ∧ 1 ≤ G.2.2.2.1 ∧ N ≤ G.2.2.2.2 ∧ K G.2.2.1 (va_up G.1 G.2.2.1 (some (.inl (t, N, .inr (.inr (fun _ => 0))))), G.2.1, G.2.2.1 + 1, G.2.2.2.1 - 1, G.2.2.2.2 - N)
/-- new int[n][k]: the rows lie behind -/
def xgrid (m : xM) (t t1 nx N K : Nat) : xM := fun a => if a = nx then some (.inl (t, N, .inr (.inl (fun i => if i < N then some (nx + 1 + i) else none)))) else if nx < a ∧ a < nx + 1 + N then some (.inl (t1, K, .inl (fun _ => 0))) else m a
def xnewG (t t1 : Nat) (n k : Int32) (K : Nat → xS → Prop) (G : xS) : Prop := ∃ N M : Nat, n = nI N ∧ k = nI M ∧ N ≤ 1000 ∧ M ≤ 1000 ∧ 1 + N ≤ G.2.2.2.1 ∧ N + N * M ≤ G.2.2.2.2 ∧ K G.2.2.1 (xgrid G.1 t t1 G.2.2.1 N M, G.2.1, G.2.2.1 + (1 + N), G.2.2.2.1 - (1 + N), G.2.2.2.2 - (N + N * M))
def xdiv (x y : Int32) (K : Int32 → xS → Prop) (G : xS) : Prop := ¬ y = 0 ∧ K (x / y) G
def xnn (r : Option Nat) (A : Nat → xS → Prop) (B : xS → Prop) (G : xS) : Prop := (∀ a, r = some a → A a G) ∧ (r = none → B G)
/-- the object that a method is called on -/
def xob (ci : Nat) (r : Option Nat) (K : Nat → xS → Prop) (G : xS) : Prop := ∃ b fs, r = some b ∧ G.1 b = some (.inr (ci, fs)) ∧ K b G
/-- a call: so many cells and slots are given to it, and paid -/
def xcall {ρ : Type} (mc ms : Nat) (P : (ρ → xS → Prop) → xS → Prop) (K : ρ → xS → Prop) (G : xS) : Prop := mc ≤ G.2.2.2.1 ∧ ms ≤ G.2.2.2.2 ∧ P (fun r G' => K r (G'.1, G'.2.1, G'.2.2.1, G.2.2.2.1 - mc, G.2.2.2.2 - ms)) (G.1, G.2.1, G.2.2.1, mc, ms)
/-- a call of the other one's method -/
def xother {ρ : Type} (mc ms : Nat) (P : (ρ → xS → Prop) → xS → Prop) (K : ρ → xS → Prop) (G : xS) : Prop := mc ≤ G.2.2.2.1 ∧ ms ≤ G.2.2.2.2 ∧ P (fun r G' => K r (G'.2.1, G'.1, G'.2.2.1, G.2.2.2.1 - mc, G.2.2.2.2 - ms)) (G.2.1, G.1, G.2.2.1, mc, ms)
def xrz (v : Int32) (K : Int32 → xS → Prop) (G : xS) : Prop := (v = 0 ∨ v = 1) ∧ K v G
def xtab (n : Nat) (f : Nat → Int32) (i : Int32) (K : Int32 → xS → Prop) (G : xS) : Prop := vp_in i n ∧ K (f i.toNatClampNeg) G
def xcpy (t : Nat) (r0 : Option Nat) (sp : Int32) (r1 : Option Nat) (dp n : Int32) (K : xS → Prop) (G : xS) : Prop := ∃ a0 n0 f0 a1 n1 f1, r0 = some a0 ∧ r1 = some a1 ∧ G.1 a0 = some (.inl (t, n0, .inl f0)) ∧ G.1 a1 = some (.inl (t, n1, .inl f1)) ∧ ¬ a0 = a1 ∧ ¬ sp < 0 ∧ ¬ dp < 0 ∧ ¬ n < 0 ∧ sp.toNatClampNeg + n.toNatClampNeg ≤ n0 ∧ dp.toNatClampNeg + n.toNatClampNeg ≤ n1 ∧ K (va_up G.1 a1 (some (.inl (t, n1, .inl (va_cpy f0 f1 sp.toNatClampNeg dp.toNatClampNeg n.toNatClampNeg)))), G.2)

/-- what the tables say of int[][] -/
def xGrid (dA : Nat → ClassId) (U : State) : Prop := (Cond.arrayOver (.array .int)).before #[] U = true ∧ (∃ kA : Class, U.vm.classes[dA 2]? = some kA ∧ kA.kind = .array (dA 0) (.array .int)) ∧ ∃ (k0 : Class) (comp : ClassId), U.vm.classes[dA 0]? = some k0 ∧ k0.kind = .array comp .int
theorem xGrid.to {dA : Nat → ClassId} {s U : State} (h : xGrid dA s) (hW : s.WarmedH U.vm) : xGrid dA U := by
  have hvm := hW.alike
  obtain ⟨ho, ⟨kA, a1, a2⟩, ⟨k0, comp0, b1, b2⟩⟩ := h
  refine ⟨?_, ?_, ?_⟩
  · obtain ⟨comp, c, k, h1, h2, h3, h4, h5⟩ := arrayOverA_spec ho
    obtain ⟨k', hk', he⟩ := hvm.2.2 _ _ h3
    have hi : (U.vm.classes.findIdx? fun (x : Class) => match x.kind with | .array component _ => component == comp | _ => false) = some c := by
      have hb : U.vm.bare = s.vm.bare := by first | exact hvm.bare_eq | exact hvm.bare_eq.symm
      refine (va_idx_bare U.vm comp).symm.trans ?_
      rw [hb]
      exact (va_idx_bare s.vm comp).trans h2
    have hkind : k'.kind = .array comp (.array .int) := by rw [he]; exact h4
    have f1 : U.vm.findClass (FieldType.array .int).toString = some comp := by rw [hvm.findClass]; exact h1
    have f2 : U.vm.findClass ("[" ++ (FieldType.array .int).toString) = some c := by rw [hvm.findClass]; exact h5
    unfold Cond.before Cond.holds
    simp only [Cond.value]
    rw [f1, Option.bind_some]
    refine (congrArg (fun o : Option Nat => (o.bind (fun c => (U.vm.classes[c]?).map fun (k : Class) => match k.kind with | .array _ ty => decide (ty = FieldType.array .int) && decide (U.vm.findClass ("[" ++ (FieldType.array .int).toString) = some c) | _ => false) == some true)) hi).trans ?_
    simp [hk', hkind, f2]
  · obtain ⟨k', hk', he⟩ := hvm.2.2 _ _ a1
    exact ⟨k', hk', by rw [he]; exact a2⟩
  · obtain ⟨k', hk', he⟩ := hvm.2.2 _ _ b1
    exact ⟨k', comp0, hk', by rw [he]; exact b2⟩
/-- the static array PARENT -/
def xPar (j : Nat) : Int32 := if j = 0 then -1 else if j = 2 then 1 else 0
def xStat (base : Nat) (sa : Nat → Nat) (U : State) : Prop := va_Z "BlockSearch" "PARENT" "[I" (.ref (sa 0)) (fun q : Nat => base ≤ q) U U.heap ∧ va_T .int (sa 0) 4 (fun j => .int (xPar j)) (fun q : Nat => base ≤ q) U U.heap
theorem xStat.to {base : Nat} {sa : Nat → Nat} {s U : State} (h : xStat base sa s) (hW : s.WarmedH U.vm) (hq : ∀ q : Nat, q < s.heap.size → ¬ base ≤ q → U.heap[q]? = s.heap[q]?) : xStat base sa U := ⟨(h.1.moved hW.alike).kept hq, (h.2.moved hW.alike).kept hq⟩
def xKn (D : va_G) (dA : Nat → ClassId) (base : Nat) (sa : Nat → Nat) (U : State) : Prop :=
  va_K D classes (xtysL dA) U ∧ (∀ w ∈ xNestF, va_Nw (.fieldLinkNest w.1 w.2.1 w.2.2.1 w.2.2.2.1 w.2.2.2.2.1 w.2.2.2.2.2) U) ∧ (∀ w ∈ xNestM, va_Nw (.methodLinkNest w.1 w.2.1 w.2.2.1 w.2.2.2) U) ∧ (∀ C ∈ xOver, va_AO C U) ∧ xGrid dA U ∧ xStat base sa U
def xFix (p : Program) (R : Room) (s : State) (m : MethodId) (args : Array Value) (meth : Method) (c : Code) (cc : ByteArray) (nL : Nat) (own : String) (D : va_G) (dA : Nat → ClassId) (base : Nat) (sa : Nat → Nat) : Prop :=
  p.tables.exec = Jvm.exec ∧ c.code = cc ∧ c.maxLocals = nL ∧ s.vm.findClass own = some m.cls ∧ (∀ w ∈ xBig, w.before args s = true) ∧ xKn D dA base sa s ∧ meth.locks = false ∧ base ≤ s.heap.size
/-- the machine at pc, with these locals and this stack, over every heap that holds G, comes to Q -/
def xW (p : Program) (l : Launch) (e : Env) (R : Room) (s : State) (m : MethodId) (args : Array Value) (below : List Frame) (meth : Method) (c : Code) (nL : Nat) (Q : State → Prop) (D : va_G) (dA : Nat → ClassId) (base : Nat) (_sa : Nat → Nat) (pc : Nat) (lv : List (Nat × Value)) (st : List Value) (G : xS) : Prop :=
  ∀ (H : Heap) (locs : List Loc) (cells slots : Nat) (ls : Array Slot), xRep D dA base G H → va_S (fun q : Nat => base ≤ q) s.heap H locs → cells + G.2.2.2.1 ≤ R.cells → slots + G.2.2.2.2 ≤ R.slots → xL ls nL lv → W p l e R s m args below meth c H locs cells slots Q (F0 m pc ls st)

section XR
variable {p : Program} {l : Launch} {e : Env} {R : Room} {s : State} {m : MethodId} {args : Array Value} {below : List Frame} {meth : Method} {c : Code} {nL : Nat} {Q : State → Prop} {D : va_G} {dA : Nat → ClassId} {base : Nat} {sa : Nat → Nat} {cc : ByteArray} {own : String} {pc : Nat} {lv lv' : List (Nat × Value)} {st : List Value} {G : xS}
theorem x_sub (ks : List Nat) (hl : lv_pick lv ks = lv') (kk : xW p l e R s m args below meth c nL Q D dA base sa pc lv' st G) : xW p l e R s m args below meth c nL Q D dA base sa pc lv st G := fun H locs cells slots ls hR hS hc hs hL => kk H locs cells slots ls hR hS hc hs (hL.sub ks hl)
theorem x_iconst (F : xFix p R s m args meth c cc nL own D dA base sa) {n : Int} {v : Int32} (hd : decode cc pc = .ok (.iconst n, 1)) (hv : Int32.ofInt n = v) (kk : xW p l e R s m args below meth c nL Q D dA base sa (pc + 1) lv (.int v :: st) G) : xW p l e R s m args below meth c nL Q D dA base sa pc lv st G := by
  intro H locs cells slots ls hR hS hc hs hL
  exact lv_iconst F.1 F.2.1 hd hv (kk H locs cells slots ls hR hS hc hs hL)
theorem x_bipush (F : xFix p R s m args meth c cc nL own D dA base sa) {n : Int} {v : Int32} (hd : decode cc pc = .ok (.bipush n, 2)) (hv : (Int8.ofInt n).toInt32 = v) (kk : xW p l e R s m args below meth c nL Q D dA base sa (pc + 2) lv (.int v :: st) G) : xW p l e R s m args below meth c nL Q D dA base sa pc lv st G := by
  intro H locs cells slots ls hR hS hc hs hL
  exact lv_bipush F.1 F.2.1 hd hv (kk H locs cells slots ls hR hS hc hs hL)
theorem x_sipush (F : xFix p R s m args meth c cc nL own D dA base sa) {n : Int} {v : Int32} (hd : decode cc pc = .ok (.sipush n, 3)) (hv : (Int16.ofInt n).toInt32 = v) (kk : xW p l e R s m args below meth c nL Q D dA base sa (pc + 3) lv (.int v :: st) G) : xW p l e R s m args below meth c nL Q D dA base sa pc lv st G := by
  intro H locs cells slots ls hR hS hc hs hL
  exact lv_sipush F.1 F.2.1 hd hv (kk H locs cells slots ls hR hS hc hs hL)
theorem x_ldc (F : xFix p R s m args meth c cc nL own D dA base sa) {idx : Nat} {v : Int32} (hw : Cond.constant own idx v ∈ xBig) (hd : decode cc pc = .ok (.ldc idx, 2)) (kk : xW p l e R s m args below meth c nL Q D dA base sa (pc + 2) lv (.int v :: st) G) : xW p l e R s m args below meth c nL Q D dA base sa pc lv st G := by
  intro H locs cells slots ls hR hS hc hs hL
  exact lv_ldc F.1 F.2.1 F.2.2.2.1 (F.2.2.2.2.1 _ hw) hd (kk H locs cells slots ls hR hS hc hs hL)
theorem x_null (F : xFix p R s m args meth c cc nL own D dA base sa) (hd : decode cc pc = .ok (.aconst_null, 1)) (kk : xW p l e R s m args below meth c nL Q D dA base sa (pc + 1) lv (va_rf none :: st) G) : xW p l e R s m args below meth c nL Q D dA base sa pc lv st G := by
  intro H locs cells slots ls hR hS hc hs hL
  exact lv_null F.1 F.2.1 hd (kk H locs cells slots ls hR hS hc hs hL)
theorem x_iload_n (F : xFix p R s m args meth c cc nL own D dA base sa) {k : Fin 4} {i : Nat} (j : Nat) {x : Int32} (hd : decode cc pc = .ok (.iload_n k, 1)) (hi : (k : Nat) = i) (hl : lv[j]? = some (i, .int x)) (kk : xW p l e R s m args below meth c nL Q D dA base sa (pc + 1) lv (.int x :: st) G) : xW p l e R s m args below meth c nL Q D dA base sa pc lv st G := by
  intro H locs cells slots ls hR hS hc hs hL
  exact lv_iload_n F.1 F.2.1 hd hi (hL.at j hl) (kk H locs cells slots ls hR hS hc hs hL)
theorem x_iload (F : xFix p R s m args meth c cc nL own D dA base sa) {i : Nat} (j : Nat) {x : Int32} (hd : decode cc pc = .ok (.iload i, 2)) (hl : lv[j]? = some (i, .int x)) (kk : xW p l e R s m args below meth c nL Q D dA base sa (pc + 2) lv (.int x :: st) G) : xW p l e R s m args below meth c nL Q D dA base sa pc lv st G := by
  intro H locs cells slots ls hR hS hc hs hL
  exact lv_iload F.1 F.2.1 hd (hL.at j hl) (kk H locs cells slots ls hR hS hc hs hL)
theorem x_aload_n (F : xFix p R s m args meth c cc nL own D dA base sa) {k : Fin 4} {i : Nat} (j : Nat) {r : Option Nat} (hd : decode cc pc = .ok (.aload_n k, 1)) (hi : (k : Nat) = i) (hl : lv[j]? = some (i, va_rf r)) (kk : xW p l e R s m args below meth c nL Q D dA base sa (pc + 1) lv (va_rf r :: st) G) : xW p l e R s m args below meth c nL Q D dA base sa pc lv st G := by
  intro H locs cells slots ls hR hS hc hs hL
  cases r with
  | none => exact lv_aload_nN F.1 F.2.1 hd hi (hL.at j hl) (kk H locs cells slots ls hR hS hc hs hL)
  | some a => exact lv_aload_n F.1 F.2.1 hd hi (hL.at j hl) (kk H locs cells slots ls hR hS hc hs hL)
theorem x_aload (F : xFix p R s m args meth c cc nL own D dA base sa) {i : Nat} (j : Nat) {r : Option Nat} (hd : decode cc pc = .ok (.aload i, 2)) (hl : lv[j]? = some (i, va_rf r)) (kk : xW p l e R s m args below meth c nL Q D dA base sa (pc + 2) lv (va_rf r :: st) G) : xW p l e R s m args below meth c nL Q D dA base sa pc lv st G := by
  intro H locs cells slots ls hR hS hc hs hL
  cases r with
  | none => exact lv_aloadN F.1 F.2.1 hd (hL.at j hl) (kk H locs cells slots ls hR hS hc hs hL)
  | some a => exact lv_aload F.1 F.2.1 hd (hL.at j hl) (kk H locs cells slots ls hR hS hc hs hL)
theorem xL.sto {ls ls' : Array Slot} {nL : Nat} {lv : List (Nat × Value)} {i : Nat} {v : Value} (h : xL ls nL lv) (hc : v.category = 1) (h2 : lv_has ls' nL ((i, v) :: lv.filter (fun q => !(q.1 == i) && !(q.1 + 1 == i && q.2.category == 2)))) : xL ls' nL ((i, v) :: lv.filter (fun q => !(q.1 == i))) := by
  have e : lv.filter (fun q => !(q.1 == i) && !(q.1 + 1 == i && q.2.category == 2)) = lv.filter (fun q => !(q.1 == i)) := by
    apply List.filter_congr
    intro q hq
    have := h.2 q hq
    simp [this]
  rw [e] at h2
  refine ⟨h2, fun q hq => ?_⟩
  rcases List.mem_cons.mp hq with rfl | hq
  · exact hc
  · exact h.2 q (List.mem_filter.mp hq).1
theorem x_istore_n (F : xFix p R s m args meth c cc nL own D dA base sa) {k : Fin 4} {i : Nat} {x : Int32} (hd : decode cc pc = .ok (.istore_n k, 1)) (hi : (k : Nat) = i) (hn : i < nL) (hl : (i, Value.int x) :: lv.filter (fun q => !(q.1 == i)) = lv') (kk : xW p l e R s m args below meth c nL Q D dA base sa (pc + 1) lv' st G) : xW p l e R s m args below meth c nL Q D dA base sa pc lv (.int x :: st) G := by
  intro H locs cells slots ls hR hS hc hs hL
  subst hl
  exact lv_istore_n F.1 F.2.1 hd hi hL.1 hn rfl (fun ls' h' => kk H locs cells slots ls' hR hS hc hs (hL.sto rfl h'))
theorem x_istore (F : xFix p R s m args meth c cc nL own D dA base sa) {i : Nat} {x : Int32} (hd : decode cc pc = .ok (.istore i, 2)) (hn : i < nL) (hl : (i, Value.int x) :: lv.filter (fun q => !(q.1 == i)) = lv') (kk : xW p l e R s m args below meth c nL Q D dA base sa (pc + 2) lv' st G) : xW p l e R s m args below meth c nL Q D dA base sa pc lv (.int x :: st) G := by
  intro H locs cells slots ls hR hS hc hs hL
  subst hl
  exact lv_istore F.1 F.2.1 hd hL.1 hn rfl (fun ls' h' => kk H locs cells slots ls' hR hS hc hs (hL.sto rfl h'))
theorem x_astore_n (F : xFix p R s m args meth c cc nL own D dA base sa) {k : Fin 4} {i : Nat} {r : Option Nat} (hd : decode cc pc = .ok (.astore_n k, 1)) (hi : (k : Nat) = i) (hn : i < nL) (hl : (i, va_rf r) :: lv.filter (fun q => !(q.1 == i)) = lv') (kk : xW p l e R s m args below meth c nL Q D dA base sa (pc + 1) lv' st G) : xW p l e R s m args below meth c nL Q D dA base sa pc lv (va_rf r :: st) G := by
  intro H locs cells slots ls hR hS hc hs hL
  subst hl
  cases r with
  | none => exact lv_astore_nN F.1 F.2.1 hd hi hL.1 hn rfl (fun ls' h' => kk H locs cells slots ls' hR hS hc hs (hL.sto rfl h'))
  | some a => exact lv_astore_n F.1 F.2.1 hd hi hL.1 hn rfl (fun ls' h' => kk H locs cells slots ls' hR hS hc hs (hL.sto rfl h'))
theorem x_astore (F : xFix p R s m args meth c cc nL own D dA base sa) {i : Nat} {r : Option Nat} (hd : decode cc pc = .ok (.astore i, 2)) (hn : i < nL) (hl : (i, va_rf r) :: lv.filter (fun q => !(q.1 == i)) = lv') (kk : xW p l e R s m args below meth c nL Q D dA base sa (pc + 2) lv' st G) : xW p l e R s m args below meth c nL Q D dA base sa pc lv (va_rf r :: st) G := by
  intro H locs cells slots ls hR hS hc hs hL
  subst hl
  cases r with
  | none => exact lv_astoreN F.1 F.2.1 hd hL.1 hn rfl (fun ls' h' => kk H locs cells slots ls' hR hS hc hs (hL.sto rfl h'))
  | some a => exact lv_astore F.1 F.2.1 hd hL.1 hn rfl (fun ls' h' => kk H locs cells slots ls' hR hS hc hs (hL.sto rfl h'))
theorem x_iinc (F : xFix p R s m args meth c cc nL own D dA base sa) {i : Nat} (k : Nat) {n : Int} {x v : Int32} (hd : decode cc pc = .ok (.iinc i n, 3)) (hk : lv[k]? = some (i, .int x)) (hv : x + Int32.ofInt n = v) (hn : i < nL) (hl : (i, Value.int v) :: lv.filter (fun q => !(q.1 == i)) = lv') (kk : xW p l e R s m args below meth c nL Q D dA base sa (pc + 3) lv' st G) : xW p l e R s m args below meth c nL Q D dA base sa pc lv st G := by
  intro H locs cells slots ls hR hS hc hs hL
  subst hl
  exact lv_iinc F.1 F.2.1 hd hL.1 hk hv hn rfl (fun ls' h' => kk H locs cells slots ls' hR hS hc hs (hL.sto rfl h'))
theorem x_iadd (F : xFix p R s m args meth c cc nL own D dA base sa) {x y : Int32} (hd : decode cc pc = .ok (.iadd, 1)) (kk : xW p l e R s m args below meth c nL Q D dA base sa (pc + 1) lv (.int (x + y) :: st) G) : xW p l e R s m args below meth c nL Q D dA base sa pc lv (.int y :: .int x :: st) G := by
  intro H locs cells slots ls hR hS hc hs hL
  exact lv_iadd F.1 F.2.1 hd (kk H locs cells slots ls hR hS hc hs hL)
theorem x_isub (F : xFix p R s m args meth c cc nL own D dA base sa) {x y : Int32} (hd : decode cc pc = .ok (.isub, 1)) (kk : xW p l e R s m args below meth c nL Q D dA base sa (pc + 1) lv (.int (x - y) :: st) G) : xW p l e R s m args below meth c nL Q D dA base sa pc lv (.int y :: .int x :: st) G := by
  intro H locs cells slots ls hR hS hc hs hL
  exact lv_isub F.1 F.2.1 hd (kk H locs cells slots ls hR hS hc hs hL)
theorem x_imul (F : xFix p R s m args meth c cc nL own D dA base sa) {x y : Int32} (hd : decode cc pc = .ok (.imul, 1)) (kk : xW p l e R s m args below meth c nL Q D dA base sa (pc + 1) lv (.int (x * y) :: st) G) : xW p l e R s m args below meth c nL Q D dA base sa pc lv (.int y :: .int x :: st) G := by
  intro H locs cells slots ls hR hS hc hs hL
  exact lv_imul F.1 F.2.1 hd (kk H locs cells slots ls hR hS hc hs hL)
theorem x_iand (F : xFix p R s m args meth c cc nL own D dA base sa) {x y : Int32} (hd : decode cc pc = .ok (.iand, 1)) (kk : xW p l e R s m args below meth c nL Q D dA base sa (pc + 1) lv (.int (x &&& y) :: st) G) : xW p l e R s m args below meth c nL Q D dA base sa pc lv (.int y :: .int x :: st) G := by
  intro H locs cells slots ls hR hS hc hs hL
  exact lv_iand F.1 F.2.1 hd (kk H locs cells slots ls hR hS hc hs hL)
theorem x_ior (F : xFix p R s m args meth c cc nL own D dA base sa) {x y : Int32} (hd : decode cc pc = .ok (.ior, 1)) (kk : xW p l e R s m args below meth c nL Q D dA base sa (pc + 1) lv (.int (x ||| y) :: st) G) : xW p l e R s m args below meth c nL Q D dA base sa pc lv (.int y :: .int x :: st) G := by
  intro H locs cells slots ls hR hS hc hs hL
  exact lv_ior F.1 F.2.1 hd (kk H locs cells slots ls hR hS hc hs hL)
theorem x_ineg (F : xFix p R s m args meth c cc nL own D dA base sa) {x : Int32} (hd : decode cc pc = .ok (.ineg, 1)) (kk : xW p l e R s m args below meth c nL Q D dA base sa (pc + 1) lv (.int (-x) :: st) G) : xW p l e R s m args below meth c nL Q D dA base sa pc lv (.int x :: st) G := by
  intro H locs cells slots ls hR hS hc hs hL
  exact lv_ineg F.1 F.2.1 hd (kk H locs cells slots ls hR hS hc hs hL)
theorem x_idiv (F : xFix p R s m args meth c cc nL own D dA base sa) {x y : Int32} {K : Int32 → xS → Prop} (hd : decode cc pc = .ok (.idiv, 1)) (h : xdiv x y K G) (kk : K (x / y) G → xW p l e R s m args below meth c nL Q D dA base sa (pc + 1) lv (.int (x / y) :: st) G) : xW p l e R s m args below meth c nL Q D dA base sa pc lv (.int y :: .int x :: st) G := by
  intro H locs cells slots ls hR hS hc hs hL
  exact lv_idiv F.1 F.2.1 hd h.1 (kk h.2 H locs cells slots ls hR hS hc hs hL)
theorem x_dup (F : xFix p R s m args meth c cc nL own D dA base sa) {v : Value} (hv : v.category = 1) (hd : decode cc pc = .ok (.dup, 1)) (kk : xW p l e R s m args below meth c nL Q D dA base sa (pc + 1) lv (v :: v :: st) G) : xW p l e R s m args below meth c nL Q D dA base sa pc lv (v :: st) G := by
  intro H locs cells slots ls hR hS hc hs hL
  exact lv_dup F.1 F.2.1 hd hv (kk H locs cells slots ls hR hS hc hs hL)
theorem x_pop (F : xFix p R s m args meth c cc nL own D dA base sa) {v : Value} (hv : v.category = 1) (hd : decode cc pc = .ok (.pop, 1)) (kk : xW p l e R s m args below meth c nL Q D dA base sa (pc + 1) lv st G) : xW p l e R s m args below meth c nL Q D dA base sa pc lv (v :: st) G := by
  intro H locs cells slots ls hR hS hc hs hL
  exact lv_pop F.1 F.2.1 hd hv (kk H locs cells slots ls hR hS hc hs hL)
theorem x_dup_x1 (F : xFix p R s m args meth c cc nL own D dA base sa) {v u : Value} (hv : v.category = 1) (hu : u.category = 1) (hd : decode cc pc = .ok (.dup_x1, 1)) (kk : xW p l e R s m args below meth c nL Q D dA base sa (pc + 1) lv (v :: u :: v :: st) G) : xW p l e R s m args below meth c nL Q D dA base sa pc lv (v :: u :: st) G := by
  intro H locs cells slots ls hR hS hc hs hL
  exact lv_dup_x1 F.1 F.2.1 hd hv hu (kk H locs cells slots ls hR hS hc hs hL)
theorem x_dup_x2 (F : xFix p R s m args meth c cc nL own D dA base sa) {v u t : Value} (hv : v.category = 1) (hu : u.category = 1) (ht : t.category = 1) (hd : decode cc pc = .ok (.dup_x2, 1)) (kk : xW p l e R s m args below meth c nL Q D dA base sa (pc + 1) lv (v :: u :: t :: v :: st) G) : xW p l e R s m args below meth c nL Q D dA base sa pc lv (v :: u :: t :: st) G := by
  intro H locs cells slots ls hR hS hc hs hL
  exact lv_dup_x2 F.1 F.2.1 hd hv hu ht (kk H locs cells slots ls hR hS hc hs hL)
theorem x_dup2 (F : xFix p R s m args meth c cc nL own D dA base sa) {v u : Value} (hv : v.category = 1) (hu : u.category = 1) (hd : decode cc pc = .ok (.dup2, 1)) (kk : xW p l e R s m args below meth c nL Q D dA base sa (pc + 1) lv (v :: u :: v :: u :: st) G) : xW p l e R s m args below meth c nL Q D dA base sa pc lv (v :: u :: st) G := by
  intro H locs cells slots ls hR hS hc hs hL
  exact lv_dup2_11 F.1 F.2.1 hd hv hu (kk H locs cells slots ls hR hS hc hs hL)
theorem x_if_eq (F : xFix p R s m args meth c cc nL own D dA base sa) {x : Int32} {A B : xS → Prop} {off : Int} {tgt : Nat} (hd : decode cc pc = .ok (.ifCond .eq off, 3)) (ht : (pc : Int) + off = (tgt : Int)) (h : xif (x = 0) A B G) (kt : x = 0 → A G → xW p l e R s m args below meth c nL Q D dA base sa tgt lv st G) (kf : ¬ x = 0 → B G → xW p l e R s m args below meth c nL Q D dA base sa (pc + 3) lv st G) : xW p l e R s m args below meth c nL Q D dA base sa pc lv (.int x :: st) G := by
  intro H locs cells slots ls hR hS hc hs hL
  exact lv_if_eq F.1 F.2.1 hd ht (fun q => kt q (h.1 q) H locs cells slots ls hR hS hc hs hL) (fun q => kf q (h.2 q) H locs cells slots ls hR hS hc hs hL)
theorem x_if_ne (F : xFix p R s m args meth c cc nL own D dA base sa) {x : Int32} {A B : xS → Prop} {off : Int} {tgt : Nat} (hd : decode cc pc = .ok (.ifCond .ne off, 3)) (ht : (pc : Int) + off = (tgt : Int)) (h : xif (x = 0) A B G) (kt : ¬ x = 0 → B G → xW p l e R s m args below meth c nL Q D dA base sa tgt lv st G) (kf : x = 0 → A G → xW p l e R s m args below meth c nL Q D dA base sa (pc + 3) lv st G) : xW p l e R s m args below meth c nL Q D dA base sa pc lv (.int x :: st) G := by
  intro H locs cells slots ls hR hS hc hs hL
  exact lv_if_ne F.1 F.2.1 hd ht (fun q => kt q (h.2 q) H locs cells slots ls hR hS hc hs hL) (fun q => kf q (h.1 q) H locs cells slots ls hR hS hc hs hL)
theorem x_if_lt (F : xFix p R s m args meth c cc nL own D dA base sa) {x : Int32} {A B : xS → Prop} {off : Int} {tgt : Nat} (hd : decode cc pc = .ok (.ifCond .lt off, 3)) (ht : (pc : Int) + off = (tgt : Int)) (h : xif (x < 0) A B G) (kt : x < 0 → A G → xW p l e R s m args below meth c nL Q D dA base sa tgt lv st G) (kf : ¬ x < 0 → B G → xW p l e R s m args below meth c nL Q D dA base sa (pc + 3) lv st G) : xW p l e R s m args below meth c nL Q D dA base sa pc lv (.int x :: st) G := by
  intro H locs cells slots ls hR hS hc hs hL
  exact lv_if_lt F.1 F.2.1 hd ht (fun q => kt q (h.1 q) H locs cells slots ls hR hS hc hs hL) (fun q => kf q (h.2 q) H locs cells slots ls hR hS hc hs hL)
theorem x_if_ge (F : xFix p R s m args meth c cc nL own D dA base sa) {x : Int32} {A B : xS → Prop} {off : Int} {tgt : Nat} (hd : decode cc pc = .ok (.ifCond .ge off, 3)) (ht : (pc : Int) + off = (tgt : Int)) (h : xif (0 ≤ x) A B G) (kt : 0 ≤ x → A G → xW p l e R s m args below meth c nL Q D dA base sa tgt lv st G) (kf : ¬ 0 ≤ x → B G → xW p l e R s m args below meth c nL Q D dA base sa (pc + 3) lv st G) : xW p l e R s m args below meth c nL Q D dA base sa pc lv (.int x :: st) G := by
  intro H locs cells slots ls hR hS hc hs hL
  exact lv_if_ge F.1 F.2.1 hd ht (fun q => kt q (h.1 q) H locs cells slots ls hR hS hc hs hL) (fun q => kf q (h.2 q) H locs cells slots ls hR hS hc hs hL)
theorem x_if_gt (F : xFix p R s m args meth c cc nL own D dA base sa) {x : Int32} {A B : xS → Prop} {off : Int} {tgt : Nat} (hd : decode cc pc = .ok (.ifCond .gt off, 3)) (ht : (pc : Int) + off = (tgt : Int)) (h : xif (0 < x) A B G) (kt : 0 < x → A G → xW p l e R s m args below meth c nL Q D dA base sa tgt lv st G) (kf : ¬ 0 < x → B G → xW p l e R s m args below meth c nL Q D dA base sa (pc + 3) lv st G) : xW p l e R s m args below meth c nL Q D dA base sa pc lv (.int x :: st) G := by
  intro H locs cells slots ls hR hS hc hs hL
  exact lv_if_gt F.1 F.2.1 hd ht (fun q => kt q (h.1 q) H locs cells slots ls hR hS hc hs hL) (fun q => kf q (h.2 q) H locs cells slots ls hR hS hc hs hL)
theorem x_if_le (F : xFix p R s m args meth c cc nL own D dA base sa) {x : Int32} {A B : xS → Prop} {off : Int} {tgt : Nat} (hd : decode cc pc = .ok (.ifCond .le off, 3)) (ht : (pc : Int) + off = (tgt : Int)) (h : xif (x ≤ 0) A B G) (kt : x ≤ 0 → A G → xW p l e R s m args below meth c nL Q D dA base sa tgt lv st G) (kf : ¬ x ≤ 0 → B G → xW p l e R s m args below meth c nL Q D dA base sa (pc + 3) lv st G) : xW p l e R s m args below meth c nL Q D dA base sa pc lv (.int x :: st) G := by
  intro H locs cells slots ls hR hS hc hs hL
  exact lv_if_le F.1 F.2.1 hd ht (fun q => kt q (h.1 q) H locs cells slots ls hR hS hc hs hL) (fun q => kf q (h.2 q) H locs cells slots ls hR hS hc hs hL)
theorem x_icmp_eq (F : xFix p R s m args meth c cc nL own D dA base sa) {x y : Int32} {A B : xS → Prop} {off : Int} {tgt : Nat} (hd : decode cc pc = .ok (.if_icmp .eq off, 3)) (ht : (pc : Int) + off = (tgt : Int)) (h : xif (x = y) A B G) (kt : x = y → A G → xW p l e R s m args below meth c nL Q D dA base sa tgt lv st G) (kf : ¬ x = y → B G → xW p l e R s m args below meth c nL Q D dA base sa (pc + 3) lv st G) : xW p l e R s m args below meth c nL Q D dA base sa pc lv (.int y :: .int x :: st) G := by
  intro H locs cells slots ls hR hS hc hs hL
  exact lv_icmp_eq F.1 F.2.1 hd ht (fun q => kt q (h.1 q) H locs cells slots ls hR hS hc hs hL) (fun q => kf q (h.2 q) H locs cells slots ls hR hS hc hs hL)
theorem x_icmp_ne (F : xFix p R s m args meth c cc nL own D dA base sa) {x y : Int32} {A B : xS → Prop} {off : Int} {tgt : Nat} (hd : decode cc pc = .ok (.if_icmp .ne off, 3)) (ht : (pc : Int) + off = (tgt : Int)) (h : xif (x = y) A B G) (kt : ¬ x = y → B G → xW p l e R s m args below meth c nL Q D dA base sa tgt lv st G) (kf : x = y → A G → xW p l e R s m args below meth c nL Q D dA base sa (pc + 3) lv st G) : xW p l e R s m args below meth c nL Q D dA base sa pc lv (.int y :: .int x :: st) G := by
  intro H locs cells slots ls hR hS hc hs hL
  exact lv_icmp_ne F.1 F.2.1 hd ht (fun q => kt q (h.2 q) H locs cells slots ls hR hS hc hs hL) (fun q => kf q (h.1 q) H locs cells slots ls hR hS hc hs hL)
theorem x_icmp_lt (F : xFix p R s m args meth c cc nL own D dA base sa) {x y : Int32} {A B : xS → Prop} {off : Int} {tgt : Nat} (hd : decode cc pc = .ok (.if_icmp .lt off, 3)) (ht : (pc : Int) + off = (tgt : Int)) (h : xif (x < y) A B G) (kt : x < y → A G → xW p l e R s m args below meth c nL Q D dA base sa tgt lv st G) (kf : ¬ x < y → B G → xW p l e R s m args below meth c nL Q D dA base sa (pc + 3) lv st G) : xW p l e R s m args below meth c nL Q D dA base sa pc lv (.int y :: .int x :: st) G := by
  intro H locs cells slots ls hR hS hc hs hL
  exact lv_icmp_lt F.1 F.2.1 hd ht (fun q => kt q (h.1 q) H locs cells slots ls hR hS hc hs hL) (fun q => kf q (h.2 q) H locs cells slots ls hR hS hc hs hL)
theorem x_icmp_ge (F : xFix p R s m args meth c cc nL own D dA base sa) {x y : Int32} {A B : xS → Prop} {off : Int} {tgt : Nat} (hd : decode cc pc = .ok (.if_icmp .ge off, 3)) (ht : (pc : Int) + off = (tgt : Int)) (h : xif (y ≤ x) A B G) (kt : y ≤ x → A G → xW p l e R s m args below meth c nL Q D dA base sa tgt lv st G) (kf : ¬ y ≤ x → B G → xW p l e R s m args below meth c nL Q D dA base sa (pc + 3) lv st G) : xW p l e R s m args below meth c nL Q D dA base sa pc lv (.int y :: .int x :: st) G := by
  intro H locs cells slots ls hR hS hc hs hL
  exact lv_icmp_ge F.1 F.2.1 hd ht (fun q => kt q (h.1 q) H locs cells slots ls hR hS hc hs hL) (fun q => kf q (h.2 q) H locs cells slots ls hR hS hc hs hL)
theorem x_icmp_gt (F : xFix p R s m args meth c cc nL own D dA base sa) {x y : Int32} {A B : xS → Prop} {off : Int} {tgt : Nat} (hd : decode cc pc = .ok (.if_icmp .gt off, 3)) (ht : (pc : Int) + off = (tgt : Int)) (h : xif (y < x) A B G) (kt : y < x → A G → xW p l e R s m args below meth c nL Q D dA base sa tgt lv st G) (kf : ¬ y < x → B G → xW p l e R s m args below meth c nL Q D dA base sa (pc + 3) lv st G) : xW p l e R s m args below meth c nL Q D dA base sa pc lv (.int y :: .int x :: st) G := by
  intro H locs cells slots ls hR hS hc hs hL
  exact lv_icmp_gt F.1 F.2.1 hd ht (fun q => kt q (h.1 q) H locs cells slots ls hR hS hc hs hL) (fun q => kf q (h.2 q) H locs cells slots ls hR hS hc hs hL)
theorem x_icmp_le (F : xFix p R s m args meth c cc nL own D dA base sa) {x y : Int32} {A B : xS → Prop} {off : Int} {tgt : Nat} (hd : decode cc pc = .ok (.if_icmp .le off, 3)) (ht : (pc : Int) + off = (tgt : Int)) (h : xif (x ≤ y) A B G) (kt : x ≤ y → A G → xW p l e R s m args below meth c nL Q D dA base sa tgt lv st G) (kf : ¬ x ≤ y → B G → xW p l e R s m args below meth c nL Q D dA base sa (pc + 3) lv st G) : xW p l e R s m args below meth c nL Q D dA base sa pc lv (.int y :: .int x :: st) G := by
  intro H locs cells slots ls hR hS hc hs hL
  exact lv_icmp_le F.1 F.2.1 hd ht (fun q => kt q (h.1 q) H locs cells slots ls hR hS hc hs hL) (fun q => kf q (h.2 q) H locs cells slots ls hR hS hc hs hL)
theorem x_acmp_eq (F : xFix p R s m args meth c cc nL own D dA base sa) {rx ry : Option Nat} {A B : xS → Prop} {off : Int} {tgt : Nat} (hd : decode cc pc = .ok (.if_acmp .eq off, 3)) (ht : (pc : Int) + off = (tgt : Int)) (h : xif (rx = ry) A B G) (kt : rx = ry → A G → xW p l e R s m args below meth c nL Q D dA base sa tgt lv st G) (kf : ¬ rx = ry → B G → xW p l e R s m args below meth c nL Q D dA base sa (pc + 3) lv st G) : xW p l e R s m args below meth c nL Q D dA base sa pc lv (va_rf ry :: va_rf rx :: st) G := by
  intro H locs cells slots ls hR hS hc hs hL
  exact lv_acmp_eq F.1 F.2.1 hd ht (fun q => kt q (h.1 q) H locs cells slots ls hR hS hc hs hL) (fun q => kf q (h.2 q) H locs cells slots ls hR hS hc hs hL)
theorem x_acmp_ne (F : xFix p R s m args meth c cc nL own D dA base sa) {rx ry : Option Nat} {A B : xS → Prop} {off : Int} {tgt : Nat} (hd : decode cc pc = .ok (.if_acmp .ne off, 3)) (ht : (pc : Int) + off = (tgt : Int)) (h : xif (rx = ry) A B G) (kt : ¬ rx = ry → B G → xW p l e R s m args below meth c nL Q D dA base sa tgt lv st G) (kf : rx = ry → A G → xW p l e R s m args below meth c nL Q D dA base sa (pc + 3) lv st G) : xW p l e R s m args below meth c nL Q D dA base sa pc lv (va_rf ry :: va_rf rx :: st) G := by
  intro H locs cells slots ls hR hS hc hs hL
  exact lv_acmp_ne F.1 F.2.1 hd ht (fun q => kt q (h.2 q) H locs cells slots ls hR hS hc hs hL) (fun q => kf q (h.1 q) H locs cells slots ls hR hS hc hs hL)
theorem x_ifnull (F : xFix p R s m args meth c cc nL own D dA base sa) {r : Option Nat} {A : Nat → xS → Prop} {B : xS → Prop} {off : Int} {tgt : Nat} (hd : decode cc pc = .ok (.ifnull off, 3)) (ht : (pc : Int) + off = (tgt : Int)) (h : xnn r A B G) (kt : r = none → B G → xW p l e R s m args below meth c nL Q D dA base sa tgt lv st G) (kf : ∀ a, r = some a → A a G → xW p l e R s m args below meth c nL Q D dA base sa (pc + 3) lv st G) : xW p l e R s m args below meth c nL Q D dA base sa pc lv (va_rf r :: st) G := by
  intro H locs cells slots ls hR hS hc hs hL
  cases r with
  | none => exact lv_ifnullN F.1 F.2.1 hd ht (kt rfl (h.2 rfl) H locs cells slots ls hR hS hc hs hL)
  | some a => exact lv_ifnull F.1 F.2.1 hd (kf a rfl (h.1 a rfl) H locs cells slots ls hR hS hc hs hL)
theorem x_ifnonnull (F : xFix p R s m args meth c cc nL own D dA base sa) {r : Option Nat} {A : Nat → xS → Prop} {B : xS → Prop} {off : Int} {tgt : Nat} (hd : decode cc pc = .ok (.ifnonnull off, 3)) (ht : (pc : Int) + off = (tgt : Int)) (h : xnn r A B G) (kt : ∀ a, r = some a → A a G → xW p l e R s m args below meth c nL Q D dA base sa tgt lv st G) (kf : r = none → B G → xW p l e R s m args below meth c nL Q D dA base sa (pc + 3) lv st G) : xW p l e R s m args below meth c nL Q D dA base sa pc lv (va_rf r :: st) G := by
  intro H locs cells slots ls hR hS hc hs hL
  cases r with
  | none => exact lv_ifnonnullN F.1 F.2.1 hd (kf rfl (h.2 rfl) H locs cells slots ls hR hS hc hs hL)
  | some a => exact lv_ifnonnull F.1 F.2.1 hd ht (kt a rfl (h.1 a rfl) H locs cells slots ls hR hS hc hs hL)
theorem x_goto (F : xFix p R s m args meth c cc nL own D dA base sa) {off : Int} {tgt : Nat} (hd : decode cc pc = .ok (.goto off, 3)) (ht : (pc : Int) + off = (tgt : Int)) (kk : xW p l e R s m args below meth c nL Q D dA base sa tgt lv st G) : xW p l e R s m args below meth c nL Q D dA base sa pc lv st G := by
  intro H locs cells slots ls hR hS hc hs hL
  exact lv_goto F.1 F.2.1 hd ht (kk H locs cells slots ls hR hS hc hs hL)
theorem x_tabIn (F : xFix p R s m args meth c cc nL own D dA base sa) {dflt lo hi : Int} {offs : Array Int} {len : Nat} {x k : Int32} {off : Int} {tgt : Nat} (hd : decode cc pc = .ok (.tableswitch dflt lo hi offs, len)) (hx : x = k) (h1 : ¬ k.toInt < lo) (h2 : ¬ hi < k.toInt) (ho : offs[(k.toInt - lo).toNat]? = some off) (ht : (pc : Int) + off = (tgt : Int)) (kk : xW p l e R s m args below meth c nL Q D dA base sa tgt lv st G) : xW p l e R s m args below meth c nL Q D dA base sa pc lv (.int x :: st) G := by
  subst hx
  intro H locs cells slots ls hR hS hc hs hL
  exact lv_tableIn F.1 F.2.1 hd h1 h2 ho ht (kk H locs cells slots ls hR hS hc hs hL)
theorem x_tabOut (F : xFix p R s m args meth c cc nL own D dA base sa) {dflt lo hi : Int} {offs : Array Int} {len : Nat} {x : Int32} {tgt : Nat} (hd : decode cc pc = .ok (.tableswitch dflt lo hi offs, len)) (h : x.toInt < lo ∨ hi < x.toInt) (ht : (pc : Int) + dflt = (tgt : Int)) (kk : xW p l e R s m args below meth c nL Q D dA base sa tgt lv st G) : xW p l e R s m args below meth c nL Q D dA base sa pc lv (.int x :: st) G := by
  intro H locs cells slots ls hR hS hc hs hL
  exact lv_tableOut F.1 F.2.1 hd h ht (kk H locs cells slots ls hR hS hc hs hL)
theorem x_look (F : xFix p R s m args meth c cc nL own D dA base sa) {dflt : Int} {ps : Array (Int × Int)} {len : Nat} {x : Int32} {off : Int} {tgt : Nat} (hd : decode cc pc = .ok (.lookupswitch dflt ps, len)) (hp : (ps.toList.zip (ps.toList.drop 1)).all (fun (a, next) => a.1 < next.1) = true) (ho : Op.lookupswitch.offset ps.toList dflt x.toInt = off) (ht : (pc : Int) + off = (tgt : Int)) (kk : xW p l e R s m args below meth c nL Q D dA base sa tgt lv st G) : xW p l e R s m args below meth c nL Q D dA base sa pc lv (.int x :: st) G := by
  intro H locs cells slots ls hR hS hc hs hL
  exact lv_lookup F.1 F.2.1 hd hp ho ht (kk H locs cells slots ls hR hS hc hs hL)
theorem xRep.one {D : va_G} {dA : Nat → ClassId} {base : Nat} {G : xS} {H : Heap} {a : Nat} {c : xC} (h : xRep D dA base G H) (h0 : G.1 a = some c) : va_P D classes [(a, xE dA c)] H := by
  intro k q hk
  match k, hk with
  | 0, hk => cases hk; exact (h.2.1 a c h0).2
  | k + 1, hk => simp at hk
theorem x_getI (F : xFix p R s m args meth c cc nL own D dA base sa) {ci k idx N : Nat} {C ref : String} {T : u_T} (hcl : classes[ci]? = some (C, T, N)) (hin : ∀ w ∈ u_ws C T N, w ∈ xBig) (hk : k < N) (hw : Cond.fieldLink own idx ref (T k).2.1 (T k).2.2.1 ∈ xBig) (hsm : (T k).1 = ref) {r : Option Nat} {K : Int32 → xS → Prop} (hd : decode cc pc = .ok (.getfield idx, 3)) (h : xgI ci k r K G) (kk : ∀ v, K v G → xW p l e R s m args below meth c nL Q D dA base sa (pc + 3) lv (.int v :: st) G) : xW p l e R s m args below meth c nL Q D dA base sa pc lv (va_rf r :: st) G := by
  intro H locs cells slots ls hR hS hc hs hL
  obtain ⟨a, fs, v, rfl, hG, hv, hK⟩ := h
  exact va_get F.1 F.2.1 F.2.2.2.2.1 hin F.2.2.2.1 F.2.2.2.2.2.1.1 (hR.one hG) 0 rfl hcl k hk (F.2.2.2.2.1 _ hw) (fun x q => by rw [← hsm]; exact q) hv hd (kk v hK H locs cells slots ls hR hS hc hs hL)
theorem x_getR (F : xFix p R s m args meth c cc nL own D dA base sa) {ci k idx N : Nat} {C ref : String} {T : u_T} (hcl : classes[ci]? = some (C, T, N)) (hin : ∀ w ∈ u_ws C T N, w ∈ xBig) (hk : k < N) (hw : Cond.fieldLink own idx ref (T k).2.1 (T k).2.2.1 ∈ xBig) (hsm : (T k).1 = ref) {r : Option Nat} {K : Option Nat → xS → Prop} (hd : decode cc pc = .ok (.getfield idx, 3)) (h : xgR ci k r K G) (kk : ∀ v, K v G → xW p l e R s m args below meth c nL Q D dA base sa (pc + 3) lv (va_rf v :: st) G) : xW p l e R s m args below meth c nL Q D dA base sa pc lv (va_rf r :: st) G := by
  intro H locs cells slots ls hR hS hc hs hL
  obtain ⟨a, fs, v, rfl, hG, hv, hK⟩ := h
  exact va_get F.1 F.2.1 F.2.2.2.2.1 hin F.2.2.2.1 F.2.2.2.2.2.1.1 (hR.one hG) 0 rfl hcl k hk (F.2.2.2.2.1 _ hw) (fun x q => by rw [← hsm]; exact q) hv hd (kk v hK H locs cells slots ls hR hS hc hs hL)
theorem x_putV (F : xFix p R s m args meth c cc nL own D dA base sa) {ci k idx N : Nat} {C ref : String} {T : u_T} (hcl : classes[ci]? = some (C, T, N)) (hin : ∀ w ∈ u_ws C T N, w ∈ xBig) (hk : k < N) (hw : Cond.fieldLink own idx ref (T k).2.1 (T k).2.2.1 ∈ xBig) (hsm : (T k).1 = ref) {ty0 : Nat → FieldType} (hty : ∀ k, k < N → parseFieldDescriptor (T k).2.2.1 = some (ty0 k)) (hnm : ∀ a, a < N → ∀ b, b < N → a ≠ b → (T a).2.1 ≠ (T b).2.1) (hfin : (T k).2.2.2 = false) {a : Nat} {fs : List Value} {v : Value} (hn : narrow (ty0 k) v = v) (hfit : fits (ty0 k) v = true) (hG : G.1 a = some (.inr (ci, fs))) (hl : k < fs.length) (hd : decode cc pc = .ok (.putfield idx, 3)) (kk : xW p l e R s m args below meth c nL Q D dA base sa (pc + 3) lv st (va_up G.1 a (some (.inr (ci, fs.set k v))), G.2)) : xW p l e R s m args below meth c nL Q D dA base sa pc lv (v :: .ref a :: st) G := by
  intro H locs cells slots ls hR hS hc hs hL
  have hP := hR.one hG
  have hts := F.2.2.2.2.1
  have hK := F.2.2.2.2.2.1.1
  have hap := va_apart (own := own) hts hin ty0 hty hnm hK hcl
  obtain ⟨r, h1, cell, q1, q2, q3, q4⟩ := hP 0 _ rfl
  have hr : r = (C, T, N) := Option.some.inj (h1.symm.trans hcl)
  subst hr
  obtain ⟨hSl, hfc, kC, hkC, hkind⟩ := hK.1 ci _ hcl
  obtain ⟨cf, kf, fi, f, hi, hsl⟩ := hSl k hk
  have hlay := hts _ (hin _ (u_in_lay hk))
  unfold u_lay at hlay
  rw [if_neg (by rw [hfin]; decide)] at hlay
  have hst := (u_facts hfc hkC (u_lays hts hin hk) hi).1
  have h6 := u_store hfc hkC hkind hlay hi (hty k hk) hn hfit
  refine W.putK F.1 F.2.1 (f := f) ⟨F.2.2.2.1, F.2.2.2.2.1 _ hw, ⟨_, _, _, by rw [← hsm]; exact hi⟩, hst⟩ (by rw [q2]; exact h6) q1 q3 (by rw [hsl]; exact k2_hasslot (q4 k hk)) rfl rfl hd fun H' e1 e2 e3 => ?_
  rw [hsl] at e1 ⊢
  refine kk H' _ cells slots ls (hR.put hG ?_ e2 e3) (hS.put e2 e3 (hR.2.1 a _ hG).1) hc hs hL
  exact ⟨_, hcl, t_OB.to (V := updV (vp_V fs) k v) ⟨_, e1, q2, q3, t_set q4 hap hk v⟩ (fun j _ => vp_updV_set hl v j)⟩
theorem x_putF (F : xFix p R s m args meth c cc nL own D dA base sa) {ci k idx N : Nat} {C ref : String} {T : u_T} (hcl : classes[ci]? = some (C, T, N)) (hin : ∀ w ∈ u_ws C T N, w ∈ xBig) (hk : k < N) (hw : Cond.fieldLink own idx ref (T k).2.1 (T k).2.2.1 ∈ xBig) (hsm : (T k).1 = ref) {ty0 : Nat → FieldType} (hty : ∀ k, k < N → parseFieldDescriptor (T k).2.2.1 = some (ty0 k)) (hnm : ∀ a, a < N → ∀ b, b < N → a ≠ b → (T a).2.1 ≠ (T b).2.1) (hfin : (T k).2.2.2 = true) (hin2 : meth.name = "<init>") (hdecl : (T k).1 = own) {a : Nat} {fs : List Value} {v : Value} (hn : narrow (ty0 k) v = v) (hfit : fits (ty0 k) v = true) (hG : G.1 a = some (.inr (ci, fs))) (hl : k < fs.length) (hd : decode cc pc = .ok (.putfield idx, 3)) (kk : xW p l e R s m args below meth c nL Q D dA base sa (pc + 3) lv st (va_up G.1 a (some (.inr (ci, fs.set k v))), G.2)) : xW p l e R s m args below meth c nL Q D dA base sa pc lv (v :: .ref a :: st) G := by
  intro H locs cells slots ls hR hS hc hs hL
  have hP := hR.one hG
  have hts := F.2.2.2.2.1
  have hK := F.2.2.2.2.2.1.1
  have hap := va_apart (own := own) hts hin ty0 hty hnm hK hcl
  obtain ⟨r, h1, cell, q1, q2, q3, q4⟩ := hP 0 _ rfl
  have hr : r = (C, T, N) := Option.some.inj (h1.symm.trans hcl)
  subst hr
  obtain ⟨hSl, hfc, kC, hkC, hkind⟩ := hK.1 ci _ hcl
  obtain ⟨cf, kf, fi, f, hi, hsl⟩ := hSl k hk
  have hlay := hts _ (hin _ (u_in_lay hk))
  unfold u_lay at hlay
  rw [if_pos hfin] at hlay
  have hst := (u_facts hfc hkC (u_lays hts hin hk) hi).1
  have hcf : m.cls = cf := by
    obtain ⟨_, _, c', _, _, _, -, -, hf', -, -, -, hown2, -⟩ := Cond.laysFinal_spec hlay
    have e1 : c' = cf := by have := hi.symm.trans hf'; simp at this; exact this.1.symm
    rw [hdecl] at hown2
    rw [← e1]; exact Option.some.inj (F.2.2.2.1.symm.trans hown2)
  have h6 := u_fits hfc hkC hkind (Or.inr hlay) hi (hty k hk) hn hfit
  refine W.putFinK F.1 F.2.1 F.2.2.2.1 (F.2.2.2.2.1 _ hw) (by rw [← hsm]; exact hi) hst hcf hin2 (by rw [q2]; exact h6) q1 q3 (by rw [hsl]; exact k2_hasslot (q4 k hk)) rfl rfl hd fun H' e1 e2 e3 => ?_
  rw [hsl] at e1 ⊢
  refine kk H' _ cells slots ls (hR.put hG ?_ e2 e3) (hS.put e2 e3 (hR.2.1 a _ hG).1) hc hs hL
  exact ⟨_, hcl, t_OB.to (V := updV (vp_V fs) k v) ⟨_, e1, q2, q3, t_set q4 hap hk v⟩ (fun j _ => vp_updV_set hl v j)⟩
theorem x_fitR {ty : FieldType} (h : (∃ n, ty = .object n) ∨ ∃ t, ty = .array t) (r : Option Nat) : narrow ty (va_rf r) = va_rf r ∧ fits ty (va_rf r) = true := by
  rcases h with ⟨n, rfl⟩ | ⟨t, rfl⟩ <;> cases r <;> exact ⟨rfl, rfl⟩
theorem x_fitZ {v : Int32} (h : v = 0 ∨ v = 1) : narrow .boolean (.int v) = .int v ∧ fits .boolean (.int v) = true := by
  rcases h with rfl | rfl <;> exact ⟨by decide, by decide⟩
theorem x_putI (F : xFix p R s m args meth c cc nL own D dA base sa) {ci k idx N : Nat} {C ref : String} {T : u_T} (hcl : classes[ci]? = some (C, T, N)) (hin : ∀ w ∈ u_ws C T N, w ∈ xBig) (hk : k < N) (hw : Cond.fieldLink own idx ref (T k).2.1 (T k).2.2.1 ∈ xBig) (hsm : (T k).1 = ref) {ty0 : Nat → FieldType} (hty : ∀ k, k < N → parseFieldDescriptor (T k).2.2.1 = some (ty0 k)) (hnm : ∀ a, a < N → ∀ b, b < N → a ≠ b → (T a).2.1 ≠ (T b).2.1) (hfin : (T k).2.2.2 = false) (ht : ty0 k = .int) {r : Option Nat} {v : Int32} {K : xS → Prop} (hd : decode cc pc = .ok (.putfield idx, 3)) (h : xpI ci k r v K G) (kk : ∀ G', K G' → xW p l e R s m args below meth c nL Q D dA base sa (pc + 3) lv st G') : xW p l e R s m args below meth c nL Q D dA base sa pc lv (.int v :: va_rf r :: st) G := by
  obtain ⟨a, fs, rfl, hG, hl, hK⟩ := h
  exact x_putV F hcl hin hk hw hsm hty hnm hfin (by rw [ht]; rfl) (by rw [ht]; rfl) hG hl hd (kk _ hK)
theorem x_putZ (F : xFix p R s m args meth c cc nL own D dA base sa) {ci k idx N : Nat} {C ref : String} {T : u_T} (hcl : classes[ci]? = some (C, T, N)) (hin : ∀ w ∈ u_ws C T N, w ∈ xBig) (hk : k < N) (hw : Cond.fieldLink own idx ref (T k).2.1 (T k).2.2.1 ∈ xBig) (hsm : (T k).1 = ref) {ty0 : Nat → FieldType} (hty : ∀ k, k < N → parseFieldDescriptor (T k).2.2.1 = some (ty0 k)) (hnm : ∀ a, a < N → ∀ b, b < N → a ≠ b → (T a).2.1 ≠ (T b).2.1) (hfin : (T k).2.2.2 = false) (ht : ty0 k = .boolean) {r : Option Nat} {v : Int32} {K : xS → Prop} (hd : decode cc pc = .ok (.putfield idx, 3)) (h : xpZ ci k r v K G) (kk : ∀ G', K G' → xW p l e R s m args below meth c nL Q D dA base sa (pc + 3) lv st G') : xW p l e R s m args below meth c nL Q D dA base sa pc lv (.int v :: va_rf r :: st) G := by
  obtain ⟨a, fs, rfl, hG, hl, hz, hK⟩ := h
  exact x_putV F hcl hin hk hw hsm hty hnm hfin (by rw [ht]; exact (x_fitZ hz).1) (by rw [ht]; exact (x_fitZ hz).2) hG hl hd (kk _ hK)
theorem x_putR (F : xFix p R s m args meth c cc nL own D dA base sa) {ci k idx N : Nat} {C ref : String} {T : u_T} (hcl : classes[ci]? = some (C, T, N)) (hin : ∀ w ∈ u_ws C T N, w ∈ xBig) (hk : k < N) (hw : Cond.fieldLink own idx ref (T k).2.1 (T k).2.2.1 ∈ xBig) (hsm : (T k).1 = ref) {ty0 : Nat → FieldType} (hty : ∀ k, k < N → parseFieldDescriptor (T k).2.2.1 = some (ty0 k)) (hnm : ∀ a, a < N → ∀ b, b < N → a ≠ b → (T a).2.1 ≠ (T b).2.1) (hfin : (T k).2.2.2 = false) (ht : (∃ n, ty0 k = .object n) ∨ ∃ t, ty0 k = .array t) {r v : Option Nat} {K : xS → Prop} (hd : decode cc pc = .ok (.putfield idx, 3)) (h : xpR ci k r v K G) (kk : ∀ G', K G' → xW p l e R s m args below meth c nL Q D dA base sa (pc + 3) lv st G') : xW p l e R s m args below meth c nL Q D dA base sa pc lv (va_rf v :: va_rf r :: st) G := by
  obtain ⟨a, fs, rfl, hG, hl, hK⟩ := h
  exact x_putV F hcl hin hk hw hsm hty hnm hfin (x_fitR ht v).1 (x_fitR ht v).2 hG hl hd (kk _ hK)
theorem x_putIF (F : xFix p R s m args meth c cc nL own D dA base sa) {ci k idx N : Nat} {C ref : String} {T : u_T} (hcl : classes[ci]? = some (C, T, N)) (hin : ∀ w ∈ u_ws C T N, w ∈ xBig) (hk : k < N) (hw : Cond.fieldLink own idx ref (T k).2.1 (T k).2.2.1 ∈ xBig) (hsm : (T k).1 = ref) {ty0 : Nat → FieldType} (hty : ∀ k, k < N → parseFieldDescriptor (T k).2.2.1 = some (ty0 k)) (hnm : ∀ a, a < N → ∀ b, b < N → a ≠ b → (T a).2.1 ≠ (T b).2.1) (hfin : (T k).2.2.2 = true) (hin2 : meth.name = "<init>") (hdecl : (T k).1 = own) (ht : ty0 k = .int) {r : Option Nat} {v : Int32} {K : xS → Prop} (hd : decode cc pc = .ok (.putfield idx, 3)) (h : xpI ci k r v K G) (kk : ∀ G', K G' → xW p l e R s m args below meth c nL Q D dA base sa (pc + 3) lv st G') : xW p l e R s m args below meth c nL Q D dA base sa pc lv (.int v :: va_rf r :: st) G := by
  obtain ⟨a, fs, rfl, hG, hl, hK⟩ := h
  exact x_putF F hcl hin hk hw hsm hty hnm hfin hin2 hdecl (by rw [ht]; rfl) (by rw [ht]; rfl) hG hl hd (kk _ hK)
theorem x_putZF (F : xFix p R s m args meth c cc nL own D dA base sa) {ci k idx N : Nat} {C ref : String} {T : u_T} (hcl : classes[ci]? = some (C, T, N)) (hin : ∀ w ∈ u_ws C T N, w ∈ xBig) (hk : k < N) (hw : Cond.fieldLink own idx ref (T k).2.1 (T k).2.2.1 ∈ xBig) (hsm : (T k).1 = ref) {ty0 : Nat → FieldType} (hty : ∀ k, k < N → parseFieldDescriptor (T k).2.2.1 = some (ty0 k)) (hnm : ∀ a, a < N → ∀ b, b < N → a ≠ b → (T a).2.1 ≠ (T b).2.1) (hfin : (T k).2.2.2 = true) (hin2 : meth.name = "<init>") (hdecl : (T k).1 = own) (ht : ty0 k = .boolean) {r : Option Nat} {v : Int32} {K : xS → Prop} (hd : decode cc pc = .ok (.putfield idx, 3)) (h : xpZ ci k r v K G) (kk : ∀ G', K G' → xW p l e R s m args below meth c nL Q D dA base sa (pc + 3) lv st G') : xW p l e R s m args below meth c nL Q D dA base sa pc lv (.int v :: va_rf r :: st) G := by
  obtain ⟨a, fs, rfl, hG, hl, hz, hK⟩ := h
  exact x_putF F hcl hin hk hw hsm hty hnm hfin hin2 hdecl (by rw [ht]; exact (x_fitZ hz).1) (by rw [ht]; exact (x_fitZ hz).2) hG hl hd (kk _ hK)
theorem x_putRF (F : xFix p R s m args meth c cc nL own D dA base sa) {ci k idx N : Nat} {C ref : String} {T : u_T} (hcl : classes[ci]? = some (C, T, N)) (hin : ∀ w ∈ u_ws C T N, w ∈ xBig) (hk : k < N) (hw : Cond.fieldLink own idx ref (T k).2.1 (T k).2.2.1 ∈ xBig) (hsm : (T k).1 = ref) {ty0 : Nat → FieldType} (hty : ∀ k, k < N → parseFieldDescriptor (T k).2.2.1 = some (ty0 k)) (hnm : ∀ a, a < N → ∀ b, b < N → a ≠ b → (T a).2.1 ≠ (T b).2.1) (hfin : (T k).2.2.2 = true) (hin2 : meth.name = "<init>") (hdecl : (T k).1 = own) (ht : (∃ n, ty0 k = .object n) ∨ ∃ t, ty0 k = .array t) {r v : Option Nat} {K : xS → Prop} (hd : decode cc pc = .ok (.putfield idx, 3)) (h : xpR ci k r v K G) (kk : ∀ G', K G' → xW p l e R s m args below meth c nL Q D dA base sa (pc + 3) lv st G') : xW p l e R s m args below meth c nL Q D dA base sa pc lv (va_rf v :: va_rf r :: st) G := by
  obtain ⟨a, fs, rfl, hG, hl, hK⟩ := h
  exact x_putF F hcl hin hk hw hsm hty hnm hfin hin2 hdecl (x_fitR ht v).1 (x_fitR ht v).2 hG hl hd (kk _ hK)
theorem x_iald (F : xFix p R s m args meth c cc nL own D dA base sa) {t : Nat} (ht : (xtysL dA)[t]? = some (dA t, .int)) {r : Option Nat} {i : Int32} {K : Int32 → xS → Prop} (hd : decode cc pc = .ok (.iaload, 1)) (h : xal t r i K G) (kk : ∀ v, K v G → xW p l e R s m args below meth c nL Q D dA base sa (pc + 1) lv (.int v :: st) G) : xW p l e R s m args below meth c nL Q D dA base sa pc lv (.int i :: va_rf r :: st) G := by
  intro H locs cells slots ls hR hS hc hs hL
  obtain ⟨a, n, f, rfl, hG, hi, hK⟩ := h
  have hlt : i.toNatClampNeg < n := Nat.not_le.mp fun q => hi (Or.inr q)
  have ha : H[a]? = some (vp_cell (dA t) (n, .inl f)) := (hR.2.1 a _ hG).2
  exact W.iald (v := .int (f i.toNatClampNeg)) F.1 F.2.1 ha ((F.2.2.2.2.2.1.1.2 t _ ht).1 n (fun j => .int (f j))) (fun q => by cases q) (by show ¬ (i < 0 ∨ (arrV _ _ _).slots.size ≤ _); rw [arrV_size]; exact hi) (by show (arrV _ _ _).slots[_]? = _; rw [arrV_read _ _ hlt]) rfl rfl hd (kk _ hK H locs cells slots ls hR hS hc hs hL)
theorem x_zald (F : xFix p R s m args meth c cc nL own D dA base sa) {t : Nat} (ht : (xtysL dA)[t]? = some (dA t, .boolean)) {r : Option Nat} {i : Int32} {K : Int32 → xS → Prop} (hd : decode cc pc = .ok (.baload, 1)) (h : xal t r i K G) (kk : ∀ v, K v G → xW p l e R s m args below meth c nL Q D dA base sa (pc + 1) lv (.int v :: st) G) : xW p l e R s m args below meth c nL Q D dA base sa pc lv (.int i :: va_rf r :: st) G := by
  intro H locs cells slots ls hR hS hc hs hL
  obtain ⟨a, n, f, rfl, hG, hi, hK⟩ := h
  have hlt : i.toNatClampNeg < n := Nat.not_le.mp fun q => hi (Or.inr q)
  have ha : H[a]? = some (vp_cell (dA t) (n, .inl f)) := (hR.2.1 a _ hG).2
  exact W.zald (v := .int (f i.toNatClampNeg)) F.1 F.2.1 ha ((F.2.2.2.2.2.1.1.2 t _ ht).1 n (fun j => .int (f j))) (fun q => by cases q) (by show ¬ (i < 0 ∨ (arrV _ _ _).slots.size ≤ _); rw [arrV_size]; exact hi) (by show (arrV _ _ _).slots[_]? = _; rw [arrV_read _ _ hlt]) rfl rfl hd (kk _ hK H locs cells slots ls hR hS hc hs hL)
theorem x_aald (F : xFix p R s m args meth c cc nL own D dA base sa) {t : Nat} {ty : FieldType} (ht : (xtysL dA)[t]? = some (dA t, ty)) (hrf : ty.isReference = true) {r : Option Nat} {i : Int32} {K : Option Nat → xS → Prop} (hd : decode cc pc = .ok (.aaload, 1)) (h : xalR t r i K G) (kk : ∀ v, K v G → xW p l e R s m args below meth c nL Q D dA base sa (pc + 1) lv (va_rf v :: st) G) : xW p l e R s m args below meth c nL Q D dA base sa pc lv (.int i :: va_rf r :: st) G := by
  intro H locs cells slots ls hR hS hc hs hL
  obtain ⟨a, n, f, rfl, hG, hi, hK⟩ := h
  have hlt : i.toNatClampNeg < n := Nat.not_le.mp fun q => hi (Or.inr q)
  have ha : H[a]? = some (vp_cell (dA t) (n, .inr (.inr (.inr (.inr f))))) := (hR.2.1 a _ hG).2
  exact W.aald (v := va_rf (f i.toNatClampNeg)) (ty := ty) F.1 F.2.1 ha ((F.2.2.2.2.2.1.1.2 t _ ht).1 n (fun j => va_rf (f j))) hrf (fun q => by cases q) (by show ¬ (i < 0 ∨ (arrV _ _ _).slots.size ≤ _); rw [arrV_size]; exact hi) (by show (arrV _ _ _).slots[_]? = _; rw [arrV_read _ _ hlt]) rfl rfl hd (kk _ hK H locs cells slots ls hR hS hc hs hL)
theorem x_upI (f : Nat → Int32) (k : Nat) (x : Int32) : (fun j => Value.int (va_up f k x j)) = updV (fun j => .int (f j)) k (.int x) := by
  funext q
  by_cases hq : q = k
  · subst hq; simp [updV, va_up]
  · simp [updV, va_up, hq]
theorem x_upR (f : Nat → Option Nat) (k : Nat) (x : Option Nat) : (fun j => va_rf (va_up f k x j)) = updV (fun j => va_rf (f j)) k (va_rf x) := by
  funext q
  by_cases hq : q = k
  · subst hq; simp [updV, va_up]
  · simp [updV, va_up, hq]
theorem x_iast (F : xFix p R s m args meth c cc nL own D dA base sa) {t : Nat} (ht : (xtysL dA)[t]? = some (dA t, .int)) {r : Option Nat} {i v : Int32} {K : xS → Prop} (hd : decode cc pc = .ok (.iastore, 1)) (h : xas t r i v K G) (kk : ∀ G', K G' → xW p l e R s m args below meth c nL Q D dA base sa (pc + 1) lv st G') : xW p l e R s m args below meth c nL Q D dA base sa pc lv (.int v :: .int i :: va_rf r :: st) G := by
  intro H locs cells slots ls hR hS hc hs hL
  obtain ⟨a, n, f, rfl, hG, hi, hK⟩ := h
  have ha : H[a]? = some (vp_cell (dA t) (n, .inl f)) := (hR.2.1 a _ hG).2
  refine W.iast F.1 F.2.1 ha ((F.2.2.2.2.2.1.1.2 t _ ht).1 n (fun j => .int (f j))) (fun q => by cases q) (by show ¬ (i < 0 ∨ (arrV _ _ _).slots.size ≤ _); rw [arrV_size]; exact hi) rfl rfl hd fun H1 e1 z oq => ?_
  refine kk _ hK H1 _ cells slots ls (hR.put hG ?_ z oq) (hS.put z oq (hR.2.1 a _ hG).1) hc hs hL
  show H1[a]? = some (vp_cell _ _)
  rw [e1, vp_cell_i, vp_cell_i, arrV_store, x_upI]
theorem x_zast (F : xFix p R s m args meth c cc nL own D dA base sa) {t : Nat} (ht : (xtysL dA)[t]? = some (dA t, .boolean)) {r : Option Nat} {i v : Int32} {K : xS → Prop} (hd : decode cc pc = .ok (.bastore, 1)) (h : xasZ t r i v K G) (kk : ∀ G', K G' → xW p l e R s m args below meth c nL Q D dA base sa (pc + 1) lv st G') : xW p l e R s m args below meth c nL Q D dA base sa pc lv (.int v :: .int i :: va_rf r :: st) G := by
  intro H locs cells slots ls hR hS hc hs hL
  obtain ⟨a, n, f, rfl, hG, hi, hz, hK⟩ := h
  have ha : H[a]? = some (vp_cell (dA t) (n, .inl f)) := (hR.2.1 a _ hG).2
  refine W.zast F.1 F.2.1 ha ((F.2.2.2.2.2.1.1.2 t _ ht).1 n (fun j => .int (f j))) (fun q => by cases q) (by show ¬ (i < 0 ∨ (arrV _ _ _).slots.size ≤ _); rw [arrV_size]; exact hi) rfl rfl hd fun H1 e1 z oq => ?_
  refine kk _ hK H1 _ cells slots ls (hR.put hG ?_ z oq) (hS.put z oq (hR.2.1 a _ hG).1) hc hs hL
  show H1[a]? = some (vp_cell _ _)
  rw [e1, vp_cell_i, vp_cell_i, arrV_store, x_upI]
  first | rw [(x_fitZ hz).1] | (rcases hz with rfl | rfl <;> rfl)
theorem x_aast (F : xFix p R s m args meth c cc nL own D dA base sa) {t ci : Nat} {q : vw_C} (hcl : classes[ci]? = some q) (ht : (xtysL dA)[t]? = some (dA t, .object q.1)) {r v : Option Nat} {i : Int32} {K : xS → Prop} (hd : decode cc pc = .ok (.aastore, 1)) (h : xasR t ci r i v K G) (kk : ∀ G', K G' → xW p l e R s m args below meth c nL Q D dA base sa (pc + 1) lv st G') : xW p l e R s m args below meth c nL Q D dA base sa pc lv (va_rf v :: .int i :: va_rf r :: st) G := by
  intro H locs cells slots ls hR hS hc hs hL
  obtain ⟨a, n, f, rfl, hG, hi, hb, hK⟩ := h
  have hlt : i.toNatClampNeg < n := Nat.not_le.mp fun q => hi (Or.inr q)
  have h0 : ¬ i < 0 := fun q => hi (Or.inl q)
  have ha : H[a]? = some (vp_cell (dA t) (n, .inr (.inr (.inr (.inr f))))) := (hR.2.1 a _ hG).2
  have hfin : ∀ (H1 : Heap), H1[a]? = some ((vp_cell (dA t) (n, .inr (.inr (.inr (.inr f))))).setSlot i.toNatClampNeg (va_rf v)) → H1[a]? = some (vp_cell (dA t) (n, .inr (.inr (.inr (.inr (va_up f i.toNatClampNeg v)))))) := by
    intro H1 e1
    rw [e1, vp_cell_q, vp_cell_q, arrV_store, x_upR]
  have hKn := F.2.2.2.2.2.1.1
  cases v with
  | none =>
    refine va_WaastN (C := q.1) F.1 F.2.1 ha ((hKn.2 t _ ht).1 n (fun j => va_rf (f j))) (fun h => by cases h) (by show ¬ (i < 0 ∨ (arrV _ _ _).slots.size ≤ _); rw [arrV_size]; exact hi) rfl rfl hd fun H1 e1 z oq => ?_
    exact kk _ hK H1 _ cells slots ls (hR.put hG (hfin H1 e1) z oq) (hS.put z oq (hR.2.1 a _ hG).1) hc hs hL
  | some b =>
    obtain ⟨fs, hGb⟩ := hb b rfl
    obtain ⟨r', hr', cellV, g1, g2, g3, -⟩ := (hR.2.1 b _ hGb).2
    have hcls := (hKn.1 ci q hcl).2
    obtain ⟨kA, comp, k1, k2, k3, -⟩ := (hKn.2 t _ ht).2
    have hcomp : comp = D.1 ci := Option.some.inj (k3.symm.trans hcls.1)
    subst hcomp
    obtain ⟨kC, hkC, -⟩ := hcls.2
    refine W.aast F.1 F.2.1 ha (fun q h => by cases h) (fun h => by cases h) k1 k2 rfl hkC ⟨h0, by show _ < (arrV _ _ _).slots.size; rw [arrV_size]; exact hlt⟩ g1 (fun q h => by rw [g3] at h; cases h) (by rw [g2]; exact hkC) (by rw [g2]; exact va_assign hcls) rfl rfl hd fun H1 e1 z oq => ?_
    exact kk _ hK H1 _ cells slots ls (hR.put hG (hfin H1 e1) z oq) (hS.put z oq (hR.2.1 a _ hG).1) hc hs hL
theorem x_len (F : xFix p R s m args meth c cc nL own D dA base sa) {t : Nat} {ty : FieldType} (ht : (xtysL dA)[t]? = some (dA t, ty)) {r : Option Nat} {K : Int32 → xS → Prop} (hd : decode cc pc = .ok (.arraylength, 1)) (h : xlen t r K G) (kk : ∀ v, K v G → xW p l e R s m args below meth c nL Q D dA base sa (pc + 1) lv (.int v :: st) G) : xW p l e R s m args below meth c nL Q D dA base sa pc lv (va_rf r :: st) G := by
  intro H locs cells slots ls hR hS hc hs hL
  obtain ⟨a, n, x, rfl, hG, hK⟩ := h
  rcases x with f | f | f
  · exact va_alen F.1 F.2.1 F.2.2.2.2.2.1.1 (hR.one hG) 0 t (x := (n, .inl f)) rfl ht rfl hd (kk _ hK H locs cells slots ls hR hS hc hs hL)
  · exact va_alen F.1 F.2.1 F.2.2.2.2.2.1.1 (hR.one hG) 0 t (x := (n, .inr (.inr (.inr (.inr f))))) rfl ht rfl hd (kk _ hK H locs cells slots ls hR hS hc hs hL)
  · exact va_alen F.1 F.2.1 F.2.2.2.2.2.1.1 (hR.one hG) 0 t (x := (n, .inr (.inl f))) rfl ht rfl hd (kk _ hK H locs cells slots ls hR hS hc hs hL)
theorem x_new (F : xFix p R s m args meth c cc nL own D dA base sa) {ci idx N : Nat} {C : String} {T : u_T} {fs : List Value} (hcl : classes[ci]? = some (C, T, N)) (hin : ∀ w ∈ u_ws C T N, w ∈ xBig) {ty : Nat → FieldType} (hty : ∀ k, k < N → parseFieldDescriptor (T k).2.2.1 = some (ty k)) (hw : Cond.classLink own idx C ∈ xBig) (hi : Cond.instantiable C N ∈ xBig) (hini : Cond.initialized C ∈ xBig) (hfs : ∀ j, j < N → defaultValue (ty j) = vp_V fs j) {K : Nat → xS → Prop} (hd : decode cc pc = .ok (.new idx, 3)) (h : xnew ci N fs K G) (kk : ∀ a G', K a G' → xW p l e R s m args below meth c nL Q D dA base sa (pc + 3) lv (va_rf (some a) :: st) G') : xW p l e R s m args below meth c nL Q D dA base sa pc lv st G := by
  intro H locs cells slots ls hR hS hc hs hL
  obtain ⟨h1, h2, hK⟩ := h
  have hKn := F.2.2.2.2.2.1.1.1 ci _ hcl
  have hts := F.2.2.2.2.1
  have hz := hR.1
  refine W.newcK F.1 F.2.1 F.2.2.2.1 (hts _ hw) (hts _ hi) (hts _ hini) rfl hd (by omega) (by omega) hKn.2.1 hz fun H1 kC hkC e1 z1 o1 => ?_
  have hb : base ≤ H.size := Nat.le_trans F.2.2.2.2.2.2.2 hS.1
  rw [← hz] at e1 z1 o1
  refine kk _ _ hK H1 locs (cells + 1) (slots + N) ls (hR.new hb ⟨_, hcl, (u_born ty hts hin hKn hkC e1 hty).to hfs⟩ z1 o1) ⟨Nat.le_trans hS.1 (by omega), fun x q1 q2 => (o1 x (Nat.lt_of_lt_of_le q1 hS.1)).trans (hS.2.1 x q1 q2), hS.2.2⟩ ?_ ?_ hL
  · show cells + 1 + (G.2.2.2.1 - 1) ≤ _; omega
  · show slots + N + (G.2.2.2.2 - N) ≤ _; omega
theorem x_newI (F : xFix p R s m args meth c cc nL own D dA base sa) {t : Nat} (ht : (xtysL dA)[t]? = some (dA t, .int)) (hw : Cond.arrayClass .int ∈ xBig) {n : Int32} {K : Nat → xS → Prop} (hd : decode cc pc = .ok (.newarray .int, 2)) (h : xnewI t n K G) (kk : ∀ a G', K a G' → xW p l e R s m args below meth c nL Q D dA base sa (pc + 2) lv (va_rf (some a) :: st) G') : xW p l e R s m args below meth c nL Q D dA base sa pc lv (.int n :: st) G := by
  intro H locs cells slots ls hR hS hc hs hL
  obtain ⟨N, rfl, hN, h1, h2, hK⟩ := h
  have hz := hR.1
  refine va_newaK (atype := .int) F.1 F.2.1 (F.2.2.2.2.1 _ hw) rfl hd rfl (nI_pos (by omega)) (nI_clamp (by omega)) (by show N * _ ≤ _; simp only [newarray.typeOf, componentBytes]; omega) (by omega) (by omega) hz fun H1 cA e1 z1 o1 hAr hNm => ?_
  have hb : base ≤ H.size := Nat.le_trans F.2.2.2.2.2.2.2 hS.1
  have hcA : cA = dA t := Option.some.inj (hNm.symm.trans (F.2.2.2.2.2.1.1.2 t _ ht).2)
  subst hcA
  rw [← hz] at e1 z1 o1
  refine kk _ _ hK H1 locs (cells + 1) (slots + N) ls (hR.new (c1 := .inl (t, N, .inl (fun _ => 0))) hb e1 z1 o1) ⟨Nat.le_trans hS.1 (by omega), fun x q1 q2 => (o1 x (Nat.lt_of_lt_of_le q1 hS.1)).trans (hS.2.1 x q1 q2), hS.2.2⟩ ?_ ?_ hL
  · show cells + 1 + (G.2.2.2.1 - 1) ≤ _; omega
  · show slots + N + (G.2.2.2.2 - N) ≤ _; omega
theorem x_newZ (F : xFix p R s m args meth c cc nL own D dA base sa) {t : Nat} (ht : (xtysL dA)[t]? = some (dA t, .boolean)) (hw : Cond.arrayClass .boolean ∈ xBig) {n : Int32} {K : Nat → xS → Prop} (hd : decode cc pc = .ok (.newarray .boolean, 2)) (h : xnewI t n K G) (kk : ∀ a G', K a G' → xW p l e R s m args below meth c nL Q D dA base sa (pc + 2) lv (va_rf (some a) :: st) G') : xW p l e R s m args below meth c nL Q D dA base sa pc lv (.int n :: st) G := by
  intro H locs cells slots ls hR hS hc hs hL
  obtain ⟨N, rfl, hN, h1, h2, hK⟩ := h
  have hz := hR.1
  refine va_newaK (atype := .boolean) F.1 F.2.1 (F.2.2.2.2.1 _ hw) rfl hd rfl (nI_pos (by omega)) (nI_clamp (by omega)) (by show N * _ ≤ _; simp only [newarray.typeOf, componentBytes]; omega) (by omega) (by omega) hz fun H1 cA e1 z1 o1 hAr hNm => ?_
  have hb : base ≤ H.size := Nat.le_trans F.2.2.2.2.2.2.2 hS.1
  have hcA : cA = dA t := Option.some.inj (hNm.symm.trans (F.2.2.2.2.2.1.1.2 t _ ht).2)
  subst hcA
  rw [← hz] at e1 z1 o1
  refine kk _ _ hK H1 locs (cells + 1) (slots + N) ls (hR.new (c1 := .inl (t, N, .inl (fun _ => 0))) hb e1 z1 o1) ⟨Nat.le_trans hS.1 (by omega), fun x q1 q2 => (o1 x (Nat.lt_of_lt_of_le q1 hS.1)).trans (hS.2.1 x q1 q2), hS.2.2⟩ ?_ ?_ hL
  · show cells + 1 + (G.2.2.2.1 - 1) ≤ _; omega
  · show slots + N + (G.2.2.2.2 - N) ≤ _; omega
theorem x_newR (F : xFix p R s m args meth c cc nL own D dA base sa) {t idx : Nat} {C : String} (ht : (xtysL dA)[t]? = some (dA t, .object C)) (hw : Cond.classLink own idx C ∈ xBig) (ho : C ∈ xOver) {n : Int32} {K : Nat → xS → Prop} (hd : decode cc pc = .ok (.anewarray idx, 3)) (h : xnewR t n K G) (kk : ∀ a G', K a G' → xW p l e R s m args below meth c nL Q D dA base sa (pc + 3) lv (va_rf (some a) :: st) G') : xW p l e R s m args below meth c nL Q D dA base sa pc lv (.int n :: st) G := by
  intro H locs cells slots ls hR hS hc hs hL
  obtain ⟨N, rfl, hN, h1, h2, hK⟩ := h
  have hz := hR.1
  have hcl : (nI N).toNatClampNeg = N := nI_clamp (by omega)
  refine W.anew F.1 F.2.1 F.2.2.2.1 (F.2.2.2.2.1 _ hw) (va_AO.use (F.2.2.2.2.2.1.2.2.2.1 C ho)) rfl hd rfl (nI_pos (by omega)) (by rw [hcl]; omega) (by omega) (by rw [hcl]; omega) fun cA kA comp f1 f2 f3 f4 => ?_
  rw [hcl]
  have hb : base ≤ H.size := Nat.le_trans F.2.2.2.2.2.2.2 hS.1
  obtain ⟨kA', comp', k1, k2, k3, k4⟩ := (F.2.2.2.2.2.1.1.2 t _ ht).2
  have hcA : cA = dA t := Option.some.inj (f1.symm.trans k4)
  subst hcA
  generalize hH1 : H.push ({ cls := dA t, slots := Array.replicate N .null, vm := .none } : Cell) = H1
  have z1 : H1.size = H.size + 1 := by rw [← hH1, Array.size_push]
  have e1 : H1[H.size]? = some (arrV (dA t) N (fun _ => .null)) := by rw [← hH1, Array.getElem?_push_size, ← arrV_new]
  have o1 : ∀ q : Nat, q < H.size → H1[q]? = H[q]? := fun q hq => by rw [← hH1, Array.getElem?_push, if_neg (Nat.ne_of_lt hq)]
  have K1 := kk _ _ hK H1 locs (cells + 1) (slots + N) ls (hR.new (c1 := .inl (t, N, .inr (.inl (fun _ => none)))) hb e1 z1 o1) ⟨Nat.le_trans hS.1 (by omega), fun x q1 q2 => (o1 x (Nat.lt_of_lt_of_le q1 hS.1)).trans (hS.2.1 x q1 q2), hS.2.2⟩ (by show cells + 1 + (G.2.2.2.1 - 1) ≤ _; omega) (by show slots + N + (G.2.2.2.2 - N) ≤ _; omega) hL
  rw [← hz] at K1
  exact K1
theorem xKn.to {s U : State} (h : xKn D dA base sa s) (hW : s.WarmedH U.vm) (hq : ∀ q : Nat, q < s.heap.size → ¬ base ≤ q → U.heap[q]? = s.heap[q]?) : xKn D dA base sa U :=
  ⟨va_K.moved hW.alike h.1, fun w hw => (h.2.1 w hw).warmF hW, fun w hw => (h.2.2.1 w hw).warmM hW, fun C hC => (h.2.2.2.1 C hC).moved hW.alike, h.2.2.2.2.1.to hW, h.2.2.2.2.2.to hW hq⟩
def xPc (D : va_G) (dA : Nat → ClassId) (base : Nat) (sa : Nat → Nat) (G : xS) (As : List Value) : Array Value → State → Prop := va_Pc As (fun U => xRep D dA base G U.heap ∧ xKn D dA base sa U ∧ base ≤ U.heap.size)
def xQ (D : va_G) (dA : Nat → ClassId) (base : Nat) (Kv : Option Value → xS → Prop) : Array Value → State → Outcome → State → Prop := fun _ s0 oc t => (∃ (v : Option Value) (G' : xS), oc = .returned v ∧ Kv v G' ∧ xRep D dA base G' t.heap) ∧ va_F (fun q : Nat => base ≤ q) s0 t
/-- a method's contract: over every heap that holds G, with these arguments, it returns, and Kv holds of answer and state -/
def xMet (l : Launch) (y : MethodName) (bytes : ByteArray) (maxL : Nat) (ret : Option FieldType) (fr lo : Nat) (D : va_G) (dA : Nat → ClassId) (base : Nat) (sa : Nat → Nat) (As : List Value) (G : xS) (Kv : Option Value → xS → Prop) : Prop :=
  Met l y (Cond.code y bytes maxL ret :: xBig) { frames := fr, cells := G.2.2.2.1, slots := G.2.2.2.2, locals := lo } (xPc D dA base sa G As) (xQ D dA base Kv) G.2.2.2.1 G.2.2.2.2 (fun q : Nat => base ≤ q)
theorem xPc.blind {G : xS} {As : List Value} : FrameBlind (xPc D dA base sa G As) := fun a U g mk q => ⟨q.1, q.2.1, q.2.2.1.to (U := U.calling g mk a) (State.WarmedH.refl U) (fun _ _ _ => rfl), q.2.2.2⟩
def xargs : Nat → List Value → List (Nat × Value)
  | _, [] => []
  | i, v :: vs => (i, v) :: xargs (i + 1) vs
theorem x_lvargs : ∀ (vs : List Value) (i : Nat), (∀ v ∈ vs, v.category = 1) → lv_args i vs = xargs i vs
  | [], _, _ => rfl
  | v :: vs, i, h => by
    have h1 : v.category = 1 := h v List.mem_cons_self
    show (i, v) :: lv_args (if v.category = 2 then i + 2 else i + 1) vs = (i, v) :: xargs (i + 1) vs
    rw [h1, if_neg (by decide), x_lvargs vs (i + 1) (fun w hw => h w (List.mem_cons_of_mem _ hw))]
theorem x_slen : ∀ (vs : List Value), (∀ v ∈ vs, v.category = 1) → (lg_sl vs).length = vs.length
  | [], _ => rfl
  | v :: vs, h => by
    have h1 : v.category = 1 := h v List.mem_cons_self
    have ih := x_slen vs (fun w hw => h w (List.mem_cons_of_mem _ hw))
    simp [lg_sl, h1] at ih ⊢
    first | omega | exact ih
theorem xMet.of {y : MethodName} {bytes : ByteArray} {maxL : Nat} {ret : Option FieldType} {fr lo : Nat} {As : List Value} {Kv : Option Value → xS → Prop} (hy : plainName y.cls = true) (hcat : ∀ v ∈ As, v.category = 1) (hlen : As.length ≤ maxL)
    (body : ∀ (p : Program) (e : Env) (s : State) (m : MethodId) (args : Array Value) (below : List Frame) (meth : Method) (c : Code), xFix p { frames := fr, cells := G.2.2.2.1, slots := G.2.2.2.2, locals := lo } s m args meth c bytes maxL y.cls D dA base sa → meth.sig.returnType = ret → meth.name = y.name →
      xW p l e { frames := fr, cells := G.2.2.2.1, slots := G.2.2.2.2, locals := lo } s m args below meth c maxL (MQ below (xQ D dA base Kv) args s G.2.2.2.1 G.2.2.2.2 (fun q : Nat => base ≤ q)) D dA base sa 0 (xargs 0 As) [] G) : xMet l y bytes maxL ret fr lo D dA base sa As G Kv := by
  refine Met.ofW (cc := bytes) (maxL := maxL) (ret := ret) hy rfl ?_
  intro p e s m args below meth c s₁ B hml hv
  obtain ⟨rfl, hR, hKn, hb⟩ := hv
  have hts := atoms_spec (ws := Cond.code y bytes maxL ret :: xBig) B.pre
  have hown : s.vm.findClass y.cls = some m.cls := findClass_of_methodNamed B.named
  have F : xFix p { frames := fr, cells := G.2.2.2.1, slots := G.2.2.2.2, locals := lo } s m As.toArray meth c bytes maxL y.cls D dA base sa := ⟨B.exec, B.bytes, hml, hown, fun w hw => hts w (List.mem_cons_of_mem _ hw), hKn, B.notSynchronized, hb⟩
  have hl := lv_entry As (n := maxL) (by rw [x_slen As hcat]; exact hlen)
  rw [lg_entry_eq]
  generalize (lg_sl As ++ List.replicate (maxL - (lg_sl As).length) Slot.unset).toArray = ls at hl ⊢
  rw [x_lvargs As 0 hcat] at hl
  refine body p e s m As.toArray below meth c F B.returns (name_of_methodNamed B.named B.method).1 s.heap [] 0 0 ls hR va_S.rf (Nat.le_of_eq (Nat.zero_add _)) (Nat.le_of_eq (Nat.zero_add _)) ⟨hl, fun q hq => ?_⟩
  rw [← x_lvargs As 0 hcat] at hq
  exact x_args As 0 hcat q hq
theorem x_iret (F : xFix p R s m args meth c cc nL own D dA base sa) {Kv : Option Value → xS → Prop} (hq : Q = MQ below (xQ D dA base Kv) args s R.cells R.slots (fun q : Nat => base ≤ q)) (hr : meth.sig.returnType = some .int) {v : Int32} (hd : decode cc pc = .ok (.ireturn, 1)) (h : Kv (some (.int v)) G) : xW p l e R s m args below meth c nL Q D dA base sa pc lv [.int v] G := by
  subst hq
  intro H locs cells slots ls hR hS hc hs hL
  have hlocks := F.2.2.2.2.2.2.1
  exact W.widen (k := R.cells) (n := R.slots) (by omega) (by omega) (W.iret F.1 F.2.1 hr (fun t ht hW => ⟨⟨_, G, rfl, h, by rw [ht]; exact hR⟩, hS.F ht⟩) hS.2.2 hd)
theorem x_zret (F : xFix p R s m args meth c cc nL own D dA base sa) {Kv : Option Value → xS → Prop} {K : Int32 → xS → Prop} (hq : Q = MQ below (xQ D dA base Kv) args s R.cells R.slots (fun q : Nat => base ≤ q)) (hr : meth.sig.returnType = some .boolean) {v : Int32} (hd : decode cc pc = .ok (.ireturn, 1)) (h : xrz v K G) (hk : K v G → Kv (some (.int v)) G) : xW p l e R s m args below meth c nL Q D dA base sa pc lv [.int v] G := by
  subst hq
  intro H locs cells slots ls hR hS hc hs hL
  have hlocks := F.2.2.2.2.2.2.1
  exact W.widen (k := R.cells) (n := R.slots) (by omega) (by omega) (W.zret F.1 F.2.1 hr (x_fitZ h.1).1 (fun t ht hW => ⟨⟨_, G, rfl, hk h.2, by rw [ht]; exact hR⟩, hS.F ht⟩) hS.2.2 hd)
theorem x_aret (F : xFix p R s m args meth c cc nL own D dA base sa) {Kv : Option Value → xS → Prop} (hq : Q = MQ below (xQ D dA base Kv) args s R.cells R.slots (fun q : Nat => base ≤ q)) {rt : FieldType} (hr : meth.sig.returnType = some rt) (hrt : (∃ n, rt = .object n) ∨ ∃ t, rt = .array t) {r : Option Nat} (hd : decode cc pc = .ok (.areturn, 1)) (h : Kv (some (va_rf r)) G) : xW p l e R s m args below meth c nL Q D dA base sa pc lv [va_rf r] G := by
  subst hq
  intro H locs cells slots ls hR hS hc hs hL
  have hlocks := F.2.2.2.2.2.2.1
  exact W.widen (k := R.cells) (n := R.slots) (by omega) (by omega) (W.aret F.1 F.2.1 hr hrt (va_rf_or r) (fun t ht hW => ⟨⟨_, G, rfl, h, by rw [ht]; exact hR⟩, hS.F ht⟩) hS.2.2 hd)
theorem x_vret (F : xFix p R s m args meth c cc nL own D dA base sa) {Kv : Option Value → xS → Prop} (hq : Q = MQ below (xQ D dA base Kv) args s R.cells R.slots (fun q : Nat => base ≤ q)) (hr : meth.sig.returnType = none) (hd : decode cc pc = .ok (.return_, 1)) (h : Kv none G) : xW p l e R s m args below meth c nL Q D dA base sa pc lv [] G := by
  subst hq
  intro H locs cells slots ls hR hS hc hs hL
  have hlocks := F.2.2.2.2.2.2.1
  exact W.widen (k := R.cells) (n := R.slots) (by omega) (by omega) (W.vret F.1 F.2.1 hr (fun t ht hW => ⟨⟨_, G, rfl, h, by rw [ht]; exact hR⟩, hS.F ht⟩) hS.2.2 hd)
theorem x_obj (F : xFix p R s m args meth c cc nL own D dA base sa) {idx : Nat} (hw : Cond.methodLink own idx Lib.objectInit ∈ xBig) (hi : Cond.instanceMethod Lib.objectInit ∈ xBig) (hc0 : Cond.code Lib.objectInit ⟨#[0xb1]⟩ 1 none ∈ xBig) {r : Nat} (hd : decode cc pc = .ok (.invokespecial idx, 3)) (hf : 1 ≤ R.frames) (ho : (st.map fun v => v.category).sum + 12 ≤ R.locals) (kk : xW p l e R s m args below meth c nL Q D dA base sa (pc + 3) lv st G) : xW p l e R s m args below meth c nL Q D dA base sa pc lv (va_rf (some r) :: st) G := by
  intro H locs cells slots ls hR hS hc hs hL
  exact W.objInit F.1 F.2.1 F.2.2.2.1 (F.2.2.2.2.1 _ hw) (F.2.2.2.2.1 _ hi) (F.2.2.2.2.1 _ hc0) rfl (hL.1.1.trans F.2.2.1.symm) rfl hd hf (by show 2 * 0 + _ + 12 ≤ _; omega) (kk H locs cells slots ls hR hS hc hs hL)
/-- behind a call -/
theorem x_run {Kv : Option Value → xS → Prop} {H : Heap} {locs : List Loc} {cells slots mc ms : Nat} {ls : Array Slot} {st0 rest : List Value} {a : Array Value} (hr : va_Run p l e R s m args below meth c H locs cells slots mc ms (F0 m pc ls st0) rest (xQ D dA base Kv a) (fun q : Nat => base ≤ q)) (hS : va_S (fun q : Nat => base ≤ q) s.heap H locs)
    (kk : ∀ (v : Option Value) (G' : xS) (H1 : Heap) (locs1 : List Loc), Kv v G' → xRep D dA base G' H1 → va_S (fun q : Nat => base ≤ q) s.heap H1 locs1 → W p l e R s m args below meth c H1 locs1 (cells + mc) (slots + ms) Q (F0 m (pc + 3) ls (v.toList ++ rest))) : W p l e R s m args below meth c H locs cells slots Q (F0 m pc ls st0) := by
  intro T hT X
  obtain ⟨v, st₀, t, T', L, h0, X', hL, e1, e2, ⟨⟨v', G', hv, hp, hb⟩, hz, hk⟩, st⟩ := hr T hT X
  cases hv
  rw [h0] at hz hk
  obtain ⟨t2, a1, b1⟩ := kk v G' T'.heap (locs ++ L) hp (by rw [e1]; exact hb)
    ⟨Nat.le_trans hS.1 (by rw [e1]; exact hz), fun q h1 h2 => by rw [e1, hk q (Nat.lt_of_lt_of_le h1 hS.1) h2]; exact hS.2.1 q h1 h2, fun q hq => by
      rcases List.mem_append.mp hq with h | h
      · exact hS.2.2 q h
      · exact hL q h⟩ T' rfl X'
  exact ⟨t2, st t2 a1, b1⟩
theorem x_pre (F : xFix p R s m args meth c cc nL own D dA base sa) {H : Heap} {locs : List Loc} {As : List Value} {G' : xS} (hR : xRep D dA base G' H) (hS : va_S (fun q : Nat => base ≤ q) s.heap H locs) : ∀ U : State, U.heap = H → s.WarmedH U.vm → xPc D dA base sa G' As As.toArray U := fun U hU hW =>
  ⟨rfl, by rw [hU]; exact hR, F.2.2.2.2.2.1.to hW (fun q h1 h2 => by rw [hU]; exact hS.2.1 q h1 h2), by rw [hU]; exact Nat.le_trans F.2.2.2.2.2.2.2 hS.1⟩
theorem x_goodAll {y : MethodName} {bytes : ByteArray} {maxL : Nat} {ret : Option FieldType} (h : Cond.code y bytes maxL ret ∈ xBig) : GoodIn xBig (Cond.code y bytes maxL ret :: xBig) := fun w hw => by
  rcases List.mem_cons.mp hw with rfl | hw
  · exact ⟨h, xGood _ h⟩
  · exact ⟨hw, xGood _ hw⟩
theorem x_callS (F : xFix p R s m args meth c cc nL own D dA base sa) {ρ : Type} {enc : ρ → Option Value} {K : ρ → xS → Prop} {P : (ρ → xS → Prop) → xS → Prop} {y : MethodName} {bytes : ByteArray} {maxL : Nat} {ret : Option FieldType} {fr lo mc ms n idx : Nat} {As : List Value} (hdc : Cond.code y bytes maxL ret ∈ xBig) (hini : Cond.initialized y.cls ∈ xBig) (hst : Cond.static y ∈ xBig) (hlk : Cond.methodLink own idx y ∈ xBig) (hy : y.cls ≠ "java/lang/invoke/MethodHandle" ∧ y.cls ≠ "java/lang/invoke/VarHandle" ∧ (parseMethodDescriptor y.desc).map (fun d => d.parameters.length) = some n) (hn : As.length = n) (hR0 : fr + 1 ≤ R.frames ∧ 8 + (maxL + 11) + lo ≤ R.locals) (h8 : (st.map fun v => v.category).sum ≤ 8)
    (hM : ∀ (K' : ρ → xS → Prop) (G' : xS), P K' G' → G'.2.2.2 = (mc, ms) → xMet l y bytes maxL ret fr lo D dA base sa As G' (fun v G2 => ∃ r, v = enc r ∧ K' r G2))
    (hd : decode cc pc = .ok (.invokestatic idx, 3)) (h : xcall mc ms P K G) (kk : ∀ r G', K r G' → xW p l e R s m args below meth c nL Q D dA base sa (pc + 3) lv ((enc r).toList ++ st) G') : xW p l e R s m args below meth c nL Q D dA base sa pc lv (As.reverse ++ st) G := by
  intro H locs cells slots ls hR hS hc hs hL
  obtain ⟨h1, h2, h3⟩ := h
  have hts := F.2.2.2.2.1
  have hm := hM _ _ h3 rfl
  refine x_run (va_runS (As := As) (rest := st) ⟨F.1, F.2.1, F.2.2.1, F.2.2.2.1, hts⟩ hm (⟨callB_of n hts (x_goodAll hdc) rfl rfl rfl (hts _ hini) (hts _ hlk) hy hR0, hts _ hst⟩) ⟨xPc.blind, x_pre F (hR.pay') hS⟩ rfl hn hL.1.1 rfl (lv_room h8) hd ⟨by show cells + mc ≤ _; omega, by show slots + ms ≤ _; omega⟩) hS (fun v G' H1 locs1 hK hR1 hS1 => ?_)
  obtain ⟨r, rfl, hK⟩ := hK
  exact kk r _ hK H1 locs1 (cells + mc) (slots + ms) ls hR1.pay' hS1 (by show cells + mc + (G.2.2.2.1 - mc) ≤ _; omega) (by show slots + ms + (G.2.2.2.2 - ms) ≤ _; omega) hL
theorem x_callV (F : xFix p R s m args meth c cc nL own D dA base sa) {ρ : Type} {enc : ρ → Option Value} {K : ρ → xS → Prop} {P : Nat → (ρ → xS → Prop) → xS → Prop} {y : MethodName} {bytes : ByteArray} {maxL : Nat} {ret : Option FieldType} {fr lo mc ms n idx : Nat} {As : List Value} (hdc : Cond.code y bytes maxL ret ∈ xBig) (hini : Cond.initialized y.cls ∈ xBig) (hst : Cond.instanceMethod y ∈ xBig) (hsel : Cond.selects y.cls y y ∈ xBig) (hlk : Cond.methodLink own idx y ∈ xBig) (hy : y.cls ≠ "java/lang/invoke/MethodHandle" ∧ y.cls ≠ "java/lang/invoke/VarHandle" ∧ (parseMethodDescriptor y.desc).map (fun d => d.parameters.length) = some n) (hn : As.length = n) (hR0 : fr + 1 ≤ R.frames ∧ 8 + (maxL + 11) + lo ≤ R.locals) (h8 : (st.map fun v => v.category).sum ≤ 8) {ci : Nat} {qc : vw_C} (hcl : classes[ci]? = some qc) (hqc : qc.1 = y.cls) {ro : Option Nat}
    (hM : ∀ (b : Nat) (K' : ρ → xS → Prop) (G' : xS), P b K' G' → G'.2.2.2 = (mc, ms) → xMet l y bytes maxL ret fr lo D dA base sa (va_rf (some b) :: As) G' (fun v G2 => ∃ r, v = enc r ∧ K' r G2))
    (hd : decode cc pc = .ok (.invokevirtual idx, 3)) (h : xob ci ro (fun b => xcall mc ms (P b) K) G) (kk : ∀ r G', K r G' → xW p l e R s m args below meth c nL Q D dA base sa (pc + 3) lv ((enc r).toList ++ st) G') : xW p l e R s m args below meth c nL Q D dA base sa pc lv (As.reverse ++ va_rf ro :: st) G := by
  intro H locs cells slots ls hR hS hc hs hL
  obtain ⟨b, fs, rfl, hob, h1, h2, h3⟩ := h
  have hts := F.2.2.2.2.1
  have hm := hM b _ _ h3 rfl
  refine x_run (va_runV (C := y.cls) (b := b) (As := As) (rest := st) ⟨F.1, F.2.1, F.2.2.1, F.2.2.2.1, hts⟩ hm (⟨callB_of n hts (x_goodAll hdc) rfl rfl rfl (hts _ hini) (hts _ hlk) hy hR0, hts _ hst, hts _ hsel⟩) ⟨xPc.blind, by rw [← hqc]; exact va_recv F.2.2.2.2.2.1.1 (hR.one hob) hcl (q0 := 0) rfl, x_pre F (As := va_rf (some b) :: As) (hR.pay') hS⟩ rfl hn hL.1.1 rfl (lv_room h8) hd ⟨by show cells + mc ≤ _; omega, by show slots + ms ≤ _; omega⟩) hS (fun v G' H1 locs1 hK hR1 hS1 => ?_)
  obtain ⟨r, rfl, hK⟩ := hK
  exact kk r _ hK H1 locs1 (cells + mc) (slots + ms) ls hR1.pay' hS1 (by show cells + mc + (G.2.2.2.1 - mc) ≤ _; omega) (by show slots + ms + (G.2.2.2.2 - ms) ≤ _; omega) hL
theorem x_callI (F : xFix p R s m args meth c cc nL own D dA base sa) {ρ : Type} {enc : ρ → Option Value} {K : ρ → xS → Prop} {P : (ρ → xS → Prop) → xS → Prop} {y : MethodName} {bytes : ByteArray} {maxL : Nat} {fr lo mc ms n idx : Nat} {As : List Value} (hdc : Cond.code y bytes maxL none ∈ xBig) (hini : Cond.initialized y.cls ∈ xBig) (hst : Cond.instanceMethod y ∈ xBig) (hy1 : y.name = "<init>") (hlk : Cond.methodLink own idx y ∈ xBig) (hy : y.cls ≠ "java/lang/invoke/MethodHandle" ∧ y.cls ≠ "java/lang/invoke/VarHandle" ∧ (parseMethodDescriptor y.desc).map (fun d => d.parameters.length) = some n) (hn : As.length = n) (hR0 : fr + 1 ≤ R.frames ∧ 8 + (maxL + 11) + lo ≤ R.locals) (h8 : (st.map fun v => v.category).sum ≤ 8) {b : Nat}
    (hM : ∀ (K' : ρ → xS → Prop) (G' : xS), P K' G' → G'.2.2.2 = (mc, ms) → xMet l y bytes maxL none fr lo D dA base sa (va_rf (some b) :: As) G' (fun v G2 => ∃ r, v = enc r ∧ K' r G2))
    (hd : decode cc pc = .ok (.invokespecial idx, 3)) (h : xcall mc ms P K G) (kk : ∀ r G', K r G' → xW p l e R s m args below meth c nL Q D dA base sa (pc + 3) lv ((enc r).toList ++ st) G') : xW p l e R s m args below meth c nL Q D dA base sa pc lv (As.reverse ++ va_rf (some b) :: st) G := by
  intro H locs cells slots ls hR hS hc hs hL
  obtain ⟨h1, h2, h3⟩ := h
  have hts := F.2.2.2.2.1
  have hm := hM _ _ h3 rfl
  refine x_run (va_runI (b := b) (As := As) (rest := st) ⟨F.1, F.2.1, F.2.2.1, F.2.2.2.1, hts⟩ hm (⟨callB_of n hts (x_goodAll hdc) rfl rfl rfl (hts _ hini) (hts _ hlk) hy hR0, hy1, hts _ hst⟩) ⟨xPc.blind, x_pre F (As := va_rf (some b) :: As) (hR.pay') hS⟩ rfl hn hL.1.1 rfl (lv_room h8) hd ⟨by show cells + mc ≤ _; omega, by show slots + ms ≤ _; omega⟩) hS (fun v G' H1 locs1 hK hR1 hS1 => ?_)
  obtain ⟨r, rfl, hK⟩ := hK
  exact kk r _ hK H1 locs1 (cells + mc) (slots + ms) ls hR1.pay' hS1 (by show cells + mc + (G.2.2.2.1 - mc) ≤ _; omega) (by show slots + ms + (G.2.2.2.2 - ms) ≤ _; omega) hL
theorem x_callSN (F : xFix p R s m args meth c cc nL own D dA base sa) {ρ : Type} {enc : ρ → Option Value} {K : ρ → xS → Prop} {P : (ρ → xS → Prop) → xS → Prop} {y : MethodName} {bytes : ByteArray} {maxL : Nat} {ret : Option FieldType} {host : String} {fr lo mc ms n idx : Nat} {As : List Value} (hdc : Cond.code y bytes maxL ret ∈ xBig) (hini : Cond.initialized y.cls ∈ xBig) (hst : Cond.static y ∈ xBig) (hlk : (own, idx, y, host) ∈ xNestM) (hy : y.cls ≠ "java/lang/invoke/MethodHandle" ∧ y.cls ≠ "java/lang/invoke/VarHandle" ∧ (parseMethodDescriptor y.desc).map (fun d => d.parameters.length) = some n) (hn : As.length = n) (hR0 : fr + 1 ≤ R.frames ∧ 8 + (maxL + 11) + lo ≤ R.locals) (h8 : (st.map fun v => v.category).sum ≤ 8)
    (hM : ∀ (K' : ρ → xS → Prop) (G' : xS), P K' G' → G'.2.2.2 = (mc, ms) → xMet l y bytes maxL ret fr lo D dA base sa As G' (fun v G2 => ∃ r, v = enc r ∧ K' r G2))
    (hd : decode cc pc = .ok (.invokestatic idx, 3)) (h : xcall mc ms P K G) (kk : ∀ r G', K r G' → xW p l e R s m args below meth c nL Q D dA base sa (pc + 3) lv ((enc r).toList ++ st) G') : xW p l e R s m args below meth c nL Q D dA base sa pc lv (As.reverse ++ st) G := by
  intro H locs cells slots ls hR hS hc hs hL
  obtain ⟨h1, h2, h3⟩ := h
  have hts := F.2.2.2.2.1
  have hm := hM _ _ h3 rfl
  refine x_run (va_runSN (As := As) (rest := st) ⟨F.1, F.2.1, F.2.2.1, F.2.2.2.1, hts⟩ hm (⟨va_cnB n hts (x_goodAll hdc) rfl rfl rfl (F.2.2.2.2.2.1.2.2.1 _ hlk) (hts _ hini) hy hR0, hts _ hst, trivial⟩) ⟨xPc.blind, x_pre F (hR.pay') hS⟩ rfl hn hL.1.1 rfl (lv_room h8) hd ⟨by show cells + mc ≤ _; omega, by show slots + ms ≤ _; omega⟩) hS (fun v G' H1 locs1 hK hR1 hS1 => ?_)
  obtain ⟨r, rfl, hK⟩ := hK
  exact kk r _ hK H1 locs1 (cells + mc) (slots + ms) ls hR1.pay' hS1 (by show cells + mc + (G.2.2.2.1 - mc) ≤ _; omega) (by show slots + ms + (G.2.2.2.2 - ms) ≤ _; omega) hL
theorem x_callVN (F : xFix p R s m args meth c cc nL own D dA base sa) {ρ : Type} {enc : ρ → Option Value} {K : ρ → xS → Prop} {P : Nat → (ρ → xS → Prop) → xS → Prop} {y : MethodName} {bytes : ByteArray} {maxL : Nat} {ret : Option FieldType} {host : String} {fr lo mc ms n idx : Nat} {As : List Value} (hdc : Cond.code y bytes maxL ret ∈ xBig) (hini : Cond.initialized y.cls ∈ xBig) (hst : Cond.instanceMethod y ∈ xBig) (hsel : Cond.selects y.cls y y ∈ xBig) (hlk : (own, idx, y, host) ∈ xNestM) (hy : y.cls ≠ "java/lang/invoke/MethodHandle" ∧ y.cls ≠ "java/lang/invoke/VarHandle" ∧ (parseMethodDescriptor y.desc).map (fun d => d.parameters.length) = some n) (hn : As.length = n) (hR0 : fr + 1 ≤ R.frames ∧ 8 + (maxL + 11) + lo ≤ R.locals) (h8 : (st.map fun v => v.category).sum ≤ 8) {ci : Nat} {qc : vw_C} (hcl : classes[ci]? = some qc) (hqc : qc.1 = y.cls) {ro : Option Nat}
    (hM : ∀ (b : Nat) (K' : ρ → xS → Prop) (G' : xS), P b K' G' → G'.2.2.2 = (mc, ms) → xMet l y bytes maxL ret fr lo D dA base sa (va_rf (some b) :: As) G' (fun v G2 => ∃ r, v = enc r ∧ K' r G2))
    (hd : decode cc pc = .ok (.invokevirtual idx, 3)) (h : xob ci ro (fun b => xcall mc ms (P b) K) G) (kk : ∀ r G', K r G' → xW p l e R s m args below meth c nL Q D dA base sa (pc + 3) lv ((enc r).toList ++ st) G') : xW p l e R s m args below meth c nL Q D dA base sa pc lv (As.reverse ++ va_rf ro :: st) G := by
  intro H locs cells slots ls hR hS hc hs hL
  obtain ⟨b, fs, rfl, hob, h1, h2, h3⟩ := h
  have hts := F.2.2.2.2.1
  have hm := hM b _ _ h3 rfl
  refine x_run (va_runVN (C := y.cls) (b := b) (As := As) (rest := st) ⟨F.1, F.2.1, F.2.2.1, F.2.2.2.1, hts⟩ hm (⟨va_cnB n hts (x_goodAll hdc) rfl rfl rfl (F.2.2.2.2.2.1.2.2.1 _ hlk) (hts _ hini) hy hR0, hts _ hst, hts _ hsel⟩) ⟨xPc.blind, by rw [← hqc]; exact va_recv F.2.2.2.2.2.1.1 (hR.one hob) hcl (q0 := 0) rfl, x_pre F (As := va_rf (some b) :: As) (hR.pay') hS⟩ rfl hn hL.1.1 rfl (lv_room h8) hd ⟨by show cells + mc ≤ _; omega, by show slots + ms ≤ _; omega⟩) hS (fun v G' H1 locs1 hK hR1 hS1 => ?_)
  obtain ⟨r, rfl, hK⟩ := hK
  exact kk r _ hK H1 locs1 (cells + mc) (slots + ms) ls hR1.pay' hS1 (by show cells + mc + (G.2.2.2.1 - mc) ≤ _; omega) (by show slots + ms + (G.2.2.2.2 - ms) ≤ _; omega) hL
theorem x_callIN (F : xFix p R s m args meth c cc nL own D dA base sa) {ρ : Type} {enc : ρ → Option Value} {K : ρ → xS → Prop} {P : (ρ → xS → Prop) → xS → Prop} {y : MethodName} {bytes : ByteArray} {maxL : Nat} {host : String} {fr lo mc ms n idx : Nat} {As : List Value} (hdc : Cond.code y bytes maxL none ∈ xBig) (hini : Cond.initialized y.cls ∈ xBig) (hst : Cond.instanceMethod y ∈ xBig) (hy1 : y.name = "<init>") (hlk : (own, idx, y, host) ∈ xNestM) (hy : y.cls ≠ "java/lang/invoke/MethodHandle" ∧ y.cls ≠ "java/lang/invoke/VarHandle" ∧ (parseMethodDescriptor y.desc).map (fun d => d.parameters.length) = some n) (hn : As.length = n) (hR0 : fr + 1 ≤ R.frames ∧ 8 + (maxL + 11) + lo ≤ R.locals) (h8 : (st.map fun v => v.category).sum ≤ 8) {b : Nat}
    (hM : ∀ (K' : ρ → xS → Prop) (G' : xS), P K' G' → G'.2.2.2 = (mc, ms) → xMet l y bytes maxL none fr lo D dA base sa (va_rf (some b) :: As) G' (fun v G2 => ∃ r, v = enc r ∧ K' r G2))
    (hd : decode cc pc = .ok (.invokespecial idx, 3)) (h : xcall mc ms P K G) (kk : ∀ r G', K r G' → xW p l e R s m args below meth c nL Q D dA base sa (pc + 3) lv ((enc r).toList ++ st) G') : xW p l e R s m args below meth c nL Q D dA base sa pc lv (As.reverse ++ va_rf (some b) :: st) G := by
  intro H locs cells slots ls hR hS hc hs hL
  obtain ⟨h1, h2, h3⟩ := h
  have hts := F.2.2.2.2.1
  have hm := hM _ _ h3 rfl
  refine x_run (va_runIN (b := b) (As := As) (rest := st) ⟨F.1, F.2.1, F.2.2.1, F.2.2.2.1, hts⟩ hm (⟨va_cnB n hts (x_goodAll hdc) rfl rfl rfl (F.2.2.2.2.2.1.2.2.1 _ hlk) (hts _ hini) hy hR0, hy1, hts _ hst⟩) ⟨xPc.blind, x_pre F (As := va_rf (some b) :: As) (hR.pay') hS⟩ rfl hn hL.1.1 rfl (lv_room h8) hd ⟨by show cells + mc ≤ _; omega, by show slots + ms ≤ _; omega⟩) hS (fun v G' H1 locs1 hK hR1 hS1 => ?_)
  obtain ⟨r, rfl, hK⟩ := hK
  exact kk r _ hK H1 locs1 (cells + mc) (slots + ms) ls hR1.pay' hS1 (by show cells + mc + (G.2.2.2.1 - mc) ≤ _; omega) (by show slots + ms + (G.2.2.2.2 - ms) ≤ _; omega) hL
theorem x_gets (F : xFix p R s m args meth c cc nL own D dA base sa) {idx : Nat} (hw : Cond.fieldLink own idx "BlockSearch" "PARENT" "[I" ∈ xBig) (hd : decode cc pc = .ok (.getstatic idx, 3)) (kk : xW p l e R s m args below meth c nL Q D dA base sa (pc + 3) lv (va_rf (some (sa 0)) :: st) G) : xW p l e R s m args below meth c nL Q D dA base sa pc lv st G := by
  intro H locs cells slots ls hR hS hc hs hL
  exact va_gets F.1 F.2.1 F.2.2.2.2.2.1.2.2.2.2.2.1 hS F.2.2.2.1 (F.2.2.2.2.1 _ hw) (fun x q => q) hd (kk H locs cells slots ls hR hS hc hs hL)
theorem x_getsN (F : xFix p R s m args meth c cc nL own D dA base sa) {idx : Nat} {host : String} (hw : (own, idx, "BlockSearch", "PARENT", "[I", host) ∈ xNestF) (hd : decode cc pc = .ok (.getstatic idx, 3)) (kk : xW p l e R s m args below meth c nL Q D dA base sa (pc + 3) lv (va_rf (some (sa 0)) :: st) G) : xW p l e R s m args below meth c nL Q D dA base sa pc lv st G := by
  intro H locs cells slots ls hR hS hc hs hL
  exact va_getsN F.1 F.2.1 F.2.2.2.2.2.1.2.2.2.2.2.1 hS F.2.2.2.1 (va_Nw.use rfl (F.2.2.2.2.2.1.2.1 _ hw)) (fun x q => q) hd (kk H locs cells slots ls hR hS hc hs hL)
theorem x_tab (F : xFix p R s m args meth c cc nL own D dA base sa) {i : Int32} {K : Int32 → xS → Prop} (hd : decode cc pc = .ok (.iaload, 1)) (h : xtab 4 xPar i K G) (kk : ∀ v, K v G → xW p l e R s m args below meth c nL Q D dA base sa (pc + 1) lv (.int v :: st) G) : xW p l e R s m args below meth c nL Q D dA base sa pc lv (.int i :: va_rf (some (sa 0)) :: st) G := by
  intro H locs cells slots ls hR hS hc hs hL
  exact va_ti F.1 F.2.1 F.2.2.2.2.2.1.2.2.2.2.2.2 hS h.1 rfl hd (kk _ h.2 H locs cells slots ls hR hS hc hs hL)
theorem x_lald (F : xFix p R s m args meth c cc nL own D dA base sa) {t : Nat} (ht : (xtysL dA)[t]? = some (dA t, .long)) {r : Option Nat} {i : Int32} {K : Int64 → xS → Prop} (hd : decode cc pc = .ok (.laload, 1)) (h : xalL t r i K G) (kk : ∀ v, K v G → xW p l e R s m args below meth c nL Q D dA base sa (pc + 1) lv (.long v :: st) G) : xW p l e R s m args below meth c nL Q D dA base sa pc lv (.int i :: va_rf r :: st) G := by
  intro H locs cells slots ls hR hS hc hs hL
  obtain ⟨a, n, f, rfl, hG, hi, hK⟩ := h
  have hlt : i.toNatClampNeg < n := Nat.not_le.mp fun q => hi (Or.inr q)
  have ha : H[a]? = some (vp_cell (dA t) (n, .inr (.inl f))) := (hR.2.1 a _ hG).2
  exact W.lald (v := .long (f i.toNatClampNeg)) F.1 F.2.1 ha ((F.2.2.2.2.2.1.1.2 t _ ht).1 n (fun j => .long (f j))) (fun q => by cases q) (by show ¬ (i < 0 ∨ (arrV _ _ _).slots.size ≤ _); rw [arrV_size]; exact hi) (by show (arrV _ _ _).slots[_]? = _; rw [arrV_read _ _ hlt]) rfl rfl hd (kk _ hK H locs cells slots ls hR hS hc hs hL)
theorem x_upL (f : Nat → Int64) (k : Nat) (x : Int64) : (fun j => Value.long (va_up f k x j)) = updV (fun j => .long (f j)) k (.long x) := by
  funext q
  by_cases hq : q = k
  · subst hq; simp [updV, va_up]
  · simp [updV, va_up, hq]
theorem x_last (F : xFix p R s m args meth c cc nL own D dA base sa) {t : Nat} (ht : (xtysL dA)[t]? = some (dA t, .long)) {r : Option Nat} {i : Int32} {v : Int64} {K : xS → Prop} (hd : decode cc pc = .ok (.lastore, 1)) (h : xasL t r i v K G) (kk : ∀ G', K G' → xW p l e R s m args below meth c nL Q D dA base sa (pc + 1) lv st G') : xW p l e R s m args below meth c nL Q D dA base sa pc lv (.long v :: .int i :: va_rf r :: st) G := by
  intro H locs cells slots ls hR hS hc hs hL
  obtain ⟨a, n, f, rfl, hG, hi, hK⟩ := h
  have ha : H[a]? = some (vp_cell (dA t) (n, .inr (.inl f))) := (hR.2.1 a _ hG).2
  refine W.last F.1 F.2.1 ha ((F.2.2.2.2.2.1.1.2 t _ ht).1 n (fun j => .long (f j))) (fun q => by cases q) (by show ¬ (i < 0 ∨ (arrV _ _ _).slots.size ≤ _); rw [arrV_size]; exact hi) rfl rfl hd fun H1 e1 z oq => ?_
  refine kk _ hK H1 _ cells slots ls (hR.put hG ?_ z oq) (hS.put z oq (hR.2.1 a _ hG).1) hc hs hL
  show H1[a]? = some (vp_cell _ _)
  rw [e1, vp_cell_l, vp_cell_l, arrV_store, x_upL]
theorem x_lconst (F : xFix p R s m args meth c cc nL own D dA base sa) {n : Fin 2} {v : Int64} (hd : decode cc pc = .ok (.lconst n, 1)) (hv : Int64.ofNat (n : Nat) = v) (kk : xW p l e R s m args below meth c nL Q D dA base sa (pc + 1) lv (.long v :: st) G) : xW p l e R s m args below meth c nL Q D dA base sa pc lv st G := by
  intro H locs cells slots ls hR hS hc hs hL
  exact lv_lconst F.1 F.2.1 hd hv (kk H locs cells slots ls hR hS hc hs hL)
theorem x_ldc2 (F : xFix p R s m args meth c cc nL own D dA base sa) {idx : Nat} {v : Int64} (hw : Cond.constantLong own idx v ∈ xBig) (hd : decode cc pc = .ok (.ldc2_w idx, 3)) (kk : xW p l e R s m args below meth c nL Q D dA base sa (pc + 3) lv (.long v :: st) G) : xW p l e R s m args below meth c nL Q D dA base sa pc lv st G := by
  intro H locs cells slots ls hR hS hc hs hL
  exact lv_ldc2 F.1 F.2.1 F.2.2.2.1 (F.2.2.2.2.1 _ hw) hd (kk H locs cells slots ls hR hS hc hs hL)
theorem x_i2l (F : xFix p R s m args meth c cc nL own D dA base sa) {x : Int32} (hd : decode cc pc = .ok (.i2l, 1)) (kk : xW p l e R s m args below meth c nL Q D dA base sa (pc + 1) lv (.long x.toInt64 :: st) G) : xW p l e R s m args below meth c nL Q D dA base sa pc lv (.int x :: st) G := by
  intro H locs cells slots ls hR hS hc hs hL
  exact lv_i2l F.1 F.2.1 hd rfl (kk H locs cells slots ls hR hS hc hs hL)
theorem x_lor (F : xFix p R s m args meth c cc nL own D dA base sa) {x y : Int64} (hd : decode cc pc = .ok (.lor, 1)) (kk : xW p l e R s m args below meth c nL Q D dA base sa (pc + 1) lv (.long (x ||| y) :: st) G) : xW p l e R s m args below meth c nL Q D dA base sa pc lv (.long y :: .long x :: st) G := by
  intro H locs cells slots ls hR hS hc hs hL
  exact lv_lor F.1 F.2.1 hd (kk H locs cells slots ls hR hS hc hs hL)
theorem x_land (F : xFix p R s m args meth c cc nL own D dA base sa) {x y : Int64} (hd : decode cc pc = .ok (.land, 1)) (kk : xW p l e R s m args below meth c nL Q D dA base sa (pc + 1) lv (.long (x &&& y) :: st) G) : xW p l e R s m args below meth c nL Q D dA base sa pc lv (.long y :: .long x :: st) G := by
  intro H locs cells slots ls hR hS hc hs hL
  exact lv_land F.1 F.2.1 hd (kk H locs cells slots ls hR hS hc hs hL)
theorem x_lshl (F : xFix p R s m args meth c cc nL own D dA base sa) {x : Int64} {y : Int32} (hd : decode cc pc = .ok (.lshl, 1)) (kk : xW p l e R s m args below meth c nL Q D dA base sa (pc + 1) lv (.long (x <<< (y.toInt64 &&& 63)) :: st) G) : xW p l e R s m args below meth c nL Q D dA base sa pc lv (.int y :: .long x :: st) G := by
  intro H locs cells slots ls hR hS hc hs hL
  exact lv_lshl F.1 F.2.1 hd rfl (kk H locs cells slots ls hR hS hc hs hL)
theorem x_lshr (F : xFix p R s m args meth c cc nL own D dA base sa) {x : Int64} {y : Int32} (hd : decode cc pc = .ok (.lshr, 1)) (kk : xW p l e R s m args below meth c nL Q D dA base sa (pc + 1) lv (.long (x >>> (y.toInt64 &&& 63)) :: st) G) : xW p l e R s m args below meth c nL Q D dA base sa pc lv (.int y :: .long x :: st) G := by
  intro H locs cells slots ls hR hS hc hs hL
  exact lv_lshr F.1 F.2.1 hd rfl (kk H locs cells slots ls hR hS hc hs hL)
theorem x_mmax (F : xFix p R s m args meth c cc nL own D dA base sa) {idx : Nat} (hw : Cond.methodLink own idx Lib.Math.max.name ∈ xBig) (hst : Cond.static Lib.Math.max.name ∈ xBig) (hini : Cond.initialized "java/lang/Math" ∈ xBig) (hcd : Cond.code Lib.Math.max.name Lib.Math.max.code 2 (some .int) ∈ xBig) (hf : 1 ≤ R.frames) (ho : (st.map fun v => v.category).sum + 13 ≤ R.locals) {x y : Int32} (hd : decode cc pc = .ok (.invokestatic idx, 3)) (kk : xW p l e R s m args below meth c nL Q D dA base sa (pc + 3) lv (.int (if x < y then y else x) :: st) G) : xW p l e R s m args below meth c nL Q D dA base sa pc lv (.int y :: .int x :: st) G := by
  intro H locs cells slots ls hR hS hc hs hL
  have hts := F.2.2.2.2.1
  exact va_mmax F.1 F.2.1 (F.2.2.1.trans hL.1.1.symm) F.2.2.2.1 (hts _ hw) (hts _ hst) (hts _ hini) (hts _ hcd) hf ho (by omega) (by omega) hd (kk H locs cells slots ls hR hS hc hs hL)
theorem x_mmin (F : xFix p R s m args meth c cc nL own D dA base sa) {idx : Nat} (hw : Cond.methodLink own idx Lib.Math.min.name ∈ xBig) (hst : Cond.static Lib.Math.min.name ∈ xBig) (hini : Cond.initialized "java/lang/Math" ∈ xBig) (hcd : Cond.code Lib.Math.min.name Lib.Math.min.code 2 (some .int) ∈ xBig) (hf : 1 ≤ R.frames) (ho : (st.map fun v => v.category).sum + 13 ≤ R.locals) {x y : Int32} (hd : decode cc pc = .ok (.invokestatic idx, 3)) (kk : xW p l e R s m args below meth c nL Q D dA base sa (pc + 3) lv (.int (if y < x then y else x) :: st) G) : xW p l e R s m args below meth c nL Q D dA base sa pc lv (.int y :: .int x :: st) G := by
  intro H locs cells slots ls hR hS hc hs hL
  have hts := F.2.2.2.2.1
  exact va_mmin F.1 F.2.1 (F.2.2.1.trans hL.1.1.symm) F.2.2.2.1 (hts _ hw) (hts _ hst) (hts _ hini) (hts _ hcd) hf ho (by omega) (by omega) hd (kk H locs cells slots ls hR hS hc hs hL)
theorem x_newL (F : xFix p R s m args meth c cc nL own D dA base sa) {t : Nat} (ht : (xtysL dA)[t]? = some (dA t, .long)) (hw : Cond.arrayClass .long ∈ xBig) {n : Int32} {K : Nat → xS → Prop} (hd : decode cc pc = .ok (.newarray .long, 2)) (h : xnewL t n K G) (kk : ∀ a G', K a G' → xW p l e R s m args below meth c nL Q D dA base sa (pc + 2) lv (va_rf (some a) :: st) G') : xW p l e R s m args below meth c nL Q D dA base sa pc lv (.int n :: st) G := by
  intro H locs cells slots ls hR hS hc hs hL
  obtain ⟨N, rfl, hN, h1, h2, hK⟩ := h
  have hz := hR.1
  refine va_newaK (atype := .long) F.1 F.2.1 (F.2.2.2.2.1 _ hw) rfl hd rfl (nI_pos (by omega)) (nI_clamp (by omega)) (by show N * _ ≤ _; simp only [newarray.typeOf, componentBytes]; omega) (by omega) (by omega) hz fun H1 cA e1 z1 o1 hAr hNm => ?_
  have hb : base ≤ H.size := Nat.le_trans F.2.2.2.2.2.2.2 hS.1
  have hcA : cA = dA t := Option.some.inj (hNm.symm.trans (F.2.2.2.2.2.1.1.2 t _ ht).2)
  subst hcA
  rw [← hz] at e1 z1 o1
  refine kk _ _ hK H1 locs (cells + 1) (slots + N) ls (hR.new (c1 := .inl (t, N, .inr (.inr (fun _ => 0)))) hb e1 z1 o1) ⟨Nat.le_trans hS.1 (by omega), fun x q1 q2 => (o1 x (Nat.lt_of_lt_of_le q1 hS.1)).trans (hS.2.1 x q1 q2), hS.2.2⟩ ?_ ?_ hL
  · show cells + 1 + (G.2.2.2.1 - 1) ≤ _; omega
  · show slots + N + (G.2.2.2.2 - N) ≤ _; omega
end XR
