/-! OBJECTS OF THE HEAP: nodes, documents, rows; what stays -/
def blk (bs : Nat → Nat) (lo nx a n : Nat) : Prop := lo ≤ a ∧ a + n ≤ nx ∧ ∀ i, i < n → bs (a + i) = a
def nodeAt (bs : Nat → Nat) (lo nx : Nat) (dyn : xM) (a : Nat) (path : Int32) (par : Option Nat) (ls pl : Int32) (ty va wd : Nat → Int32) : Prop :=
  blk bs lo nx a 4 ∧ dyn a = some (.inr (2, [.int path, va_rf par, .int ls, .int pl, .ref (a + 1), .ref (a + 2), .ref (a + 3)])) ∧
  dyn (a + 1) = some (.inl (0, 4, .inl ty)) ∧ dyn (a + 2) = some (.inl (0, 4, .inl va)) ∧ dyn (a + 3) = some (.inl (0, 32, .inl wd))
def docAt (bs : Nat → Nat) (lo nx : Nat) (dyn : xM) (a : Nat) (id : Int32) (n : Nat) (nodes : Nat → Option Nat) (live : Int32) : Prop :=
  blk bs lo nx a 2 ∧ dyn a = some (.inr (5, [.int id, .ref (a + 1), .int live])) ∧ dyn (a + 1) = some (.inl (3, n, .inr (.inl nodes)))
def rowAt (bs : Nat → Nat) (lo nx : Nat) (dyn : xM) (a : Nat) (cap : Nat) (size obj : Int32) (docs : Nat → Option Nat) : Prop :=
  blk bs lo nx a 2 ∧ dyn a = some (.inr (8, [.ref (a + 1), .int size, .int obj])) ∧ dyn (a + 1) = some (.inl (4, cap, .inr (.inl docs)))
/-- since then only blocks of P were written, and new ones were made -/
def frm (P : Nat → Prop) (bs : Nat → Nat) (nx : Nat) (dyn : xM) (bs' : Nat → Nat) (nx' : Nat) (dyn' : xM) : Prop := nx ≤ nx' ∧ (∀ q, q < nx → bs' q = bs q) ∧ ∀ q, q < nx → ¬ P (bs q) → dyn' q = dyn q
theorem frm.rf {P : Nat → Prop} {bs : Nat → Nat} {nx : Nat} {dyn : xM} : frm P bs nx dyn bs nx dyn := ⟨Nat.le_refl _, fun _ _ => rfl, fun _ _ _ => rfl⟩
theorem frm.tr {P : Nat → Prop} {bs bs1 bs2 : Nat → Nat} {nx nx1 nx2 : Nat} {dyn dyn1 dyn2 : xM} (h : frm P bs nx dyn bs1 nx1 dyn1) (h2 : frm P bs1 nx1 dyn1 bs2 nx2 dyn2) : frm P bs nx dyn bs2 nx2 dyn2 :=
  ⟨Nat.le_trans h.1 h2.1, fun q hq => (h2.2.1 q (Nat.lt_of_lt_of_le hq h.1)).trans (h.2.1 q hq), fun q hq hP => (h2.2.2 q (Nat.lt_of_lt_of_le hq h.1) (by rw [h.2.1 q hq]; exact hP)).trans (h.2.2 q hq hP)⟩
theorem frm.up {P : Nat → Prop} {bs bs1 : Nat → Nat} {nx nx1 : Nat} {dyn dyn1 : xM} {a : Nat} {c : Option xC} (h : frm P bs nx dyn bs1 nx1 dyn1) (ha : nx ≤ a ∨ P (bs a)) : frm P bs nx dyn bs1 nx1 (va_up dyn1 a c) :=
  ⟨h.1, h.2.1, fun q hq hP => by
    have : q ≠ a := by
      intro e
      subst e
      rcases ha with ha | ha
      · omega
      · exact hP ha
    rw [va_up_ne _ _ this]
    exact h.2.2 q hq hP⟩
theorem blk.to {P : Nat → Prop} {bs bs' : Nat → Nat} {lo nx nx' a n : Nat} {dyn dyn' : xM} (h : blk bs lo nx a n) (f : frm P bs nx dyn bs' nx' dyn') : blk bs' lo nx' a n :=
  ⟨h.1, Nat.le_trans h.2.1 f.1, fun i hi => (f.2.1 _ (by have := h.2.1; omega)).trans (h.2.2 i hi)⟩
theorem blk.eq {P : Nat → Prop} {bs bs' : Nat → Nat} {lo nx nx' a n : Nat} {dyn dyn' : xM} (h : blk bs lo nx a n) (f : frm P bs nx dyn bs' nx' dyn') (hP : ¬ P a) {i : Nat} (hi : i < n) : dyn' (a + i) = dyn (a + i) :=
  f.2.2 _ (by have := h.2.1; omega) (by rw [h.2.2 i hi]; exact hP)
theorem nodeAt.to {P : Nat → Prop} {bs bs' : Nat → Nat} {lo nx nx' : Nat} {dyn dyn' : xM} {a : Nat} {path : Int32} {par : Option Nat} {ls pl : Int32} {ty va wd : Nat → Int32} (h : nodeAt bs lo nx dyn a path par ls pl ty va wd) (f : frm P bs nx dyn bs' nx' dyn') (hP : ¬ P a) : nodeAt bs' lo nx' dyn' a path par ls pl ty va wd :=
  ⟨h.1.to f, (h.1.eq f hP (i := 0) (by decide)).trans h.2.1, (h.1.eq f hP (i := 1) (by decide)).trans h.2.2.1, (h.1.eq f hP (i := 2) (by decide)).trans h.2.2.2.1, (h.1.eq f hP (i := 3) (by decide)).trans h.2.2.2.2⟩
theorem docAt.to {P : Nat → Prop} {bs bs' : Nat → Nat} {lo nx nx' : Nat} {dyn dyn' : xM} {a : Nat} {id : Int32} {n : Nat} {nodes : Nat → Option Nat} {live : Int32} (h : docAt bs lo nx dyn a id n nodes live) (f : frm P bs nx dyn bs' nx' dyn') (hP : ¬ P a) : docAt bs' lo nx' dyn' a id n nodes live :=
  ⟨h.1.to f, (h.1.eq f hP (i := 0) (by decide)).trans h.2.1, (h.1.eq f hP (i := 1) (by decide)).trans h.2.2⟩
theorem rowAt.to {P : Nat → Prop} {bs bs' : Nat → Nat} {lo nx nx' : Nat} {dyn dyn' : xM} {a cap : Nat} {size obj : Int32} {docs : Nat → Option Nat} (h : rowAt bs lo nx dyn a cap size obj docs) (f : frm P bs nx dyn bs' nx' dyn') (hP : ¬ P a) : rowAt bs' lo nx' dyn' a cap size obj docs :=
  ⟨h.1.to f, (h.1.eq f hP (i := 0) (by decide)).trans h.2.1, (h.1.eq f hP (i := 1) (by decide)).trans h.2.2⟩
/-- words as a number -/
def enc (ws : Nat → Nat) : Nat → Nat
  | 0 => 0
  | n + 1 => enc ws n + ws n * 32 ^ n
theorem enc_congr {ws ws' : Nat → Nat} : ∀ (n : Nat), (∀ k, k < n → ws k = ws' k) → enc ws n = enc ws' n
  | 0, _ => rfl
  | n + 1, h => by
    show enc ws n + _ = enc ws' n + _
    rw [enc_congr n (fun k hk => h k (by omega)), h n (by omega)]
/-- what a field is: nothing, a number, a text -/
def fieldGood (t v : Int32) (b : Int64) (w : Nat → Int32) : Prop := (t = 0 ∧ v = 0) ∨ (t = 1 ∧ inR v (-1000) 1000 = 1) ∨ (t = 2 ∧ ∃ (n : Nat) (ws : Nat → Nat), 1 ≤ n ∧ n ≤ 8 ∧ v = nI n ∧ (∀ k, k < n → ws k < 26 ∧ w k = nI (ws k)) ∧ b = lN (enc ws n))
def fldOk (ty va wd : Nat → Int32) (mt mv : Nat → Int32) (mw : Nat → Int64) (i : Nat) : Prop := ∀ f, f < 4 → ty f = mt (4 * i + f) ∧ va f = mv (4 * i + f) ∧ fieldGood (mt (4 * i + f)) (mv (4 * i + f)) (mw (4 * i + f)) (fun k => wd (8 * f + k))
/-- a number of an object, or -1 -/
def opI : List Nat → Int32
  | [] => -1
  | i :: _ => nI i
def stk (A1 : Nat → Int32) : List Nat → Prop
  | [] => True
  | i :: rest => A1 i = opI rest ∧ (∀ j ∈ rest, j < i) ∧ stk A1 rest
def parA (dn : Nat → Nat) (x : Int32) : Option Nat := if x < 0 then none else some (dn x.toNatClampNeg)
theorem parA_n (dn : Nat → Nat) : parA dn (-1) = none := rfl
theorem parA_s (dn : Nat → Nat) {j : Nat} (h : j < 2 ^ 31) : parA dn (nI j) = some (dn j) := by
  unfold parA
  rw [if_neg (nI_pos h), cl_nI h]
theorem parA_op (dn : Nat → Nat) (st : List Nat) (h : ∀ i ∈ st, i < 2 ^ 31) : parA dn (opI st) = st.head?.map dn := by
  cases st with
  | nil => rfl
  | cons i r => exact parA_s dn (h i List.mem_cons_self)
/-- the draft, of both: N objects, C of them closed, st the open ones (the latest first), dn their nodes, ls their least numbers, num and cl the numbers of the closed ones -/
def Rd (lo nx db : Nat) (bs : Nat → Nat) (dyn : xM) (cs : Nat → Int32) (cr : Nat → Nat → Option Nat) (cu : Option Nat) (A : Nat → Nat → Int32) (B : Nat → Nat → Int64) (S : Nat → Int32) (N C : Nat) (st : List Nat) (dn ls num cl : Nat → Nat) : Prop :=
  (N ≤ 10 ∧ st.length + C = N ∧ cs 102 = nI N ∧ S 6 = nI N ∧ cs 101 = nI C ∧ S 7 = nI C ∧ cu = st.head?.map dn ∧ S 8 = opI st) ∧
  (stk (A 1) st ∧ ∀ i ∈ st, i < N) ∧
  (∀ i, i < N → db ≤ dn i ∧ ∃ ty va wd pl, nodeAt bs lo nx dyn (dn i) (A 0 i) (parA dn (A 1 i)) (nI (ls i)) pl ty va wd ∧ fldOk ty va wd (A 3) (A 4) (B 5) i ∧ (i ∉ st → pl = nI (num i))) ∧
  (∀ i j, i < j → j < N → dn i + 4 ≤ dn j) ∧
  (∀ i, i < N → (∃ p, p < 4 ∧ A 0 i = nI p) ∧ ((i = 0 ∧ A 1 i = -1 ∧ A 0 i = 0) ∨ ∃ j, j < i ∧ A 1 i = nI j)) ∧
  ((∀ i, i < N → i ∉ st → num i < C ∧ cl (num i) = i ∧ A 2 i = nI (num i)) ∧ (∀ c, c < C → cl c < N ∧ cl c ∉ st ∧ num (cl c) = c ∧ cr 2 c = some (dn (cl c)))) ∧
  ((∀ c w, c < C → w < N → w ≠ cl c → (w ∈ st ∨ c < num w) → (ls w ≤ c ↔ w < cl c)) ∧ (∀ c z j, c < C → z < cl c → (z ∈ st ∨ c < num z) → A 1 (cl c) = nI j → z ≤ j) ∧ (∀ c j, c < C → j < N → A 1 (cl c) = nI j → (j ∈ st ∨ c < num j)) ∧ (∀ i j, i < j → j < N → ls i ≤ ls j) ∧ (∀ i, i < N → ls i ≤ C) ∧ ∀ c, c < C → ls (cl c) ≤ c)
