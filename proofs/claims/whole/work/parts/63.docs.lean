/-! THE DOCUMENTS, of both -/
def dOk (lo nx : Nat) (bs : Nat → Nat) (dyn : xM) (A : Nat → Nat → Int32) (O : Nat) (fr sz da na : Nat → Nat) (d : Nat) : Prop :=
  (A 11 d = nI (fr d) ∧ A 12 d = nI (sz d) ∧ 1 ≤ sz d ∧ sz d ≤ 10 ∧ fr d + sz d ≤ O) ∧ (∃ i, i < 20 ∧ A 13 d = nI i) ∧ (A 16 d = 0 ∨ A 16 d = 1) ∧
  ∃ nodes, docAt bs lo nx dyn (da d) (A 13 d) (sz d) nodes (A 16 d) ∧ ∀ k, k < sz d → nodes k = some (na (fr d + k))
def oOk (lo nx db : Nat) (bs : Nat → Nat) (dyn : xM) (A : Nat → Nat → Int32) (B : Nat → Nat → Int64) (fr sz na le : Nat → Nat) (d k : Nat) : Prop :=
  (∃ p, p < 4 ∧ A 22 (fr d + k) = nI p) ∧ na (fr d + k) < db ∧ le (fr d + k) ≤ k ∧
  ∃ par ty va wd, nodeAt bs lo nx dyn (na (fr d + k)) (A 22 (fr d + k)) par (nI (le (fr d + k))) (nI k) ty va wd ∧ fldOk ty va wd (A 24) (A 25) (B 26) (fr d + k) ∧
    ((k + 1 = sz d ∧ A 23 (fr d + k) = -1 ∧ par = none ∧ A 22 (fr d + k) = 0) ∨ ∃ p, k < p ∧ p < sz d ∧ A 23 (fr d + k) = nI p ∧ par = some (na (fr d + p)))
def tree (A : Nat → Nat → Int32) (fr sz na le : Nat → Nat) (d : Nat) : Prop :=
  (∀ k o p, o < sz d → p < sz d → le (fr d + o) ≤ k → k < o → A 23 (fr d + k) = nI p → p ≤ o) ∧ (∀ k o p, o < sz d → p < sz d → k < le (fr d + o) → A 23 (fr d + k) = nI p → p < le (fr d + o) ∨ o < p) ∧
  ∀ k o, k < sz d → o < sz d → na (fr d + k) = na (fr d + o) → k = o
def Rk (lo nx db : Nat) (bs : Nat → Nat) (dyn : xM) (A : Nat → Nat → Int32) (B : Nat → Nat → Int64) (D O : Nat) (fr sz da na le : Nat → Nat) : Prop :=
  (∀ d, d < D → dOk lo nx bs dyn A O fr sz da na d) ∧ (∀ d e, d < e → e < D → da d + 2 ≤ da e) ∧ (∀ d k, d < D → k < sz d → oOk lo nx db bs dyn A B fr sz na le d k) ∧ ∀ d, d < D → tree A fr sz na le d
def bufL (A : Nat → Nat → Int32) (D : Nat) : List Nat := sel (segB (A 14) (-1)) 0 D
def segL (A : Nat → Nat → Int32) (D k : Nat) : List Nat := sel (segB (A 14) (nI k)) 0 D
def segOk (lo nx : Nat) (bs : Nat → Nat) (dyn : xM) (cr : Nat → Nat → Option Nat) (A : Nat → Nat → Int32) (D : Nat) (sz da : Nat → Nat) (k : Nat) : Prop :=
  ∃ a cap docs, cr 16 k = some a ∧ rowAt bs lo nx dyn a cap (nI (segL A D k).length) (nI (szs sz (segL A D k))) docs ∧ (segL A D k).length ≤ cap ∧ cap ≤ 180 ∧ lst docs da 0 (segL A D k)
def segs (A : Nat → Nat → Int32) (D K : Nat) : Prop :=
  (∀ d, d < D → (A 14 d = -2 ∧ A 16 d = 0) ∨ A 14 d = -1 ∨ ∃ k, k < K ∧ A 14 d = nI k) ∧
  (∀ d e k l, d < e → e < D → k < K → l < K → A 14 d = nI k → A 14 e = nI l → k ≤ l) ∧
  (∀ d e l, d < e → e < D → l < K → A 14 d = -1 → A 14 e ≠ nI l) ∧
  (∀ d e, d < D → e < D → A 16 d = 1 → A 16 e = 1 → A 13 d = A 13 e → d = e) ∧
  ∀ d e k, d < D → e < D → k < K → A 14 d = nI k → A 14 e = nI k → A 13 d = A 13 e → d = e
def Rr (lo nx : Nat) (bs : Nat → Nat) (dyn : xM) (cs : Nat → Int32) (cr : Nat → Nat → Option Nat) (A : Nat → Nat → Int32) (S : Nat → Int32) (D O K : Nat) (sz da : Nat → Nat) : Prop :=
  (S 18 = nI D ∧ cs 9 = nI D ∧ S 27 = nI O ∧ S 20 = cs 10 ∧ cs 8 = nI K ∧ S 19 = nI K ∧ K ≤ 6 ∧ D ≤ 180) ∧
  (cs 1401 = nI (bufL A D).length ∧ cs 1402 = nI (szs sz (bufL A D)) ∧ szs sz (bufL A D) ≤ 30 ∧ lst (cr 15) da 0 (bufL A D)) ∧
  (∀ k, k < K → segOk lo nx bs dyn cr A D sz da k) ∧ segs A D K
theorem mem_buf {A : Nat → Nat → Int32} {D d : Nat} : d ∈ bufL A D ↔ d < D ∧ A 14 d = -1 := by
  unfold bufL
  rw [mem_sel]
  constructor
  · rintro ⟨-, b, c⟩
    exact ⟨by omega, of_decide_eq_true c⟩
  · rintro ⟨b, c⟩
    exact ⟨Nat.zero_le _, by omega, decide_eq_true c⟩
theorem mem_seg {A : Nat → Nat → Int32} {D k d : Nat} : d ∈ segL A D k ↔ d < D ∧ A 14 d = nI k := by
  unfold segL
  rw [mem_sel]
  constructor
  · rintro ⟨-, b, c⟩
    exact ⟨by omega, of_decide_eq_true c⟩
  · rintro ⟨b, c⟩
    exact ⟨Nat.zero_le _, by omega, decide_eq_true c⟩
theorem blk.to1 {bs bs' : Nat → Nat} {lo nx nx' a n : Nat} (h : blk bs lo nx a n) (h1 : nx ≤ nx') (h2 : ∀ q, q < nx → bs' q = bs q) : blk bs' lo nx' a n := ⟨h.1, Nat.le_trans h.2.1 h1, fun i hi => (h2 _ (by have := h.2.1; omega)).trans (h.2.2 i hi)⟩
theorem dOk.to {P : Nat → Prop} {lo nx nx' : Nat} {bs bs' : Nat → Nat} {dyn dyn' : xM} {A A' : Nat → Nat → Int32} {O O' : Nat} {fr sz da na : Nat → Nat} {d : Nat} (h : dOk lo nx bs dyn A O fr sz da na d) (f : frm P bs nx dyn bs' nx' dyn') (hP : ¬ P (da d)) (hO : O ≤ O') (h11 : A' 11 d = A 11 d) (h12 : A' 12 d = A 12 d) (h13 : A' 13 d = A 13 d) (h16 : A' 16 d = A 16 d) : dOk lo nx' bs' dyn' A' O' fr sz da na d := by
  obtain ⟨⟨a1, a2, a3, a4, a5⟩, a6, a7, nodes, a8, a9⟩ := h
  unfold dOk
  rw [h11, h12, h13, h16]
  exact ⟨⟨a1, a2, a3, a4, Nat.le_trans a5 hO⟩, a6, a7, nodes, a8.to f hP, a9⟩
theorem oOk.to {P : Nat → Prop} {lo nx nx' db db' : Nat} {bs bs' : Nat → Nat} {dyn dyn' : xM} {A A' : Nat → Nat → Int32} {B B' : Nat → Nat → Int64} {fr sz na le : Nat → Nat} {d k : Nat} (h : oOk lo nx db bs dyn A B fr sz na le d k) (f : frm P bs nx dyn bs' nx' dyn') (hP : ¬ P (na (fr d + k))) (hdb : db ≤ db') (h22 : A' 22 (fr d + k) = A 22 (fr d + k)) (h23 : A' 23 (fr d + k) = A 23 (fr d + k)) (h24 : ∀ g, g < 4 → A' 24 (4 * (fr d + k) + g) = A 24 (4 * (fr d + k) + g) ∧ A' 25 (4 * (fr d + k) + g) = A 25 (4 * (fr d + k) + g) ∧ B' 26 (4 * (fr d + k) + g) = B 26 (4 * (fr d + k) + g)) : oOk lo nx' db' bs' dyn' A' B' fr sz na le d k := by
  obtain ⟨a1, a2, a3, par, ty, va, wd, a4, a5, a6⟩ := h
  unfold oOk
  rw [h22, h23]
  refine ⟨a1, Nat.lt_of_lt_of_le a2 hdb, a3, par, ty, va, wd, a4.to f hP, fun g hg => ?_, a6⟩
  obtain ⟨e1, e2, e3⟩ := h24 g hg
  rw [e1, e2, e3]
  exact a5 g hg
theorem segOk.to {P : Nat → Prop} {lo nx nx' : Nat} {bs bs' : Nat → Nat} {dyn dyn' : xM} {cr cr' : Nat → Nat → Option Nat} {A A' : Nat → Nat → Int32} {D D' k k' : Nat} {sz sz' da da' : Nat → Nat} (h : segOk lo nx bs dyn cr A D sz da k) (f : frm P bs nx dyn bs' nx' dyn') (hP : ∀ a fs, P a → dyn a ≠ some (.inr (8, fs))) (hcr : cr' 16 k' = cr 16 k) (hL : segL A' D' k' = segL A D k) (hsz : ∀ d ∈ segL A D k, sz' d = sz d ∧ da' d = da d) : segOk lo nx' bs' dyn' cr' A' D' sz' da' k' := by
  obtain ⟨a, cap, docs, a1, a2, a3, a4, a5⟩ := h
  unfold segOk
  rw [hcr, hL, szs_congr _ (fun d hd => (hsz d hd).1)]
  exact ⟨a, cap, docs, a1, a2.to f (fun q => hP a _ q a2.2.1), a3, a4, lst_congr _ _ (fun _ _ _ => rfl) (fun d hd => (hsz d hd).2) a5⟩
/-- frames for documents: blocks that are written are nodes of the draft -/
theorem Rk.to {P : Nat → Prop} {lo nx nx' db db' : Nat} {bs bs' : Nat → Nat} {dyn dyn' : xM} {A A' : Nat → Nat → Int32} {B B' : Nat → Nat → Int64} {D O : Nat} {fr sz da na le : Nat → Nat} (h : Rk lo nx db bs dyn A B D O fr sz da na le) (f : frm P bs nx dyn bs' nx' dyn') (hP : ∀ a, P a → db ≤ a ∧ ∀ fs, dyn a ≠ some (.inr (5, fs))) (hdb : db ≤ db')
    (hA : ∀ k, k ∈ [11, 12, 13, 16, 22, 23, 24, 25] → A' k = A k) (hB : B' 26 = B 26) : Rk lo nx' db' bs' dyn' A' B' D O fr sz da na le := by
  obtain ⟨h1, h2, h3, h4⟩ := h
  have e11 := hA 11 (by decide); have e12 := hA 12 (by decide); have e13 := hA 13 (by decide); have e16 := hA 16 (by decide)
  have e22 := hA 22 (by decide); have e23 := hA 23 (by decide); have e24 := hA 24 (by decide); have e25 := hA 25 (by decide)
  refine ⟨fun d hd => (h1 d hd).to f (fun q => ?_) (Nat.le_refl _) (by rw [e11]) (by rw [e12]) (by rw [e13]) (by rw [e16]), h2, fun d k hd hk => (h3 d k hd hk).to f (fun q => ?_) hdb (by rw [e22]) (by rw [e23]) (fun g _ => by rw [e24, e25, hB]; exact ⟨rfl, rfl, rfl⟩), fun d hd => ?_⟩
  · obtain ⟨-, -, -, nodes, a8, -⟩ := h1 d hd
    exact (hP _ q).2 _ a8.2.1
  · have := (h3 d k hd hk).2.1
    have := (hP _ q).1
    omega
  · have := h4 d hd
    unfold tree at this ⊢
    rw [e23]
    exact this
theorem Rr.to {P : Nat → Prop} {lo nx nx' : Nat} {bs bs' : Nat → Nat} {dyn dyn' : xM} {cs cs' : Nat → Int32} {cr cr' : Nat → Nat → Option Nat} {A A' : Nat → Nat → Int32} {S S' : Nat → Int32} {D O K : Nat} {sz da : Nat → Nat} (h : Rr lo nx bs dyn cs cr A S D O K sz da) (f : frm P bs nx dyn bs' nx' dyn') (hP : ∀ a fs, P a → dyn a ≠ some (.inr (8, fs)))
    (hA : ∀ k, k ∈ [13, 14, 16] → A' k = A k) (hS : ∀ k, k ∈ [18, 19, 20, 27] → S' k = S k) (hcs : ∀ k, k ∈ [8, 9, 10, 1401, 1402] → cs' k = cs k) (hcr : ∀ k, k ∈ [15, 16] → cr' k = cr k) : Rr lo nx' bs' dyn' cs' cr' A' S' D O K sz da := by
  obtain ⟨g1, g2, g3, g4⟩ := h
  have e13 := hA 13 (by decide); have e14 := hA 14 (by decide); have e16 := hA 16 (by decide)
  have s18 := hS 18 (by decide); have s19 := hS 19 (by decide); have s20 := hS 20 (by decide); have s27 := hS 27 (by decide)
  have c8 := hcs 8 (by decide); have c9 := hcs 9 (by decide); have c10 := hcs 10 (by decide); have c1 := hcs 1401 (by decide); have c2 := hcs 1402 (by decide)
  have r15 := hcr 15 (by decide); have r16 := hcr 16 (by decide)
  have eb : bufL A' D = bufL A D := by unfold bufL; rw [e14]
  unfold Rr
  rw [s18, s19, s20, s27, c8, c9, c10, c1, c2, r15, eb]
  refine ⟨g1, g2, fun k hk => (g3 k hk).to f hP (by rw [r16]) (by unfold segL; rw [e14]) (fun _ _ => ⟨rfl, rfl⟩), ?_⟩
  unfold segs at g4 ⊢
  rw [e13, e14, e16]
  exact g4
section KM
variable {X nx : Nat} {bs : Nat → Nat} {dyn : xM} {cs : Nat → Int32} {ca : Nat → Nat → Int32} {cr : Nat → Nat → Option Nat} {cu : Option Nat} {A : Nat → Nat → Int32} {S : Nat → Int32} {D O K : Nat} {fr sz da na : Nat → Nat}
theorem docM_of {a : Nat} {id live : Int32} {n : Nat} {nodes : Nat → Option Nat} (h : docAt bs (X + 66) nx dyn a id n nodes live) : docM (cheap X cs ca cr cu dyn) a id live n nodes := ⟨a + 1, by rw [cheap_d h.1.1]; exact h.2.1, by rw [cheap_d (by have := h.1.1; omega)]; exact h.2.2⟩
theorem rowM_of {a cap n : Nat} {obj : Int32} {docs : Nat → Option Nat} (h : rowAt bs (X + 66) nx dyn a cap (nI n) obj docs) (h1 : n ≤ cap) (h2 : cap ≤ 180) : rowM (cheap X cs ca cr cu dyn) a (a + 1) cap n obj docs := ⟨by rw [cheap_d h.1.1]; exact h.2.1, by rw [cheap_d (by have := h.1.1; omega)]; exact h.2.2, h1, h2⟩
theorem rowM_buf {n : Nat} (h : cs 1401 = nI n) (h1 : n ≤ 30) : rowM (cheap X cs ca cr cu dyn) (X + 14) (X + 15) 30 n (cs 1402) (cr 15) := by
  refine ⟨?_, cheap_f 15 (by decide), h1, by decide⟩
  rw [cheap_f 14 (by decide), ← h]
  rfl
theorem buf_len (hk : ∀ d, d < D → 1 ≤ sz d) (h : szs sz (bufL A D) ≤ 30) : (bufL A D).length ≤ 30 := Nat.le_trans (szs_len _ (fun d hd => hk d (mem_buf.mp hd).1)) h
end KM
