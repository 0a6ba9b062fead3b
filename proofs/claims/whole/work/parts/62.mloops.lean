/-! THE REFERENCE'S LOOPS OVER DOCUMENTS, read -/
def segB (s : Nat → Int32) (v : Int32) (d : Nat) : Bool := decide (s d = v)
def nnB (s : Nat → Int32) (d : Nat) : Bool := decide (¬ s d < 0)
theorem segB_t {s : Nat → Int32} {v : Int32} {d : Nat} (h : s d = v) : segB s v d = true := decide_eq_true h
theorem segB_f {s : Nat → Int32} {v : Int32} {d : Nat} (h : ¬ s d = v) : segB s v d = false := decide_eq_false h
theorem nnB_t {s : Nat → Int32} {d : Nat} (h : ¬ s d < 0) : nnB s d = true := decide_eq_true h
theorem nnB_f {s : Nat → Int32} {d : Nat} (h : s d < 0) : nnB s d = false := decide_eq_false (fun q => q h)
section ML
variable {M : Nat} {A : Nat → Nat → Int32} {B : Nat → Nat → Int64} {S : Nat → Int32} {r : xM × Nat × Nat × Nat} {D : Nat} {sz : Nat → Nat}
theorem M_inBuffer_L {K Kx : Int32 → xS → Prop} (hD : S 18 = nI D) (h180 : D ≤ 180) (hz : ∀ d, d < D → A 12 d = nI (sz d)) : ∀ (n f c d : Nat), n < f → d + n = D → (p_M_inBuffer_L4 M K Kx f (nI c) (nI d) (mheap M A B S, r) ↔ Kx (nI (c + szs sz (sel (segB (A 14) (-1)) d n))) (mheap M A B S, r))
  | 0, f + 1, c, d, hf, hd => by
    unfold p_M_inBuffer_L4
    rw [m_g18, hD, xif_t (nI_le (by omega) (by omega))]
    rfl
  | n + 1, f + 1, c, d, hf, hd => by
    unfold p_M_inBuffer_L4
    have hin : vp_in (nI d) 180 := vp_in_nI (by omega) (by decide)
    rw [m_g18, hD, xif_f (nI_ge (by omega) (by omega)), m_g14, m_r14, cl_nI (by omega)]
    by_cases e : A 14 d = -1
    · rw [xif_t e, m_g12, m_r12, cl_nI (by omega), hz d (by omega), nI_add, nI_1, M_inBuffer_L hD h180 hz n f (c + sz d) (d + 1) (by omega) (by omega), sel_t (segB_t e)]
      simp only [hin, true_and]
      rw [show szs sz (d :: sel (segB (A 14) (-1)) (d + 1) n) = sz d + szs sz (sel (segB (A 14) (-1)) (d + 1) n) from rfl, Nat.add_assoc]
    · rw [xif_f e, nI_1, M_inBuffer_L hD h180 hz n f c (d + 1) (by omega) (by omega), sel_f (segB_f e)]
      simp only [hin, true_and]
theorem M_inBuffer_eq {K : Int32 → xS → Prop} (hD : S 18 = nI D) (h180 : D ≤ 180) (hz : ∀ d, d < D → A 12 d = nI (sz d)) : p_M_inBuffer M K (mheap M A B S, r) ↔ K (nI (szs sz (sel (segB (A 14) (-1)) 0 D))) (mheap M A B S, r) := by
  unfold p_M_inBuffer
  rw [show (0 : Int32) = nI 0 from rfl, M_inBuffer_L hD h180 hz D 1000 0 0 (by omega) (by omega), Nat.zero_add]
theorem M_inSegment_L {K Kx : Int32 → xS → Prop} {v : Int32} (hD : S 18 = nI D) (h180 : D ≤ 180) (hz : ∀ d, d < D → A 12 d = nI (sz d)) : ∀ (n f c d : Nat), n < f → d + n = D → (p_M_inSegment_L5 M v 0 K Kx f (nI c) (nI d) (mheap M A B S, r) ↔ Kx (nI (c + szs sz (sel (segB (A 14) v) d n))) (mheap M A B S, r))
  | 0, f + 1, c, d, hf, hd => by
    unfold p_M_inSegment_L5
    rw [m_g18, hD, xif_t (nI_le (by omega) (by omega))]
    rfl
  | n + 1, f + 1, c, d, hf, hd => by
    unfold p_M_inSegment_L5
    have hin : vp_in (nI d) 180 := vp_in_nI (by omega) (by decide)
    rw [m_g18, hD, xif_f (nI_ge (by omega) (by omega)), m_g14, m_r14, cl_nI (by omega)]
    by_cases e : A 14 d = v
    · rw [xif_t e, xif_t rfl, m_g12, m_r12, cl_nI (by omega), hz d (by omega), nI_add, nI_1, M_inSegment_L hD h180 hz n f (c + sz d) (d + 1) (by omega) (by omega), sel_t (segB_t e)]
      simp only [hin, true_and]
      rw [show szs sz (d :: sel (segB (A 14) v) (d + 1) n) = sz d + szs sz (sel (segB (A 14) v) (d + 1) n) from rfl, Nat.add_assoc]
    · rw [xif_f e, nI_1, M_inSegment_L hD h180 hz n f c (d + 1) (by omega) (by omega), sel_f (segB_f e)]
      simp only [hin, true_and]
theorem M_inSegment_eq {K : Int32 → xS → Prop} {v : Int32} (hD : S 18 = nI D) (h180 : D ≤ 180) (hz : ∀ d, d < D → A 12 d = nI (sz d)) : p_M_inSegment M v 0 K (mheap M A B S, r) ↔ K (nI (szs sz (sel (segB (A 14) v) 0 D))) (mheap M A B S, r) := by
  unfold p_M_inSegment
  have := M_inSegment_L (M := M) (A := A) (B := B) (r := r) (K := K) (Kx := fun m8 => K m8) (v := v) hD h180 hz D 1000 0 0 (by omega) (by omega)
  rw [Nat.zero_add] at this
  exact this
theorem M_inSegment1_L {K Kx : Int32 → xS → Prop} {v : Int32} (hD : S 18 = nI D) (h180 : D ≤ 180) : ∀ (n f c d : Nat), n < f → d + n = D → (p_M_inSegment_L5 M v 1 K Kx f (nI c) (nI d) (mheap M A B S, r) ↔ Kx (nI (c + ((sel (segB (A 14) v) d n).filter (lvB (A 16))).length)) (mheap M A B S, r))
  | 0, f + 1, c, d, hf, hd => by
    unfold p_M_inSegment_L5
    rw [m_g18, hD, xif_t (nI_le (by omega) (by omega))]
    rfl
  | n + 1, f + 1, c, d, hf, hd => by
    unfold p_M_inSegment_L5
    have hin : vp_in (nI d) 180 := vp_in_nI (by omega) (by decide)
    rw [m_g18, hD, xif_f (nI_ge (by omega) (by omega)), m_g14, m_r14, cl_nI (by omega)]
    by_cases e : A 14 d = v
    · rw [xif_t e, xif_f (by decide), m_g16, m_r16, cl_nI (by omega), sel_t (segB_t e)]
      by_cases e2 : A 16 d = 0
      · rw [xif_t e2, nI_1, show nI c + 0 = nI c from Int32.add_zero _, M_inSegment1_L hD h180 n f c (d + 1) (by omega) (by omega), List.filter_cons_of_neg (by rw [lvB_f.mpr e2]; decide)]
        simp only [hin, true_and]
      · rw [xif_f e2, nI_1, nI_1, M_inSegment1_L hD h180 n f (c + 1) (d + 1) (by omega) (by omega), List.filter_cons_of_pos (lvB_t.mpr e2), List.length_cons, Nat.add_assoc, Nat.add_comm 1]
        simp only [hin, true_and]
    · rw [xif_f e, nI_1, M_inSegment1_L hD h180 n f c (d + 1) (by omega) (by omega), sel_f (segB_f e)]
      simp only [hin, true_and]
theorem M_inSegment1_eq {K : Int32 → xS → Prop} {v : Int32} (hD : S 18 = nI D) (h180 : D ≤ 180) : p_M_inSegment M v 1 K (mheap M A B S, r) ↔ K (nI ((sel (segB (A 14) v) 0 D).filter (lvB (A 16))).length) (mheap M A B S, r) := by
  unfold p_M_inSegment
  have := M_inSegment1_L (M := M) (A := A) (B := B) (r := r) (K := K) (Kx := fun m8 => K m8) (v := v) hD h180 D 1000 0 0 (by omega) (by omega)
  rw [Nat.zero_add] at this
  exact this
theorem M_flush_L {K Kx : Int32 → xS → Prop} (hD : S 18 = nI D) (h180 : D ≤ 180) (hz : ∀ d, d < D → A 12 d = nI (sz d)) : ∀ (n f c d : Nat), n < f → d + n = D → (p_M_flush_L4 M K Kx f (nI c) (nI d) (mheap M A B S, r) ↔ Kx (nI (c + szs sz ((sel (segB (A 14) (-1)) d n).filter (lvB (A 16))))) (mheap M A B S, r))
  | 0, f + 1, c, d, hf, hd => by
    unfold p_M_flush_L4
    rw [m_g18, hD, xif_t (nI_le (by omega) (by omega))]
    rfl
  | n + 1, f + 1, c, d, hf, hd => by
    unfold p_M_flush_L4
    have hin : vp_in (nI d) 180 := vp_in_nI (by omega) (by decide)
    rw [m_g18, hD, xif_f (nI_ge (by omega) (by omega)), m_g14, m_r14, cl_nI (by omega)]
    by_cases e : A 14 d = -1
    · rw [xif_t e, m_g16, m_r16, cl_nI (by omega), sel_t (segB_t e)]
      by_cases e2 : A 16 d = 0
      · rw [xif_t e2, nI_1, M_flush_L hD h180 hz n f c (d + 1) (by omega) (by omega), List.filter_cons_of_neg (by rw [lvB_f.mpr e2]; decide)]
        simp only [hin, true_and]
      · rw [xif_f e2, m_g12, m_r12, cl_nI (by omega), hz d (by omega), nI_add, nI_1, M_flush_L hD h180 hz n f (c + sz d) (d + 1) (by omega) (by omega), List.filter_cons_of_pos (lvB_t.mpr e2)]
        simp only [hin, true_and]
        rw [show szs sz (d :: (sel (segB (A 14) (-1)) (d + 1) n).filter (lvB (A 16))) = sz d + szs sz ((sel (segB (A 14) (-1)) (d + 1) n).filter (lvB (A 16))) from rfl, Nat.add_assoc]
    · rw [xif_f e, nI_1, M_flush_L hD h180 hz n f c (d + 1) (by omega) (by omega), sel_f (segB_f e)]
      simp only [hin, true_and]
def ngB (s : Nat → Int32) (d : Nat) : Bool := decide (¬ s d = -2)
theorem M_find_L {K : Int32 → xS → Prop} {Kx : xS → Prop} {v : Int32} (hD : S 18 = nI D) (h180 : D ≤ 180) : ∀ (n f d : Nat), n < f → d + n = D → (p_M_find_L2 M v K Kx f (nI d) (mheap M A B S, r) ↔ (match fnd (A 16) (A 13) v (sel (ngB (A 14)) d n) with | none => Kx | some d => K (nI d)) (mheap M A B S, r))
  | 0, f + 1, d, hf, hd => by
    unfold p_M_find_L2
    rw [m_g18, hD, xif_t (nI_le (by omega) (by omega))]
    rfl
  | n + 1, f + 1, d, hf, hd => by
    unfold p_M_find_L2
    have hin : vp_in (nI d) 180 := vp_in_nI (by omega) (by decide)
    have ih := M_find_L (K := K) (Kx := Kx) (v := v) hD h180 n f (d + 1) (by omega) (by omega)
    rw [m_g18, hD, xif_f (nI_ge (by omega) (by omega)), m_g14, m_r14, cl_nI (by omega)]
    by_cases e : A 14 d = -2
    · rw [xif_t e, nI_1, ih, sel_f (show ngB (A 14) d = false from decide_eq_false (fun q => q e))]
      simp only [hin, true_and]
    · rw [xif_f e, m_g16, m_r16, cl_nI (by omega), sel_t (show ngB (A 14) d = true from decide_eq_true e)]
      by_cases e2 : A 16 d = 0
      · rw [xif_t e2, nI_1, ih, show fnd (A 16) (A 13) v (d :: sel (ngB (A 14)) (d + 1) n) = fnd (A 16) (A 13) v (sel (ngB (A 14)) (d + 1) n) from List.find?_cons_of_neg (by rw [lvB_f.mpr e2, Bool.false_and]; decide)]
        simp only [hin, true_and]
      · rw [xif_f e2, m_g13, m_r13, cl_nI (by omega)]
        by_cases e3 : A 13 d = v
        · rw [xif_t e3, show fnd (A 16) (A 13) v (d :: sel (ngB (A 14)) (d + 1) n) = some d from List.find?_cons_of_pos (by rw [lvB_t.mpr e2, decide_eq_true e3]; rfl)]
          simp only [hin, true_and]
        · rw [xif_f e3, nI_1, ih, show fnd (A 16) (A 13) v (d :: sel (ngB (A 14)) (d + 1) n) = fnd (A 16) (A 13) v (sel (ngB (A 14)) (d + 1) n) from List.find?_cons_of_neg (by rw [lvB_t.mpr e2, decide_eq_false e3]; decide)]
          simp only [hin, true_and]
theorem M_find_eq {K : Int32 → xS → Prop} {v : Int32} (hD : S 18 = nI D) (h180 : D ≤ 180) : p_M_find M v K (mheap M A B S, r) ↔ K (match fnd (A 16) (A 13) v (sel (ngB (A 14)) 0 D) with | none => -1 | some d => nI d) (mheap M A B S, r) := by
  unfold p_M_find
  rw [show (0 : Int32) = nI 0 from rfl, M_find_L hD h180 D 1000 0 (by omega) (by omega)]
  cases fnd (A 16) (A 13) v (sel (ngB (A 14)) 0 D) <;> rfl
theorem M_counted3_L {K Kx : Int32 → xS → Prop} (hD : S 18 = nI D) (h180 : D ≤ 180) : ∀ (n f c d : Nat), n < f → d + n = D → (p_M_counted_L4 M 3 K Kx f (nI c) (nI d) (mheap M A B S, r) ↔ Kx (nI (c + ((sel (ngB (A 14)) d n).filter (lvB (A 16))).length)) (mheap M A B S, r))
  | 0, f + 1, c, d, hf, hd => by
    unfold p_M_counted_L4
    rw [m_g18, hD, xif_t (nI_le (by omega) (by omega))]
    rfl
  | n + 1, f + 1, c, d, hf, hd => by
    unfold p_M_counted_L4
    have hin : vp_in (nI d) 180 := vp_in_nI (by omega) (by decide)
    rw [m_g18, hD, xif_f (nI_ge (by omega) (by omega)), xif_t rfl, m_g14, m_r14, cl_nI (by omega)]
    by_cases e : A 14 d = -2
    · rw [xif_t e, nI_1, M_counted3_L hD h180 n f c (d + 1) (by omega) (by omega), sel_f (show ngB (A 14) d = false from decide_eq_false (fun q => q e))]
      simp only [hin, true_and]
    · rw [xif_f e, m_g16, m_r16, cl_nI (by omega), sel_t (show ngB (A 14) d = true from decide_eq_true e)]
      by_cases e2 : A 16 d = 0
      · rw [xif_t e2, nI_1, M_counted3_L hD h180 n f c (d + 1) (by omega) (by omega), List.filter_cons_of_neg (by rw [lvB_f.mpr e2]; decide)]
        simp only [hin, true_and]
      · rw [xif_f e2, nI_1, nI_1, M_counted3_L hD h180 n f (c + 1) (d + 1) (by omega) (by omega), List.filter_cons_of_pos (lvB_t.mpr e2), List.length_cons, Nat.add_assoc, Nat.add_comm 1]
        simp only [hin, true_and]
theorem M_counted4_L {K Kx : Int32 → xS → Prop} (hD : S 18 = nI D) (h180 : D ≤ 180) : ∀ (n f c d : Nat), n < f → d + n = D → (p_M_counted_L4 M 4 K Kx f (nI c) (nI d) (mheap M A B S, r) ↔ Kx (nI (c + ((sel (nnB (A 14)) d n).filter (fun d => !lvB (A 16) d)).length)) (mheap M A B S, r))
  | 0, f + 1, c, d, hf, hd => by
    unfold p_M_counted_L4
    rw [m_g18, hD, xif_t (nI_le (by omega) (by omega))]
    rfl
  | n + 1, f + 1, c, d, hf, hd => by
    unfold p_M_counted_L4
    have hin : vp_in (nI d) 180 := vp_in_nI (by omega) (by decide)
    rw [m_g18, hD, xif_f (nI_ge (by omega) (by omega)), xif_f (by decide), xif_t rfl, m_g14, m_r14, cl_nI (by omega)]
    by_cases e : A 14 d < 0
    · rw [xif_t e, nI_1, M_counted4_L hD h180 n f c (d + 1) (by omega) (by omega), sel_f (nnB_f e)]
      simp only [hin, true_and]
    · rw [xif_f e, m_g16, m_r16, cl_nI (by omega), sel_t (nnB_t e)]
      by_cases e2 : A 16 d = 0
      · rw [xif_t e2, nI_1, nI_1, M_counted4_L hD h180 n f (c + 1) (d + 1) (by omega) (by omega), List.filter_cons_of_pos (p := fun d => !lvB (A 16) d) (by rw [lvB_f.mpr e2]; rfl), List.length_cons, Nat.add_assoc, Nat.add_comm 1]
        simp only [hin, true_and]
      · rw [xif_f e2, nI_1, M_counted4_L hD h180 n f c (d + 1) (by omega) (by omega), List.filter_cons_of_neg (p := fun d => !lvB (A 16) d) (by rw [lvB_t.mpr e2]; decide)]
        simp only [hin, true_and]
theorem M_counted7_L {K Kx : Int32 → xS → Prop} (hD : S 18 = nI D) (h180 : D ≤ 180) : ∀ (n f c d : Nat), n < f → d + n = D → (p_M_counted_L4 M 7 K Kx f (nI c) (nI d) (mheap M A B S, r) ↔ Kx (nI (c + (sel (nnB (A 15)) d n).length)) (mheap M A B S, r))
  | 0, f + 1, c, d, hf, hd => by
    unfold p_M_counted_L4
    rw [m_g18, hD, xif_t (nI_le (by omega) (by omega))]
    rfl
  | n + 1, f + 1, c, d, hf, hd => by
    unfold p_M_counted_L4
    have hin : vp_in (nI d) 180 := vp_in_nI (by omega) (by decide)
    rw [m_g18, hD, xif_f (nI_ge (by omega) (by omega)), xif_f (by decide), xif_f (by decide), m_g15, m_r15, cl_nI (by omega)]
    by_cases e : A 15 d < 0
    · rw [xif_t e, nI_1, M_counted7_L hD h180 n f c (d + 1) (by omega) (by omega), sel_f (nnB_f e)]
      simp only [hin, true_and]
    · rw [xif_f e, nI_1, nI_1, M_counted7_L hD h180 n f (c + 1) (d + 1) (by omega) (by omega), sel_t (nnB_t e), List.length_cons, Nat.add_assoc, Nat.add_comm 1]
      simp only [hin, true_and]
theorem M_root_L {K Kx : Int32 → xS → Prop} {d : Nat} (hd : d < 180) (hz : ∀ e, e < d → A 12 e = nI (sz e)) : ∀ (n f c e : Nat), n < f → e + n = d → (p_M_rootInSnapshot_L11 M (nI d) K Kx f (nI c) (nI e) (mheap M A B S, r) ↔ Kx (nI (c + szs sz (sel (segB (A 15) (A 15 d)) e n))) (mheap M A B S, r))
  | 0, f + 1, c, e, hf, he => by
    unfold p_M_rootInSnapshot_L11
    rw [xif_t (nI_le (by omega) (by omega))]
    rfl
  | n + 1, f + 1, c, e, hf, he => by
    unfold p_M_rootInSnapshot_L11
    have hin : vp_in (nI e) 180 := vp_in_nI (by omega) (by decide)
    have hin2 : vp_in (nI d) 180 := vp_in_nI (by omega) (by decide)
    rw [xif_f (nI_ge (by omega) (by omega)), m_g15, m_r15, cl_nI (by omega), m_g15, m_r15, cl_nI (by omega)]
    by_cases c1 : A 15 e = A 15 d
    · rw [xif_t c1, m_g12, m_r12, cl_nI (by omega), hz e (by omega), nI_add, nI_1, M_root_L hd hz n f (c + sz e) (e + 1) (by omega) (by omega), sel_t (segB_t c1)]
      simp only [hin, hin2, true_and]
      rw [show szs sz (e :: sel (segB (A 15) (A 15 d)) (e + 1) n) = sz e + szs sz (sel (segB (A 15) (A 15 d)) (e + 1) n) from rfl, Nat.add_assoc]
    · rw [xif_f c1, nI_1, M_root_L hd hz n f c (e + 1) (by omega) (by omega), sel_f (segB_f c1)]
      simp only [hin, hin2, true_and]
theorem M_root_eq {K : Int32 → xS → Prop} {d : Nat} (hd : d < 180) (hz : ∀ e, e ≤ d → A 12 e = nI (sz e)) (h1 : 1 ≤ sz d) : p_M_rootInSnapshot M (nI d) K (mheap M A B S, r) ↔ K (nI (sz d - 1 + szs sz (sel (segB (A 15) (A 15 d)) 0 d))) (mheap M A B S, r) := by
  unfold p_M_rootInSnapshot
  have hin2 : vp_in (nI d) 180 := vp_in_nI (by omega) (by decide)
  rw [m_g12, m_r12, cl_nI (by omega), hz d (Nat.le_refl _), show nI (sz d) - 1 = nI (sz d - 1) from pk_sub (b := 1) h1, show (0 : Int32) = nI 0 from rfl, M_root_L hd (fun e he => hz e (by omega)) d 1000 (sz d - 1) 0 (by omega) (by omega)]
  simp only [hin2, true_and]
/-- where an object of a row is: the document and the number of its first object -/
def loc (sz : Nat → Nat) (v : Int32) : Nat → List Nat → Option (Nat × Nat)
  | _, [] => none
  | c, d :: L => if nI (c + sz d) ≤ v then loc sz v (c + sz d) L else some (d, c)
theorem M_object_L {K : Int32 → xS → Prop} {Kx : xS → Prop} {g v w : Int32} {o : xM} {nx cb sb : Nat} (hD : S 18 = nI D) (h180 : D ≤ 180) (hz : ∀ d, d < D → A 12 d = nI (sz d)) : ∀ (n f c d : Nat), n < f → d + n = D → (p_M_object_L49 M g v w K Kx f (nI c) (nI d) (mheap M A B S, o, nx, cb, sb) ↔ (match loc sz v c (sel (segB (A 14) g) d n) with | none => Kx | some (d, c) => xcall 0 0 (p_M_told M (nI d) (v - nI c) (nI c) w) fun x => K x) (mheap M A B S, o, nx, cb, sb))
  | 0, f + 1, c, d, hf, hd => by
    unfold p_M_object_L49
    rw [m_g18, hD, xif_t (nI_le (by omega) (by omega))]
    rfl
  | n + 1, f + 1, c, d, hf, hd => by
    unfold p_M_object_L49
    have hin : vp_in (nI d) 180 := vp_in_nI (by omega) (by decide)
    rw [m_g18, hD, xif_f (nI_ge (by omega) (by omega)), m_g14, m_r14, cl_nI (by omega)]
    by_cases e : A 14 d = g
    · rw [xif_t e, m_g12, m_r12, cl_nI (by omega), hz d (by omega), nI_add, sel_t (segB_t e)]
      by_cases e2 : nI (c + sz d) ≤ v
      · rw [xif_t e2, m_g12, m_r12, cl_nI (by omega), hz d (by omega), nI_add, nI_1, M_object_L hD h180 hz n f (c + sz d) (d + 1) (by omega) (by omega), show loc sz v c (d :: sel (segB (A 14) g) (d + 1) n) = loc sz v (c + sz d) (sel (segB (A 14) g) (d + 1) n) from if_pos e2]
        simp only [hin, true_and]
      · rw [xif_f e2, m_ob, show loc sz v c (d :: sel (segB (A 14) g) (d + 1) n) = some (d, c) from if_neg e2]
        simp only [hin, true_and]
    · rw [xif_f e, nI_1, M_object_L hD h180 hz n f c (d + 1) (by omega) (by omega), sel_f (segB_f e)]
      simp only [hin, true_and]
end ML
