/-- the draft, when the fields of one of its objects change -/
theorem Rd_upd {lo nx db : Nat} {bs : Nat → Nat} {dyn dyn' : xM} {cs : Nat → Int32} {cr : Nat → Nat → Option Nat} {cu : Option Nat} {A A' : Nat → Nat → Int32} {B B' : Nat → Nat → Int64} {S : Nat → Int32} {N C : Nat} {st : List Nat} {dn ls num cl : Nat → Nat} (h : Rd lo nx db bs dyn cs cr cu A B S N C st dn ls num cl) {i : Nat} {ty' va' wd' : Nat → Int32} {pl : Int32}
    (hn : nodeAt bs lo nx dyn' (dn i) (A 0 i) (parA dn (A 1 i)) (nI (ls i)) pl ty' va' wd') (hpl : i ∉ st → pl = nI (num i)) (hf : frm (fun q => q = dn i) bs nx dyn bs nx dyn') (hfl : fldOk ty' va' wd' (A' 3) (A' 4) (B' 5) i)
    (h3 : ∀ j f, j ≠ i → f < 4 → A' 3 (4 * j + f) = A 3 (4 * j + f) ∧ A' 4 (4 * j + f) = A 4 (4 * j + f) ∧ B' 5 (4 * j + f) = B 5 (4 * j + f)) (h0 : A' 0 = A 0) (h1 : A' 1 = A 1) (h2 : A' 2 = A 2) (hi : i < N) : Rd lo nx db bs dyn' cs cr cu A' B' S N C st dn ls num cl := by
  obtain ⟨g1, g2, hnode, hgap, g5, g6, g7⟩ := h
  rw [← h1] at g2
  unfold Rd
  rw [h0, h2]
  refine ⟨g1, g2, fun j hj => ?_, hgap, by rw [h1]; exact g5, g6, by rw [h1]; exact g7⟩
  obtain ⟨d1, ty, va, wd, pl0, d2, d3, d4⟩ := hnode j hj
  refine ⟨d1, ?_⟩
  rw [h1]
  by_cases e : j = i
  · subst e
    exact ⟨ty', va', wd', pl, hn, hfl, hpl⟩
  · refine ⟨ty, va, wd, pl0, d2.to hf ?_, fun f hf' => ?_, d4⟩
    · intro q
      rcases Nat.lt_or_gt_of_ne e with w | w
      · have := hgap j i w hi
        have q' : dn j = dn i := q
        omega
      · have := hgap i j w hj
        have q' : dn j = dn i := q
        omega
    · have := d3 f hf'
      obtain ⟨e1, e2, e3⟩ := h3 j f e hf'
      rw [e1, e2, e3]
      exact this
theorem in_of {v : Int32} {n : Nat} (h : inR v 0 (n : Int) = 1) (hn : n < 1000) : ∃ p, p ≤ n ∧ v = nI p := by
  have hv : ¬ (v.toInt < 0 ∨ (n : Int) < v.toInt) := fun q => by rw [inR_0.mpr q] at h; exact absurd h (by decide)
  obtain ⟨p, hp, rfl⟩ := vp_in_of (x := v) (n := n + 1) (vp_in_iff.mpr ⟨by omega, by omega⟩) (by omega)
  exact ⟨p, by omega, rfl⟩
theorem st_wipe {X M : Nat} {ca : Nat → Nat → Int32} {nx db : Nat} {bs : Nat → Nat} {dyn : xM} {cs : Nat → Int32} {cr : Nat → Nat → Option Nat} {cu : Option Nat} {A : Nat → Nat → Int32} {B : Nat → Nat → Int64} {S : Nat → Int32} {N C : Nat} {st : List Nat} {dn ls num cl : Nat → Nat} (h : Rd (X + 66) nx db bs dyn cs cr cu A B S N C st dn ls num cl) :
    Rd (X + 66) nx db bs dyn (va_up (va_up cs 101 0) 102 0) cr none A B (va_up (va_up (va_up S 6 0) 7 0) 8 (-1)) 0 0 [] dn ls num cl ∧
      (∀ (K : Int32 → xS → Prop) (o : xM) (cb sb : Nat), K (nI N) (cheap X (va_up (va_up cs 101 0) 102 0) ca cr none dyn, o, nx, cb, sb) → p_B_wipe X K (cheap X cs ca cr cu dyn, o, nx, cb, sb)) ∧
      (∀ (K : Int32 → xS → Prop) (r : xM × Nat × Nat × Nat), K (nI N) (mheap M A B (va_up (va_up (va_up S 6 0) 7 0) 8 (-1)), r) → p_M_wipe M K (mheap M A B S, r)) := by
  obtain ⟨⟨h1, h2, h3, h4, h5, h6, h7, h8⟩, -⟩ := id h
  refine ⟨⟨⟨by omega, rfl, va_up_self _ _ _, ?_, ?_, ?_, rfl, va_up_self _ _ _⟩, ⟨trivial, fun i hi => by cases hi⟩, fun i hi => by omega, fun i j _ hj => by omega, fun i hi => by omega, ⟨fun i hi => by omega, fun c hc => by omega⟩, fun c w hc => by omega, fun c z j hc => by omega, fun c j hc => by omega, fun i j _ hj => by omega, fun i hi => by omega, fun c hc => by omega⟩, fun K o cb sb hK => ?_, fun K r hK => ?_⟩
  · rw [va_up_ne _ _ (by decide), va_up_ne _ _ (by decide), va_up_self]; rfl
  · rw [va_up_ne _ _ (by decide), va_up_self]; rfl
  · rw [va_up_ne _ _ (by decide), va_up_self]; rfl
  · unfold p_B_wipe p_Dr_drop
    rw [c_g0_0, c_g1_2, c_g0_0, c_ob1, m_call, c_p1_1, c_p1_2, c_p1_3, h3]
    exact hK
  · unfold p_M_wipe
    rw [m_g6, m_p6, m_p7, m_p8, h4]
    exact hK
theorem st_number {X M : Nat} {ca : Nat → Nat → Int32} {nx db : Nat} {bs : Nat → Nat} {dyn : xM} {cs : Nat → Int32} {cr : Nat → Nat → Option Nat} {cu : Option Nat} {A : Nat → Nat → Int32} {B : Nat → Nat → Int64} {S : Nat → Int32} {N C : Nat} {st : List Nat} {dn ls num cl : Nat → Nat} (h : Rd (X + 66) nx db bs dyn cs cr cu A B S N C st dn ls num cl) (f v : Int32) :
    ∃ (x : Int32) (dyn' : xM) (A' : Nat → Nat → Int32), (x = 0 ∨ x = 1) ∧ Rd (X + 66) nx db bs dyn' cs cr cu A' B S N C st dn ls num cl ∧ agr [3, 4] A' A ∧ frm (fun q => ∃ i, i < N ∧ q = dn i) bs nx dyn bs nx dyn' ∧
      (∀ (K : Int32 → xS → Prop) (o : xM) (cb sb : Nat), K x (cheap X cs ca cr cu dyn', o, nx, cb, sb) → p_B_number X f v K (cheap X cs ca cr cu dyn, o, nx, cb, sb)) ∧
      (∀ (K : Int32 → xS → Prop) (r : xM × Nat × Nat × Nat), K x (mheap M A' B S, r) → p_M_number M f v K (mheap M A B S, r)) := by
  obtain ⟨⟨h1, h2, h3, h4, h5, h6, h7, h8⟩, ⟨hs1, hs2⟩, hnode, hgap, hpar, -⟩ := id h
  have bad : (∀ (K : Int32 → xS → Prop) (o : xM) (cb sb : Nat), p_B_number X f v K (cheap X cs ca cr cu dyn, o, nx, cb, sb) ↔ K 0 (cheap X cs ca cr cu dyn, o, nx, cb, sb)) → (∀ (K : Int32 → xS → Prop) (r : xM × Nat × Nat × Nat), p_M_number M f v K (mheap M A B S, r) ↔ K 0 (mheap M A B S, r)) →
      ∃ (x : Int32) (dyn' : xM) (A' : Nat → Nat → Int32), (x = 0 ∨ x = 1) ∧ Rd (X + 66) nx db bs dyn' cs cr cu A' B S N C st dn ls num cl ∧ agr [3, 4] A' A ∧ frm (fun q => ∃ i, i < N ∧ q = dn i) bs nx dyn bs nx dyn' ∧
      (∀ (K : Int32 → xS → Prop) (o : xM) (cb sb : Nat), K x (cheap X cs ca cr cu dyn', o, nx, cb, sb) → p_B_number X f v K (cheap X cs ca cr cu dyn, o, nx, cb, sb)) ∧
      (∀ (K : Int32 → xS → Prop) (r : xM × Nat × Nat × Nat), K x (mheap M A' B S, r) → p_M_number M f v K (mheap M A B S, r)) := fun q1 q2 => ⟨0, dyn, A, Or.inl rfl, h, agr.rf, frm.rf, fun K o cb sb hK => (q1 K o cb sb).mpr hK, fun K r hK => (q2 K r).mpr hK⟩
  rcases inR_cases f 0 3 with hf | hf
  · refine bad (fun K o cb sb => ?_) (fun K r => ?_)
    · unfold p_B_number; rw [m_call, B_isField_eq, hf]; dsimp only; rw [xif_t rfl, xrz_0]
    · obtain ⟨r1, r2, r3, r4⟩ := r
      unfold p_M_number; rw [m_call, M_in03, hf]; dsimp only; rw [xif_t rfl, xrz_0]
  rcases inR_cases v (-1000) 1000 with hv | hv
  · refine bad (fun K o cb sb => ?_) (fun K r => ?_)
    · unfold p_B_number; rw [m_call, B_isField_eq, hf]; dsimp only; rw [xif_f (by decide), m_call, B_isNumber_eq, hv]; dsimp only; rw [xif_t rfl, xrz_0]
    · obtain ⟨r1, r2, r3, r4⟩ := r
      unfold p_M_number; rw [m_call, M_in03, hf]; dsimp only; rw [xif_f (by decide), m_call, M_in1000, hv]; dsimp only; rw [xif_t rfl, xrz_0]
  cases st with
  | nil =>
    have hcu : cu = none := h7
    subst hcu
    refine bad (fun K o cb sb => ?_) (fun K r => ?_)
    · unfold p_B_number; rw [m_call, B_isField_eq, hf]; dsimp only; rw [xif_f (by decide), m_call, B_isNumber_eq, hv]; dsimp only; rw [xif_f (by decide), c_g0_0, c_g1_3, xnn_n, xrz_0]
    · obtain ⟨r1, r2, r3, r4⟩ := r
      unfold p_M_number; rw [m_call, M_in03, hf]; dsimp only; rw [xif_f (by decide), m_call, M_in1000, hv]; dsimp only; rw [xif_f (by decide), m_g8, h8, xif_f (by decide), xrz_0]
  | cons i rest =>
    have hi : i < N := hs2 i List.mem_cons_self
    have hcu : cu = some (dn i) := h7
    have hS8 : S 8 = nI i := h8
    obtain ⟨p, hp, rfl⟩ := in03_of hf
    obtain ⟨-, ty, va, wd, pl, d2, d3, d4⟩ := hnode i hi
    have hin : vp_in (nI p) 4 := vp_in_nI hp (by decide)
    have hcl : (nI p).toNatClampNeg = p := cl_nI (by omega)
    have hin2 : vp_in (nI (4 * i + p)) 40 := vp_in_nI (by omega) (by decide)
    have hcl2 : (nI (4 * i + p)).toNatClampNeg = 4 * i + p := cl_nI (by omega)
    have hlo : X + 66 ≤ dn i := d2.1.1
    have b0 := d2.1.2.2 0 (by decide); have b1 := d2.1.2.2 1 (by decide); have b2 := d2.1.2.2 2 (by decide); have b3 := d2.1.2.2 3 (by decide)
    refine ⟨1, va_up (va_up dyn (dn i + 1) (some (.inl (0, 4, .inl (va_up ty p 1))))) (dn i + 2) (some (.inl (0, 4, .inl (va_up va p v)))), va_up (va_up A 3 (va_up (A 3) (4 * i + p) 1)) 4 (va_up (A 4) (4 * i + p) v), Or.inr rfl, ?_, (agr.rf.up (by decide)).up (by decide), ?_, fun K o cb sb hK => ?_, fun K r hK => ?_⟩
    · refine Rd_upd h (i := i) (ty' := va_up ty p 1) (va' := va_up va p v) (wd' := wd) (pl := pl) ?_ d4 ((frm.rf.up (a := dn i + 1) (Or.inr b1)).up (a := dn i + 2) (Or.inr b2)) ?_ ?_ ?_ ?_ ?_ hi
      · refine ⟨d2.1, ?_, ?_, va_up_self _ _ _, ?_⟩
        · rw [va_up_ne _ _ (by omega), va_up_ne _ _ (by omega)]; exact d2.2.1
        · rw [va_up_ne _ _ (by omega), va_up_self]
        · rw [va_up_ne _ _ (by omega), va_up_ne _ _ (by omega)]; exact d2.2.2.2.2
      · intro g hg
        rw [va_up_ne (j := 3) (k := 4) _ _ (by decide), va_up_self, va_up_self]
        by_cases e : g = p
        · subst e
          rw [va_up_self, va_up_self, va_up_self, va_up_self]
          exact ⟨rfl, rfl, Or.inr (Or.inl ⟨rfl, hv⟩)⟩
        · rw [va_up_ne _ _ e, va_up_ne _ _ e, va_up_ne _ _ (by omega), va_up_ne _ _ (by omega)]
          exact d3 g hg
      · intro j g hj hg
        rw [va_up_ne (j := 3) (k := 4) _ _ (by decide), va_up_self, va_up_self, va_up_ne _ _ (by omega), va_up_ne _ _ (by omega)]
        exact ⟨rfl, rfl, rfl⟩
      · rw [va_up_ne _ _ (by decide), va_up_ne _ _ (by decide)]
      · rw [va_up_ne _ _ (by decide), va_up_ne _ _ (by decide)]
      · rw [va_up_ne _ _ (by decide), va_up_ne _ _ (by decide)]
    · exact (frm.rf.up (a := dn i + 1) (Or.inr ⟨i, hi, b1⟩)).up (a := dn i + 2) (Or.inr ⟨i, hi, b2⟩)
    · subst hcu
      unfold p_B_number
      rw [m_call, B_isField_eq, hf]
      dsimp only
      rw [xif_f (by decide), m_call, B_isNumber_eq, hv]
      dsimp only
      rw [xif_f (by decide), c_g0_0, c_g1_3, xnn_s, c_g0_0, c_g1_3, y_ob hlo d2.2.1, m_call]
      unfold p_Nd_putNumber
      rw [y_gR (v := some (dn i + 1)) hlo d2.2.1 rfl, y_as (by omega) d2.2.2.1, hcl, y_gR (v := some (dn i + 2)) hlo (by rw [va_up_ne _ _ (by omega)]; exact d2.2.1) rfl, y_as (by omega) (by rw [va_up_ne _ _ (by omega)]; exact d2.2.2.2.1), hcl]
      dsimp only
      rw [xrz_1]
      exact ⟨hin, hin, hK⟩
    · obtain ⟨r1, r2, r3, r4⟩ := r
      unfold p_M_number
      rw [m_call, M_in03, hf]
      dsimp only
      rw [xif_f (by decide), m_call, M_in1000, hv]
      dsimp only
      rw [xif_f (by decide), m_g8, hS8, xif_t (nI_pos' (by omega)), m_g3, m_g8, hS8, i4, m_w3, hcl2, m_g4, m_g8, hS8, i4, m_w4, hcl2, xrz_1, va_up_ne (j := 4) (k := 3) _ _ (by decide)]
      exact ⟨hin2, hin2, hK⟩
theorem st_close {X M : Nat} {ca : Nat → Nat → Int32} {nx db : Nat} {bs : Nat → Nat} {dyn : xM} {cs : Nat → Int32} {cr : Nat → Nat → Option Nat} {cu : Option Nat} {A : Nat → Nat → Int32} {B : Nat → Nat → Int64} {S : Nat → Int32} {N C : Nat} {st : List Nat} {dn ls num cl : Nat → Nat} (h : Rd (X + 66) nx db bs dyn cs cr cu A B S N C st dn ls num cl) :
    ∃ (x : Int32) (cs' : Nat → Int32) (cr' : Nat → Nat → Option Nat) (cu' : Option Nat) (dyn' : xM) (A' : Nat → Nat → Int32) (S' : Nat → Int32) (C' : Nat) (st' : List Nat) (num' cl' : Nat → Nat), Rd (X + 66) nx db bs dyn' cs' cr' cu' A' B S' N C' st' dn ls num' cl' ∧ C ≤ C' ∧ C' ≤ C + 1 ∧ agr [101] cs' cs ∧ agr [2] cr' cr ∧ agr [2] A' A ∧ agr [7, 8] S' S ∧ frm (fun q => ∃ i, i < N ∧ q = dn i) bs nx dyn bs nx dyn' ∧
      (∀ (K : Int32 → xS → Prop) (o : xM) (cb sb : Nat), K x (cheap X cs' ca cr' cu' dyn', o, nx, cb, sb) → p_B_close X K (cheap X cs ca cr cu dyn, o, nx, cb, sb)) ∧
      (∀ (K : Int32 → xS → Prop) (r : xM × Nat × Nat × Nat), K x (mheap M A' B S', r) → p_M_close M K (mheap M A B S, r)) := by
  obtain ⟨⟨h1, h2, h3, h4, h5, h6, h7, h8⟩, ⟨hs1, hs2⟩, hnode, hgap, hpar, ⟨hn1, hn2⟩, hI, hJ, hP, hm1, hm2, hm3⟩ := id h
  cases st with
  | nil =>
    have hcu : cu = none := h7
    subst hcu
    refine ⟨-2, cs, cr, none, dyn, A, S, C, [], num, cl, h, Nat.le_refl _, Nat.le_succ _, agr.rf, agr.rf, agr.rf, agr.rf, frm.rf, fun K o cb sb hK => ?_, fun K r hK => ?_⟩
    · unfold p_B_close; rw [c_g0_0, c_g1_3, xnn_n]; exact hK
    · unfold p_M_close; rw [m_g8, h8, xif_f (by decide)]; exact hK
  | cons i rest =>
    have hi : i < N := hs2 i List.mem_cons_self
    have hcu : cu = some (dn i) := h7
    have hS8 : S 8 = nI i := h8
    have hCN : C < 10 := by have : (i :: rest).length = rest.length + 1 := rfl; omega
    obtain ⟨-, ty, va, wd, pl, d2, d3, d4⟩ := hnode i hi
    have hlo : X + 66 ≤ dn i := d2.1.1
    have b0 := d2.1.2.2 0 (by decide)
    have hir : i ∉ rest := fun q => absurd (hs1.2.1 i q) (Nat.lt_irrefl i)
    have hrl : ∀ j ∈ rest, j < N := fun j hj => hs2 j (List.mem_cons_of_mem _ hj)
    have hcli : ∀ c, c < C → cl c ≠ i := fun c hc q => (hn2 c hc).2.1 (by rw [q]; exact List.mem_cons_self)
    refine ⟨nI (N - (C + 1)), va_up cs 101 (nI (C + 1)), va_up cr 2 (va_up (cr 2) C (some (dn i))), rest.head?.map dn, va_up dyn (dn i) (some (.inr (2, [.int (A 0 i), va_rf (parA dn (A 1 i)), .int (nI (ls i)), .int (nI C), .ref (dn i + 1), .ref (dn i + 2), .ref (dn i + 3)]))), va_up A 2 (va_up (A 2) i (nI C)), va_up (va_up S 7 (nI (C + 1))) 8 (opI rest), C + 1, rest, va_up num i C, va_up cl C i, ?_, Nat.le_succ _, Nat.le_refl _, agr.rf.up (by decide), agr.rf.up (by decide), agr.rf.up (by decide), (agr.rf.up (by decide)).up (by decide), frm.rf.up (Or.inr ⟨i, hi, b0⟩), fun K o cb sb hK => ?_, fun K r hK => ?_⟩
    · refine ⟨⟨h1, by simp at h2 ⊢; omega, (va_up_ne _ _ (by decide)).trans h3, ?_, va_up_self _ _ _, ?_, rfl, va_up_self _ _ _⟩, ⟨?_, hrl⟩, fun j hj => ?_, hgap, ?_, ⟨fun j hj hjn => ?_, fun c hc => ?_⟩, fun c w hc hw hne hor => ?_, fun c z j hc hz hor hA => ?_, fun c j hc hj hA => ?_, hm1, fun j hj => Nat.le_succ_of_le (hm2 j hj), fun c hc => ?_⟩
      · rw [va_up_ne _ _ (by decide), va_up_ne _ _ (by decide)]; exact h4
      · rw [va_up_ne _ _ (by decide), va_up_self]
      · rw [va_up_ne _ _ (by decide)]; exact hs1.2.2
      · obtain ⟨e1, ty1, va1, wd1, pl1, e2, e3, e4⟩ := hnode j hj
        rw [va_up_ne (j := 0) _ _ (by decide), va_up_ne (j := 1) _ _ (by decide), va_up_ne (j := 3) _ _ (by decide), va_up_ne (j := 4) _ _ (by decide)]
        refine ⟨e1, ?_⟩
        by_cases e : j = i
        · subst e
          refine ⟨ty, va, wd, nI C, ⟨d2.1, va_up_self _ _ _, ?_, ?_, ?_⟩, d3, fun _ => by rw [va_up_self]⟩
          · rw [va_up_ne _ _ (by omega)]; exact d2.2.2.1
          · rw [va_up_ne _ _ (by omega)]; exact d2.2.2.2.1
          · rw [va_up_ne _ _ (by omega)]; exact d2.2.2.2.2
        · refine ⟨ty1, va1, wd1, pl1, e2.to (P := fun q => q = dn i) (frm.rf.up (Or.inr b0)) ?_, e3, fun hjn => ?_⟩
          · intro q
            have q' : dn j = dn i := q
            rcases Nat.lt_or_gt_of_ne e with w | w
            · have := hgap j i w hi; omega
            · have := hgap i j w hj; omega
          · rw [va_up_ne _ _ e]
            exact e4 (fun z => by
              rcases List.mem_cons.mp z with z | z
              · exact e z
              · exact hjn z)
      · rw [va_up_ne (j := 0) _ _ (by decide), va_up_ne (j := 1) _ _ (by decide)]; exact hpar
      · rw [va_up_self]
        by_cases e : j = i
        · subst e
          rw [va_up_self, va_up_self, va_up_self]
          exact ⟨by omega, rfl, rfl⟩
        · have := hn1 j hj (fun z => by
            rcases List.mem_cons.mp z with z | z
            · exact e z
            · exact hjn z)
          rw [va_up_ne _ _ e, va_up_ne _ _ e, va_up_ne _ _ (by omega)]
          exact ⟨by omega, this.2.1, this.2.2⟩
      · rw [va_up_self]
        by_cases e : c = C
        · subst e
          rw [va_up_self, va_up_self, va_up_self]
          exact ⟨hi, hir, rfl, rfl⟩
        · have hc' : c < C := by omega
          obtain ⟨q1, q2, q3, q4⟩ := hn2 c hc'
          rw [va_up_ne _ _ e, va_up_ne _ _ (hcli c hc'), va_up_ne _ _ e]
          exact ⟨q1, fun z => q2 (List.mem_cons_of_mem _ z), q3, q4⟩
      · by_cases e : c = C
        · subst e
          rw [va_up_self] at hne ⊢
          have hw' : w ∈ rest := by
            rcases hor with q | q
            · exact q
            · rw [va_up_ne _ _ hne] at q
              by_cases hwr : w ∈ i :: rest
              · rcases List.mem_cons.mp hwr with z | z
                · exact absurd z hne
                · exact z
              · have := (hn1 w hw hwr).1; omega
          have := hs1.2.1 w hw'
          exact ⟨fun _ => this, fun _ => hm2 w hw⟩
        · have hc' : c < C := by omega
          rw [va_up_ne _ _ e] at hne ⊢
          refine hI c w hc' hw hne ?_
          rcases hor with q | q
          · exact Or.inl (List.mem_cons_of_mem _ q)
          · by_cases e2 : w = i
            · subst e2; exact Or.inl List.mem_cons_self
            · rw [va_up_ne _ _ e2] at q; exact Or.inr q
      · rw [va_up_ne (j := 1) _ _ (by decide)] at hA
        by_cases e : c = C
        · subst e
          rw [va_up_self] at hz hA
          have hz' : z ∈ rest := by
            rcases hor with q | q
            · exact q
            · rw [va_up_ne _ _ (by omega)] at q
              by_cases hwr : z ∈ i :: rest
              · rcases List.mem_cons.mp hwr with w | w
                · omega
                · exact w
              · have := (hn1 z (by omega) hwr).1; omega
          rw [hs1.1] at hA
          cases rest with
          | nil => cases hz'
          | cons j' r' =>
            have hj' : j' < N := hrl j' List.mem_cons_self
            rcases (hpar i hi).2 with ⟨-, q, -⟩ | ⟨j2, hj2, q⟩
            · rw [hs1.1] at q; exact absurd q.symm (m1_ne (by omega))
            · rw [hs1.1] at q
              have e1 : j' = j2 := (nI_eq (by omega) (by omega)).mp q
              have hj : j < 2 ^ 31 ∨ ¬ j < 2 ^ 31 := by omega
              have e2 : (nI j').toNatClampNeg = (nI j).toNatClampNeg := by rw [show nI j' = nI j from hA]
              rcases List.mem_cons.mp hz' with w | w
              · subst w
                rcases hj with hj | hj
                · rw [cl_nI (by omega), cl_nI hj] at e2; omega
                · omega
              · have := hs1.2.2.2.1 z w
                rcases hj with hj | hj
                · rw [cl_nI (by omega), cl_nI hj] at e2; omega
                · omega
        · have hc' : c < C := by omega
          rw [va_up_ne _ _ e] at hz hA
          refine hJ c z j hc' hz ?_ hA
          rcases hor with q | q
          · exact Or.inl (List.mem_cons_of_mem _ q)
          · by_cases e2 : z = i
            · subst e2; exact Or.inl List.mem_cons_self
            · rw [va_up_ne _ _ e2] at q; exact Or.inr q
      · rw [va_up_ne (j := 1) _ _ (by decide)] at hA
        by_cases e : c = C
        · subst e
          rw [va_up_self] at hA
          rw [hs1.1] at hA
          cases rest with
          | nil => exact absurd hA (m1_ne (by omega))
          | cons j' r' =>
            have hj' : j' < N := hrl j' List.mem_cons_self
            have : j' = j := (nI_eq (by omega) (by omega)).mp hA
            subst this
            exact Or.inl List.mem_cons_self
        · have hc' : c < C := by omega
          rw [va_up_ne _ _ e] at hA
          rcases hP c j hc' hj hA with q | q
          · rcases List.mem_cons.mp q with w | w
            · subst w; rw [va_up_self]; exact Or.inr hc'
            · exact Or.inl w
          · by_cases e2 : j = i
            · subst e2; rw [va_up_self]; exact Or.inr hc'
            · rw [va_up_ne _ _ e2]; exact Or.inr q
      · by_cases e : c = C
        · subst e; rw [va_up_self]; exact hm2 i hi
        · rw [va_up_ne _ _ e]; exact hm3 c (by omega)
    · subst hcu
      have hpo : parA dn (A 1 i) = rest.head?.map dn := by
        rw [hs1.1]
        exact parA_op dn rest (fun j hj => by have := hrl j hj; omega)
      have hin : vp_in (nI C) 10 := vp_in_nI hCN (by decide)
      unfold p_B_close
      rw [c_g0_0, c_g1_3, xnn_s, c_g0_0, c_ob1, m_call]
      unfold p_Dr_end
      rw [c_g1_3, c_g1_1, h5, y_pI hlo d2.2.1 (Nat.le_of_ble_eq_true rfl), show ([.int (A 0 i), va_rf (parA dn (A 1 i)), .int (nI (ls i)), .int pl, .ref (dn i + 1), .ref (dn i + 2), .ref (dn i + 3)] : List Value).set 3 (.int (nI C)) = [.int (A 0 i), va_rf (parA dn (A 1 i)), .int (nI (ls i)), .int (nI C), .ref (dn i + 1), .ref (dn i + 2), .ref (dn i + 3)] from rfl, c_g1_0, c_g1_1, c_g1_3, c_w2, h5, cl_nI (by omega), c_g1_1, h5, c_p1_1, nI_1, c_g1_3, y_gR (ci := 2) (k := 1) (fs := [.int (A 0 i), va_rf (parA dn (A 1 i)), .int (nI (ls i)), .int (nI C), .ref (dn i + 1), .ref (dn i + 2), .ref (dn i + 3)]) (v := parA dn (A 1 i)) hlo (va_up_self _ _ _) rfl, c_p1_3]
      refine ⟨hin, fun b q => by cases q; exact ⟨_, by rw [cheap_d hlo, va_up_self]⟩, ?_⟩
      dsimp only
      rw [c_g0_0, c_g1_2, c_g0_0, c_g1_1, va_up_ne _ _ (by decide), va_up_self, h3, pk_sub (by simp at h2; omega)]
      rw [← hpo] at hK
      exact hK
    · have hin : vp_in (nI i) 10 := vp_in_nI (by omega) (by decide)
      unfold p_M_close
      rw [m_g8, hS8, xif_t (nI_pos' (by omega)), m_g2, m_g8, hS8, m_g7, h6, m_w2, cl_nI (by omega), m_g7, h6, m_p7, nI_1, m_g1, m_g8, va_up_ne _ _ (by decide), hS8, m_r1, cl_nI (by omega), va_up_ne (j := 1) _ _ (by decide), hs1.1, m_p8, m_g6, va_up_ne _ _ (by decide), va_up_ne _ _ (by decide), h4, m_g7, va_up_ne _ _ (by decide), va_up_self, pk_sub (by simp at h2; omega)]
      exact ⟨hin, hin, hK⟩
