/-! merge, of both -/
section MG
variable {X M nx db : Nat} {bs : Nat → Nat} {dyn : xM} {cs : Nat → Int32} {ca : Nat → Nat → Int32} {cr : Nat → Nat → Option Nat} {cu : Option Nat} {A : Nat → Nat → Int32} {B : Nat → Nat → Int64} {S : Nat → Int32} {D O K : Nat} {fr sz da na le : Nat → Nat}
theorem M_merge_eq {KK : Int32 → xS → Prop} {o : xM} {n1 cb sb a m : Nat} (hD : S 18 = nI D) (h180 : D ≤ 180) (hK : S 19 = nI K) (h6 : K ≤ 6) (hm : 2 ≤ m) (ham : a + m ≤ K) (hs : segs A D K) {w : Nat} (hw : w = if (catL A D a m).filter (lvB (A 16)) = [] then m else m - 1) :
    p_M_merge M (nI a) (nI m) KK (mheap M A B S, o, n1, cb, sb) ↔ KK (nI (K - w)) (mheap M (mgA A a m w D) B (va_up (va_up S 20 (S 20 + nI ((catL A D a m).filter (fun x => !lvB (A 16) x)).length)) 19 (nI (K - w))), o, n1, cb, sb) := by
  rw [cat_sel hs h6 m a ham] at hw ⊢
  unfold p_M_merge
  have i1 : inR (nI m) 2 6 = 1 := by unfold inR; rw [nI_toInt (by omega), if_neg (by omega)]
  have i2 : inR (nI a) 0 (nI (K - m)).toInt = 1 := by unfold inR; rw [nI_toInt (by omega), nI_toInt (by omega), if_neg (by omega)]
  rw [m_call, M_in_eq, show (2 : Int32).toInt = 2 from rfl, show (6 : Int32).toInt = 6 from rfl, i1]
  dsimp only
  rw [xif_f (by decide), m_g19, hK, pk_sub (by omega), m_call, M_in_eq, show (0 : Int32).toInt = 0 from rfl, i2]
  dsimp only
  rw [xif_f (by decide)]
  have L1 := fun K Kx l => M_merge_L (M := M) (B := B) (o := o) (nx := n1) (cb := cb) (sb := sb) (a := a) (m := m) (K := K) (Kx := Kx) h180 (by omega) (by omega) D 1000 0 l A S hD (by omega) (by omega)
  simp only [show nI 0 = 0 from rfl] at L1
  rw [L1]
  have hD' : ∀ v, va_up S 20 v 18 = nI D := fun v => (va_up_ne _ _ (by decide)).trans hD
  have L2 := fun K Kx w v A r => M_down_L (M := M) (B := B) (a := a) (m := m) (K := K) (Kx := Kx) (w := w) (r := r) h180 (hD' v) D 1000 0 A (by omega) (by omega)
  simp only [show nI 0 = 0 from rfl] at L2
  by_cases c : (sel (rgB (A 14) a m) 0 D).filter (lvB (A 16)) = []
  · rw [if_pos c] at hw
    subst hw
    rw [if_pos c, xif_t rfl, L2, m_g19, va_up_ne _ _ (by decide), hK, m_p19, pk_sub (by omega), m_g19, va_up_self, va_up_self, bx_uu]
    exact Iff.rfl
  · rw [if_neg c] at hw
    subst hw
    rw [if_neg c, xif_f (by decide), show nI m - 1 = nI (m - 1) from pk_sub (b := 1) (by omega), L2, m_g19, va_up_ne _ _ (by decide), hK, m_p19, pk_sub (by omega), m_g19, va_up_self, va_up_self, bx_uu]
    exact Iff.rfl
theorem M_merge_no {KK : Int32 → xS → Prop} {o : xM} {n1 cb sb : Nat} {l1 l2 : Int32} (h : inR l2 2 6 = 0 ∨ inR l1 0 (S 19 - l2).toInt = 0) : p_M_merge M l1 l2 KK (mheap M A B S, o, n1, cb, sb) ↔ KK (-1) (mheap M A B S, o, n1, cb, sb) := by
  unfold p_M_merge
  rw [m_call, M_in_eq, show (2 : Int32).toInt = 2 from rfl, show (6 : Int32).toInt = 6 from rfl]
  rcases inR_cases l2 2 6 with q | q
  · rw [q]; dsimp only; rw [xif_t rfl]
  · rw [q]
    dsimp only
    rw [xif_f (by decide), m_g19, m_call, M_in_eq, show (0 : Int32).toInt = 0 from rfl]
    rcases h with h | h
    · rw [q] at h; exact absurd h (by decide)
    · rw [h]; dsimp only; rw [xif_t rfl]
theorem st_merge (hk : Rk (X + 66) nx db bs dyn A B D O fr sz da na le) (hr : Rr (X + 66) nx bs dyn cs cr A S D O K sz da) (hlo : X + 66 ≤ nx) (l1 l2 : Int32) :
    ∃ (x : Int32) (cs' : Nat → Int32) (cr' : Nat → Nat → Option Nat) (dyn' : xM) (nx' : Nat) (bs' : Nat → Nat) (A' : Nat → Nat → Int32) (S' : Nat → Int32) (K' : Nat), Rk (X + 66) nx' db bs' dyn' A' B D O fr sz da na le ∧ Rr (X + 66) nx' bs' dyn' cs' cr' A' S' D O K' sz da ∧ agr [14] A' A ∧ agr [19, 20] S' S ∧ agr [8, 10] cs' cs ∧ agr [16] cr' cr ∧ frm (fun _ => False) bs nx dyn bs' nx' dyn' ∧
      (∀ (KK : Int32 → xS → Prop) (o : xM), (∀ cb sb, KK x (cheap X cs' ca cr' cu dyn', o, nx', cb, sb)) → p_B_merge X l1 l2 KK (cheap X cs ca cr cu dyn, o, nx, 2, 183)) ∧
      (∀ (KK : Int32 → xS → Prop) (r : xM × Nat × Nat × Nat), KK x (mheap M A' B S', r) → p_M_merge M l1 l2 KK (mheap M A B S, r)) := by
  obtain ⟨nodes, hn⟩ := docs_of hk
  obtain ⟨⟨g1, g2, g3, g4, g5, g6, g7, g8⟩, ⟨b1, b2, b3, b4⟩, hsg, hs⟩ := id hr
  have h01 : ∀ d, d < D → A 16 d = 0 ∨ A 16 d = 1 := fun d hd => (hk.1 d hd).2.2.1
  have no : (∀ (KK : Int32 → xS → Prop) (G : xS), G.1 = cheap X cs ca cr cu dyn → KK (-1) G → p_B_merge X l1 l2 KK G) → (inR l2 2 6 = 0 ∨ inR l1 0 (S 19 - l2).toInt = 0) → ∃ (x : Int32) (cs' : Nat → Int32) (cr' : Nat → Nat → Option Nat) (dyn' : xM) (nx' : Nat) (bs' : Nat → Nat) (A' : Nat → Nat → Int32) (S' : Nat → Int32) (K' : Nat), Rk (X + 66) nx' db bs' dyn' A' B D O fr sz da na le ∧ Rr (X + 66) nx' bs' dyn' cs' cr' A' S' D O K' sz da ∧ agr [14] A' A ∧ agr [19, 20] S' S ∧ agr [8, 10] cs' cs ∧ agr [16] cr' cr ∧ frm (fun _ => False) bs nx dyn bs' nx' dyn' ∧
      (∀ (KK : Int32 → xS → Prop) (o : xM), (∀ cb sb, KK x (cheap X cs' ca cr' cu dyn', o, nx', cb, sb)) → p_B_merge X l1 l2 KK (cheap X cs ca cr cu dyn, o, nx, 2, 183)) ∧
      (∀ (KK : Int32 → xS → Prop) (r : xM × Nat × Nat × Nat), KK x (mheap M A' B S', r) → p_M_merge M l1 l2 KK (mheap M A B S, r)) := fun q1 q2 =>
    ⟨-1, cs, cr, dyn, nx, bs, A, S, K, hk, hr, agr.rf, agr.rf, agr.rf, agr.rf, frm.rf, fun KK o hK => q1 KK _ rfl (hK _ _), fun KK r hK => by
      obtain ⟨r1, r2, r3, r4⟩ := r
      exact (M_merge_no q2).mpr hK⟩
  by_cases c1 : l2.toInt < 2
  · refine no (fun KK G hG hK => ?_) (Or.inl (inR_0.mpr (Or.inl c1)))
    unfold p_B_merge
    rw [xif_t (by rw [i_lt]; exact c1)]
    exact hK
  by_cases c2 : 6 < l2.toInt
  · refine no (fun KK G hG hK => ?_) (Or.inl (inR_0.mpr (Or.inr c2)))
    unfold p_B_merge
    rw [xif_f (by rw [i_lt]; exact c1), xif_t (by rw [i_lt]; exact c2)]
    exact hK
  obtain ⟨m, hm7, rfl⟩ := vp_in_of (x := l2) (n := 7) (vp_in_iff.mpr ⟨by omega, by omega⟩) (by decide)
  rw [nI_toInt (by omega)] at c1 c2
  have hm2 : 2 ≤ m := by omega
  have f1 : ¬ nI m < 2 := by rw [i_lt, nI_toInt (by omega), show (2 : Int32).toInt = 2 from rfl]; omega
  have f2 : ¬ (6 : Int32) < nI m := by rw [i_lt, nI_toInt (by omega), show (6 : Int32).toInt = 6 from rfl]; omega
  by_cases c3 : l1.toInt < 0
  · refine no (fun KK G hG hK => ?_) (Or.inr (inR_0.mpr (Or.inl c3)))
    unfold p_B_merge
    rw [xif_f f1, xif_f f2, xif_t (by rw [i_lt]; exact c3)]
    exact hK
  have f3 : ¬ l1 < 0 := by rw [i_lt]; exact c3
  have hsub : (nI K - nI m).toInt = (K : Int) - m := pk_sub_toInt (by omega) (by omega)
  by_cases c4 : (K : Int) - m < l1.toInt
  · refine no (fun KK G hG hK => ?_) (Or.inr (inR_0.mpr (Or.inr (by rw [g6, hsub]; exact c4))))
    obtain ⟨G1, G2⟩ := G
    have hG' : G1 = cheap X cs ca cr cu dyn := hG
    subst hG'
    unfold p_B_merge
    rw [xif_f f1, xif_f f2, xif_f f3, c_g0_8, g5, xif_f (by rw [i_le, hsub]; omega)]
    exact hK
  obtain ⟨a, ha7, rfl⟩ := vp_in_of (x := l1) (n := 7) (vp_in_iff.mpr ⟨by omega, by omega⟩) (by decide)
  rw [nI_toInt (by omega)] at c3 c4
  have ham : a + m ≤ K := by omega
  have hin : vp_in (nI a) 6 := vp_in_nI (by omega) (by decide)
  have hlen : ((catL A D a m).filter (lvB (A 16))).length ≤ 180 := by
    have := List.length_filter_le (lvB (A 16)) (catL A D a m)
    have h2 : (catL A D a m).length ≤ D := by rw [cat_sel hs g7 m a ham]; exact sel_len _ _
    omega
  have hrows : ∀ k, k < K → ∃ t fs, cr 16 k = some t ∧ X + 66 ≤ t ∧ t + 2 ≤ nx ∧ dyn t = some (.inr (8, fs)) := fun k hk' => by
    obtain ⟨t, cap, docs, a1, a2, -⟩ := hsg k hk'
    exact ⟨t, _, a1, a2.1.1, a2.1.2.1, a2.2.1⟩
  have hBL : ∀ (KK : Int32 → xS → Prop) (o : xM) (cb sb : Nat), p_B_merge X (nI a) (nI m) KK (cheap X cs ca cr cu dyn, o, nx, cb, sb) ↔ (xif (nI ((catL A D a m).filter (lvB (A 16))).length ≤ 0) (p_B_merge_B100 X (nI a) (nI m) (nI ((catL A D a m).filter (fun x => !lvB (A 16) x)).length) 0 KK) (xgR 9 3 (some X) fun v12 => xob 9 (some X) fun b => xcall 2 183 (p_B_mergedRow b (nI a) (nI m) (nI ((catL A D a m).filter (lvB (A 16))).length)) fun v13 => xasR 5 8 v12 (nI a) v13 (p_B_merge_B100 X (nI a) (nI m) (nI ((catL A D a m).filter (fun x => !lvB (A 16) x)).length) 1 KK))) (cheap X cs ca cr cu dyn, o, nx, cb, sb) := by
    intro KK o cb sb
    unfold p_B_merge
    rw [xif_f f1, xif_f f2, xif_f (nI_pos (by omega)), c_g0_8, g5, xif_t (by rw [i_le, hsub, nI_toInt (by omega)]; omega)]
    have L := fun KK Kx => B_merge_L (o := o) (cb := cb) (sb := sb) (ca := ca) (cu := cu) (KK := KK) (Kx := Kx) hk hr ham m 1000 a 0 0 (by omega) rfl
    simp only [Nat.zero_add, show nI 0 = 0 from rfl] at L
    rw [L]
  have hagr : ∀ (w : Nat), agr [14] (mgA A a m w D) A := fun w => agr.rf.up (by decide)
  by_cases c0 : (catL A D a m).filter (lvB (A 16)) = []
  · have dead : ∀ d k, d < D → a ≤ k → k < a + m → A 14 d = nI k → A 16 d = 0 := fun d k hd h1 h2 h3 => by
      by_cases q : A 16 d = 0
      · exact q
      · have : d ∈ (catL A D a m).filter (lvB (A 16)) := by
          rw [cat_sel hs g7 m a ham]
          exact List.mem_filter.mpr ⟨(mem_sel _ _).mpr ⟨Nat.zero_le _, by omega, rgB_t.mpr (by rw [h3, nI_toInt (by omega)]; omega)⟩, lvB_t.mpr q⟩
        rw [c0] at this
        cases this
    obtain ⟨s1, s2, s3, -, s5⟩ := merge_segs hs g7 ham hm2 h01 (w := m) (Or.inr ⟨rfl, dead⟩)
    refine ⟨nI (K - m), va_up (va_up cs 8 (nI (K - m))) 10 (cs 10 + nI ((catL A D a m).filter (fun x => !lvB (A 16) x)).length), va_up cr 16 (mvF (cr 16) (a + m) m K), dyn, nx, bs, mgA A a m m D, va_up (va_up S 20 (S 20 + nI ((catL A D a m).filter (fun x => !lvB (A 16) x)).length)) 19 (nI (K - m)), K - m, ?_, ⟨⟨?_, ?_, ?_, ?_, ?_, va_up_self _ _ _, by omega, g8⟩, ?_, fun k hk' => ?_, s1⟩, hagr m, (agr.rf.up (by decide)).up (by decide), (agr.rf.up (by decide)).up (by decide), agr.rf.up (by decide), frm.rf, fun KK o hK => ?_, fun KK r hK => ?_⟩
    · exact hk.to (P := fun _ => False) frm.rf (fun _ q => q.elim) (Nat.le_refl _) (fun k hk' => hagr m k (fun q => by rcases List.mem_singleton.mp q with rfl; exact absurd hk' (by decide))) rfl
    · rw [va_up_ne _ _ (by decide), va_up_ne _ _ (by decide)]; exact g1
    · rw [va_up_ne _ _ (by decide), va_up_ne _ _ (by decide)]; exact g2
    · rw [va_up_ne _ _ (by decide), va_up_ne _ _ (by decide)]; exact g3
    · rw [va_up_ne _ _ (by decide), va_up_self, va_up_self, g4]
    · rw [va_up_ne _ _ (by decide), va_up_self]
    · rw [s2, va_up_ne _ _ (by decide), va_up_ne _ _ (by decide), va_up_ne _ _ (by decide), va_up_ne _ _ (by decide), va_up_ne _ _ (by decide)]
      exact ⟨b1, b2, b3, b4⟩
    · by_cases e : k < a
      · refine (hsg k (by omega)).to (P := fun _ => False) frm.rf (fun _ _ q => q.elim) ?_ (s3 k e) (fun _ _ => ⟨rfl, rfl⟩)
        rw [va_up_self]
        unfold mvF
        rw [if_neg (by omega)]
      · refine (hsg (k + m) (by omega)).to (P := fun _ => False) frm.rf (fun _ _ q => q.elim) ?_ (s5 k (by omega) (by omega)) (fun _ _ => ⟨rfl, rfl⟩)
        rw [va_up_self]
        unfold mvF
        rw [if_pos (by omega)]
    · rw [hBL, c0, xif_t (by decide)]
      unfold p_B_merge_B100 p_B_moveDown
      have L := fun KK Kx => B_move_L (X := X) (nx := nx) (dyn := dyn) (ca := ca) (cr := cr) (cu := cu) (o := o) (cb := 0) (sb := 0) (KK := KK) (Kx := Kx) (b := m) g5 g7 (by omega) (fun k hk' => by
        obtain ⟨t, fs, q1, q2, -, q3⟩ := hrows k hk'
        exact ⟨t, fs, q1, q2, q3⟩) (K - (a + m)) 1000 (a + m) cr (by omega) (by omega) (by omega) (fun _ _ => rfl)
      rw [c_ob0, m_call, nI_add, show nI m - 0 = nI m from Int32.sub_zero _, L]
      dsimp only
      rw [c_g0_8, g5, c_p0_8, pk_sub (by omega), c_g0_10, va_up_ne _ _ (by decide), c_p0_10, c_g0_8, va_up_ne _ _ (by decide), va_up_self]
      exact hK _ _
    · obtain ⟨r1, r2, r3, r4⟩ := r
      exact (M_merge_eq g1 g8 g6 g7 hm2 ham hs (w := m) (by rw [if_pos c0])).mpr hK
  · have hpos : 0 < ((catL A D a m).filter (lvB (A 16))).length := List.length_pos_iff.mpr c0
    have cpos : ¬ nI ((catL A D a m).filter (lvB (A 16))).length ≤ 0 := nI_ge (a := 0) (by omega) (by omega)
    obtain ⟨s1, s2, s3, s4, s5⟩ := merge_segs hs g7 ham hm2 h01 (w := m - 1) (Or.inl (by omega))
    have s4' := s4 (by omega)
    have hfr : frm (fun _ => False) bs nx dyn (fun q => if nx ≤ q then nx else bs q) (nx + 2) (rowS dyn nx ((catL A D a m).filter (lvB (A 16))).length ((catL A D a m).filter (lvB (A 16))).length (szs sz ((catL A D a m).filter (lvB (A 16)))) (putL da (fun _ => none) 0 ((catL A D a m).filter (lvB (A 16))))) :=
      ⟨by omega, fun q hq => if_neg (by omega), fun q hq _ => rowS_d (by omega) (by omega)⟩
    refine ⟨nI (K - (m - 1)), va_up (va_up cs 8 (nI (K - (m - 1)))) 10 (cs 10 + nI ((catL A D a m).filter (fun x => !lvB (A 16) x)).length), va_up cr 16 (mvF (va_up (cr 16) a (some nx)) (a + m) (m - 1) K), rowS dyn nx ((catL A D a m).filter (lvB (A 16))).length ((catL A D a m).filter (lvB (A 16))).length (szs sz ((catL A D a m).filter (lvB (A 16)))) (putL da (fun _ => none) 0 ((catL A D a m).filter (lvB (A 16)))), nx + 2, fun q => if nx ≤ q then nx else bs q, mgA A a m (m - 1) D, va_up (va_up S 20 (S 20 + nI ((catL A D a m).filter (fun x => !lvB (A 16) x)).length)) 19 (nI (K - (m - 1))), K - (m - 1), ?_, ⟨⟨?_, ?_, ?_, ?_, ?_, va_up_self _ _ _, by omega, g8⟩, ?_, fun k hk' => ?_, s1⟩, hagr (m - 1), (agr.rf.up (by decide)).up (by decide), (agr.rf.up (by decide)).up (by decide), agr.rf.up (by decide), hfr, fun KK o hK => ?_, fun KK r hK => ?_⟩
    · exact hk.to hfr (fun _ q => q.elim) (Nat.le_refl _) (fun k hk' => hagr (m - 1) k (fun q => by rcases List.mem_singleton.mp q with rfl; exact absurd hk' (by decide))) rfl
    · rw [va_up_ne _ _ (by decide), va_up_ne _ _ (by decide)]; exact g1
    · rw [va_up_ne _ _ (by decide), va_up_ne _ _ (by decide)]; exact g2
    · rw [va_up_ne _ _ (by decide), va_up_ne _ _ (by decide)]; exact g3
    · rw [va_up_ne _ _ (by decide), va_up_self, va_up_self, g4]
    · rw [va_up_ne _ _ (by decide), va_up_self]
    · rw [s2, va_up_ne _ _ (by decide), va_up_ne _ _ (by decide), va_up_ne _ _ (by decide), va_up_ne _ _ (by decide), va_up_ne _ _ (by decide)]
      exact ⟨b1, b2, b3, b4⟩
    · by_cases e : k = a
      · subst e
        unfold segOk
        rw [s4', va_up_self]
        refine ⟨nx, _, _, ?_, ⟨⟨hlo, Nat.le_refl _, fun i hi => if_pos (by omega)⟩, rowS_0, rowS_1⟩, Nat.le_refl _, hlen, putL_lst _ _ _⟩
        unfold mvF
        rw [if_neg (by omega), va_up_self]
      · by_cases e : k < a
        · refine (hsg k (by omega)).to hfr (fun _ _ q => q.elim) ?_ (s3 k e) (fun _ _ => ⟨rfl, rfl⟩)
          rw [va_up_self]
          unfold mvF
          rw [if_neg (by omega), va_up_ne _ _ (by omega)]
        · refine (hsg (k + (m - 1)) (by omega)).to hfr (fun _ _ q => q.elim) ?_ (s5 k (by omega) (by omega)) (fun _ _ => ⟨rfl, rfl⟩)
          rw [va_up_self]
          unfold mvF
          rw [if_pos (by omega), va_up_ne _ _ (by omega)]
    · have hin : vp_in (nI a) 6 := vp_in_nI (by omega) (by decide)
      rw [hBL, xif_f cpos, c_g0_3, c_ob0, y_call]
      unfold p_B_mergedRow
      rw [y_new hlo, y_call, Rw_init_eq hlo hlen]
      dsimp only
      have L := fun K' Kx => B_merged_L (cb := 2 - 1 - 1) (sb := 183 - 3 - 180) (nx := nx + 2) (o := o) (ca := ca) (cu := cu) (K' := K') (Kx := Kx) hk hr ham hlo (Nat.le_refl nx) hlen m 1000 a 0 0 (fun _ => none) (by omega) rfl (by omega)
      simp only [Nat.zero_add] at L
      rw [L]
      dsimp only
      rw [c_w16, cl_nI (by omega)]
      unfold p_B_merge_B100 p_B_moveDown
      have L2 := fun KK Kx => B_move_L (X := X) (nx := nx + 2) (dyn := rowS dyn nx ((catL A D a m).filter (lvB (A 16))).length ((catL A D a m).filter (lvB (A 16))).length (szs sz ((catL A D a m).filter (lvB (A 16)))) (putL da (fun _ => none) 0 ((catL A D a m).filter (lvB (A 16))))) (ca := ca) (cr := cr) (cu := cu) (o := o) (cb := 0) (sb := 0) (KK := KK) (Kx := Kx) (b := m - 1) g5 g7 (by omega) (fun k hk' => by
        obtain ⟨t, fs, q1, q2, q4, q3⟩ := hrows k hk'
        exact ⟨t, fs, q1, q2, (rowS_d (by omega) (by omega)).trans q3⟩) (K - (a + m)) 1000 (a + m) (va_up cr 16 (va_up (cr 16) a (some nx))) (by omega) (by omega) (by omega) (fun k hk' => by rw [va_up_self, va_up_ne _ _ (by omega)])
      rw [c_ob0, m_call, nI_add, show nI m - 1 = nI (m - 1) from pk_sub (b := 1) (by omega), L2]
      dsimp only
      rw [c_g0_8, g5, c_p0_8, pk_sub (by omega), c_g0_10, va_up_ne _ _ (by decide), c_p0_10, c_g0_8, va_up_ne _ _ (by decide), va_up_self, va_up_self, bx_uu]
      exact ⟨by omega, by omega, by omega, by omega, by omega, by omega, hin, fun b q => by cases q; exact ⟨_, (cheap_d hlo).trans rowS_0⟩, hK _ _⟩
    · obtain ⟨r1, r2, r3, r4⟩ := r
      exact (M_merge_eq g1 g8 g6 g7 hm2 ham hs (w := m - 1) (by rw [if_neg c0])).mpr hK
end MG
