/-! search and score: whole calls -/
section SW
variable {X M nx db : Nat} {bs : Nat → Nat} {dyn : xM} {B : Nat → Nat → Int64} {D O KK : Nat} {fr sz da na le : Nat → Nat} {cu : Option Nat} {cs : Nat → Int32} {ca : Nat → Nat → Int32} {cr : Nat → Nat → Option Nat} {A : Nat → Nat → Int32} {S : Nat → Int32}
theorem Qu_com_eq {K : Int32 → xS → Prop} {r : xM × Nat × Nat × Nat} : p_Qu_isComplete (X + 22) K (cheap X cs ca cr cu dyn, r) ↔ K (if cs 2206 = 0 then 1 else 0) (cheap X cs ca cr cu dyn, r) := by
  unfold p_Qu_isComplete
  rw [c_g22_6]
  by_cases c : cs 2206 = 0
  · rw [xif_t c, if_pos c, xrz_1]
  · rw [xif_f c, if_neg c, xrz_0]
theorem M_whole_eq {T : Nat} (hT : T ≤ 12) (h36 : S 36 = nI T) (h0 : T = 0 → S 37 ≠ 0) {K : Int32 → xS → Prop} {r : xM × Nat × Nat × Nat} : p_M_isWhole M K (mheap M A B S, r) ↔ K (if S 37 = 0 then 1 else 0) (mheap M A B S, r) := by
  unfold p_M_isWhole
  rw [m_g36, h36]
  by_cases z : T = 0
  · rw [xif_t (by rw [z]; decide), if_neg (h0 z), xrz_0]
  · rw [xif_f (show ¬ nI T ≤ 0 from nI_ge (a := 0) (by omega) (by omega)), m_g37]
    by_cases c : S 37 = 0
    · rw [xif_t c, if_pos c, xrz_1]
    · rw [xif_f c, if_neg c, xrz_0]
theorem live_20 (hs : Rs cs ca cr A S D sz da) (hid : ∀ d, d < D → ∃ i, i < 20 ∧ A 13 d = nI i) : ((snapL A D).filter (lvB (A 17))).length ≤ 20 := by
  obtain ⟨-, -, s3, -, s5⟩ := hs
  have h1 : ∀ d, d ∈ (snapL A D).filter (lvB (A 17)) → d < D ∧ A 17 d = 1 := fun d hd => by
    obtain ⟨a, b⟩ := List.mem_filter.mp hd
    have hdD := (mem_snap.mp a).1
    refine ⟨hdD, ?_⟩
    rcases s3 d hdD with ⟨-, q⟩ | ⟨-, q | q⟩
    · exact absurd q (lvB_t.mp b)
    · exact absurd q (lvB_t.mp b)
    · exact q
  refine pig (g := fun d => (A 13 d).toNatClampNeg) 20 _ (fun d hd => ?_) ?_
  · obtain ⟨i, h2, h3⟩ := hid d (h1 d hd).1
    show (A 13 d).toNatClampNeg < 20
    rw [h3, cl_nI (by omega)]
    exact h2
  · refine List.Pairwise.imp_of_mem (fun {a b} ha hb hab => ?_) (List.Pairwise.filter _ (sel_srt D 0))
    intro q
    obtain ⟨a1, a2⟩ := h1 a ha
    obtain ⟨b1, b2⟩ := h1 b hb
    obtain ⟨i, h2, h3⟩ := hid a a1
    obtain ⟨j, h4, h5⟩ := hid b b1
    have q' : (A 13 a).toNatClampNeg = (A 13 b).toNatClampNeg := q
    rw [h3, h5, cl_nI (by omega), cl_nI (by omega)] at q'
    have := s5 a b a1 b1 a2 b2 (by rw [h3, h5, q'])
    omega
/-- after prepare -/
theorem prep_both (hk : Rk (X + 66) nx db bs dyn A B D O fr sz da na le) (hr : Rr (X + 66) nx bs dyn cs cr A S D O KK sz da) (hO : O ≤ 260) (hs : Rs cs ca cr A S D sz da) (hq : Rq cs ca A S) (h37 : S 37 = 0) : ∃ T tm ca2 A2, agr [29, 30] ca2 ca ∧ agr [32, 34, 35] A2 A ∧ PQ X M nx db bs dyn B D O T fr sz da na le tm cs ca2 cr A2 S ∧
    (∀ (K : Unit → xS → Prop) (o : xM) (n1 cb sb : Nat), K () (cheap X cs ca2 cr cu dyn, o, n1, cb, sb) → p_Sc_prepare (X + 28) (some (X + 22)) (some (X + 17)) K (cheap X cs ca cr cu dyn, o, n1, cb, sb)) ∧
    (∀ (K : Unit → xS → Prop) (r : xM × Nat × Nat × Nat), K () (mheap M A2 B S, r) → p_M_prepare M K (mheap M A B S, r)) := by
  obtain ⟨T, q1, q2, q3, q4, q5, q6, q7, q8⟩ := Rq_com hq
  have qc := q8 h37
  obtain ⟨tm, htm⟩ := Tm_ex (M := M) hk hO qc
  have hD := hr.1.2.2.2.2.2.2.2
  have h18 := hr.1.1
  obtain ⟨A2, m1, m2, m3⟩ := M_prepare_ex hk hO hD h18 q3 qc htm
  obtain ⟨ca2, c1, c2, c3⟩ := C_prepare_ex (cu := cu) hk hs qc htm q2 q7
  have es : snapL A2 D = snapL A D := by unfold snapL; rw [m1 15 (by decide)]
  refine ⟨T, tm, ca2, A2, c1, m1, ⟨hk.to (P := fun _ => False) frm.rf (fun a q => q.elim) (Nat.le_refl _) (fun k hk => m1 k ?_) rfl, Qc_to qc (m1 28 (by decide)) (m1 29 (by decide)) (m1 30 (by decide)) (m1 31 (by decide)), ?_, ?_, ?_, Tm_to htm (m1 24 (by decide)) (m1 25 (by decide)) (m1 28 (by decide)) (m1 29 (by decide)) (m1 30 (by decide)), q2, q3, hs.to (fun k hk => rfl) (fun k hk => c1 k ?_) rfl (fun k hk => m1 k ?_) rfl, h18⟩, c3, m3⟩
  · simp only [List.mem_cons, List.not_mem_nil, or_false] at hk
    rcases hk with rfl | rfl | rfl | rfl | rfl | rfl | rfl | rfl <;> decide
  · rw [c1 23 (by decide), c1 24 (by decide), c1 25 (by decide), c1 26 (by decide), m1 28 (by decide), m1 29 (by decide), m1 30 (by decide), m1 31 (by decide)]
    exact q7
  · rw [es]
    exact fun x hx => doM_to (m2 x hx) (m1 22 (by decide)) (m1 28 (by decide)) (m1 31 (by decide)) rfl rfl rfl
  · rw [es]
    exact fun x hx => doC_to (c2 x hx) (m1 22 (by decide)) (m1 28 (by decide)) (m1 31 (by decide)) rfl rfl
  · simp only [List.mem_cons, List.not_mem_nil, or_false] at hk
    rcases hk with rfl | rfl | rfl <;> decide
  · simp only [List.mem_cons, List.not_mem_nil, or_false] at hk
    rcases hk with rfl | rfl | rfl <;> decide
def scl : List Nat := [29, 30] ++ tbh
theorem st_search {H : Nat} {hd pm : Nat → Nat} (hk : Rk (X + 66) nx db bs dyn A B D O fr sz da na le) (hr : Rr (X + 66) nx bs dyn cs cr A S D O KK sz da) (hO : O ≤ 260) (hs : Rs cs ca cr A S D sz da) (hq : Rq cs ca A S) (hh : Rh X cs ca cr A S D H hd pm) :
    ∃ x cs' ca' cr' A' S' H' hd' pm', Rh X cs' ca' cr' A' S' D H' hd' pm' ∧ agr [4401] cs' cs ∧ agr scl ca' ca ∧ agr [45] cr' cr ∧ agr [32, 34, 35, 38, 39, 40, 41, 42, 43] A' A ∧ agr [44] S' S ∧
      (∀ (K : Int32 → xS → Prop) (o : xM) (n1 cb sb : Nat), K x (cheap X cs' ca' cr' cu dyn, o, n1, cb, sb) → p_B_search X K (cheap X cs ca cr cu dyn, o, n1, cb, sb)) ∧
      (∀ (K : Int32 → xS → Prop) (o : xM) (n1 cb sb : Nat), K x (mheap M A' B S', o, n1, cb, sb) → p_M_search M K (mheap M A B S, o, n1, cb, sb)) := by
  obtain ⟨T, q1, q2, q3, q4, q5, q6, q7, q8⟩ := Rq_com hq
  have hD := hr.1.2.2.2.2.2.2.2
  have hM1 := fun (K : Int32 → xS → Prop) (r : xM × Nat × Nat × Nat) => M_whole_eq (M := M) (A := A) (B := B) (S := S) (K := K) (r := r) q1 q3 q6
  by_cases c1 : S 37 = 0
  · by_cases c2 : S 21 = 0
    · refine ⟨-2, cs, ca, cr, A, S, H, hd, pm, hh, agr.rf, agr.rf, agr.rf, agr.rf, agr.rf, fun K o n1 cb sb h => ?_, fun K o n1 cb sb h => ?_⟩
      · unfold p_B_search
        rw [c_g0_5, c_ob22, m_call, Qu_com_eq, if_pos (q4.trans c1)]
        dsimp only
        rw [xif_f (by decide), c_g0_4, c_g17_0, xif_t (hs.1.1.symm.trans c2)]
        exact h
      · unfold p_M_search
        rw [m_ob, m_call, hM1, if_pos c1]
        dsimp only
        rw [xif_f (by decide), m_g21, xif_t c2]
        exact h
    · obtain ⟨T', tm, ca2, A2, a1, a2, a3, a4, a5⟩ := prep_both (M := M) (cu := cu) hk hr hO hs hq c1
      have b1 : agr [4401] (va_up cs 4401 0) cs := agr.rf.up (by decide)
      have b2 : agr [44] (va_up S 44 0) S := agr.rf.up (by decide)
      have hPQ : PQ X M nx db bs dyn B D O T' fr sz da na le tm (va_up cs 4401 0) ca2 cr A2 (va_up S 44 0) := a3.to b1 agr.rf agr.rf agr.rf b2
      obtain ⟨-, -, -, -, -, -, -, -, ⟨-, ⟨s1, s2, s3, s4, s5, s6⟩, -⟩, -⟩ := id hPQ
      have hs0 := hPQ.2.2.2.2.2.2.2.2.1
      have hl := live_20 hs0 (fun d hd => (hPQ.1.1 d hd).2.1)
      obtain ⟨⟨g1, g2, g3⟩, g4, g5, g6⟩ := id hh
      have hh0 : Rh X (va_up cs 4401 0) ca2 cr A2 (va_up S 44 0) D 0 hd pm := ⟨⟨by omega, va_up_self _ _ _, va_up_self _ _ _⟩, g4, g5, fun k hk => absurd hk (Nat.not_lt_zero _)⟩
      obtain ⟨cs3, ca3, cr3, A3, S3, H3, hd3, pm3, k0, k1, k2, k3, k4, k5, k6, k7⟩ := se_L (cu := cu) hPQ hO hD D 0 0 0 1000 1000 (va_up cs 4401 0) ca2 cr A2 (va_up S 44 0) hd pm (by omega) (by omega) (by have : (snapL A2 D).length ≤ 120 := s2; exact Nat.lt_of_le_of_lt this (by decide)) (Nat.zero_add _) s3 s4 s5 s6 hh0 (by rw [Nat.zero_add]; exact hl) agr.rf agr.rf agr.rf agr.rf agr.rf
      refine ⟨nI H3, cs3, ca3, cr3, A3, S3, H3, hd3, pm3, k0, k1.tr b1, (k2.mono (fun k hk => List.mem_append_right _ hk)).tr (a1.mono (fun k hk => List.mem_append_left _ hk)), k3, (k4.mono ?_).tr (a2.mono ?_), k5.tr b2, fun K o n1 cb sb h => ?_, fun K o n1 cb sb h => ?_⟩
      · intro k hk
        simp only [List.mem_cons, List.not_mem_nil, or_false] at hk
        rcases hk with rfl | rfl | rfl | rfl | rfl | rfl <;> decide
      · intro k hk
        simp only [List.mem_cons, List.not_mem_nil, or_false] at hk
        rcases hk with rfl | rfl | rfl <;> decide
      · unfold p_B_search
        rw [c_g0_5, c_ob22, m_call, Qu_com_eq, if_pos (q4.trans c1)]
        dsimp only
        rw [xif_f (by decide), c_g0_4, c_g17_0, xif_f (fun z => c2 (hs.1.1.trans z)), c_g0_6, c_g0_5, c_g0_4, c_ob28, m_call]
        refine a4 _ _ _ _ _ ?_
        dsimp only
        rw [c_g0_7, c_ob44, m_call]
        unfold p_Hi_drop
        rw [c_p44_1]
        dsimp only
        refine k6 K _ _ _ _ _ ?_
        rw [c_g0_7, c_g44_1, k0.1.2.1]
        exact h
      · unfold p_M_search
        rw [m_ob, m_call, hM1, if_pos c1]
        dsimp only
        rw [xif_f (by decide), m_g21, xif_f c2, m_ob, m_call]
        refine a5 _ _ ?_
        dsimp only
        rw [m_p44]
        refine k7 K _ _ _ _ _ ?_
        rw [m_g44, k0.1.2.2]
        exact h
  · refine ⟨-2, cs, ca, cr, A, S, H, hd, pm, hh, agr.rf, agr.rf, agr.rf, agr.rf, agr.rf, fun K o n1 cb sb h => ?_, fun K o n1 cb sb h => ?_⟩
    · unfold p_B_search
      rw [c_g0_5, c_ob22, m_call, Qu_com_eq, if_neg (fun z => c1 (q4.symm.trans z))]
      dsimp only
      rw [xif_t rfl]
      exact h
    · unfold p_M_search
      rw [m_ob, m_call, hM1, if_neg c1]
      dsimp only
      rw [xif_t rfl]
      exact h
/-- who is asked for -/
theorem sc_find (hk : Rk (X + 66) nx db bs dyn A B D O fr sz da na le) (hD : D ≤ 180) (hs : Rs cs ca cr A S D sz da) (h18 : S 18 = nI D) (w : Int32) : ∀ (n d j fc fm : Nat), d + n = D → n < fm → (sel (nnB (A 15)) d n).length < fc → j + (sel (nnB (A 15)) d n).length = (snapL A D).length → lstV (cr 18) j ((sel (nnB (A 15)) d n).map (fun d => some (da d))) → lstV (ca 19) j ((sel (nnB (A 15)) d n).map (A 17)) →
    ((∀ (K : Option Nat → xS → Prop) (Kx : xS → Prop) (r : xM × Nat × Nat × Nat), Kx (cheap X cs ca cr cu dyn, r) → p_Sn_liveWith_L2 (X + 17) w K Kx fc (nI j) (cheap X cs ca cr cu dyn, r)) ∧ (∀ (K : Int32 → xS → Prop) (Kx : xS → Prop) (r : xM × Nat × Nat × Nat), Kx (mheap M A B S, r) → p_M_score_L21 M w K Kx fm (nI d) (mheap M A B S, r))) ∨
    ∃ e, e ∈ snapL A D ∧ (∀ (K : Option Nat → xS → Prop) (Kx : xS → Prop) (r : xM × Nat × Nat × Nat), K (some (da e)) (cheap X cs ca cr cu dyn, r) → p_Sn_liveWith_L2 (X + 17) w K Kx fc (nI j) (cheap X cs ca cr cu dyn, r)) ∧
      (∀ (K : Int32 → xS → Prop) (Kx : xS → Prop) (r : xM × Nat × Nat × Nat), (xob 10 (some M) fun b => xcall 0 0 (p_M_prepare b ) fun _ => xob 10 (some M) fun b => xcall 0 0 (p_M_tried b (nI e)) fun v8 => xif (v8 = 0) (K (-2)) (xgR 10 39 (some M) fun v9 => xgR 10 12 (some M) fun v10 => xal 0 v10 (nI e) fun v11 => xal 0 v9 (v11 - 1) fun v12 => K v12)) (mheap M A B S, r) → p_M_score_L21 M w K Kx fm (nI d) (mheap M A B S, r))
  | 0, d, j, fc, fm + 1, hdn, hfm, hfc, hjN, l1, l2 => by
    obtain ⟨-, ⟨s1, s2, -⟩, -⟩ := hs
    obtain ⟨fc', rfl⟩ : ∃ f, fc = f + 1 := ⟨fc - 1, by omega⟩
    have hj : j = (snapL A D).length := hjN
    refine Or.inl ⟨fun K Kx r h => ?_, fun K Kx r h => ?_⟩
    · unfold p_Sn_liveWith_L2
      rw [c_g17_1, s1, xif_t (nI_le (by omega) (by omega))]
      exact h
    · unfold p_M_score_L21
      rw [m_g18, h18, xif_t (nI_le (by omega) (by omega))]
      exact h
  | n + 1, d, j, fc, fm + 1, hdn, hfm, hfc, hjN, l1, l2 => by
    obtain ⟨-, ⟨s1, s2, -⟩, s3, -⟩ := id hs
    have hind : vp_in (nI d) 180 := vp_in_nI (by omega) (by decide)
    have hdD : d < D := by omega
    obtain ⟨nodes, hnn⟩ := docs_of hk
    obtain ⟨d1, d2⟩ := hnn d hdD
    have hb1 := d1.1.1
    have ih := sc_find hk hD hs h18 w n (d + 1)
    by_cases c : A 15 d < 0
    · rw [sel_f (nnB_f c)] at hfc hjN l1 l2
      have e17 : A 17 d = 0 := by
        rcases s3 d hdD with ⟨-, q⟩ | ⟨⟨k, k6, q⟩, -⟩
        · exact q
        · rw [q] at c; exact absurd c (nI_pos (by omega))
      have mskip : ∀ (K : Int32 → xS → Prop) (Kx : xS → Prop) (r : xM × Nat × Nat × Nat), p_M_score_L21 M w K Kx fm (nI (d + 1)) (mheap M A B S, r) → p_M_score_L21 M w K Kx (fm + 1) (nI d) (mheap M A B S, r) := fun K Kx r h => by
        unfold p_M_score_L21
        rw [m_g18, h18, xif_f (nI_ge (by omega) (by omega)), m_g17, m_r17, cl_nI (by omega), xif_t e17, nI_1]
        exact ⟨hind, h⟩
      rcases ih j fc fm (by omega) (by omega) hfc hjN l1 l2 with ⟨i1, i2⟩ | ⟨e, e1, i1, i2⟩
      · exact Or.inl ⟨i1, fun K Kx r h => mskip K Kx r (i2 K Kx r h)⟩
      · exact Or.inr ⟨e, e1, i1, fun K Kx r h => mskip K Kx r (i2 K Kx r h)⟩
    · rw [sel_t (nnB_t c)] at hfc hjN l1 l2
      rw [List.length_cons] at hfc hjN
      obtain ⟨l10, l1⟩ := l1
      obtain ⟨l20, l2⟩ := l2
      obtain ⟨fc', rfl⟩ : ∃ f, fc = f + 1 := ⟨fc - 1, by omega⟩
      have hinj : vp_in (nI j) 120 := vp_in_nI (by omega) (by decide)
      by_cases e17 : A 17 d = 0
      · have mskip : ∀ (K : Int32 → xS → Prop) (Kx : xS → Prop) (r : xM × Nat × Nat × Nat), p_M_score_L21 M w K Kx fm (nI (d + 1)) (mheap M A B S, r) → p_M_score_L21 M w K Kx (fm + 1) (nI d) (mheap M A B S, r) := fun K Kx r h => by
          unfold p_M_score_L21
          rw [m_g18, h18, xif_f (nI_ge (by omega) (by omega)), m_g17, m_r17, cl_nI (by omega), xif_t e17, nI_1]
          exact ⟨hind, h⟩
        have cskip : ∀ (K : Option Nat → xS → Prop) (Kx : xS → Prop) (r : xM × Nat × Nat × Nat), p_Sn_liveWith_L2 (X + 17) w K Kx fc' (nI (j + 1)) (cheap X cs ca cr cu dyn, r) → p_Sn_liveWith_L2 (X + 17) w K Kx (fc' + 1) (nI j) (cheap X cs ca cr cu dyn, r) := fun K Kx r h => by
          unfold p_Sn_liveWith_L2
          rw [c_g17_1, s1, xif_f (nI_ge (by omega) (by omega)), c_g17_3, c_r19, cl_nI (by omega), l20, xif_t e17, nI_1]
          exact ⟨hinj, h⟩
        rcases ih (j + 1) fc' fm (by omega) (by omega) (by omega) (by omega) l1 l2 with ⟨i1, i2⟩ | ⟨e, e1, i1, i2⟩
        · exact Or.inl ⟨fun K Kx r h => cskip K Kx r (i1 K Kx r h), fun K Kx r h => mskip K Kx r (i2 K Kx r h)⟩
        · exact Or.inr ⟨e, e1, fun K Kx r h => cskip K Kx r (i1 K Kx r h), fun K Kx r h => mskip K Kx r (i2 K Kx r h)⟩
      · by_cases e13 : A 13 d = w
        · refine Or.inr ⟨d, mem_snap.mpr ⟨hdD, c⟩, fun K Kx r h => ?_, fun K Kx r h => ?_⟩
          · unfold p_Sn_liveWith_L2
            rw [c_g17_1, s1, xif_f (nI_ge (by omega) (by omega)), c_g17_3, c_r19, cl_nI (by omega), l20, xif_f e17, c_g17_2, c_r18, cl_nI (by omega), l10, y_gI hb1 d1.2.1 rfl, xif_t e13, c_g17_2, c_r18, cl_nI (by omega), l10]
            exact ⟨hinj, hinj, hinj, h⟩
          · unfold p_M_score_L21
            rw [m_g18, h18, xif_f (nI_ge (by omega) (by omega)), m_g17, m_r17, cl_nI (by omega), xif_f e17, m_g13, m_r13, cl_nI (by omega), xif_t e13]
            exact ⟨hind, hind, h⟩
        · have mskip : ∀ (K : Int32 → xS → Prop) (Kx : xS → Prop) (r : xM × Nat × Nat × Nat), p_M_score_L21 M w K Kx fm (nI (d + 1)) (mheap M A B S, r) → p_M_score_L21 M w K Kx (fm + 1) (nI d) (mheap M A B S, r) := fun K Kx r h => by
            unfold p_M_score_L21
            rw [m_g18, h18, xif_f (nI_ge (by omega) (by omega)), m_g17, m_r17, cl_nI (by omega), xif_f e17, m_g13, m_r13, cl_nI (by omega), xif_f e13, nI_1]
            exact ⟨hind, hind, h⟩
          have cskip : ∀ (K : Option Nat → xS → Prop) (Kx : xS → Prop) (r : xM × Nat × Nat × Nat), p_Sn_liveWith_L2 (X + 17) w K Kx fc' (nI (j + 1)) (cheap X cs ca cr cu dyn, r) → p_Sn_liveWith_L2 (X + 17) w K Kx (fc' + 1) (nI j) (cheap X cs ca cr cu dyn, r) := fun K Kx r h => by
            unfold p_Sn_liveWith_L2
            rw [c_g17_1, s1, xif_f (nI_ge (by omega) (by omega)), c_g17_3, c_r19, cl_nI (by omega), l20, xif_f e17, c_g17_2, c_r18, cl_nI (by omega), l10, y_gI hb1 d1.2.1 rfl, xif_f e13, nI_1]
            exact ⟨hinj, hinj, h⟩
          rcases ih (j + 1) fc' fm (by omega) (by omega) (by omega) (by omega) l1 l2 with ⟨i1, i2⟩ | ⟨e, e1, i1, i2⟩
          · exact Or.inl ⟨fun K Kx r h => cskip K Kx r (i1 K Kx r h), fun K Kx r h => mskip K Kx r (i2 K Kx r h)⟩
          · exact Or.inr ⟨e, e1, fun K Kx r h => cskip K Kx r (i1 K Kx r h), fun K Kx r h => mskip K Kx r (i2 K Kx r h)⟩
theorem st_score (hk : Rk (X + 66) nx db bs dyn A B D O fr sz da na le) (hr : Rr (X + 66) nx bs dyn cs cr A S D O KK sz da) (hO : O ≤ 260) (hs : Rs cs ca cr A S D sz da) (hq : Rq cs ca A S) (w : Int32) :
    ∃ x ca' A', agr scl ca' ca ∧ (∀ k, k < 20 → ca' (46 + k) = ca (46 + k)) ∧ agr [32, 34, 35, 38, 39] A' A ∧
      (∀ (K : Int32 → xS → Prop) (o : xM) (n1 cb sb : Nat), K x (cheap X cs ca' cr cu dyn, o, n1, cb, sb) → p_B_score X w K (cheap X cs ca cr cu dyn, o, n1, cb, sb)) ∧
      (∀ (K : Int32 → xS → Prop) (o : xM) (n1 cb sb : Nat), K x (mheap M A' B S, o, n1, cb, sb) → p_M_score M w K (mheap M A B S, o, n1, cb, sb)) := by
  obtain ⟨T, q1, q2, q3, q4, q5, q6, q7, q8⟩ := Rq_com hq
  have hD := hr.1.2.2.2.2.2.2.2
  have hM1 := fun (K : Int32 → xS → Prop) (r : xM × Nat × Nat × Nat) => M_whole_eq (M := M) (A := A) (B := B) (S := S) (K := K) (r := r) q1 q3 q6
  by_cases c1 : S 37 = 0
  · by_cases c2 : S 21 = 0
    · refine ⟨-2, ca, A, agr.rf, fun _ _ => rfl, agr.rf, fun K o n1 cb sb h => ?_, fun K o n1 cb sb h => ?_⟩
      · unfold p_B_score
        rw [c_g0_5, c_ob22, m_call, Qu_com_eq, if_pos (q4.trans c1)]
        dsimp only
        rw [xif_f (by decide), c_g0_4, c_g17_0, xif_t (hs.1.1.symm.trans c2)]
        exact h
      · unfold p_M_score
        rw [m_ob, m_call, hM1, if_pos c1]
        dsimp only
        rw [xif_f (by decide), m_g21, xif_t c2]
        exact h
    · have s2 := hs.2.1.2.1
      rcases sc_find (M := M) (cu := cu) hk hD hs hr.1.1 w D 0 0 1000 1000 (by omega) (by omega) (Nat.lt_of_le_of_lt (show (snapL A D).length ≤ 120 from s2) (by decide)) (Nat.zero_add _) hs.2.1.2.2.1 hs.2.1.2.2.2.1 with ⟨i1, i2⟩ | ⟨e, e1, i1, i2⟩
      · refine ⟨-2, ca, A, agr.rf, fun _ _ => rfl, agr.rf, fun K o n1 cb sb h => ?_, fun K o n1 cb sb h => ?_⟩
        · unfold p_B_score
          rw [c_g0_5, c_ob22, m_call, Qu_com_eq, if_pos (q4.trans c1)]
          dsimp only
          rw [xif_f (by decide), c_g0_4, c_g17_0, xif_f (fun z => c2 (hs.1.1.trans z)), c_g0_4, c_ob17, m_call]
          unfold p_Sn_liveWith
          refine i1 _ _ _ ?_
          exact ⟨fun a q => (by cases q), fun _ => h⟩
        · unfold p_M_score
          rw [m_ob, m_call, hM1, if_pos c1]
          dsimp only
          rw [xif_f (by decide), m_g21, xif_f c2]
          exact i2 K _ _ h
      · obtain ⟨T', tm, ca2, A2, a1, a2, a3, a4, a5⟩ := prep_both (M := M) (cu := cu) hk hr hO hs hq c1
        obtain ⟨b1, b2, b3, b4, b5, b6, b7, b8, b9, b10⟩ := id a3
        have heD := (mem_snap.mp e1).1
        have esn : snapL A2 D = snapL A D := by unfold snapL; rw [a2 15 (by decide)]
        obtain ⟨τ, h', s, ca3, A3, p1, p2, p3, p4, p5, p6⟩ := points_both (cu := cu) (cr := cr) b1 hO hD b2 b3 b4 b5 b6 (fun e he => (mem_snap.mp he).1) (by rw [esn]; exact e1) (by rw [esn]; exact s2) heD b7 b8
        have e12 := (b1.1 e heD).1.2.1
        have e0 := (b1.1 e heD).1.2.2.1
        have e10 := (b1.1 e heD).1.2.2.2.1
        have hine : vp_in (nI e) 180 := vp_in_nI (by omega) (by decide)
        have hsz : vp_in (nI (sz e - 1)) 120 := vp_in_nI (by omega) (by decide)
        have z1 : agr scl ca3 ca := ((p1.mono tbs_h).mono (fun k hk => List.mem_append_right _ hk)).tr (a1.mono (fun k hk => List.mem_append_left _ hk))
        have z2 : agr [32, 34, 35, 38, 39] A3 A := (p2.mono (fun k hk => by
          simp only [List.mem_cons, List.not_mem_nil, or_false] at hk
          rcases hk with rfl | rfl <;> decide)).tr (a2.mono (fun k hk => by
          simp only [List.mem_cons, List.not_mem_nil, or_false] at hk
          rcases hk with rfl | rfl | rfl <;> decide))
        have z3 : ∀ k, k < 20 → ca3 (46 + k) = ca (46 + k) := fun k hk => (p1 _ (nm_tbs hk)).trans (a1 _ (by simp only [List.mem_cons, List.not_mem_nil, or_false]; omega))
        have hC : ∀ (K : Int32 → xS → Prop) (o : xM) (n1 cb sb : Nat), xif (τ = (-1)) (K (-2)) (K τ) (cheap X cs ca3 cr cu dyn, o, n1, cb, sb) → p_B_score X w K (cheap X cs ca cr cu dyn, o, n1, cb, sb) := fun K o n1 cb sb h => by
          unfold p_B_score
          rw [c_g0_5, c_ob22, m_call, Qu_com_eq, if_pos (q4.trans c1)]
          dsimp only
          rw [xif_f (by decide), c_g0_4, c_g17_0, xif_f (fun z => c2 (hs.1.1.trans z)), c_g0_4, c_ob17, m_call]
          unfold p_Sn_liveWith
          refine i1 _ _ _ ?_
          refine ⟨fun a q => ?_, fun q => (by cases q)⟩
          dsimp only
          rw [c_g0_6, c_g0_5, c_g0_4, c_ob28, m_call]
          refine a4 _ _ _ _ _ ?_
          dsimp only
          rw [c_g0_6, c_g0_5, c_ob28, m_call]
          exact p5 _ _ _ _ _ h
        have hM : ∀ (K : Int32 → xS → Prop) (o : xM) (n1 cb sb : Nat), xif (h' = 0) (K (-2)) (K s) (mheap M A3 B S, o, n1, cb, sb) → p_M_score M w K (mheap M A B S, o, n1, cb, sb) := fun K o n1 cb sb h => by
          unfold p_M_score
          rw [m_ob, m_call, hM1, if_pos c1]
          dsimp only
          rw [xif_f (by decide), m_g21, xif_f c2]
          refine i2 K _ _ ?_
          rw [m_ob, m_call]
          refine a5 _ _ ?_
          dsimp only
          rw [m_ob, m_call]
          refine p6 _ _ _ _ _ ?_
          dsimp only
          by_cases z : h' = 0
          · rw [xif_t z] at h ⊢
            exact h
          · rw [xif_f z] at h ⊢
            rw [m_g39, m_g12, m_r12, cl_nI (by omega), p2 12 (by decide), e12, show nI (sz e) - 1 = nI (sz e - 1) from pk_sub (b := 1) e0, m_r39, cl_nI (by omega), p4]
            exact ⟨hine, hsz, h⟩
        rcases p3 with ⟨r1, r2, r3⟩ | ⟨v, v1, r1, r2, r3⟩
        · refine ⟨-2, ca3, A3, z1, z3, z2, fun K o n1 cb sb h => hC K o n1 cb sb ?_, fun K o n1 cb sb h => hM K o n1 cb sb ?_⟩
          · rw [xif_t r1]; exact h
          · rw [xif_t r2]; exact h
        · refine ⟨nI v, ca3, A3, z1, z3, z2, fun K o n1 cb sb h => hC K o n1 cb sb ?_, fun K o n1 cb sb h => hM K o n1 cb sb ?_⟩
          · rw [xif_f (by rw [r1]; exact nI_m1_ne (by omega)), r1]; exact h
          · rw [xif_f (by rw [r2]; decide), r3]; exact h
  · refine ⟨-2, ca, A, agr.rf, fun _ _ => rfl, agr.rf, fun K o n1 cb sb h => ?_, fun K o n1 cb sb h => ?_⟩
    · unfold p_B_score
      rw [c_g0_5, c_ob22, m_call, Qu_com_eq, if_neg (fun z => c1 (q4.symm.trans z))]
      dsimp only
      rw [xif_t rfl]
      exact h
    · unfold p_M_score
      rw [m_ob, m_call, hM1, if_neg c1]
      dsimp only
      rw [xif_t rfl]
      exact h
end SW
