/-! SEARCH AND SCORE, of both -/
theorem agr.mono {α : Type} {ks ks' : List Nat} {f g : Nat → α} (h : agr ks f g) (hk : ∀ k, k ∈ ks → k ∈ ks') : agr ks' f g := fun k q => h k (fun z => q (hk k z))
def tbh : List Nat := tbs ++ hrs
theorem tbs_h : ∀ k, k ∈ tbs → k ∈ tbh := fun k h => List.mem_append_left _ h
theorem hrs_h : ∀ k, k ∈ hrs → k ∈ tbh := fun k h => List.mem_append_right _ h
theorem nm_tbs {k : Nat} (h : k < 20) : 46 + k ∉ tbs := by
  unfold tbs
  intro q
  simp at q
  omega
/-- all that a document's points need -/
def PQ (X M nx db : Nat) (bs : Nat → Nat) (dyn : xM) (B : Nat → Nat → Int64) (D O T : Nat) (fr sz da na le : Nat → Nat) (tm : Nat → Nat → Nat → Nat) (cs : Nat → Int32) (ca : Nat → Nat → Int32) (cr : Nat → Nat → Option Nat) (A : Nat → Nat → Int32) (S : Nat → Int32) : Prop :=
  Rk (X + 66) nx db bs dyn A B D O fr sz da na le ∧ Qc A T ∧ (∀ t, t < T → ca 23 t = A 28 t ∧ ca 24 t = A 29 t ∧ ca 25 t = A 30 t ∧ ca 26 t = A 31 t) ∧ (∀ x, x < T → doM A A T fr sz tm (snapL A D) x) ∧ (∀ x, x < T → doC A ca T fr sz tm (snapL A D) x) ∧ Tm X M dyn A B D fr sz na T tm ∧ cs 2204 = nI T ∧ S 36 = nI T ∧ Rs cs ca cr A S D sz da ∧ S 18 = nI D
theorem Qc_to {A A' : Nat → Nat → Int32} {T : Nat} (h : Qc A T) (e28 : A' 28 = A 28) (e29 : A' 29 = A 29) (e30 : A' 30 = A 30) (e31 : A' 31 = A 31) : Qc A' T := by
  have ec : cpI A' = cpI A := by funext k; unfold cpI; rw [e28, e29, e31]
  unfold Qc
  rw [ec, e28, e29, e30, e31]
  exact h
theorem Tm_to {X M D T : Nat} {dyn : xM} {A A' : Nat → Nat → Int32} {B : Nat → Nat → Int64} {fr sz na : Nat → Nat} {tm : Nat → Nat → Nat → Nat} (h : Tm X M dyn A B D fr sz na T tm) (e24 : A' 24 = A 24) (e25 : A' 25 = A 25) (e28 : A' 28 = A 28) (e29 : A' 29 = A 29) (e30 : A' 30 = A 30) : Tm X M dyn A' B D fr sz na T tm := by
  unfold Tm
  rw [e24, e25, e28, e29, e30]
  exact h
theorem doM_to {A A' A1 A1' : Nat → Nat → Int32} {T : Nat} {fr sz : Nat → Nat} {tm : Nat → Nat → Nat → Nat} {L : List Nat} {x : Nat} (h : doM A A1 T fr sz tm L x) (e22 : A' 22 = A 22) (e28 : A' 28 = A 28) (e31 : A' 31 = A 31) (e32 : A1' 32 = A1 32) (e34 : A1' 34 = A1 34) (e35 : A1' 35 = A1 35) : doM A' A1' T fr sz tm L x := by
  have ep : ptA A' = ptA A := by funext k; unfold ptA; rw [e28]
  unfold doM alF hvF at h ⊢
  rw [ep, e22, e28, e31, e32, e34, e35]
  exact h
theorem doC_to {A A' ca ca' : Nat → Nat → Int32} {T : Nat} {fr sz : Nat → Nat} {tm : Nat → Nat → Nat → Nat} {L : List Nat} {x : Nat} (h : doC A ca T fr sz tm L x) (e22 : A' 22 = A 22) (e28 : A' 28 = A 28) (e31 : A' 31 = A 31) (e29 : ca' 29 = ca 29) (e30 : ca' 30 = ca 30) : doC A' ca' T fr sz tm L x := by
  have ep : ptA A' = ptA A := by funext k; unfold ptA; rw [e28]
  unfold doC alF hvF at h ⊢
  rw [ep, e22, e28, e31, e29, e30]
  exact h
section SE
variable {X M nx db : Nat} {bs : Nat → Nat} {dyn : xM} {B : Nat → Nat → Int64} {D O T : Nat} {fr sz da na le : Nat → Nat} {tm : Nat → Nat → Nat → Nat} {cu : Option Nat}
theorem PQ.to {cs cs' : Nat → Int32} {ca ca' : Nat → Nat → Int32} {cr cr' : Nat → Nat → Option Nat} {A A' : Nat → Nat → Int32} {S S' : Nat → Int32} (h : PQ X M nx db bs dyn B D O T fr sz da na le tm cs ca cr A S) (h1 : agr [4401] cs' cs) (h2 : agr tbh ca' ca) (h3 : agr [45] cr' cr) (h4 : agr [38, 39, 40, 41, 42, 43] A' A) (h5 : agr [44] S' S) : PQ X M nx db bs dyn B D O T fr sz da na le tm cs' ca' cr' A' S' := by
  obtain ⟨a1, a2, a3, a4, a5, a6, a7, a8, a9, a10⟩ := h
  have es : snapL A' D = snapL A D := by unfold snapL; rw [h4 15 (by decide)]
  refine ⟨a1.to (P := fun _ => False) frm.rf (fun a q => q.elim) (Nat.le_refl _) (fun k hk => h4 k ?_) rfl, Qc_to a2 (h4 28 (by decide)) (h4 29 (by decide)) (h4 30 (by decide)) (h4 31 (by decide)), ?_, ?_, ?_, Tm_to a6 (h4 24 (by decide)) (h4 25 (by decide)) (h4 28 (by decide)) (h4 29 (by decide)) (h4 30 (by decide)), (h1 2204 (by decide)).trans a7, (h5 36 (by decide)).trans a8, a9.to (fun k hk => h1 k ?_) (fun k hk => h2 k ?_) (h3 18 (by decide)) (fun k hk => h4 k ?_) (h5 21 (by decide)), (h5 18 (by decide)).trans a10⟩
  · simp only [List.mem_cons, List.not_mem_nil, or_false] at hk
    rcases hk with rfl | rfl | rfl | rfl | rfl | rfl | rfl | rfl <;> decide
  · rw [h2 23 (by decide), h2 24 (by decide), h2 25 (by decide), h2 26 (by decide), h4 28 (by decide), h4 29 (by decide), h4 30 (by decide), h4 31 (by decide)]
    exact a3
  · rw [es]
    exact fun x hx => doM_to (a4 x hx) (h4 22 (by decide)) (h4 28 (by decide)) (h4 31 (by decide)) (h4 32 (by decide)) (h4 34 (by decide)) (h4 35 (by decide))
  · rw [es]
    exact fun x hx => doC_to (a5 x hx) (h4 22 (by decide)) (h4 28 (by decide)) (h4 31 (by decide)) (h2 29 (by decide)) (h2 30 (by decide))
  · simp only [List.mem_cons, List.not_mem_nil, or_false] at hk
    rcases hk with rfl | rfl <;> decide
  · simp only [List.mem_cons, List.not_mem_nil, or_false] at hk
    rcases hk with rfl | rfl | rfl <;> decide
  · simp only [List.mem_cons, List.not_mem_nil, or_false] at hk
    rcases hk with rfl | rfl | rfl <;> decide
variable {cs : Nat → Int32} {ca : Nat → Nat → Int32} {cr : Nat → Nat → Option Nat} {A : Nat → Nat → Int32} {S : Nat → Int32}
theorem se_L (hPQ : PQ X M nx db bs dyn B D O T fr sz da na le tm cs ca cr A S) (hO : O ≤ 260) (hD : D ≤ 180) : ∀ (n d j H fc fm : Nat) (cs1 : Nat → Int32) (ca1 : Nat → Nat → Int32) (cr1 : Nat → Nat → Option Nat) (A1 : Nat → Nat → Int32) (S1 : Nat → Int32) (hd pm : Nat → Nat), d + n = D → n < fm → (sel (nnB (A 15)) d n).length < fc → j + (sel (nnB (A 15)) d n).length = (snapL A D).length →
    lstV (cr 18) j ((sel (nnB (A 15)) d n).map (fun d => some (da d))) → lstV (ca 19) j ((sel (nnB (A 15)) d n).map (A 17)) → lstV (ca 20) j ((sel (nnB (A 15)) d n).map (A 15)) → lstV (ca 21) j ((sel (nnB (A 15)) d n).map (rootI (A 15) sz)) →
    Rh X cs1 ca1 cr1 A1 S1 D H hd pm → H + ((sel (nnB (A 15)) d n).filter (lvB (A 17))).length ≤ 20 → agr [4401] cs1 cs → agr tbh ca1 ca → agr [45] cr1 cr → agr [38, 39, 40, 41, 42, 43] A1 A → agr [44] S1 S →
    ∃ cs2 ca2 cr2 A2 S2 H2 hd2 pm2, Rh X cs2 ca2 cr2 A2 S2 D H2 hd2 pm2 ∧ agr [4401] cs2 cs ∧ agr tbh ca2 ca ∧ agr [45] cr2 cr ∧ agr [38, 39, 40, 41, 42, 43] A2 A ∧ agr [44] S2 S ∧
      (∀ (K : Int32 → xS → Prop) (Kx : xS → Prop) (o : xM) (n1 cb sb : Nat), Kx (cheap X cs2 ca2 cr2 cu dyn, o, n1, cb, sb) → p_B_search_L47 X K Kx fc (nI j) (cheap X cs1 ca1 cr1 cu dyn, o, n1, cb, sb)) ∧
      (∀ (K : Int32 → xS → Prop) (Kx : xS → Prop) (o : xM) (n1 cb sb : Nat), Kx (mheap M A2 B S2, o, n1, cb, sb) → p_M_search_L30 M K Kx fm (nI d) (mheap M A1 B S1, o, n1, cb, sb))
  | 0, d, j, H, fc, fm + 1, cs1, ca1, cr1, A1, S1, hd, pm, hdn, hfm, hfc, hjN, l1, l2, l3, l4, hh, hH, g1, g2, g3, g4, g5 => by
    obtain ⟨-, -, -, -, -, -, -, -, ⟨-, ⟨s1, s2, -⟩, -⟩, a10⟩ := hPQ
    obtain ⟨fc', rfl⟩ : ∃ f, fc = f + 1 := ⟨fc - 1, by omega⟩
    refine ⟨cs1, ca1, cr1, A1, S1, H, hd, pm, hh, g1, g2, g3, g4, g5, fun K Kx o n1 cb sb h => ?_, fun K Kx o n1 cb sb h => ?_⟩
    · have hj : j = (snapL A D).length := hjN
      unfold p_B_search_L47
      rw [c_g0_4, c_g17_1, g1 1701 (by decide), s1, xif_t (nI_le (by omega) (by omega))]
      exact h
    · unfold p_M_search_L30
      rw [m_g18, g5 18 (by decide), a10, xif_t (nI_le (by omega) (by omega))]
      exact h
  | n + 1, d, j, H, fc, fm + 1, cs1, ca1, cr1, A1, S1, hd, pm, hdn, hfm, hfc, hjN, l1, l2, l3, l4, hh, hH, g1, g2, g3, g4, g5 => by
    have hPQ1 : PQ X M nx db bs dyn B D O T fr sz da na le tm cs1 ca1 cr1 A1 S1 := hPQ.to g1 g2 g3 g4 g5
    obtain ⟨-, -, -, -, -, -, -, -, ⟨-, ⟨s1, s2, -⟩, s3, -⟩, a10⟩ := id hPQ
    have hind : vp_in (nI d) 180 := vp_in_nI (by omega) (by decide)
    have hdD : d < D := by omega
    have mskip : A 17 d = 0 → ∀ (A2 : Nat → Nat → Int32) (K : Int32 → xS → Prop) (Kx : xS → Prop) (o : xM) (n1 cb sb : Nat), p_M_search_L30 M K Kx fm (nI (d + 1)) (mheap M A1 B S1, o, n1, cb, sb) → p_M_search_L30 M K Kx (fm + 1) (nI d) (mheap M A1 B S1, o, n1, cb, sb) := fun e _ K Kx o n1 cb sb h => by
      unfold p_M_search_L30
      rw [m_g18, g5 18 (by decide), a10, xif_f (nI_ge (by omega) (by omega)), m_g17, m_r17, cl_nI (by omega), g4 17 (by decide), xif_t e, nI_1]
      exact ⟨hind, h⟩
    by_cases c : A 15 d < 0
    · rw [sel_f (nnB_f c)] at hfc hjN l1 l2 l3 l4 hH
      obtain ⟨cs2, ca2, cr2, A2, S2, H2, hd2, pm2, k0, k1, k2, k3, k4, k5, k6, k7⟩ := se_L hPQ hO hD n (d + 1) j H fc fm cs1 ca1 cr1 A1 S1 hd pm (by omega) (by omega) hfc hjN l1 l2 l3 l4 hh hH g1 g2 g3 g4 g5
      have e17 : A 17 d = 0 := by
        rcases s3 d hdD with ⟨-, q⟩ | ⟨⟨k, k6, q⟩, -⟩
        · exact q
        · rw [q] at c; exact absurd c (nI_pos (by omega))
      exact ⟨cs2, ca2, cr2, A2, S2, H2, hd2, pm2, k0, k1, k2, k3, k4, k5, k6, fun K Kx o n1 cb sb h => mskip e17 A1 K Kx o n1 cb sb (k7 K Kx o n1 cb sb h)⟩
    · rw [sel_t (nnB_t c)] at hfc hjN l1 l2 l3 l4 hH
      rw [List.length_cons] at hfc hjN
      obtain ⟨l10, l1⟩ := l1
      obtain ⟨l20, l2⟩ := l2
      obtain ⟨l30, l3⟩ := l3
      obtain ⟨l40, l4⟩ := l4
      obtain ⟨fc', rfl⟩ : ∃ f, fc = f + 1 := ⟨fc - 1, by omega⟩
      have hinj : vp_in (nI j) 120 := vp_in_nI (by omega) (by decide)
      by_cases e17 : A 17 d = 0
      · rw [List.filter_cons_of_neg (by rw [lvB_t]; exact fun q => q e17)] at hH
        obtain ⟨cs2, ca2, cr2, A2, S2, H2, hd2, pm2, k0, k1, k2, k3, k4, k5, k6, k7⟩ := se_L hPQ hO hD n (d + 1) (j + 1) H fc' fm cs1 ca1 cr1 A1 S1 hd pm (by omega) (by omega) (by omega) (by omega) l1 l2 l3 l4 hh hH g1 g2 g3 g4 g5
        refine ⟨cs2, ca2, cr2, A2, S2, H2, hd2, pm2, k0, k1, k2, k3, k4, k5, fun K Kx o n1 cb sb h => ?_, fun K Kx o n1 cb sb h => mskip e17 A1 K Kx o n1 cb sb (k7 K Kx o n1 cb sb h)⟩
        unfold p_B_search_L47
        rw [c_g0_4, c_g17_1, g1 1701 (by decide), s1, xif_f (nI_ge (by omega) (by omega)), c_g0_4, c_g17_3, c_r19, cl_nI (by omega), g2 19 (by decide), l20, xif_t e17, nI_1]
        exact ⟨hinj, k6 K Kx o n1 cb sb h⟩
      · rw [List.filter_cons_of_pos (by rw [lvB_t]; exact e17), List.length_cons] at hH
        obtain ⟨b1, b2, b3, b4, b5, b6, b7, b8, b9, b10⟩ := id hPQ1
        have esn : snapL A1 D = snapL A D := by unfold snapL; rw [g4 15 (by decide)]
        have hLd : d ∈ snapL A1 D := mem_snap.mpr ⟨hdD, by rw [g4 15 (by decide)]; exact c⟩
        obtain ⟨τ, h, s, ca2, A2, p1, p2, p3, p4, p5, p6⟩ := points_both (cu := cu) (cr := cr1) b1 hO hD b2 b3 b4 b5 b6 (fun e he => (mem_snap.mp he).1) hLd (by rw [esn]; exact s2) hdD b7 b8
        have e12 := (hPQ.1.1 d hdD).1.2.1
        have e1 := (hPQ.1.1 d hdD).1.2.2.1
        have e10 := (hPQ.1.1 d hdD).1.2.2.2.1
        have hsz : vp_in (nI (sz d - 1)) 120 := vp_in_nI (by omega) (by decide)
        have hh2 : Rh X cs1 ca2 cr1 A2 S1 D H hd pm := hh.to rfl (fun k hk => p1 _ (nm_tbs hk)) rfl (fun k hk => p2 k (by simp only [List.mem_cons, List.not_mem_nil, or_false] at hk; rcases hk with rfl | rfl | rfl | rfl <;> decide)) rfl (fun e he => ⟨he, congrFun (p2 12 (by decide)) e, congrFun (p2 13 (by decide)) e⟩)
        have g2' : agr tbh ca2 ca := (p1.mono tbs_h).tr g2
        have g4' : agr [38, 39, 40, 41, 42, 43] A2 A := (p2.mono (fun k hk => by simp only [List.mem_cons, List.not_mem_nil, or_false] at hk; rcases hk with rfl | rfl <;> decide)).tr g4
        have hC : ∀ (K : Int32 → xS → Prop) (Kx : xS → Prop) (o : xM) (n1 cb sb : Nat), xif (τ = (-1)) (p_B_search_L47 X K Kx fc' (nI (j + 1))) (xgR 9 7 (some X) fun v20 => xgR 9 4 (some X) fun v21 => xob 0 v20 fun b => xcall 0 0 (p_Hi_insert b v21 (nI j) τ) fun _ => p_B_search_L47 X K Kx fc' (nI (j + 1))) (cheap X cs1 ca2 cr1 cu dyn, o, n1, cb, sb) → p_B_search_L47 X K Kx (fc' + 1) (nI j) (cheap X cs1 ca1 cr1 cu dyn, o, n1, cb, sb) := fun K Kx o n1 cb sb h => by
          unfold p_B_search_L47
          rw [c_g0_4, c_g17_1, g1 1701 (by decide), s1, xif_f (nI_ge (by omega) (by omega)), c_g0_4, c_g17_3, c_r19, cl_nI (by omega), g2 19 (by decide), l20, xif_f e17, c_g0_6, c_g0_5, c_g0_4, c_g17_2, c_r18, cl_nI (by omega), g3 18 (by decide), l10, c_ob28, m_call, nI_1]
          exact ⟨hinj, hinj, p5 _ _ _ _ _ h⟩
        have hM : ∀ (K : Int32 → xS → Prop) (Kx : xS → Prop) (o : xM) (n1 cb sb : Nat), xif (h = 0) (p_M_search_L30 M K Kx fm (nI (d + 1))) (p_M_search_L84 M (nI d) s K (fun m26 => p_M_search_B173 M (nI d) s m26 K (p_M_search_L30 M K Kx fm) Kx) 1000 (S1 44)) (mheap M A2 B S1, o, n1, cb, sb) → p_M_search_L30 M K Kx (fm + 1) (nI d) (mheap M A1 B S1, o, n1, cb, sb) := fun K Kx o n1 cb sb hx => by
          unfold p_M_search_L30
          rw [m_g18, g5 18 (by decide), a10, xif_f (nI_ge (by omega) (by omega)), m_g17, m_r17, cl_nI (by omega), g4 17 (by decide), xif_f e17, m_ob, m_call, nI_1]
          refine ⟨hind, p6 _ _ _ _ _ ?_⟩
          dsimp only
          by_cases z : h = 0
          · rw [xif_t z] at hx ⊢
            exact hx
          · rw [xif_f z] at hx ⊢
            rw [m_g39, m_g12, m_r12, cl_nI (by omega), g4' 12 (by decide), e12, show nI (sz d) - 1 = nI (sz d - 1) from pk_sub (b := 1) e1, m_r39, cl_nI (by omega), p4, m_g44]
            exact ⟨hind, hsz, hx⟩
        rcases p3 with ⟨r1, r2, r3⟩ | ⟨v, v1, r1, r2, r3⟩
        · obtain ⟨cs3, ca3, cr3, A3, S3, H3, hd3, pm3, k0, k1, k2, k3, k4, k5, k6, k7⟩ := se_L hPQ hO hD n (d + 1) (j + 1) H fc' fm cs1 ca2 cr1 A2 S1 hd pm (by omega) (by omega) (by omega) (by omega) l1 l2 l3 l4 hh2 (by omega) g1 g2' g3 g4' g5
          refine ⟨cs3, ca3, cr3, A3, S3, H3, hd3, pm3, k0, k1, k2, k3, k4, k5, fun K Kx o n1 cb sb h => hC K Kx o n1 cb sb ?_, fun K Kx o n1 cb sb h => hM K Kx o n1 cb sb ?_⟩
          · rw [xif_t r1]; exact k6 K Kx o n1 cb sb h
          · rw [xif_t r2]; exact k7 K Kx o n1 cb sb h
        · have hPQ2 : PQ X M nx db bs dyn B D O T fr sz da na le tm cs1 ca2 cr1 A2 S1 := hPQ.to g1 g2' g3 g4' g5
          obtain ⟨cs3, ca3, cr3, A3, S3, hd3, pm3, i0, i1, i2, i3, i4, i5, i6, i7⟩ := ins_both (M := M) (cu := cu) (j := j) (v := v) hPQ2.1 hD hh2 (by omega) hdD (by omega) (by rw [g3 18 (by decide)]; exact l10) (by rw [g2' 20 (by decide), g4' 15 (by decide)]; exact l30) (by rw [g2' 21 (by decide), g4' 15 (by decide)]; exact l40)
          obtain ⟨cs4, ca4, cr4, A4, S4, H4, hd4, pm4, k0, k1, k2, k3, k4, k5, k6, k7⟩ := se_L hPQ hO hD n (d + 1) (j + 1) (H + 1) fc' fm cs3 ca3 cr3 A3 S3 hd3 pm3 (by omega) (by omega) (by omega) (by omega) l1 l2 l3 l4 i0 (by omega) (i1.tr g1) ((i2.mono hrs_h).tr g2') (i3.tr g3) ((i4.mono (fun k hk => by simp only [List.mem_cons, List.not_mem_nil, or_false] at hk; rcases hk with rfl | rfl | rfl | rfl <;> decide)).tr g4') (i5.tr g5)
          refine ⟨cs4, ca4, cr4, A4, S4, H4, hd4, pm4, k0, k1, k2, k3, k4, k5, fun K Kx o n1 cb sb h => hC K Kx o n1 cb sb ?_, fun K Kx o n1 cb sb h => hM K Kx o n1 cb sb ?_⟩
          · rw [xif_f (by rw [r1]; exact nI_m1_ne (by omega)), c_g0_7, c_g0_4, c_ob44, m_call, r1]
            exact i6 _ _ _ _ _ (k6 K Kx o n1 cb sb h)
          · rw [xif_f (by rw [r2]; decide), r3]
            exact i7 K _ _ _ _ _ _ (k7 K Kx o n1 cb sb h)
end SE
