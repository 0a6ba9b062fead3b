/-! type, count, hit -/
theorem sel_cnt {p q s : Nat → Bool} : ∀ (n d : Nat), (∀ x, d ≤ x → x < d + n → p x = (q x || s x) ∧ (q x && s x) = false) → (sel p d n).length = (sel q d n).length + (sel s d n).length
  | 0, _, _ => rfl
  | n + 1, d, h => by
    have ih := sel_cnt n (d + 1) (fun x a b => h x (by omega) (by omega))
    obtain ⟨h1, h2⟩ := h d (Nat.le_refl _) (by omega)
    cases hq : q d with
    | true =>
      have hs : s d = false := by
        rw [hq, Bool.true_and] at h2; exact h2
      rw [hq, Bool.true_or] at h1
      rw [sel_t h1, sel_t hq, sel_f hs, List.length_cons, List.length_cons, ih]
      omega
    | false =>
      rw [hq, Bool.false_or] at h1
      cases hs : s d with
      | true => rw [sel_t (by rw [h1]; exact hs), sel_f hq, sel_t hs, List.length_cons, List.length_cons, ih]; omega
      | false => rw [sel_f (by rw [h1]; exact hs), sel_f hq, sel_f hs, ih]
def Rh (X : Nat) (cs : Nat → Int32) (ca : Nat → Nat → Int32) (cr : Nat → Nat → Option Nat) (A : Nat → Nat → Int32) (S : Nat → Int32) (D : Nat) (H : Nat) (hd pm : Nat → Nat) : Prop :=
  (H ≤ 20 ∧ cs 4401 = nI H ∧ S 44 = nI H) ∧ (∀ k, k < 20 → cr 45 k = some (X + 46 + pm k) ∧ pm k < 20) ∧ (∀ i j, i < 20 → j < 20 → pm i = pm j → i = j) ∧
  ∀ k, k < H → hd k < D ∧ A 40 k = nI (hd k) ∧ ca (46 + pm k) 0 = A 13 (hd k) ∧ ca (46 + pm k) 1 = A 41 k ∧ ca (46 + pm k) 2 = A 42 k ∧ ca (46 + pm k) 3 = A 43 k ∧ ca (46 + pm k) 4 = A 12 (hd k)
theorem Rh.to {X : Nat} {cs cs' : Nat → Int32} {ca ca' : Nat → Nat → Int32} {cr cr' : Nat → Nat → Option Nat} {A A' : Nat → Nat → Int32} {S S' : Nat → Int32} {D D' H : Nat} {hd pm : Nat → Nat} (h : Rh X cs ca cr A S D H hd pm) (hcs : cs' 4401 = cs 4401) (hca : ∀ k, k < 20 → ca' (46 + k) = ca (46 + k)) (hcr : cr' 45 = cr 45) (hA : ∀ k, k ∈ [40, 41, 42, 43] → A' k = A k) (hS : S' 44 = S 44) (hD : ∀ d, d < D → d < D' ∧ A' 12 d = A 12 d ∧ A' 13 d = A 13 d) : Rh X cs' ca' cr' A' S' D' H hd pm := by
  obtain ⟨g1, g2, g3, g4⟩ := h
  unfold Rh
  rw [hcs, hS, hcr, hA 40 (by decide), hA 41 (by decide), hA 42 (by decide), hA 43 (by decide)]
  refine ⟨g1, g2, g3, fun k hk => ?_⟩
  obtain ⟨a1, a2⟩ := g4 k hk
  obtain ⟨d1, d2, d3⟩ := hD _ a1
  rw [hca _ (g2 k (by omega)).2, d2, d3]
  exact ⟨d1, a2⟩
section TY
variable {X M nx db : Nat} {bs : Nat → Nat} {dyn : xM} {cs : Nat → Int32} {ca : Nat → Nat → Int32} {cr : Nat → Nat → Option Nat} {cu : Option Nat} {A : Nat → Nat → Int32} {B : Nat → Nat → Int64} {S : Nat → Int32} {N C D O K : Nat} {st : List Nat} {dn ls num cl fr sz da na le : Nat → Nat}
theorem st_type (hm : Rm ca cs A S) (p f : Int32) : ∃ x : Int32, (∀ (KK : Int32 → xS → Prop) (o : xM) (cb sb : Nat), KK x (cheap X cs ca cr cu dyn, o, nx, cb, sb) → p_B_type X p f KK (cheap X cs ca cr cu dyn, o, nx, cb, sb)) ∧ (∀ (KK : Int32 → xS → Prop) (r : xM × Nat × Nat × Nat), KK x (mheap M A B S, r) → p_M_type M p f KK (mheap M A B S, r)) := by
  rcases inR_cases p 0 3 with hp | hp
  · refine ⟨-1, fun KK o cb sb hK => ?_, fun KK r hK => ?_⟩
    · unfold p_B_type
      rw [m_call, B_isPath_eq, hp]
      dsimp only
      rw [xif_t rfl]
      exact hK
    · obtain ⟨r1, r2, r3, r4⟩ := r
      unfold p_M_type
      rw [m_call, M_in03, hp]
      dsimp only
      rw [xif_t rfl]
      exact hK
  rcases inR_cases f 0 3 with hf | hf
  · refine ⟨-1, fun KK o cb sb hK => ?_, fun KK r hK => ?_⟩
    · unfold p_B_type
      rw [m_call, B_isPath_eq, hp]
      dsimp only
      rw [xif_f (by decide), m_call, B_isField_eq, hf]
      dsimp only
      rw [xif_t rfl]
      exact hK
    · obtain ⟨r1, r2, r3, r4⟩ := r
      unfold p_M_type
      rw [m_call, M_in03, hp]
      dsimp only
      rw [xif_f (by decide), m_call, M_in03, hf]
      dsimp only
      rw [xif_t rfl]
      exact hK
  obtain ⟨p, hp4, rfl⟩ := in03_of hp
  obtain ⟨f, hf4, rfl⟩ := in03_of hf
  refine ⟨A 9 (4 * p + f), fun KK o cb sb hK => ?_, fun KK r hK => ?_⟩
  · unfold p_B_type
    rw [m_call, B_isPath_eq, hp]
    dsimp only
    rw [xif_f (by decide), m_call, B_isField_eq, hf]
    dsimp only
    rw [xif_f (by decide), c_g0_1, c_g3_0, c_r4, cl_nI (by omega), if_pos hp4, cr_map hp4, cl_nI (by omega), hm.1 p f hp4 hf4]
    exact ⟨vp_in_nI hp4 (by decide), vp_in_nI hf4 (by decide), hK⟩
  · obtain ⟨r1, r2, r3, r4⟩ := r
    unfold p_M_type
    rw [m_call, M_in03, hp]
    dsimp only
    rw [xif_f (by decide), m_call, M_in03, hf]
    dsimp only
    rw [xif_f (by decide), m_g9, i4, m_r9, cl_nI (by omega)]
    exact ⟨vp_in_nI (by omega) (by decide), hK⟩
theorem B_live_L {KK Kx : Int32 → xS → Prop} {o : xM} {cb sb : Nat} (hk : Rk (X + 66) nx db bs dyn A B D O fr sz da na le) (hr : Rr (X + 66) nx bs dyn cs cr A S D O K sz da) : ∀ (n f i c : Nat), n < f → i + n = K →
    (p_B_liveInSegments_L4 X KK Kx f (nI c) (nI i) (cheap X cs ca cr cu dyn, o, nx, cb, sb) ↔ Kx (nI (c + ((catL A D i n).filter (lvB (A 16))).length)) (cheap X cs ca cr cu dyn, o, nx, cb, sb))
  | 0, f + 1, i, c, hf, hi => by
    have h6 := hr.1.2.2.2.2.2.2.1
    unfold p_B_liveInSegments_L4
    rw [c_g0_8, hr.1.2.2.2.2.1, xif_t (nI_le (by omega) (by omega))]
    exact Iff.rfl
  | n + 1, f + 1, i, c, hf, hi => by
    have h6 := hr.1.2.2.2.2.2.2.1
    obtain ⟨ad, cap, docs, a1, a2, a3, a4, a5⟩ := hr.2.2.1 i (by omega)
    obtain ⟨nodes, hn⟩ := docs_of hk
    have hin : vp_in (nI i) 6 := vp_in_nI (by omega) (by decide)
    have hrow := rowM_of (cs := cs) (ca := ca) (cr := cr) (cu := cu) a2 a3 a4
    have hd : ∀ d ∈ segL A D i, docM (cheap X cs ca cr cu dyn) (da d) (A 13 d) (A 16 d) (sz d) (nodes d) := fun d hd => docM_of (hn d (mem_seg.mp hd).1).1
    unfold p_B_liveInSegments_L4
    rw [c_g0_8, hr.1.2.2.2.2.1, xif_f (nI_ge (by omega) (by omega)), c_g0_3, c_r16, cl_nI (by omega), a1, g_ob hrow.1, m_call, Rw_liveCount_eq hrow a5 hd]
    dsimp only
    rw [nI_add, nI_1, B_live_L hk hr n f (i + 1) _ (by omega) (by omega), show catL A D i (n + 1) = segL A D i ++ catL A D (i + 1) n from rfl, List.filter_append, List.length_append, Nat.add_assoc]
    simp only [hin, true_and]
theorem B_dead_L {KK Kx : Int32 → xS → Prop} {o : xM} {cb sb : Nat} (hk : Rk (X + 66) nx db bs dyn A B D O fr sz da na le) (hr : Rr (X + 66) nx bs dyn cs cr A S D O K sz da) : ∀ (n f i c : Nat), n < f → i + n = K →
    (p_B_deletedInSegments_L4 X KK Kx f (nI c) (nI i) (cheap X cs ca cr cu dyn, o, nx, cb, sb) ↔ Kx (nI (c + ((catL A D i n).filter (fun x => !lvB (A 16) x)).length)) (cheap X cs ca cr cu dyn, o, nx, cb, sb))
  | 0, f + 1, i, c, hf, hi => by
    have h6 := hr.1.2.2.2.2.2.2.1
    unfold p_B_deletedInSegments_L4
    rw [c_g0_8, hr.1.2.2.2.2.1, xif_t (nI_le (by omega) (by omega))]
    exact Iff.rfl
  | n + 1, f + 1, i, c, hf, hi => by
    have h6 := hr.1.2.2.2.2.2.2.1
    obtain ⟨ad, cap, docs, a1, a2, a3, a4, a5⟩ := hr.2.2.1 i (by omega)
    obtain ⟨nodes, hn⟩ := docs_of hk
    have hin : vp_in (nI i) 6 := vp_in_nI (by omega) (by decide)
    have hrow := rowM_of (cs := cs) (ca := ca) (cr := cr) (cu := cu) a2 a3 a4
    have hd : ∀ d ∈ segL A D i, docM (cheap X cs ca cr cu dyn) (da d) (A 13 d) (A 16 d) (sz d) (nodes d) := fun d hd => docM_of (hn d (mem_seg.mp hd).1).1
    unfold p_B_deletedInSegments_L4
    rw [c_g0_8, hr.1.2.2.2.2.1, xif_f (nI_ge (by omega) (by omega)), c_g0_3, c_r16, cl_nI (by omega), a1, g_ob hrow.1, m_call, Rw_deletedCount_eq hrow a5 hd]
    dsimp only
    rw [nI_add, nI_1, B_dead_L hk hr n f (i + 1) _ (by omega) (by omega), show catL A D i (n + 1) = segL A D i ++ catL A D (i + 1) n from rfl, List.filter_append, List.length_append, (len_filter_not _).1, Nat.add_assoc]
    simp only [hin, true_and]
theorem st_count {H : Nat} {hdd pm : Nat → Nat} (hd : Rd (X + 66) nx db bs dyn cs cr cu A B S N C st dn ls num cl) (hk : Rk (X + 66) nx db bs dyn A B D O fr sz da na le) (hr : Rr (X + 66) nx bs dyn cs cr A S D O K sz da) (hm : Rm ca cs A S) (hs : Rs cs ca cr A S D sz da) (hh : Rh X cs ca cr A S D H hdd pm) (w : Int32) :
    ∃ x : Int32, (∀ (KK : Int32 → xS → Prop) (o : xM) (cb sb : Nat), KK x (cheap X cs ca cr cu dyn, o, nx, cb, sb) → p_B_count X w KK (cheap X cs ca cr cu dyn, o, nx, cb, sb)) ∧ (∀ (KK : Int32 → xS → Prop) (r : xM × Nat × Nat × Nat), KK x (mheap M A B S, r) → p_M_count M w KK (mheap M A B S, r)) := by
  obtain ⟨nodes, hn⟩ := docs_of hk
  obtain ⟨⟨g1, g2, g3, g4, g5, g6, g7, g8⟩, ⟨b1, b2, b3, b4⟩, hsg, hsegs⟩ := id hr
  have hz : ∀ d, d < D → A 12 d = nI (sz d) := fun d hd => (hk.1 d hd).1.2.1
  have hbl : (bufL A D).length ≤ 30 := buf_len (fun d hd => (hk.1 d hd).1.2.2.1) b3
  have Msm : ∀ (KK : Int32 → xS → Prop) (r1 : xM) (r2 r3 r4 : Nat), inR w 20 25 = 0 → inR w 30 35 = 0 → (p_M_count M w KK (mheap M A B S, r1, r2, r3, r4) ↔ (xif (w = 0) (xgI 10 19 (some M) fun v3 => KK v3) (xif (w = 1) (xgI 10 6 (some M) fun v4 => KK v4) (xif (w = 2) (xob 10 (some M) fun b => xcall 0 0 (p_M_inBuffer b ) fun v5 => KK v5) (xif (w = 3) (xob 10 (some M) fun b => xcall 0 0 (p_M_counted b w) fun v6 => KK v6) (xif (w = 4) (xob 10 (some M) fun b => xcall 0 0 (p_M_counted b w) fun v7 => KK v7) (xif (w = 5) (xgI 10 18 (some M) fun v8 => KK v8) (xif (w = 6) (xgI 10 10 (some M) fun v9 => KK v9) (xif (w = 7) (xob 10 (some M) fun b => xcall 0 0 (p_M_counted b w) fun v10 => KK v10) (xif (w = 8) (xgI 10 44 (some M) fun v11 => KK v11) (xif (w = 9) (xgI 10 20 (some M) fun v12 => KK v12) (KK (-1)))))))))))) (mheap M A B S, r1, r2, r3, r4)) := by
    intro KK r1 r2 r3 r4 q1 q2
    unfold p_M_count
    rw [m_call, M_in_eq, show (20 : Int32).toInt = 20 from rfl, show (25 : Int32).toInt = 25 from rfl, q1]
    dsimp only
    rw [xif_t rfl, m_call, M_in_eq, show (30 : Int32).toInt = 30 from rfl, show (35 : Int32).toInt = 35 from rfl, q2]
    dsimp only
    rw [xif_t rfl]
  by_cases c0 : w = 0
  · subst c0
    refine ⟨nI K, fun KK o cb sb hK => ?_, fun KK r hK => ?_⟩
    · unfold p_B_count; rw [xif_t rfl, c_g0_8, g5]; exact hK
    · obtain ⟨r1, r2, r3, r4⟩ := r
      rw [Msm KK r1 r2 r3 r4 (by decide) (by decide), xif_t rfl, m_g19, g6]; exact hK
  by_cases c1 : w = 1
  · subst c1
    refine ⟨nI N, fun KK o cb sb hK => ?_, fun KK r hK => ?_⟩
    · unfold p_B_count; rw [xif_f c0, xif_t rfl, c_g0_0, c_g1_2, hd.1.2.2.1]; exact hK
    · obtain ⟨r1, r2, r3, r4⟩ := r
      rw [Msm KK r1 r2 r3 r4 (by decide) (by decide), xif_f c0, xif_t rfl, m_g6, hd.1.2.2.2.1]; exact hK
  by_cases c2 : w = 2
  · subst c2
    refine ⟨nI (szs sz (bufL A D)), fun KK o cb sb hK => ?_, fun KK r hK => ?_⟩
    · unfold p_B_count; rw [xif_f c0, xif_f c1, xif_t rfl, c_g0_2, c_g14_2, b2]; exact hK
    · obtain ⟨r1, r2, r3, r4⟩ := r
      rw [Msm KK r1 r2 r3 r4 (by decide) (by decide), xif_f c0, xif_f c1, xif_t rfl, m_ob, m_call, M_inBuffer_eq g1 g8 hz]; exact hK
  by_cases c3 : w = 3
  · subst c3
    refine ⟨nI (((bufL A D).filter (lvB (A 16))).length + ((catL A D 0 K).filter (lvB (A 16))).length), fun KK o cb sb hK => ?_, fun KK r hK => ?_⟩
    · unfold p_B_count
      rw [xif_f c0, xif_f c1, xif_f c2, xif_t rfl, c_g0_2, c_ob14, m_call, Rw_liveCount_eq (id := A 13) (lv := A 16) (sz := sz) (nodes := nodes) (rowM_buf b1 hbl) b4 (fun d hd => docM_of (hn d (mem_buf.mp hd).1).1)]
      dsimp only
      rw [c_ob0, m_call]
      unfold p_B_liveInSegments
      have L := fun KK Kx => B_live_L (o := o) (cb := 0) (sb := 0) (ca := ca) (cu := cu) (KK := KK) (Kx := Kx) hk hr K 1000 0 0 (by omega) (by omega)
      simp only [Nat.zero_add, show nI 0 = 0 from rfl] at L
      rw [L]
      dsimp only
      rw [nI_add]
      exact hK
    · obtain ⟨r1, r2, r3, r4⟩ := r
      rw [Msm KK r1 r2 r3 r4 (by decide) (by decide), xif_f c0, xif_f c1, xif_f c2, xif_t rfl, m_ob, m_call]
      unfold p_M_counted
      have L := fun KK Kx r => M_counted3_L (M := M) (A := A) (B := B) (r := r) (K := KK) (Kx := Kx) g1 g8 D 1000 0 0 (by omega) (by omega)
      simp only [Nat.zero_add, show nI 0 = 0 from rfl] at L
      rw [L]
      have e : ((sel (ngB (A 14)) 0 D).filter (lvB (A 16))).length = ((bufL A D).filter (lvB (A 16))).length + ((catL A D 0 K).filter (lvB (A 16))).length := by
        rw [cat_all hsegs g7]
        unfold bufL
        rw [sel_filter, sel_filter, sel_filter]
        refine sel_cnt _ _ (fun x _ hx => ?_)
        unfold ngB segB nnB
        rcases hsegs.1 x (by omega) with ⟨q, q2⟩ | q | ⟨k, k1, k2⟩
        · rw [q, lvB_f.mpr q2, Bool.and_false, Bool.and_false, Bool.and_false]; exact ⟨rfl, rfl⟩
        · rw [q, decide_eq_true (show ¬ (-1 : Int32) = -2 by decide), decide_eq_true (show (-1 : Int32) = -1 from rfl), decide_eq_false (show ¬ ¬ (-1 : Int32) < 0 by decide)]; cases lvB (A 16) x <;> exact ⟨rfl, rfl⟩
        · rw [k2, decide_eq_true (nI_ne_m2 (by omega)), decide_eq_false (nI_ne_m1 (by omega)), decide_eq_true (nI_pos (by omega))]; cases lvB (A 16) x <;> exact ⟨rfl, rfl⟩
      rw [e]
      exact hK
  by_cases c4 : w = 4
  · subst c4
    refine ⟨nI ((catL A D 0 K).filter (fun x => !lvB (A 16) x)).length, fun KK o cb sb hK => ?_, fun KK r hK => ?_⟩
    · unfold p_B_count
      rw [xif_f c0, xif_f c1, xif_f c2, xif_f c3, xif_t rfl, c_ob0, m_call]
      unfold p_B_deletedInSegments
      have L := fun KK Kx => B_dead_L (o := o) (cb := 0) (sb := 0) (ca := ca) (cu := cu) (KK := KK) (Kx := Kx) hk hr K 1000 0 0 (by omega) (by omega)
      simp only [Nat.zero_add, show nI 0 = 0 from rfl] at L
      rw [L]
      exact hK
    · obtain ⟨r1, r2, r3, r4⟩ := r
      rw [Msm KK r1 r2 r3 r4 (by decide) (by decide), xif_f c0, xif_f c1, xif_f c2, xif_f c3, xif_t rfl, m_ob, m_call]
      unfold p_M_counted
      have L := fun KK Kx r => M_counted4_L (M := M) (A := A) (B := B) (r := r) (K := KK) (Kx := Kx) g1 g8 D 1000 0 0 (by omega) (by omega)
      simp only [Nat.zero_add, show nI 0 = 0 from rfl] at L
      rw [L, ← cat_all hsegs g7]
      exact hK
  by_cases c5 : w = 5
  · subst c5
    refine ⟨nI D, fun KK o cb sb hK => ?_, fun KK r hK => ?_⟩
    · unfold p_B_count; rw [xif_f c0, xif_f c1, xif_f c2, xif_f c3, xif_f c4, xif_t rfl, c_g0_9, g2]; exact hK
    · obtain ⟨r1, r2, r3, r4⟩ := r
      rw [Msm KK r1 r2 r3 r4 (by decide) (by decide), xif_f c0, xif_f c1, xif_f c2, xif_f c3, xif_f c4, xif_t rfl, m_g18, g1]; exact hK
  by_cases c6 : w = 6
  · subst c6
    refine ⟨nI (nz (A 9) 16), fun KK o cb sb hK => ?_, fun KK r hK => ?_⟩
    · unfold p_B_count; rw [xif_f c0, xif_f c1, xif_f c2, xif_f c3, xif_f c4, xif_f c5, xif_t rfl, c_g0_1, c_g3_1, hm.2.2.1]; exact hK
    · obtain ⟨r1, r2, r3, r4⟩ := r
      rw [Msm KK r1 r2 r3 r4 (by decide) (by decide), xif_f c0, xif_f c1, xif_f c2, xif_f c3, xif_f c4, xif_f c5, xif_t rfl, m_g10, hm.2.2.2]; exact hK
  by_cases c7 : w = 7
  · subst c7
    refine ⟨nI (snapL A D).length, fun KK o cb sb hK => ?_, fun KK r hK => ?_⟩
    · unfold p_B_count; rw [xif_f c0, xif_f c1, xif_f c2, xif_f c3, xif_f c4, xif_f c5, xif_f c6, xif_t rfl, c_g0_4, c_g17_1, hs.2.1.1]; exact hK
    · obtain ⟨r1, r2, r3, r4⟩ := r
      rw [Msm KK r1 r2 r3 r4 (by decide) (by decide), xif_f c0, xif_f c1, xif_f c2, xif_f c3, xif_f c4, xif_f c5, xif_f c6, xif_t rfl, m_ob, m_call]
      unfold p_M_counted
      have L := fun KK Kx r => M_counted7_L (M := M) (A := A) (B := B) (r := r) (K := KK) (Kx := Kx) g1 g8 D 1000 0 0 (by omega) (by omega)
      simp only [Nat.zero_add, show nI 0 = 0 from rfl] at L
      rw [L]
      exact hK
  by_cases c8 : w = 8
  · subst c8
    refine ⟨nI H, fun KK o cb sb hK => ?_, fun KK r hK => ?_⟩
    · unfold p_B_count; rw [xif_f c0, xif_f c1, xif_f c2, xif_f c3, xif_f c4, xif_f c5, xif_f c6, xif_f c7, xif_t rfl, c_g0_7, c_g44_1, hh.1.2.1]; exact hK
    · obtain ⟨r1, r2, r3, r4⟩ := r
      rw [Msm KK r1 r2 r3 r4 (by decide) (by decide), xif_f c0, xif_f c1, xif_f c2, xif_f c3, xif_f c4, xif_f c5, xif_f c6, xif_f c7, xif_t rfl, m_g44, hh.1.2.2]; exact hK
  by_cases c9 : w = 9
  · subst c9
    refine ⟨cs 10, fun KK o cb sb hK => ?_, fun KK r hK => ?_⟩
    · unfold p_B_count; rw [xif_f c0, xif_f c1, xif_f c2, xif_f c3, xif_f c4, xif_f c5, xif_f c6, xif_f c7, xif_f c8, xif_t rfl, c_g0_10]; exact hK
    · obtain ⟨r1, r2, r3, r4⟩ := r
      rw [Msm KK r1 r2 r3 r4 (by decide) (by decide), xif_f c0, xif_f c1, xif_f c2, xif_f c3, xif_f c4, xif_f c5, xif_f c6, xif_f c7, xif_f c8, xif_t rfl, m_g20, g4]; exact hK
  have hB : ∀ (KK : Int32 → xS → Prop) (o : xM) (cb sb : Nat), p_B_count X w KK (cheap X cs ca cr cu dyn, o, nx, cb, sb) ↔ p_B_segmentFact X w (fun v G' => KK v (G'.1, G'.2.1, G'.2.2.1, cb, sb)) (cheap X cs ca cr cu dyn, o, nx, 0, 0) := by
    intro KK o cb sb
    unfold p_B_count
    rw [xif_f c0, xif_f c1, xif_f c2, xif_f c3, xif_f c4, xif_f c5, xif_f c6, xif_f c7, xif_f c8, xif_f c9, c_ob0, m_call]
  rcases inR_cases w 20 25 with h1 | h1
  · have B40 : ∀ (KK : Int32 → xS → Prop) (o : xM) (cb sb : Nat), p_B_count X w KK (cheap X cs ca cr cu dyn, o, nx, cb, sb) ↔ p_B_segmentFact_B40 X w (fun v G' => KK v (G'.1, G'.2.1, G'.2.2.1, cb, sb)) (cheap X cs ca cr cu dyn, o, nx, 0, 0) := by
      intro KK o cb sb
      rw [hB]
      unfold p_B_segmentFact
      rcases inR_0.mp h1 with q | q
      · rw [xif_t (by rw [i_lt]; exact q)]
      · rw [xif_f (by rw [i_lt, show (20 : Int32).toInt = 20 from rfl]; omega), xif_t (by rw [i_le, show (26 : Int32).toInt = 26 from rfl]; omega)]
    rcases inR_cases w 30 35 with h2 | h2
    · refine ⟨-1, fun KK o cb sb hK => ?_, fun KK r hK => ?_⟩
      · rw [B40]
        unfold p_B_segmentFact_B40
        rcases inR_0.mp h2 with q | q
        · rw [xif_t (by rw [i_lt]; exact q)]; exact hK
        · rw [xif_f (by rw [i_lt, show (30 : Int32).toInt = 30 from rfl]; omega), xif_t (by rw [i_le, show (36 : Int32).toInt = 36 from rfl]; omega)]; exact hK
      · obtain ⟨r1, r2, r3, r4⟩ := r
        rw [Msm KK r1 r2 r3 r4 h1 h2, xif_f c0, xif_f c1, xif_f c2, xif_f c3, xif_f c4, xif_f c5, xif_f c6, xif_f c7, xif_f c8, xif_f c9]; exact hK
    · have hv : ¬ (w.toInt < 30 ∨ 35 < w.toInt) := fun q => by rw [inR_0.mpr q] at h2; exact absurd h2 (by decide)
      obtain ⟨k, hk36, rfl⟩ := vp_in_of (x := w) (n := 36) (vp_in_iff.mpr ⟨by omega, by omega⟩) (by decide)
      rw [nI_toInt (by omega)] at hv
      have hsub : nI k - 30 = nI (k - 30) := pk_sub (b := 30) (by omega)
      have MM : ∀ (KK : Int32 → xS → Prop) (r1 : xM) (r2 r3 r4 : Nat), p_M_count M (nI k) KK (mheap M A B S, r1, r2, r3, r4) ↔ (xif (nI K ≤ nI (k - 30)) (KK (-2)) (xob 10 (some M) fun b => xcall 0 0 (p_M_inSegment b (nI (k - 30)) 1) fun v14 => KK v14)) (mheap M A B S, r1, r2, r3, r4) := by
        intro KK r1 r2 r3 r4
        unfold p_M_count
        rw [m_call, M_in_eq, show (20 : Int32).toInt = 20 from rfl, show (25 : Int32).toInt = 25 from rfl, h1]
        dsimp only
        rw [xif_t rfl, m_call, M_in_eq, show (30 : Int32).toInt = 30 from rfl, show (35 : Int32).toInt = 35 from rfl, h2]
        dsimp only
        rw [xif_f (by decide), m_g19, g6, hsub]
      have BB : ∀ (KK : Int32 → xS → Prop) (o : xM) (cb sb : Nat), p_B_count X (nI k) KK (cheap X cs ca cr cu dyn, o, nx, cb, sb) ↔ (xif (nI K ≤ nI (k - 30)) (fun G' => KK (-2) (G'.1, G'.2.1, G'.2.2.1, cb, sb)) (xgR 9 3 (some X) fun v2 => xalR 5 v2 (nI (k - 30)) fun v3 => xob 8 v3 fun b => xcall 0 0 (p_Rw_liveCount b ) fun v4 G' => KK v4 (G'.1, G'.2.1, G'.2.2.1, cb, sb))) (cheap X cs ca cr cu dyn, o, nx, 0, 0) := by
        intro KK o cb sb
        rw [B40]
        unfold p_B_segmentFact_B40
        rw [xif_f (by rw [i_lt, nI_toInt (by omega), show (30 : Int32).toInt = 30 from rfl]; omega), xif_f (by rw [i_le, nI_toInt (by omega), show (36 : Int32).toInt = 36 from rfl]; omega), c_g0_8, g5, hsub]
      by_cases cK : K ≤ k - 30
      · refine ⟨-2, fun KK o cb sb hK => ?_, fun KK r hK => ?_⟩
        · rw [BB, xif_t (nI_le cK (by omega))]; exact hK
        · obtain ⟨r1, r2, r3, r4⟩ := r
          rw [MM, xif_t (nI_le cK (by omega))]; exact hK
      · obtain ⟨ad, cap, docs, a1, a2, a3, a4, a5⟩ := hsg (k - 30) (by omega)
        have hrow := rowM_of (cs := cs) (ca := ca) (cr := cr) (cu := cu) a2 a3 a4
        refine ⟨nI ((segL A D (k - 30)).filter (lvB (A 16))).length, fun KK o cb sb hK => ?_, fun KK r hK => ?_⟩
        · rw [BB, xif_f (nI_ge (by omega) (by omega)), c_g0_3, c_r16, cl_nI (by omega), a1, g_ob hrow.1, m_call, Rw_liveCount_eq (id := A 13) (sz := sz) (nodes := nodes) hrow a5 (fun d hd => docM_of (hn d (mem_seg.mp hd).1).1)]
          exact ⟨vp_in_nI (by omega) (by decide), hK⟩
        · obtain ⟨r1, r2, r3, r4⟩ := r
          rw [MM, xif_f (nI_ge (by omega) (by omega)), m_ob, m_call, M_inSegment1_eq g1 g8]
          exact hK
  · have hv : ¬ (w.toInt < 20 ∨ 25 < w.toInt) := fun q => by rw [inR_0.mpr q] at h1; exact absurd h1 (by decide)
    obtain ⟨k, hk36, rfl⟩ := vp_in_of (x := w) (n := 26) (vp_in_iff.mpr ⟨by omega, by omega⟩) (by decide)
    rw [nI_toInt (by omega)] at hv
    have hsub : nI k - 20 = nI (k - 20) := pk_sub (b := 20) (by omega)
    have MM : ∀ (KK : Int32 → xS → Prop) (r1 : xM) (r2 r3 r4 : Nat), p_M_count M (nI k) KK (mheap M A B S, r1, r2, r3, r4) ↔ (xif (nI K ≤ nI (k - 20)) (KK (-2)) (xob 10 (some M) fun b => xcall 0 0 (p_M_inSegment b (nI (k - 20)) 0) fun v14 => KK v14)) (mheap M A B S, r1, r2, r3, r4) := by
      intro KK r1 r2 r3 r4
      unfold p_M_count
      rw [m_call, M_in_eq, show (20 : Int32).toInt = 20 from rfl, show (25 : Int32).toInt = 25 from rfl, h1]
      dsimp only
      rw [xif_f (by decide), m_g19, g6, hsub]
    have BB : ∀ (KK : Int32 → xS → Prop) (o : xM) (cb sb : Nat), p_B_count X (nI k) KK (cheap X cs ca cr cu dyn, o, nx, cb, sb) ↔ (xif (nI K ≤ nI (k - 20)) (fun G' => KK (-2) (G'.1, G'.2.1, G'.2.2.1, cb, sb)) (xgR 9 3 (some X) fun v6 => xalR 5 v6 (nI (k - 20)) fun v7 => xgI 8 2 v7 fun v8 G' => KK v8 (G'.1, G'.2.1, G'.2.2.1, cb, sb))) (cheap X cs ca cr cu dyn, o, nx, 0, 0) := by
      intro KK o cb sb
      rw [hB]
      unfold p_B_segmentFact
      rw [xif_f (by rw [i_lt, nI_toInt (by omega), show (20 : Int32).toInt = 20 from rfl]; omega), xif_f (by rw [i_le, nI_toInt (by omega), show (26 : Int32).toInt = 26 from rfl]; omega), c_g0_8, g5, hsub]
    by_cases cK : K ≤ k - 20
    · refine ⟨-2, fun KK o cb sb hK => ?_, fun KK r hK => ?_⟩
      · rw [BB, xif_t (nI_le cK (by omega))]; exact hK
      · obtain ⟨r1, r2, r3, r4⟩ := r
        rw [MM, xif_t (nI_le cK (by omega))]; exact hK
    · obtain ⟨ad, cap, docs, a1, a2, a3, a4, a5⟩ := hsg (k - 20) (by omega)
      have hrow := rowM_of (cs := cs) (ca := ca) (cr := cr) (cu := cu) a2 a3 a4
      refine ⟨nI (szs sz (segL A D (k - 20))), fun KK o cb sb hK => ?_, fun KK r hK => ?_⟩
      · rw [BB, xif_f (nI_ge (by omega) (by omega)), c_g0_3, c_r16, cl_nI (by omega), a1, g_gI hrow.1 rfl]
        exact ⟨vp_in_nI (by omega) (by decide), hK⟩
      · obtain ⟨r1, r2, r3, r4⟩ := r
        rw [MM, xif_f (nI_ge (by omega) (by omega)), m_ob, m_call, M_inSegment_eq g1 g8 hz]
        exact hK
end TY
