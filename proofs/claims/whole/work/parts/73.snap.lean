/-! THE SNAPSHOT, of both -/
def snapL (A : Nat → Nat → Int32) (D : Nat) : List Nat := sel (nnB (A 15)) 0 D
def Rs (cs : Nat → Int32) (ca : Nat → Nat → Int32) (cr : Nat → Nat → Option Nat) (A : Nat → Nat → Int32) (S : Nat → Int32) (D : Nat) (sz da : Nat → Nat) : Prop :=
  (S 21 = cs 1700 ∧ (cs 1700 = 0 ∨ cs 1700 = 1)) ∧
  (cs 1701 = nI (snapL A D).length ∧ (snapL A D).length ≤ 120 ∧ lstV (cr 18) 0 ((snapL A D).map (fun d => some (da d))) ∧ lstV (ca 19) 0 ((snapL A D).map (A 17)) ∧ lstV (ca 20) 0 ((snapL A D).map (A 15)) ∧ lstV (ca 21) 0 ((snapL A D).map (rootI (A 15) sz))) ∧
  (∀ d, d < D → (A 15 d = -2 ∧ A 17 d = 0) ∨ ((∃ k, k < 6 ∧ A 15 d = nI k) ∧ (A 17 d = 0 ∨ A 17 d = 1))) ∧ (∀ d, D ≤ d → A 17 d = 0) ∧
  ∀ d e, d < D → e < D → A 17 d = 1 → A 17 e = 1 → A 13 d = A 13 e → d = e
theorem mem_snap {A : Nat → Nat → Int32} {D d : Nat} : d ∈ snapL A D ↔ d < D ∧ ¬ A 15 d < 0 := by
  unfold snapL
  rw [mem_sel]
  constructor
  · rintro ⟨-, b, c⟩
    exact ⟨by omega, of_decide_eq_true c⟩
  · rintro ⟨b, c⟩
    exact ⟨Nat.zero_le _, by omega, decide_eq_true c⟩
theorem seg_len {A : Nat → Nat → Int32} {D K k : Nat} (hs : segs A D K) (hk : k < K) (hid : ∀ d, d < D → ∃ i, i < 20 ∧ A 13 d = nI i) : (segL A D k).length ≤ 20 := by
  refine pig (g := fun d => (A 13 d).toNatClampNeg) 20 _ (fun d hd => ?_) ?_
  · obtain ⟨i, h1, h2⟩ := hid d (mem_seg.mp hd).1
    show (A 13 d).toNatClampNeg < 20
    rw [h2, cl_nI (by omega)]
    exact h1
  · refine List.Pairwise.imp_of_mem (fun {a b} ha hb hab => ?_) (sel_srt D 0)
    intro q
    obtain ⟨a1, a2⟩ := mem_seg.mp ha
    obtain ⟨b1, b2⟩ := mem_seg.mp hb
    obtain ⟨i, h1, h2⟩ := hid a a1
    obtain ⟨j, h3, h4⟩ := hid b b1
    have q' : (A 13 a).toNatClampNeg = (A 13 b).toNatClampNeg := q
    rw [h2, h4, cl_nI (by omega), cl_nI (by omega)] at q'
    have := hs.2.2.2.2 a b k a1 b1 hk a2 b2 (by rw [h2, h4, q'])
    omega
theorem cat_len {A : Nat → Nat → Int32} {D K : Nat} (hs : segs A D K) (hid : ∀ d, d < D → ∃ i, i < 20 ∧ A 13 d = nI i) : ∀ (n a : Nat), a + n ≤ K → (catL A D a n).length ≤ 20 * n
  | 0, _, _ => Nat.le_refl _
  | n + 1, a, h => by
    have h1 := cat_len hs hid n (a + 1) (by omega)
    have h2 := seg_len hs (show a < K by omega) hid
    rw [show catL A D a (n + 1) = segL A D a ++ catL A D (a + 1) n from rfl, List.length_append]
    omega
theorem cat_all {A : Nat → Nat → Int32} {D K : Nat} (hs : segs A D K) (h6 : K ≤ 6) : catL A D 0 K = sel (nnB (A 14)) 0 D := by
  rw [cat_sel hs h6 K 0 (by omega)]
  refine sel_congr _ _ (fun d _ hd => decide_eq_decide.mpr ?_)
  rw [i_lt, show (0 : Int32).toInt = 0 from rfl]
  rcases hs.1 d (by omega) with ⟨q, -⟩ | q | ⟨k, k1, k2⟩
  · rw [q, show (-2 : Int32).toInt = -2 from rfl]; omega
  · rw [q, show (-1 : Int32).toInt = -1 from rfl]; omega
  · rw [k2, nI_toInt (by omega)]; omega
theorem lstV_congr {α β : Type} {f : Nat → α} {g h : β → α} : ∀ (L : List β) (j : Nat), (∀ x ∈ L, g x = h x) → lstV f j (L.map g) → lstV f j (L.map h)
  | [], _, _, _ => trivial
  | x :: L, j, e, hl => ⟨hl.1.trans (e x List.mem_cons_self), lstV_congr L (j + 1) (fun y hy => e y (List.mem_cons_of_mem _ hy)) hl.2⟩
theorem Rs.to {cs cs' : Nat → Int32} {ca ca' : Nat → Nat → Int32} {cr cr' : Nat → Nat → Option Nat} {A A' : Nat → Nat → Int32} {S S' : Nat → Int32} {D : Nat} {sz da : Nat → Nat} (h : Rs cs ca cr A S D sz da) (hcs : ∀ k, k ∈ [1700, 1701] → cs' k = cs k) (hca : ∀ k, k ∈ [19, 20, 21] → ca' k = ca k) (hcr : cr' 18 = cr 18) (hA : ∀ k, k ∈ [13, 15, 17] → A' k = A k) (hS : S' 21 = S 21) : Rs cs' ca' cr' A' S' D sz da := by
  have c1 := hcs 1700 (by decide); have c2 := hcs 1701 (by decide)
  have a1 := hca 19 (by decide); have a2 := hca 20 (by decide); have a3 := hca 21 (by decide)
  have e13 := hA 13 (by decide); have e15 := hA 15 (by decide); have e17 := hA 17 (by decide)
  have es : snapL A' D = snapL A D := by unfold snapL; rw [e15]
  unfold Rs
  rw [c1, c2, a1, a2, a3, hcr, e13, e15, e17, hS, es]
  exact h
section ST
variable {X M nx db : Nat} {bs : Nat → Nat} {dyn : xM} {cs : Nat → Int32} {ca : Nat → Nat → Int32} {cr : Nat → Nat → Option Nat} {cu : Option Nat} {A : Nat → Nat → Int32} {B : Nat → Nat → Int64} {S : Nat → Int32} {D O K : Nat} {fr sz da na le : Nat → Nat}
theorem st_refresh (hk : Rk (X + 66) nx db bs dyn A B D O fr sz da na le) (hr : Rr (X + 66) nx bs dyn cs cr A S D O K sz da) (hsn : Rs cs ca cr A S D sz da) :
    ∃ (x : Int32) (cs' : Nat → Int32) (ca' : Nat → Nat → Int32) (cr' : Nat → Nat → Option Nat) (A' : Nat → Nat → Int32) (S' : Nat → Int32), Rs cs' ca' cr' A' S' D sz da ∧ agr [15, 17] A' A ∧ agr [21] S' S ∧ agr [1700, 1701] cs' cs ∧ agr [19, 20, 21] ca' ca ∧ agr [18] cr' cr ∧
      (∀ (KK : Int32 → xS → Prop) (o : xM) (cb sb : Nat), KK x (cheap X cs' ca' cr' cu dyn, o, nx, cb, sb) → p_B_refresh X KK (cheap X cs ca cr cu dyn, o, nx, cb, sb)) ∧
      (∀ (KK : Int32 → xS → Prop) (r : xM × Nat × Nat × Nat), KK x (mheap M A' B S', r) → p_M_refresh M KK (mheap M A B S, r)) := by
  obtain ⟨⟨g1, g2, g3, g4, g5, g6, g7, g8⟩, -, hsg, hs⟩ := id hr
  have h01 : ∀ d, d < D → A 16 d = 0 ∨ A 16 d = 1 := fun d hd => (hk.1 d hd).2.2.1
  have hid : ∀ d, d < D → ∃ i, i < 20 ∧ A 13 d = nI i := fun d hd => (hk.1 d hd).2.1
  have hlen : (catL A D 0 K).length ≤ 120 := by have := cat_len hs hid K 0 (by omega); omega
  have hcat := cat_all hs g7
  have e15 : va_up (va_up A 15 (rfS (A 14) (A 15) 0 D)) 17 (rfL (A 14) (A 16) (A 17) 0 D) 15 = rfS (A 14) (A 15) 0 D := (va_up_ne _ _ (by decide)).trans (va_up_self _ _ _)
  have e17 : va_up (va_up A 15 (rfS (A 14) (A 15) 0 D)) 17 (rfL (A 14) (A 16) (A 17) 0 D) 17 = rfL (A 14) (A 16) (A 17) 0 D := va_up_self _ _ _
  have e13 : va_up (va_up A 15 (rfS (A 14) (A 15) 0 D)) 17 (rfL (A 14) (A 16) (A 17) 0 D) 13 = A 13 := (va_up_ne _ _ (by decide)).trans (va_up_ne _ _ (by decide))
  have v15 : ∀ d, d < D → rfS (A 14) (A 15) 0 D d = if A 14 d < 0 then -2 else A 14 d := fun d hd => if_pos ⟨Nat.zero_le _, hd⟩
  have v17 : ∀ d, d < D → rfL (A 14) (A 16) (A 17) 0 D d = if A 14 d < 0 then 0 else if A 16 d = 0 then 0 else 1 := fun d hd => if_pos ⟨Nat.zero_le _, hd⟩
  have hsn' : snapL (va_up (va_up A 15 (rfS (A 14) (A 15) 0 D)) 17 (rfL (A 14) (A 16) (A 17) 0 D)) D = catL A D 0 K := by
    rw [hcat]
    unfold snapL
    rw [e15]
    refine sel_congr _ _ (fun d _ hd => ?_)
    by_cases e : A 14 d < 0
    · rw [nnB_f e, nnB_f (by rw [v15 d (by omega), if_pos e]; decide)]
    · rw [nnB_t e, nnB_t (by rw [v15 d (by omega), if_neg e]; exact e)]
  have hmem : ∀ d ∈ catL A D 0 K, d < D ∧ ¬ A 14 d < 0 := fun d hd => by
    rw [hcat] at hd
    obtain ⟨-, h1, h2⟩ := (mem_sel _ _).mp hd
    exact ⟨by omega, of_decide_eq_true h2⟩
  refine ⟨nI ((catL A D 0 K).filter (lvB (A 16))).length, va_up (va_up cs 1700 1) 1701 (nI (catL A D 0 K).length), va_up (va_up (va_up ca 19 (putV (ca 19) 0 ((catL A D 0 K).map (A 16)))) 20 (putV (ca 20) 0 ((catL A D 0 K).map (A 14)))) 21 (putV (ca 21) 0 ((catL A D 0 K).map (rootI (A 14) sz))), va_up cr 18 (putV (cr 18) 0 ((catL A D 0 K).map (fun d => some (da d)))), va_up (va_up A 15 (rfS (A 14) (A 15) 0 D)) 17 (rfL (A 14) (A 16) (A 17) 0 D), va_up S 21 1, ⟨⟨?_, ?_⟩, ?_, fun d hd => ?_, fun d hd => ?_, fun d e hd he l1 l2 hi => ?_⟩, (agr.rf.up (by decide)).up (by decide), agr.rf.up (by decide), (agr.rf.up (by decide)).up (by decide), ((agr.rf.up (by decide)).up (by decide)).up (by decide), agr.rf.up (by decide), fun KK o cb sb hK => ?_, fun KK r hK => ?_⟩
  · rw [va_up_self, va_up_ne _ _ (by decide), va_up_self]
  · rw [va_up_ne _ _ (by decide), va_up_self]; exact Or.inr rfl
  · rw [hsn', e15, e17, va_up_self, va_up_self, ca3_1, ca3_2, va_up_self]
    refine ⟨rfl, hlen, putV_lst _ _ _, lstV_congr _ _ (fun d hd => ?_) (putV_lst _ _ _), lstV_congr _ _ (fun d hd => ?_) (putV_lst _ _ _), lstV_congr _ _ (fun d hd => ?_) (putV_lst _ _ _)⟩
    · obtain ⟨h1, h2⟩ := hmem d hd
      rw [v17 d h1, if_neg h2]
      rcases h01 d h1 with q | q
      · rw [q, if_pos rfl]
      · rw [q, if_neg (by decide)]
    · obtain ⟨h1, h2⟩ := hmem d hd
      rw [v15 d h1, if_neg h2]
    · obtain ⟨h1, h2⟩ := hmem d hd
      unfold rootI
      rw [v15 d h1, if_neg h2]
      congr 3
      congr 1
      refine sel_congr _ _ (fun e _ he => ?_)
      unfold segB
      rw [v15 e (by omega)]
      by_cases c : A 14 e < 0
      · rw [if_pos c, decide_eq_false (fun q => h2 (by rw [← q]; exact c)), decide_eq_false (fun q => h2 (by rw [← q]; decide))]
      · rw [if_neg c]
  · rw [e15, e17, v15 d hd, v17 d hd]
    by_cases c : A 14 d < 0
    · rw [if_pos c, if_pos c]; exact Or.inl ⟨rfl, rfl⟩
    · rw [if_neg c, if_neg c]
      refine Or.inr ⟨?_, ?_⟩
      · rcases hs.1 d hd with ⟨q, -⟩ | q | ⟨k, k1, k2⟩
        · rw [q] at c; exact absurd c (by decide)
        · rw [q] at c; exact absurd c (by decide)
        · exact ⟨k, by omega, k2⟩
      · by_cases c2 : A 16 d = 0
        · rw [if_pos c2]; exact Or.inl rfl
        · rw [if_neg c2]; exact Or.inr rfl
  · rw [e17]
    unfold rfL
    rw [if_neg (by omega)]
    exact hsn.2.2.2.1 d hd
  · rw [e17, v17 d hd] at l1
    rw [e17, v17 e he] at l2
    rw [e13] at hi
    have n1 : A 16 d = 1 := by
      rcases h01 d hd with q | q
      · rw [q, if_pos rfl, ite_self] at l1; exact absurd l1 (by decide)
      · exact q
    have n2 : A 16 e = 1 := by
      rcases h01 e he with q | q
      · rw [q, if_pos rfl, ite_self] at l2; exact absurd l2 (by decide)
      · exact q
    exact hs.2.2.2.1 d e hd he n1 n2 hi
  · unfold p_B_refresh
    rw [c_g0_4, c_ob17, m_call]
    unfold p_Sn_begin
    rw [c_p17_0, c_p17_1]
    refine ⟨Or.inr rfl, ?_⟩
    dsimp only
    have L := fun KK Kx => B_refresh_L (X := X) (cu := cu) (o := o) (cb := cb) (sb := sb) (KK := KK) (Kx := Kx) hk g7 hsg K 1000 0 0 (va_up (va_up cs 1700 1) 1701 0) ca cr (by omega) (by omega) (by omega) (va_up_self _ _ _) ((va_up_ne _ _ (by decide)).trans ((va_up_ne _ _ (by decide)).trans g5)) rfl
    simp only [Nat.zero_add, show nI 0 = 0 from rfl, bx_uu] at L
    rw [L, c_g0_4, c_ob17, m_call]
    unfold p_Sn_liveCount
    have L2 := fun KK Kx r => Sn_count_L (X := X) (dyn := dyn) (cu := cu) (K := KK) (Kx := Kx) (r := r) (cs := va_up (va_up cs 1700 1) 1701 (nI (catL A D 0 K).length)) (ca := va_up (va_up (va_up ca 19 (putV (ca 19) 0 ((catL A D 0 K).map (A 16)))) 20 (putV (ca 20) 0 ((catL A D 0 K).map (A 14)))) 21 (putV (ca 21) 0 ((catL A D 0 K).map (rootI (A 14) sz)))) (cr := va_up cr 18 (putV (cr 18) 0 ((catL A D 0 K).map (fun d => some (da d))))) (lv := A 16) hlen (va_up_self _ _ _) (catL A D 0 K) 0 0 1000 (by omega) (by omega) (by rw [ca3_1]; exact putV_lst _ _ _)
    simp only [Nat.zero_add, show nI 0 = 0 from rfl] at L2
    rw [L2]
    exact hK
  · unfold p_M_refresh
    rw [m_p21]
    refine ⟨Or.inr rfl, ?_⟩
    have L := fun KK Kx => M_refresh_L (M := M) (B := B) (r := r) (KK := KK) (Kx := Kx) (S := va_up S 21 1) ((va_up_ne _ _ (by decide)).trans g1) g8 D 1000 0 0 A (by omega) (by omega)
    simp only [Nat.zero_add, show nI 0 = 0 from rfl] at L
    rw [L, ← hcat]
    exact hK
end ST
