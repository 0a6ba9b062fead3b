/-! refresh, of both -/
theorem ca3_1 {ca : Nat → Nat → Int32} {f1 f2 f3 : Nat → Int32} : va_up (va_up (va_up ca 19 f1) 20 f2) 21 f3 19 = f1 := by rw [va_up_ne _ _ (by decide), va_up_ne _ _ (by decide), va_up_self]
theorem ca3_2 {ca : Nat → Nat → Int32} {f1 f2 f3 : Nat → Int32} : va_up (va_up (va_up ca 19 f1) 20 f2) 21 f3 20 = f2 := by rw [va_up_ne _ _ (by decide), va_up_self]
theorem ca3_4 {ca : Nat → Nat → Int32} {f1 f2 f3 g1 g2 g3 : Nat → Int32} : va_up (va_up (va_up (va_up (va_up (va_up ca 19 f1) 20 f2) 21 f3) 19 g1) 20 g2) 21 g3 = va_up (va_up (va_up ca 19 g1) 20 g2) 21 g3 := by
  rw [va_up_sw (k := 21) (j := 19) (by decide), va_up_sw (k := 20) (j := 19) (by decide), bx_uu, va_up_sw (k := 21) (j := 20) (by decide), bx_uu, bx_uu]
def rootI (s : Nat → Int32) (sz : Nat → Nat) (d : Nat) : Int32 := nI (szs sz (sel (segB s (s d)) 0 d) + sz d - 1)
section RF
variable {X M nx db : Nat} {bs : Nat → Nat} {dyn : xM} {cu : Option Nat} {A : Nat → Nat → Int32} {B : Nat → Nat → Int64} {S : Nat → Int32} {D O K : Nat} {fr sz da na le : Nat → Nat} {o : xM} {cb sb : Nat}
theorem B_refresh_L {KK : Int32 → xS → Prop} {Kx : xS → Prop} (hk : Rk (X + 66) nx db bs dyn A B D O fr sz da na le) (h6 : K ≤ 6) {cr0 : Nat → Nat → Option Nat} (hsg : ∀ k, k < K → segOk (X + 66) nx bs dyn cr0 A D sz da k) : ∀ (n f i s : Nat) (cs : Nat → Int32) (ca : Nat → Nat → Int32) (cr : Nat → Nat → Option Nat), n < f → i + n = K → s + (catL A D i n).length ≤ 120 → cs 1701 = nI s → cs 8 = nI K → cr 16 = cr0 16 →
    (p_B_refresh_L9 X KK Kx f (nI i) (cheap X cs ca cr cu dyn, o, nx, cb, sb) ↔ Kx (cheap X (va_up cs 1701 (nI (s + (catL A D i n).length))) (va_up (va_up (va_up ca 19 (putV (ca 19) s ((catL A D i n).map (A 16)))) 20 (putV (ca 20) s ((catL A D i n).map (A 14)))) 21 (putV (ca 21) s ((catL A D i n).map (rootI (A 14) sz)))) (va_up cr 18 (putV (cr 18) s ((catL A D i n).map (fun d => some (da d))))) cu dyn, o, nx, cb, sb))
  | 0, f + 1, i, s, cs, ca, cr, hf, hi, hs, hcs, hK, hcr => by
    unfold p_B_refresh_L9
    rw [c_g0_8, hK, xif_t (nI_le (by omega) (by omega)), show catL A D i 0 = [] from rfl]
    rw [show putV (ca 19) s (([] : List Nat).map (A 16)) = ca 19 from rfl, va_up_id (f := ca) rfl, show putV (ca 20) s (([] : List Nat).map (A 14)) = ca 20 from rfl, va_up_id (f := ca) rfl, show putV (ca 21) s (([] : List Nat).map (rootI (A 14) sz)) = ca 21 from rfl, va_up_id (f := ca) rfl, show putV (cr 18) s (([] : List Nat).map (fun d => some (da d))) = cr 18 from rfl, va_up_id (f := cr) rfl, show s + ([] : List Nat).length = s from rfl, va_up_id (f := cs) hcs]
  | n + 1, f + 1, i, s, cs, ca, cr, hf, hi, hs, hcs, hK, hcr => by
    obtain ⟨nodes, hn⟩ := docs_of hk
    obtain ⟨a, cap, docs, a1, a2, a3, a4, a5⟩ := hsg i (by omega)
    have hin : vp_in (nI i) 6 := vp_in_nI (by omega) (by decide)
    rw [show catL A D i (n + 1) = segL A D i ++ catL A D (i + 1) n from rfl, List.length_append] at hs
    unfold p_B_refresh_L9
    rw [c_g0_8, hK, xif_f (nI_ge (by omega) (by omega)), c_g0_4, c_g0_3, c_r16, cl_nI (by omega), hcr, a1, c_ob17, m_call]
    unfold p_Sn_takeIn
    have L := fun K Kx r => Sn_take_L (X := X) (nx := nx) (bs := bs) (dyn := dyn) (cu := cu) (K := K) (Kx := Kx) (r := r) (id := A 13) (nodes := nodes) (i := i) a2.1.1 (show X + 66 ≤ a + 1 by have := a2.1.1; omega) a2.2.1 a2.2.2 a3 a4 (segL A D i) 0 1000 s 0 cs ca cr (by omega) (by omega) (by omega) hcs a5 (fun d hd => ⟨(hn d (mem_seg.mp hd).1).1, (hk.1 d (mem_seg.mp hd).1).2.2.1, (hk.1 d (mem_seg.mp hd).1).1.2.2.1⟩)
    simp only [show nI 0 = 0 from rfl] at L
    rw [L]
    dsimp only
    have m1 : (segL A D i).map (fun _ => nI i) = (segL A D i).map (A 14) := List.map_congr_left (fun d hd => (mem_seg.mp hd).2.symm)
    have m2 : rts sz 0 (segL A D i) = (segL A D i).map (rootI (A 14) sz) := by
      refine (rts_sel (sz := sz) (p := segB (A 14) (nI i)) D 0).trans (List.map_congr_left (fun d hd => ?_))
      unfold rootI
      rw [(mem_seg.mp hd).2]
    rw [m1, m2, nI_1, B_refresh_L hk h6 hsg n f (i + 1) _ _ _ _ (by omega) (by omega) (by omega) (va_up_self _ _ _) ((va_up_ne _ _ (by decide)).trans hK) ((va_up_ne _ _ (by decide)).trans hcr), ca3_1, ca3_2, va_up_self, ca3_4, va_up_self, bx_uu, bx_uu, show catL A D i (n + 1) = segL A D i ++ catL A D (i + 1) n from rfl, List.map_append, List.map_append, List.map_append, List.map_append, putV_app, putV_app, putV_app, putV_app, List.length_map, List.length_map, List.length_map, List.length_map, List.length_append, Nat.add_assoc]
    simp only [hin, true_and]
theorem Sn_count_L {K Kx : Int32 → xS → Prop} {r : xM × Nat × Nat × Nat} {cs : Nat → Int32} {ca : Nat → Nat → Int32} {cr : Nat → Nat → Option Nat} {lv : Nat → Int32} {N : Nat} (hN : N ≤ 120) (hcs : cs 1701 = nI N) : ∀ (L : List Nat) (j c f : Nat), j + L.length = N → L.length < f → lstV (ca 19) j (L.map lv) → (p_Sn_liveCount_L4 (X + 17) K Kx f (nI c) (nI j) (cheap X cs ca cr cu dyn, r) ↔ Kx (nI (c + (L.filter (lvB lv)).length)) (cheap X cs ca cr cu dyn, r))
  | [], j, c, f + 1, hj, hf, _ => by
    unfold p_Sn_liveCount_L4
    rw [c_g17_1, hcs, xif_t (nI_le (by simp at hj; omega) (by omega))]
    exact Iff.rfl
  | d :: L, j, c, f + 1, hj, hf, hl => by
    rw [List.length_cons] at hj hf
    have hin : vp_in (nI j) 120 := vp_in_nI (by omega) (by decide)
    unfold p_Sn_liveCount_L4
    rw [c_g17_1, hcs, xif_f (nI_ge (by omega) (by omega)), c_g17_3, c_r19, cl_nI (by omega), hl.1]
    by_cases e : lv d = 0
    · rw [xif_t e, nI_1, Sn_count_L hN hcs L (j + 1) c f (by omega) (by omega) hl.2, List.filter_cons_of_neg (by rw [lvB_f.mpr e]; decide)]
      simp only [hin, true_and]
    · rw [xif_f e, nI_1, nI_1, Sn_count_L hN hcs L (j + 1) (c + 1) f (by omega) (by omega) hl.2, List.filter_cons_of_pos (lvB_t.mpr e), List.length_cons, Nat.add_assoc, Nat.add_comm 1]
      simp only [hin, true_and]
/-- what refresh writes -/
def rfS (s s0 : Nat → Int32) (d D : Nat) : Nat → Int32 := fun x => if d ≤ x ∧ x < D then (if s x < 0 then -2 else s x) else s0 x
def rfL (s lv l0 : Nat → Int32) (d D : Nat) : Nat → Int32 := fun x => if d ≤ x ∧ x < D then (if s x < 0 then 0 else if lv x = 0 then 0 else 1) else l0 x
theorem rfS_0 (s s0 : Nat → Int32) (D : Nat) : rfS s s0 D D = s0 := by
  funext x
  unfold rfS
  rw [if_neg (by omega)]
theorem rfL_0 (s lv l0 : Nat → Int32) (D : Nat) : rfL s lv l0 D D = l0 := by
  funext x
  unfold rfL
  rw [if_neg (by omega)]
theorem rfS_s {s s0 : Nat → Int32} {d D : Nat} {v : Int32} (hd : d < D) (hv : v = if s d < 0 then -2 else s d) : rfS s (va_up s0 d v) (d + 1) D = rfS s s0 d D := by
  funext x
  unfold rfS
  by_cases e : x = d
  · subst e; rw [if_neg (by omega), va_up_self, if_pos ⟨Nat.le_refl _, hd⟩, hv]
  · rw [va_up_ne _ _ e]
    by_cases c : d + 1 ≤ x ∧ x < D
    · rw [if_pos c, if_pos (show d ≤ x ∧ x < D by omega)]
    · rw [if_neg c, if_neg (show ¬ (d ≤ x ∧ x < D) by omega)]
theorem rfL_s {s lv l0 : Nat → Int32} {d D : Nat} {v : Int32} (hd : d < D) (hv : v = if s d < 0 then 0 else if lv d = 0 then 0 else 1) : rfL s lv (va_up l0 d v) (d + 1) D = rfL s lv l0 d D := by
  funext x
  unfold rfL
  by_cases e : x = d
  · subst e; rw [if_neg (by omega), va_up_self, if_pos ⟨Nat.le_refl _, hd⟩, hv]
  · rw [va_up_ne _ _ e]
    by_cases c : d + 1 ≤ x ∧ x < D
    · rw [if_pos c, if_pos (show d ≤ x ∧ x < D by omega)]
    · rw [if_neg c, if_neg (show ¬ (d ≤ x ∧ x < D) by omega)]
theorem M_refresh_L {KK Kx : Int32 → xS → Prop} {r : xM × Nat × Nat × Nat} (hD : S 18 = nI D) (h180 : D ≤ 180) : ∀ (n f c d : Nat) (A : Nat → Nat → Int32), n < f → d + n = D → (p_M_refresh_L9 M KK Kx f (nI c) (nI d) (mheap M A B S, r) ↔ Kx (nI (c + ((sel (nnB (A 14)) d n).filter (lvB (A 16))).length)) (mheap M (va_up (va_up A 15 (rfS (A 14) (A 15) d D)) 17 (rfL (A 14) (A 16) (A 17) d D)) B S, r))
  | 0, f + 1, c, d, A, hf, hd => by
    unfold p_M_refresh_L9
    rw [m_g18, hD, xif_t (nI_le (by omega) (by omega)), show d = D by omega, rfS_0, rfL_0, va_up_id (f := A) rfl, va_up_id (f := A) rfl]
    exact Iff.rfl
  | n + 1, f + 1, c, d, A, hf, hd => by
    have hin : vp_in (nI d) 180 := vp_in_nI (by omega) (by decide)
    have fin : ∀ (v w : Int32) (c' : Nat), (v = if A 14 d < 0 then -2 else A 14 d) → (w = if A 14 d < 0 then 0 else if A 16 d = 0 then 0 else 1) → (p_M_refresh_L9 M KK Kx f (nI c') (nI (d + 1)) (mheap M (va_up (va_up A 15 (va_up (A 15) d v)) 17 (va_up (A 17) d w)) B S, r) ↔ Kx (nI (c' + ((sel (nnB (A 14)) (d + 1) n).filter (lvB (A 16))).length)) (mheap M (va_up (va_up A 15 (rfS (A 14) (A 15) d D)) 17 (rfL (A 14) (A 16) (A 17) d D)) B S, r)) := by
      intro v w c' hv hw
      rw [M_refresh_L hD h180 n f c' (d + 1) _ (by omega) (by omega)]
      rw [va_up_self, va_up_ne (j := 14) (k := 17) _ _ (by decide), va_up_ne (j := 14) (k := 15) _ _ (by decide), va_up_ne (j := 16) (k := 17) _ _ (by decide), va_up_ne (j := 16) (k := 15) _ _ (by decide), va_up_ne (j := 15) (k := 17) _ _ (by decide), va_up_self, rfS_s (by omega) hv, rfL_s (by omega) hw, va_up_sw (k := 17) (j := 15) (by decide), bx_uu, bx_uu]
    unfold p_M_refresh_L9
    rw [m_g18, hD, xif_f (nI_ge (by omega) (by omega)), m_g15, m_g14, m_r14, cl_nI (by omega)]
    by_cases e : A 14 d < 0
    · have e' : ¬ 0 ≤ A 14 d := by rw [i_le]; rw [i_lt] at e; omega
      rw [xif_f e']
      unfold p_M_refresh_B42
      rw [m_w15, cl_nI (by omega), m_g17, m_g14, m_r14, cl_nI (by omega), va_up_ne (j := 14) (k := 15) _ _ (by decide), xif_t e, m_w17, cl_nI (by omega), m_g17, m_r17, cl_nI (by omega), va_up_self, va_up_self, va_up_ne (j := 17) (k := 15) _ _ (by decide), xif_t rfl, nI_1, fin (-2) 0 c (by rw [if_pos e]) (by rw [if_pos e]), sel_f (nnB_f e)]
      simp only [hin, true_and, true_or]
    · have e' : 0 ≤ A 14 d := by rw [i_le]; rw [i_lt] at e; omega
      rw [xif_t e', m_g14, m_r14, cl_nI (by omega)]
      unfold p_M_refresh_B42
      rw [m_w15, cl_nI (by omega), m_g17, m_g14, m_r14, cl_nI (by omega), va_up_ne (j := 14) (k := 15) _ _ (by decide), xif_f e, m_g16, m_r16, cl_nI (by omega), va_up_ne (j := 16) (k := 15) _ _ (by decide), sel_t (nnB_t e)]
      by_cases e2 : A 16 d = 0
      · rw [xif_t e2, m_w17, cl_nI (by omega), m_g17, m_r17, cl_nI (by omega), va_up_self, va_up_self, va_up_ne (j := 17) (k := 15) _ _ (by decide), xif_t rfl, nI_1, fin (A 14 d) 0 c (by rw [if_neg e]) (by rw [if_neg e, if_pos e2]), List.filter_cons_of_neg (by rw [lvB_f.mpr e2]; decide)]
        simp only [hin, true_and, true_or]
      · rw [xif_f e2, m_w17, cl_nI (by omega), m_g17, m_r17, cl_nI (by omega), va_up_self, va_up_self, va_up_ne (j := 17) (k := 15) _ _ (by decide), xif_f (by decide), nI_1, nI_1, fin (A 14 d) 1 (c + 1) (by rw [if_neg e]) (by rw [if_neg e, if_neg e2]), List.filter_cons_of_pos (lvB_t.mpr e2), List.length_cons, Nat.add_assoc, Nat.add_comm 1]
        simp only [hin, true_and, or_true]
end RF
