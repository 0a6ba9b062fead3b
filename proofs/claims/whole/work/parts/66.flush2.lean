/-! flush, of both -/
def flF (s lv : Nat → Int32) (v : Int32) (d D : Nat) : Nat → Int32 := fun x => if d ≤ x ∧ x < D ∧ s x = -1 then (if lv x = 0 then -2 else v) else s x
theorem flF_0 (s lv : Nat → Int32) (v : Int32) (D : Nat) : flF s lv v D D = s := by
  funext x
  unfold flF
  rw [if_neg (by omega)]
theorem flF_n {s lv : Nat → Int32} {v : Int32} {d D : Nat} (h : ¬ s d = -1) : flF s lv v (d + 1) D = flF s lv v d D := by
  funext x
  unfold flF
  by_cases e : x = d
  · subst e; rw [if_neg (by omega), if_neg (fun q => h q.2.2)]
  · by_cases c : d + 1 ≤ x ∧ x < D ∧ s x = -1
    · rw [if_pos c, if_pos (show d ≤ x ∧ x < D ∧ s x = -1 from ⟨by omega, c.2⟩)]
    · rw [if_neg c, if_neg (fun q => c ⟨by omega, q.2⟩)]
theorem flF_s {s lv : Nat → Int32} {v w : Int32} {d D : Nat} (h : s d = -1) (hd : d < D) (hw : w = if lv d = 0 then -2 else v) : flF (va_up s d w) lv v (d + 1) D = flF s lv v d D := by
  funext x
  unfold flF
  by_cases e : x = d
  · subst e; rw [if_neg (by omega), va_up_self, if_pos ⟨Nat.le_refl _, hd, h⟩, hw]
  · rw [va_up_ne _ _ e]
    by_cases c : d + 1 ≤ x ∧ x < D ∧ s x = -1
    · rw [if_pos c, if_pos (show d ≤ x ∧ x < D ∧ s x = -1 from ⟨by omega, c.2⟩)]
    · rw [if_neg c, if_neg (fun q => c ⟨by omega, q.2⟩)]
section FM
variable {M : Nat} {B : Nat → Nat → Int64} {S : Nat → Int32} {r : xM × Nat × Nat × Nat} {D : Nat}
theorem M_flush2_L {K : Int32 → xS → Prop} {Kx : xS → Prop} {l : Int32} (hD : S 18 = nI D) (h180 : D ≤ 180) : ∀ (n f d : Nat) (A : Nat → Nat → Int32), n < f → d + n = D → (p_M_flush_L64 M l K Kx f (nI d) (mheap M A B S, r) ↔ Kx (mheap M (va_up A 14 (flF (A 14) (A 16) (S 19) d D)) B S, r))
  | 0, f + 1, d, A, hf, hd => by
    unfold p_M_flush_L64
    rw [m_g18, hD, xif_t (nI_le (by omega) (by omega)), show d = D by omega, flF_0, va_up_id (f := A) rfl]
  | n + 1, f + 1, d, A, hf, hd => by
    unfold p_M_flush_L64
    have hin : vp_in (nI d) 180 := vp_in_nI (by omega) (by decide)
    rw [m_g18, hD, xif_f (nI_ge (by omega) (by omega)), m_g14, m_r14, cl_nI (by omega)]
    by_cases e : A 14 d = -1
    · rw [xif_t e, m_g14, m_g16, m_r16, cl_nI (by omega)]
      by_cases e2 : A 16 d = 0
      · rw [xif_t e2, m_w14, cl_nI (by omega), nI_1, M_flush2_L hD h180 n f (d + 1) _ (by omega) (by omega), va_up_self, va_up_ne (j := 16) (k := 14) _ _ (by decide), bx_uu, flF_s e (by omega) (by rw [if_pos e2])]
        simp only [hin, true_and]
      · rw [xif_f e2, m_g19, m_w14, cl_nI (by omega), nI_1, M_flush2_L hD h180 n f (d + 1) _ (by omega) (by omega), va_up_self, va_up_ne (j := 16) (k := 14) _ _ (by decide), bx_uu, flF_s e (by omega) (by rw [if_neg e2])]
        simp only [hin, true_and]
    · rw [xif_f e, nI_1, M_flush2_L hD h180 n f (d + 1) _ (by omega) (by omega), flF_n e]
      simp only [hin, true_and]
end FM
theorem nI_ne_m1 {k : Nat} (h : k < 2 ^ 31) : nI k ≠ -1 := fun q => m1_ne h q.symm
theorem nI_ne_m2 {k : Nat} (h : k < 2 ^ 31) : nI k ≠ -2 := fun q => by
  have := congrArg Int32.toInt q
  rw [nI_toInt h] at this
  have e3 : (-2 : Int32).toInt = -2 := rfl
  omega
section FL
variable {X M nx db : Nat} {bs : Nat → Nat} {dyn : xM} {cs : Nat → Int32} {ca : Nat → Nat → Int32} {cr : Nat → Nat → Option Nat} {cu : Option Nat} {A : Nat → Nat → Int32} {B : Nat → Nat → Int64} {S : Nat → Int32} {D O K : Nat} {fr sz da na le : Nat → Nat}
/-- the segments after flush -/
theorem flush_segs (hs : segs A D K) (h6 : K ≤ 6) (h01 : ∀ d, d < D → A 16 d = 0 ∨ A 16 d = 1) {v : Int32} {K' : Nat} (hv : (v = nI K ∧ K' = K + 1) ∨ (K' = K ∧ ∀ d, d < D → A 14 d = -1 → A 16 d = 0)) :
    segs (va_up A 14 (flF (A 14) (A 16) v 0 D)) D K' ∧ bufL (va_up A 14 (flF (A 14) (A 16) v 0 D)) D = [] ∧ (∀ k, k < K → segL (va_up A 14 (flF (A 14) (A 16) v 0 D)) D k = segL A D k) ∧ (v = nI K → segL (va_up A 14 (flF (A 14) (A 16) v 0 D)) D K = (bufL A D).filter (lvB (A 16))) := by
  obtain ⟨s1, s2, s3, s4, s5⟩ := hs
  have val : ∀ d, d < D → (A 14 d = -1 ∧ A 16 d = 0 ∧ flF (A 14) (A 16) v 0 D d = -2) ∨ (A 14 d = -1 ∧ A 16 d ≠ 0 ∧ flF (A 14) (A 16) v 0 D d = v ∧ v = nI K ∧ K' = K + 1) ∨ (A 14 d ≠ -1 ∧ flF (A 14) (A 16) v 0 D d = A 14 d) := by
    intro d hd
    unfold flF
    by_cases e : A 14 d = -1
    · rw [if_pos ⟨Nat.zero_le _, hd, e⟩]
      by_cases e2 : A 16 d = 0
      · exact Or.inl ⟨e, e2, if_pos e2⟩
      · rcases hv with q | q
        · exact Or.inr (Or.inl ⟨e, e2, if_neg e2, q.1, q.2⟩)
        · exact absurd (q.2 d hd e) e2
    · rw [if_neg (fun q => e q.2.2)]
      exact Or.inr (Or.inr ⟨e, rfl⟩)
  have hK' : K ≤ K' ∧ K' ≤ 7 := by rcases hv with q | q <;> omega
  have e14 : va_up A 14 (flF (A 14) (A 16) v 0 D) 14 = flF (A 14) (A 16) v 0 D := va_up_self _ _ _
  have e13 : va_up A 14 (flF (A 14) (A 16) v 0 D) 13 = A 13 := va_up_ne _ _ (by decide)
  have e16 : va_up A 14 (flF (A 14) (A 16) v 0 D) 16 = A 16 := va_up_ne _ _ (by decide)
  have one : ∀ d, d < D → A 16 d ≠ 0 → A 16 d = 1 := fun d hd hne => by
    rcases h01 d hd with q | q
    · exact absurd q hne
    · exact q
  refine ⟨?_, ?_, ?_, ?_⟩
  · unfold segs
    rw [e14, e13, e16]
    refine ⟨fun d hd => ?_, fun d e k l hde he hk hl hdk hel => ?_, fun d e l hde he hl hd1 => ?_, s4, fun d e k hd he hk hdk hek hid => ?_⟩
    · rcases val d hd with ⟨q1, q2, q3⟩ | ⟨q1, q2, q3, q4, q5⟩ | ⟨q1, q2⟩
      · exact Or.inl ⟨q3, q2⟩
      · exact Or.inr (Or.inr ⟨K, by omega, q3.trans q4⟩)
      · rw [q2]
        rcases s1 d hd with q | q | ⟨k, q3, q4⟩
        · exact Or.inl q
        · exact absurd q q1
        · exact Or.inr (Or.inr ⟨k, by omega, q4⟩)
    · rcases val e he with ⟨q1, q2, q3⟩ | ⟨q1, q2, q3, q4, q5⟩ | ⟨q1, q2⟩
      · rw [q3] at hel; exact absurd hel.symm (nI_ne_m2 (by omega))
      · rw [q3, q4] at hel
        have := (nI_eq (by omega) (by omega)).mp hel
        omega
      · rw [q2] at hel
        rcases s1 e he with w | w | ⟨l', w1, w2⟩
        · rw [w.1] at hel; exact absurd hel.symm (nI_ne_m2 (by omega))
        · exact absurd w q1
        · rw [w2] at hel
          have el := (nI_eq (by omega) (by omega)).mp hel
          subst el
          rcases val d (by omega) with ⟨u1, u2, u3⟩ | ⟨u1, u2, u3, u4, u5⟩ | ⟨u1, u2⟩
          · rw [u3] at hdk; exact absurd hdk.symm (nI_ne_m2 (by omega))
          · exact absurd w2 (s3 d e l' hde he w1 u1)
          · rw [u2] at hdk
            rcases s1 d (by omega) with t | t | ⟨k', t1, t2⟩
            · rw [t.1] at hdk; exact absurd hdk.symm (nI_ne_m2 (by omega))
            · exact absurd t u1
            · rw [t2] at hdk
              have ek := (nI_eq (by omega) (by omega)).mp hdk
              subst ek
              exact s2 d e k' l' hde he t1 w1 t2 w2
    · intro _
      rcases val d (by omega) with ⟨q1, q2, q3⟩ | ⟨q1, q2, q3, q4, q5⟩ | ⟨q1, q2⟩
      · rw [q3] at hd1; exact absurd hd1 (by decide)
      · rw [q3, q4] at hd1; exact nI_ne_m1 (by omega) hd1
      · rw [q2] at hd1; exact q1 hd1
    · rcases val d hd with ⟨q1, q2, q3⟩ | ⟨q1, q2, q3, q4, q5⟩ | ⟨q1, q2⟩
      · rw [q3] at hdk; exact absurd hdk.symm (nI_ne_m2 (by omega))
      · rw [q3, q4] at hdk
        have ek := (nI_eq (by omega) (by omega)).mp hdk
        rcases val e he with ⟨u1, u2, u3⟩ | ⟨u1, u2, u3, u4, u5⟩ | ⟨u1, u2⟩
        · rw [u3] at hek; exact absurd hek.symm (nI_ne_m2 (by omega))
        · exact s4 d e hd he (one d hd q2) (one e he u2) hid
        · rw [u2] at hek
          rcases s1 e he with t | t | ⟨k', t1, t2⟩
          · rw [t.1] at hek; exact absurd hek.symm (nI_ne_m2 (by omega))
          · exact absurd t u1
          · rw [t2] at hek
            have := (nI_eq (by omega) (by omega)).mp hek
            omega
      · rw [q2] at hdk
        rcases s1 d hd with t | t | ⟨k', t1, t2⟩
        · rw [t.1] at hdk; exact absurd hdk.symm (nI_ne_m2 (by omega))
        · exact absurd t q1
        · rw [t2] at hdk
          have ek := (nI_eq (by omega) (by omega)).mp hdk
          subst ek
          rcases val e he with ⟨u1, u2, u3⟩ | ⟨u1, u2, u3, u4, u5⟩ | ⟨u1, u2⟩
          · rw [u3] at hek; exact absurd hek.symm (nI_ne_m2 (by omega))
          · rw [u3, u4] at hek
            have := (nI_eq (by omega) (by omega)).mp hek
            omega
          · rw [u2] at hek
            exact s5 d e k' hd he t1 t2 hek hid
  · unfold bufL
    rw [e14]
    refine sel_none _ _ (fun d _ hd => segB_f ?_)
    rcases val d (by omega) with ⟨q1, q2, q3⟩ | ⟨q1, q2, q3, q4, q5⟩ | ⟨q1, q2⟩
    · rw [q3]; decide
    · rw [q3, q4]; exact nI_ne_m1 (by omega)
    · rw [q2]; exact q1
  · intro k hk
    unfold segL
    rw [e14]
    refine sel_congr _ _ (fun d _ hd => ?_)
    unfold segB
    rcases val d (by omega) with ⟨q1, q2, q3⟩ | ⟨q1, q2, q3, q4, q5⟩ | ⟨q1, q2⟩
    · rw [q3, q1, decide_eq_false (fun q => nI_ne_m2 (by omega) q.symm), decide_eq_false (fun q => nI_ne_m1 (by omega) q.symm)]
    · rw [q3, q4, q1, decide_eq_false (fun q => by have := (nI_eq (by omega) (by omega)).mp q; omega), decide_eq_false (fun q => nI_ne_m1 (by omega) q.symm)]
    · rw [q2]
  · intro hvK
    unfold segL bufL
    rw [e14, sel_filter]
    refine sel_congr _ _ (fun d _ hd => ?_)
    unfold segB
    rcases val d (by omega) with ⟨q1, q2, q3⟩ | ⟨q1, q2, q3, q4, q5⟩ | ⟨q1, q2⟩
    · rw [q3, q1, decide_eq_false (fun q => nI_ne_m2 (by omega) q.symm), lvB_f.mpr q2]; rfl
    · rw [q3, q4, q1, lvB_t.mpr q2, decide_eq_true rfl]; rfl
    · rw [q2, decide_eq_false q1, Bool.false_and]
      refine decide_eq_false (fun q => ?_)
      rcases s1 d (by omega) with t | t | ⟨k', t1, t2⟩
      · rw [t.1] at q; exact nI_ne_m2 (by omega) q.symm
      · exact q1 t
      · rw [t2] at q
        have := (nI_eq (by omega) (by omega)).mp q
        omega
theorem st_flush (hk : Rk (X + 66) nx db bs dyn A B D O fr sz da na le) (hr : Rr (X + 66) nx bs dyn cs cr A S D O K sz da) (hlo : X + 66 ≤ nx) :
    ∃ (x : Int32) (cs' : Nat → Int32) (cr' : Nat → Nat → Option Nat) (dyn' : xM) (nx' : Nat) (bs' : Nat → Nat) (A' : Nat → Nat → Int32) (S' : Nat → Int32) (K' : Nat), Rk (X + 66) nx' db bs' dyn' A' B D O fr sz da na le ∧ Rr (X + 66) nx' bs' dyn' cs' cr' A' S' D O K' sz da ∧ agr [14] A' A ∧ agr [19] S' S ∧ agr [8, 1401, 1402] cs' cs ∧ agr [16] cr' cr ∧ frm (fun _ => False) bs nx dyn bs' nx' dyn' ∧
      (∀ (KK : Int32 → xS → Prop) (o : xM), (∀ cb sb, KK x (cheap X cs' ca cr' cu dyn', o, nx', cb, sb)) → p_B_flush X KK (cheap X cs ca cr cu dyn, o, nx, 2, 183)) ∧
      (∀ (KK : Int32 → xS → Prop) (r : xM × Nat × Nat × Nat), KK x (mheap M A' B S', r) → p_M_flush M KK (mheap M A B S, r)) := by
  obtain ⟨nodes, hn⟩ := docs_of hk
  obtain ⟨⟨g1, g2, g3, g4, g5, g6, g7, g8⟩, ⟨b1, b2, b3, b4⟩, hsg, hs⟩ := id hr
  have hbl : (bufL A D).length ≤ 30 := buf_len (fun d hd => (hk.1 d hd).1.2.2.1) b3
  have hz : ∀ d, d < D → A 12 d = nI (sz d) := fun d hd => (hk.1 d hd).1.2.1
  have h01 : ∀ d, d < D → A 16 d = 0 ∨ A 16 d = 1 := fun d hd => (hk.1 d hd).2.2.1
  have hfl : ((bufL A D).filter (lvB (A 16))).length ≤ (bufL A D).length := List.length_filter_le _ _
  have hfs : szs sz ((bufL A D).filter (lvB (A 16))) ≤ szs sz (bufL A D) := szs_filter _
  have hfl2 : ((bufL A D).filter (lvB (A 16))).length ≤ szs sz ((bufL A D).filter (lvB (A 16))) := szs_len _ (fun d hd => (hk.1 d (mem_buf.mp (List.mem_filter.mp hd).1).1).1.2.2.1)
  have hB : ∀ (KK : Int32 → xS → Prop) (o : xM) (cb sb : Nat), p_B_flush X KK (cheap X cs ca cr cu dyn, o, nx, cb, sb) ↔ (xif (nI ((bufL A D).filter (lvB (A 16))).length ≤ 0) (p_B_flush_B24 X (nI ((bufL A D).filter (lvB (A 16))).length) KK) (xif (nI K < 6) (p_B_flush_B24 X (nI ((bufL A D).filter (lvB (A 16))).length) KK) (KK (-3)))) (cheap X cs ca cr cu dyn, o, nx, cb, sb) := by
    intro KK o cb sb
    unfold p_B_flush
    rw [c_g0_2, c_ob14, m_call, Rw_liveCount_eq (id := A 13) (lv := A 16) (sz := sz) (nodes := nodes) (rowM_buf b1 hbl) b4 (fun d hd => docM_of (hn d (mem_buf.mp hd).1).1)]
    dsimp only
    by_cases c : nI ((bufL A D).filter (lvB (A 16))).length ≤ 0
    · rw [xif_t c, xif_t c]
    · rw [xif_f c, xif_f c, c_g0_8, g5]
  have hM : ∀ (KK : Int32 → xS → Prop) (r : xM × Nat × Nat × Nat), p_M_flush M KK (mheap M A B S, r) ↔ (xif (nI (szs sz ((bufL A D).filter (lvB (A 16)))) ≤ 0) (KK (nI (szs sz ((bufL A D).filter (lvB (A 16)))))) (fun G => xif (S 19 = 6) (KK (-3)) (fun _ => KK (nI (szs sz ((bufL A D).filter (lvB (A 16))))) (mheap M (va_up A 14 (flF (A 14) (A 16) (S 19) 0 D)) B (va_up S 19 (S 19 + 1)), r)) (mheap M A B S, r))) (mheap M (if szs sz ((bufL A D).filter (lvB (A 16))) = 0 then va_up A 14 (flF (A 14) (A 16) (S 19) 0 D) else A) B S, r) := by
    intro KK r
    unfold p_M_flush
    have L1 := fun K Kx => M_flush_L (M := M) (A := A) (B := B) (S := S) (r := r) (K := K) (Kx := Kx) g1 g8 hz D 1000 0 0 (by omega) (by omega)
    have L2 := fun K Kx l => M_flush2_L (M := M) (B := B) (S := S) (r := r) (K := K) (Kx := Kx) (l := l) g1 g8 D 1000 0 A (by omega) (by omega)
    simp only [Nat.zero_add, show nI 0 = 0 from rfl, show sel (segB (A 14) (-1)) 0 D = bufL A D from rfl] at L1 L2
    rw [L1]
    show xif (nI (szs sz ((bufL A D).filter (lvB (A 16)))) ≤ 0) _ _ _ ↔ _
    by_cases c : szs sz ((bufL A D).filter (lvB (A 16))) = 0
    · have c' : nI (szs sz ((bufL A D).filter (lvB (A 16)))) ≤ 0 := by rw [c]; decide
      rw [xif_t c', xif_t c', if_pos c, L2, xif_t c']
    · have c' : ¬ nI (szs sz ((bufL A D).filter (lvB (A 16)))) ≤ 0 := nI_ge (a := 0) (by omega) (by omega)
      rw [xif_f c', xif_f c', m_g19]
      by_cases c2 : S 19 = 6
      · rw [xif_t c2, xif_t c2]
      · rw [xif_f c2, xif_f c2, L2, xif_f c', m_g19, m_p19]
  by_cases c0 : ((bufL A D).filter (lvB (A 16))).length = 0
  · have e0 : (bufL A D).filter (lvB (A 16)) = [] := List.eq_nil_of_length_eq_zero c0
    rw [e0] at hB hM
    have dead : ∀ d, d < D → A 14 d = -1 → A 16 d = 0 := fun d hd hd1 => by
      by_cases q : A 16 d = 0
      · exact q
      · have : d ∈ (bufL A D).filter (lvB (A 16)) := List.mem_filter.mpr ⟨mem_buf.mpr ⟨hd, hd1⟩, lvB_t.mpr q⟩
        rw [e0] at this
        cases this
    obtain ⟨f1, f2, f3, -⟩ := flush_segs hs g7 h01 (v := S 19) (K' := K) (Or.inr ⟨rfl, dead⟩)
    refine ⟨0, va_up (va_up cs 1401 0) 1402 0, cr, dyn, nx, bs, va_up A 14 (flF (A 14) (A 16) (S 19) 0 D), S, K, ?_, ⟨⟨g1, (va_up_ne _ _ (by decide)).trans ((va_up_ne _ _ (by decide)).trans g2), g3, g4.trans ((va_up_ne _ _ (by decide)).trans (va_up_ne _ _ (by decide))).symm, (va_up_ne _ _ (by decide)).trans ((va_up_ne _ _ (by decide)).trans g5), g6, g7, g8⟩, ?_, fun k hk' => ?_, f1⟩, agr.rf.up (by decide), agr.rf, (agr.rf.up (by decide)).up (by decide), agr.rf, frm.rf, fun KK o hK => ?_, fun KK r hK => ?_⟩
    · exact hk.to (P := fun _ => False) frm.rf (fun _ q => q.elim) (Nat.le_refl _) (fun k hk' => va_up_ne _ _ (fun q => by subst q; exact absurd hk' (by decide))) rfl
    · rw [f2]
      exact ⟨(va_up_ne _ _ (by decide)).trans (va_up_self _ _ _), va_up_self _ _ _, Nat.zero_le _, trivial⟩
    · exact (hsg k hk').to (P := fun _ => False) frm.rf (fun _ _ q => q.elim) rfl (f3 k hk') (fun _ _ => ⟨rfl, rfl⟩)
    · rw [hB, xif_t (by decide)]
      unfold p_B_flush_B24
      rw [xif_t (by decide), c_g0_2, c_ob14, m_call]
      unfold p_Rw_drop
      rw [c_p14_1, c_p14_2]
      exact hK _ _
    · rw [hM, xif_t (show nI (szs sz []) ≤ 0 from by show (0 : Int32) ≤ 0; decide), if_pos (show szs sz [] = 0 from rfl)]
      exact hK
  · have c1 : ¬ nI ((bufL A D).filter (lvB (A 16))).length ≤ 0 := nI_ge (a := 0) (by omega) (by omega)
    have c2 : ¬ nI (szs sz ((bufL A D).filter (lvB (A 16)))) ≤ 0 := nI_ge (a := 0) (by omega) (by omega)
    by_cases c6 : K = 6
    · refine ⟨-3, cs, cr, dyn, nx, bs, A, S, K, hk, hr, agr.rf, agr.rf, agr.rf, agr.rf, frm.rf, fun KK o hK => ?_, fun KK r hK => ?_⟩
      · rw [hB, xif_f c1, xif_f (by rw [c6]; decide)]
        exact hK _ _
      · rw [hM, xif_f c2, xif_t (by rw [g6, c6]; rfl)]
        exact hK
    · obtain ⟨f1, f2, f3, f4⟩ := flush_segs hs g7 h01 (v := S 19) (K' := K + 1) (Or.inl ⟨g6, rfl⟩)
      have f4' := f4 g6
      have hfr : frm (fun _ => False) bs nx dyn (fun q => if nx ≤ q then nx else bs q) (nx + 2) (rowS dyn nx ((bufL A D).filter (lvB (A 16))).length ((bufL A D).filter (lvB (A 16))).length (szs sz ((bufL A D).filter (lvB (A 16)))) (putL da (fun _ => none) 0 ((bufL A D).filter (lvB (A 16))))) :=
        ⟨by omega, fun q hq => if_neg (by omega), fun q hq _ => rowS_d (by omega) (by omega)⟩
      refine ⟨nI (szs sz ((bufL A D).filter (lvB (A 16)))), va_up (va_up (va_up cs 8 (nI (K + 1))) 1401 0) 1402 0, va_up cr 16 (va_up (cr 16) K (some nx)), rowS dyn nx ((bufL A D).filter (lvB (A 16))).length ((bufL A D).filter (lvB (A 16))).length (szs sz ((bufL A D).filter (lvB (A 16)))) (putL da (fun _ => none) 0 ((bufL A D).filter (lvB (A 16)))), nx + 2, fun q => if nx ≤ q then nx else bs q, va_up A 14 (flF (A 14) (A 16) (S 19) 0 D), va_up S 19 (nI (K + 1)), K + 1, ?_, ⟨⟨?_, ?_, ?_, ?_, ?_, ?_, by omega, g8⟩, ?_, fun k hk' => ?_, f1⟩, agr.rf.up (by decide), agr.rf.up (by decide), ((agr.rf.up (by decide)).up (by decide)).up (by decide), agr.rf.up (by decide), hfr, fun KK o hK => ?_, fun KK r hK => ?_⟩
      · exact hk.to hfr (fun _ q => q.elim) (Nat.le_refl _) (fun k hk' => va_up_ne _ _ (fun q => by subst q; exact absurd hk' (by decide))) rfl
      · rw [va_up_ne _ _ (by decide)]; exact g1
      · rw [va_up_ne _ _ (by decide), va_up_ne _ _ (by decide), va_up_ne _ _ (by decide)]; exact g2
      · rw [va_up_ne _ _ (by decide)]; exact g3
      · rw [va_up_ne _ _ (by decide), va_up_ne _ _ (by decide), va_up_ne _ _ (by decide), va_up_ne _ _ (by decide)]; exact g4
      · rw [va_up_ne _ _ (by decide), va_up_ne _ _ (by decide), va_up_self]
      · exact va_up_self _ _ _
      · rw [f2]
        exact ⟨(va_up_ne _ _ (by decide)).trans (va_up_self _ _ _), va_up_self _ _ _, Nat.zero_le _, trivial⟩
      · by_cases e : k = K
        · subst e
          unfold segOk
          rw [f4', va_up_self, va_up_self]
          exact ⟨nx, _, _, rfl, ⟨⟨hlo, Nat.le_refl _, fun i hi => if_pos (by omega)⟩, rowS_0, rowS_1⟩, Nat.le_refl _, by omega, putL_lst _ _ _⟩
        · exact (hsg k (by omega)).to hfr (fun _ _ q => q.elim) (by rw [va_up_self, va_up_ne _ _ e]) (f3 k (by omega)) (fun _ _ => ⟨rfl, rfl⟩)
      · have hin : vp_in (nI K) 6 := vp_in_nI (by omega) (by decide)
        rw [hB, xif_f c1, xif_t (show nI K < 6 from nI_lt (b := 6) (by omega) (by decide))]
        unfold p_B_flush_B24
        rw [xif_f c1, y_new hlo, y_call, Rw_init_eq hlo (by omega)]
        dsimp only
        rw [c_g0_2, y_ob hlo rowS_0, m_call]
        unfold p_Rw_appendLive
        have hL := fun K Kx => Rw_appendLive_L (X := X) (nx := nx + 2) (dyn := dyn) (cs := cs) (ca := ca) (cr := cr) (cu := cu) (o := o) (cb := 0) (sb := 0) (a := nx) (cap := ((bufL A D).filter (lvB (A 16))).length) (K := K) (Kx := Kx) (id := A 13) (nodes := nodes) hlo (by omega) (rowM_buf b1 hbl) ⟨by omega, by omega, by omega, by omega⟩ (Nat.le_refl nx) (bufL A D) 0 1000 0 0 (fun _ => none) (by omega) (by omega) b4 (fun d hd => (hn d (mem_buf.mp hd).1).1) (by omega)
        simp only [Nat.zero_add, show nI 0 = 0 from rfl] at hL
        rw [hL]
        dsimp only
        rw [c_g0_3, c_g0_8, c_w16, g5, cl_nI (by omega), c_g0_8, g5, c_p0_8, nI_1, y_gI hlo rowS_0 rfl, c_g0_2, c_ob14, m_call]
        unfold p_Rw_drop
        rw [c_p14_1, c_p14_2]
        exact ⟨by omega, by omega, by omega, by omega, hin, fun b q => by cases q; exact ⟨_, (cheap_d hlo).trans rowS_0⟩, hK _ _⟩
      · rw [hM, xif_f c2, xif_f (by rw [g6]; exact fun q => by rw [show (6 : Int32) = nI 6 from rfl, nI_eq (by omega) (by omega)] at q; omega), g6, nI_1]
        rw [g6] at hK
        exact hK
end FL
