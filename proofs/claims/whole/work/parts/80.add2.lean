/-! add, of both -/
theorem t012 {tt v : Int32} {b : Int64} {w : Nat → Int32} (h : fieldGood tt v b w) : tt = 0 ∨ tt = 1 ∨ tt = 2 := by
  rcases h with h | h | h
  · exact Or.inl h.1
  · exact Or.inr (Or.inl h.1)
  · exact Or.inr (Or.inr h.1)
section AA
variable {X M nx db : Nat} {bs : Nat → Nat} {dyn : xM} {cs : Nat → Int32} {ca : Nat → Nat → Int32} {cr : Nat → Nat → Option Nat} {cu : Option Nat} {A : Nat → Nat → Int32} {B : Nat → Nat → Int64} {S : Nat → Int32} {N C D O K : Nat} {st : List Nat} {dn ls num cl fr sz da na le : Nat → Nat}
theorem st_add (hd : Rd (X + 66) nx db bs dyn cs cr cu A B S N C st dn ls num cl) (hk : Rk (X + 66) nx db bs dyn A B D O fr sz da na le) (hr : Rr (X + 66) nx bs dyn cs cr A S D O K sz da) (hm : Rm ca cs A S) (hs : Rs cs ca cr A S D sz da) (hlo : X + 66 ≤ nx) (hdb : db ≤ nx) (hD : D < 180) (hO : O + N ≤ 260) (v : Int32) (REST : xS → Prop) (cb sb : Nat)
    (hrest : ∀ cs' ca' cr' cu' dyn' nx' bs' db' A' B' S' N' C' st' D' O' fr' sz' da' na' le', Rd (X + 66) nx' db' bs' dyn' cs' cr' cu' A' B' S' N' C' st' dn ls num cl → Rk (X + 66) nx' db' bs' dyn' A' B' D' O' fr' sz' da' na' le' → Rr (X + 66) nx' bs' dyn' cs' cr' A' S' D' O' K sz' da' → Rm ca' cs' A' S' → Rs cs' ca' cr' A' S' D' sz' da' →
      agr [9, 101, 102, 301, 1401, 1402] cs' cs → agr [5, 6, 7, 8, 10, 11, 12, 13] ca' ca → agr [15] cr' cr → agr [9, 11, 12, 13, 14, 15, 16, 22, 23, 24, 25] A' A → agr [6, 7, 8, 10, 18, 27] S' S → nx ≤ nx' → db' ≤ nx' → (∀ d, d < D → d < D' ∧ A' 12 d = A 12 d ∧ A' 13 d = A 13 d) → 2 * O' + N' + C' + D' ≤ 2 * O + N + C + D + 1 → (D ≤ O → D' ≤ O') → REST (cheap X cs' ca' cr' cu' dyn', mheap M A' B' S', nx', cb, sb)) :
    p_B_add X v (fun x G' => lwK REST M (fun b => p_M_add b v) x (G'.1, G'.2.1, G'.2.2.1, cb, sb)) (cheap X cs ca cr cu dyn, mheap M A B S, nx, 2, 13) := by
  obtain ⟨⟨h1, h2, h3, h4, h5, h6, h7, h8⟩, ⟨hs1, hs2⟩, hnode, hgap, hpar, ⟨hn1, hn2⟩, hI, hJ, hP, hm1, hm2, hm3⟩ := id hd
  obtain ⟨⟨g1, g2, g3, g4, g5, g6, g7, g8⟩, ⟨b1, b2, b3, b4⟩, hsg, hsegs⟩ := id hr
  have same : ∀ ca', agr [10, 11, 12, 13] ca' ca → REST (cheap X cs ca' cr cu dyn, mheap M A B S, nx, cb, sb) := fun ca' hg =>
    hrest cs ca' cr cu dyn nx bs db A B S N C st D O fr sz da na le hd hk hr (hm.to (fun k hk' => hg k (fun q => by revert q hk'; simp; omega)) rfl rfl rfl) (hs.to (fun _ _ => rfl) (fun k hk' => hg k (fun q => by revert q hk'; simp; omega)) rfl (fun _ _ => rfl) rfl) agr.rf (fun k hk' => hg k (fun q => hk' (by revert q; simp; omega))) agr.rf agr.rf agr.rf (Nat.le_refl _) hdb (fun d hd' => ⟨hd', rfl, rfl⟩) (by omega) (fun z => z)
  rcases inR_cases v 0 19 with hv | hv
  · unfold p_B_add
    rw [m_call, B_isId_eq, hv]
    dsimp only
    rw [xif_t rfl]
    dsimp only
    refine lwK_of ?_
    unfold p_M_add
    rw [m_call, M_in019, hv]
    dsimp only
    rw [xif_t rfl]
    exact lw_fin (same ca agr.rf)
  have hv20 : ∃ i, i < 20 ∧ v = nI i := by
    obtain ⟨p, hp, e⟩ := in_of (n := 19) hv (by decide)
    exact ⟨p, by omega, e⟩
  by_cases c0 : N = 0
  · unfold p_B_add
    rw [m_call, B_isId_eq, hv]
    dsimp only
    rw [xif_f (by decide), c_g0_0, c_ob1, m_call]
    unfold p_Dr_isComplete
    rw [c_g1_2, h3, c0, xif_t (by decide), xrz_0]
    dsimp only
    rw [xif_t rfl]
    dsimp only
    refine lwK_of ?_
    unfold p_M_add
    rw [m_call, M_in019, hv]
    dsimp only
    rw [xif_f (by decide), m_g6, h4, c0, xif_t (show nI 0 = 0 from rfl)]
    exact lw_fin (same ca agr.rf)
  have hN1 : ¬ nI N ≤ 0 := nI_ge (a := 0) (by omega) (by omega)
  have hN0 : ¬ nI N = 0 := nI_ne0 (by omega) (by omega)
  cases st with
  | cons i rest =>
    have hcu : cu = some (dn i) := h7
    subst hcu
    unfold p_B_add
    rw [m_call, B_isId_eq, hv]
    dsimp only
    rw [xif_f (by decide), c_g0_0, c_ob1, m_call]
    unfold p_Dr_isComplete
    rw [c_g1_2, h3, xif_f hN1, c_g1_3, xnn_s, xrz_0]
    dsimp only
    rw [xif_t rfl]
    dsimp only
    refine lwK_of ?_
    unfold p_M_add
    rw [m_call, M_in019, hv]
    dsimp only
    rw [xif_f (by decide), m_g6, h4, xif_f hN0, m_g7, h6, m_g6, h4, xif_t (nI_lt (by simp at h2; omega) (by omega))]
    exact lw_fin (same ca agr.rf)
  | nil =>
    have hcu : cu = none := h7
    subst hcu
    have hCN : C = N := by simp at h2; exact h2
    subst hCN
    have hS8 : S 8 = -1 := h8
    have nin : ∀ i : Nat, i ∉ ([] : List Nat) := fun i q => by cases q
    -- paths and types
    have hpaE : ∀ o, ∃ p, o < C → p < 4 ∧ A 0 o = nI p := fun o => by
      by_cases q : o < C
      · obtain ⟨p, p1, p2⟩ := (hpar o q).1
        exact ⟨p, fun _ => ⟨p1, p2⟩⟩
      · exact ⟨0, fun z => absurd z q⟩
    have hpa0 : ∃ pa : Nat → Nat, ∀ o, o < C → pa o < 4 ∧ A 0 o = nI (pa o) := ⟨fun o => Classical.choose (hpaE o), fun o ho => Classical.choose_spec (hpaE o) ho⟩
    obtain ⟨pa, hpa⟩ := hpa0
    have hpa4 : ∀ o, o < C → pa o < 4 := fun o ho => (hpa o ho).1
    have ht : ∀ o f, o < C → f < 4 → A 3 (4 * o + f) = (fun o f => A 3 (4 * o + f)) o f ∧ ((fun o f => A 3 (4 * o + f)) o f = 0 ∨ (fun o f => A 3 (4 * o + f)) o f = 1 ∨ (fun o f => A 3 (4 * o + f)) o f = 2) := fun o f ho hf => by
      obtain ⟨-, ty, va, wd, pl, d2, d3, d4⟩ := hnode o ho
      exact ⟨rfl, t012 (d3 f hf).2.2⟩
    have h0 : ∀ o, o < C → A 0 o = nI (pa o) ∧ pa o < 4 := fun o ho => ⟨(hpa o ho).2, (hpa o ho).1⟩
    have hnum : ∀ o, o < C → num o < C ∧ cl (num o) = o := fun o ho => ⟨(hn1 o ho (nin o)).1, (hn1 o ho (nin o)).2.1⟩
    have hcl : ∀ c, c < C → cl c < C ∧ num (cl c) = c ∧ cr 2 c = some (dn (cl c)) ∧ X + 66 ≤ dn (cl c) ∧ nodT dyn (dn (cl c)) (pa (cl c)) ((fun o f => A 3 (4 * o + f)) (cl c)) := fun c hc => by
      obtain ⟨q1, q2, q3, q4⟩ := hn2 c hc
      obtain ⟨-, ty, va, wd, pl, d2, d3, d4⟩ := hnode (cl c) q1
      exact ⟨q1, q3, q4, d2.1.1, _, ty, d2.2.1, by rw [(hpa _ q1).2]; rfl, rfl, d2.2.2.1, fun f hf => (d3 f hf).1⟩
    have hcs101 : cs 101 = nI C := h5
    have MA : ∀ (KM : Int32 → xS → Prop) (ob : xM) (n1 : Nat), (¬ mCons (A 9) C (fun o f => 4 * pa o + f) (fun o f => A 3 (4 * o + f)) → KM (-4) (mheap M A B S, ob, n1, 0, 0)) → (mCons (A 9) C (fun o f => 4 * pa o + f) (fun o f => A 3 (4 * o + f)) → (xif (nI (szs sz (bufL A D) + C) ≤ 30) (xob 10 (some M) fun b => xcall 0 0 (p_M_find b v) fun v9 => xif (v9 < 0) (p_M_add_L89 M v KM (xgR 10 11 (some M) fun v11 => xgI 10 18 (some M) fun v12 => xgI 10 27 (some M) fun v13 => xas 0 v11 v12 v13 (xgR 10 12 (some M) fun v14 => xgI 10 18 (some M) fun v15 => xgI 10 6 (some M) fun v16 => xas 0 v14 v15 v16 (xgR 10 13 (some M) fun v17 => xgI 10 18 (some M) fun v18 => xas 0 v17 v18 v (xgR 10 14 (some M) fun v19 => xgI 10 18 (some M) fun v20 => xas 0 v19 v20 (-1) (xgR 10 15 (some M) fun v21 => xgI 10 18 (some M) fun v22 => xas 0 v21 v22 (-2) (xgR 10 16 (some M) fun v23 => xgI 10 18 (some M) fun v24 => xasZ 1 v23 v24 1 (xgI 10 18 (some M) fun v25 => xpI 10 18 (some M) (v25 + 1) (xgI 10 27 (some M) fun v26 => xgI 10 6 (some M) fun v27 => xpI 10 27 (some M) (v26 + v27) (xob 10 (some M) fun b => xcall 0 0 (p_M_wipe b ) fun v28 => xob 10 (some M) fun b => xcall 0 0 (p_M_inBuffer b ) fun v29 => KM v29))))))))) 1000 0) (xgR 10 16 (some M) fun v30 => xasZ 1 v30 v9 0 (p_M_add_L89 M v KM (xgR 10 11 (some M) fun v31 => xgI 10 18 (some M) fun v32 => xgI 10 27 (some M) fun v33 => xas 0 v31 v32 v33 (xgR 10 12 (some M) fun v34 => xgI 10 18 (some M) fun v35 => xgI 10 6 (some M) fun v36 => xas 0 v34 v35 v36 (xgR 10 13 (some M) fun v37 => xgI 10 18 (some M) fun v38 => xas 0 v37 v38 v (xgR 10 14 (some M) fun v39 => xgI 10 18 (some M) fun v40 => xas 0 v39 v40 (-1) (xgR 10 15 (some M) fun v41 => xgI 10 18 (some M) fun v42 => xas 0 v41 v42 (-2) (xgR 10 16 (some M) fun v43 => xgI 10 18 (some M) fun v44 => xasZ 1 v43 v44 1 (xgI 10 18 (some M) fun v45 => xpI 10 18 (some M) (v45 + 1) (xgI 10 27 (some M) fun v46 => xgI 10 6 (some M) fun v47 => xpI 10 27 (some M) (v46 + v47) (xob 10 (some M) fun b => xcall 0 0 (p_M_wipe b ) fun v48 => xob 10 (some M) fun b => xcall 0 0 (p_M_inBuffer b ) fun v49 => KM v49))))))))) 1000 0))) (KM (-3))) (mheap M A B S, ob, n1, 0, 0)) → p_M_add M v KM (mheap M A B S, ob, n1, 0, 0) := by
      intro KM ob n1 q1 q2
      unfold p_M_add
      rw [m_call, M_in019, hv]
      dsimp only
      rw [xif_f (by decide), m_g6, h4, xif_f hN0, m_g7, h6, m_g6, h4, xif_f (by rw [i_lt]; omega), m_g8, hS8, xif_t (by decide), m_ob, m_call]
      refine M_conflicts_ok h4 h1 h0 ht hm.2.1 (fun hn => ?_) (fun hc => ?_)
      · dsimp only
        rw [xif_f (by decide)]
        exact q1 hn
      · dsimp only
        rw [xif_t rfl, m_ob, m_call, M_inBuffer_eq g1 g8 (fun d hd' => (hk.1 d hd').1.2.1)]
        dsimp only
        rw [m_g6, h4, nI_add]
        exact q2 hc
    unfold p_B_add
    rw [m_call, B_isId_eq, hv]
    dsimp only
    rw [xif_f (by decide), c_g0_0, c_ob1, m_call]
    unfold p_Dr_isComplete
    rw [c_g1_2, h3, xif_f hN1, c_g1_3, xnn_n, xrz_1]
    dsimp only
    rw [xif_f (by decide), c_g0_1, c_g0_0, c_ob3, m_call]
    refine B_fits (m0 := A 9) (t := fun o f => A 3 (4 * o + f)) (dn := dn) (cl := cl) (num := num) h1 hcs101 hpa4 hcl hnum hm.1 (fun ca1 hg1 hc => ?_) (fun ca1 hg1 hn => ?_)
    · dsimp only
      rw [xif_f (by decide), c_g0_2, c_g14_2, b2, c_g0_0, c_g1_1, hcs101, nI_add]
      by_cases c30 : szs sz (bufL A D) + C ≤ 30
      · have c30' : nI (szs sz (bufL A D) + C) ≤ 30 := nI_le (b := 30) c30 (by decide)
        obtain ⟨od, dyn1, A1, k1, k2, k3, k4, k5, k6, k7⟩ := st_del (M := M) (ca := ca1) (cu := none) hk hr v
        have hA1 : agr [16] A1 A := by
          rcases k5 with ⟨-, rfl⟩ | ⟨d, -, -, rfl⟩
          · exact agr.rf
          · exact agr.rf.up (by decide)
        have hP5 : ∀ a fs, (∃ d, d < D ∧ a = da d) → dyn a ≠ some (.inr (2, fs)) := fun a fs ⟨d, hd', e⟩ q => by
          obtain ⟨-, -, -, nodes, b8, -⟩ := hk.1 d hd'
          rw [e, b8.2.1] at q
          injection q with q
          injection q with q
          injection q with q _
          exact absurd q (by decide)
        have hd1 : Rd (X + 66) nx db bs dyn1 cs cr none A1 B S C C [] dn ls num cl := hd.to k3 hP5 (fun k hk' => hA1 k (fun q => by revert q hk'; simp; omega)) rfl (fun _ _ => rfl) (fun _ _ => rfl) rfl
        have hcl1 : ∀ c, c < C → cl c < C ∧ num (cl c) = c ∧ cr 2 c = some (dn (cl c)) ∧ X + 66 ≤ dn (cl c) ∧ nodT dyn1 (dn (cl c)) (pa (cl c)) ((fun o f => A 3 (4 * o + f)) (cl c)) := fun c hc' => by
          obtain ⟨q1, q2, q3, q4⟩ := hn2 c hc'
          obtain ⟨-, ty, va, wd, pl, d2, d3, d4⟩ := hd1.2.2.1 (cl c) q1
          rw [hA1 0 (by decide), hA1 3 (by decide)] at *
          exact ⟨q1, q3, q4, d2.1.1, _, ty, d2.2.1, by rw [(hpa _ q1).2]; rfl, rfl, d2.2.2.1, fun f hf => (d3 f hf).1⟩
        have e9 : A1 9 = A 9 := hA1 9 (by decide)
        rw [xif_t c30', c_ob0, m_call]
        refine k6 _ _ _ _ ?_
        dsimp only
        rw [c_g0_1, c_g0_0, c_ob3, m_call]
        unfold p_Mp_learn
        have hfl : ∀ k, k < 16 → flt ca1 5 k = A 9 k := fun k hk' => by
          unfold flt
          rw [hg1 (5 + k / 4) (by simp; omega), hm.1 (k / 4) (k % 4) (by omega) (by omega), show 4 * (k / 4) + k % 4 = k by omega]
        refine learn_L (m0 := A 9) (t := fun o f => A 3 (4 * o + f)) (dn := dn) (cl := cl) (num := num) h1 hpa4 hcl1 hnum hc C 1000 0 cs ca1 (by omega) (by omega) hcs101 (mInv_0 (fun o f _ _ q => by omega) hfl) (by rw [nz_congr 16 hfl]; exact hm.2.2.1) (fun cs2 ca2 hgc hga hI2 hz2 => ?_)
        dsimp only
        have c9 := hgc 9 (by decide); have c101 := hgc 101 (by decide); have c1401 := hgc 1401 (by decide); have c1402 := hgc 1402 (by decide)
        have hlen := buf_len (fun d hd' => (hk.1 d hd').1.2.2.1) b3
        have hlen' : (bufL A D).length < 30 := by
          have := szs_len (bufL A D) (fun d hd' => (hk.1 d (mem_buf.mp hd').1).1.2.2.1)
          omega
        rw [c_g0_2, y_new hlo, c_g0_0, y_call, Do_init_eq hlo h1 (c101.trans hcs101) (fun i hi => by
          obtain ⟨q1, q2, q3, q4⟩ := hn2 i hi
          obtain ⟨-, ty, va, wd, pl, d2, -⟩ := hd1.2.2.1 (cl i) q1
          exact ⟨dn (cl i), _, q4, d2.1.1, by have := d2.1.2.1; omega, d2.2.1⟩)]
        dsimp only
        rw [c_ob14, m_call, buf_append (n := (bufL A D).length) (obj := szs sz (bufL A D)) hlo docD_0 docD_1 hlen' (c1401.trans b1) (c1402.trans b2)]
        dsimp only
        rw [c_g0_0, c_ob1, m_call]
        unfold p_Dr_drop
        rw [c_p1_1, c_p1_2, c_p1_3]
        dsimp only
        rw [c_g0_9, c_p0_9, c_g0_2, c_g14_2]
        refine ⟨by omega, by omega, by omega, by omega, ?_⟩
        rw [va_up_ne (j := 1402) (k := 9) _ _ (by decide), va_up_ne (j := 1402) (k := 102) _ _ (by decide), va_up_ne (j := 1402) (k := 101) _ _ (by decide), va_up_self, va_up_ne (j := 9) (k := 102) _ _ (by decide), va_up_ne (j := 9) (k := 101) _ _ (by decide), va_up_ne (j := 9) (k := 1402) _ _ (by decide), va_up_ne (j := 9) (k := 1401) _ _ (by decide), c9, g2, nI_1]
        refine lwK_of ?_
        refine MA _ _ _ (fun hn => absurd hc hn) (fun _ => ?_)
        rw [xif_t c30', m_ob, m_call]
        refine k7 _ _ ?_
        dsimp only
        -- the reference goes on from A1
        have hpvE : ∀ o, ∃ p : Int32, o < C → pvQ A1 num C o p := fun o => by
          by_cases q : o < C
          · rcases (hpar o q).2 with ⟨q1, q2, q3⟩ | ⟨j, q1, q2⟩
            · exact ⟨-1, fun _ => Or.inl ⟨by rw [hA1 1 (by decide)]; exact q2, rfl⟩⟩
            · exact ⟨nI (num j), fun _ => Or.inr ⟨j, by omega, by rw [hA1 1 (by decide)]; exact q2, by rw [hA1 2 (by decide)]; exact (hn1 j (by omega) (nin j)).2.2, rfl⟩⟩
          · exact ⟨0, fun z => absurd z q⟩
        have hpv0 : ∃ pv : Nat → Int32, ∀ o, o < C → pvQ A1 num C o (pv o) := ⟨fun o => Classical.choose (hpvE o), fun o ho => Classical.choose_spec (hpvE o) ho⟩
        obtain ⟨pv, hpv⟩ := hpv0
        have ebuf : bufL A1 D = bufL A D := by unfold bufL; rw [hA1 14 (by decide)]
        have tail : ∀ (KM : Int32 → xS → Prop) (ob : xM) (n1 : Nat), (∀ A' B' S', agr [9, 11, 12, 13, 14, 15, 16, 22, 23, 24, 25] A' A1 → agr [26] B' B → agr [6, 7, 8, 10, 18, 27] S' S → (∀ q, q < C → laidQ A1 A' B B' (O + num q) q (pv q)) → (∀ x, x < O → keepQ A1 A' B B' x) → mInv (A1 9) (A' 9) C (fun o f => 4 * pa o + f) (fun o f => A 3 (4 * o + f)) (fun a _ => a < C) → S' 10 = nI (nz (A' 9) 16) → A' 11 = va_up (A1 11) D (nI O) → A' 12 = va_up (A1 12) D (nI C) → A' 13 = va_up (A1 13) D v → A' 14 = va_up (A1 14) D (-1) → A' 15 = va_up (A1 15) D (-2) → A' 16 = va_up (A1 16) D 1 → S' 18 = nI (D + 1) → S' 27 = nI (O + C) → S' 6 = 0 → S' 7 = 0 → S' 8 = -1 → KM (nI (szs sz (bufL A D) + C)) (mheap M A' B' S', ob, n1, 0, 0)) → p_M_add_L89 M v KM (xgR 10 11 (some M) fun v11 => xgI 10 18 (some M) fun v12 => xgI 10 27 (some M) fun v13 => xas 0 v11 v12 v13 (xgR 10 12 (some M) fun v14 => xgI 10 18 (some M) fun v15 => xgI 10 6 (some M) fun v16 => xas 0 v14 v15 v16 (xgR 10 13 (some M) fun v17 => xgI 10 18 (some M) fun v18 => xas 0 v17 v18 v (xgR 10 14 (some M) fun v19 => xgI 10 18 (some M) fun v20 => xas 0 v19 v20 (-1) (xgR 10 15 (some M) fun v21 => xgI 10 18 (some M) fun v22 => xas 0 v21 v22 (-2) (xgR 10 16 (some M) fun v23 => xgI 10 18 (some M) fun v24 => xasZ 1 v23 v24 1 (xgI 10 18 (some M) fun v25 => xpI 10 18 (some M) (v25 + 1) (xgI 10 27 (some M) fun v26 => xgI 10 6 (some M) fun v27 => xpI 10 27 (some M) (v26 + v27) (xob 10 (some M) fun b => xcall 0 0 (p_M_wipe b ) fun v28 => xob 10 (some M) fun b => xcall 0 0 (p_M_inBuffer b ) fun v29 => KM v29))))))))) 1000 0 (mheap M A1 B S, ob, n1, 0, 0) := by
          intro KM ob n1 hK
          refine M_add_tail (t := fun o f => A 3 (4 * o + f)) (pa := pa) (num := num) (pv := pv) (sz := sz) h1 hD hO (fun o ho => (hnum o ho).1) (fun o q ho hq e => by rw [← (hnum o ho).2, ← (hnum q hq).2, e]) hpa4 (by rw [e9]; exact hc) g3 h4 g1 (fun o ho => ⟨by rw [hA1 0 (by decide)]; exact (hpa o ho).2, by rw [hA1 2 (by decide)]; exact (hn1 o ho (nin o)).2.2, hpv o ho⟩) (fun o f ho hf => by rw [hA1 3 (by decide)]; exact ht o f ho hf) (by rw [e9]; exact hm.2.2.2) (fun d hd' => by rw [hA1 12 (by decide)]; exact (hk.1 d hd').1.2.1) (fun A' B' S' a1 a2 a3 a4 a5 a6 a7 a8 a9 a10 a11 a12 a13 a14 a15 a16 a17 a18 => ?_)
          rw [ebuf]
          exact hK A' B' S' a1 a2 a3 a4 a5 a6 a7 a8 a9 a10 a11 a12 a13 a14 a15 a16 a17 a18
        have fin : ∀ (ob : xM) (n1 : Nat), ob = cheap X (va_up (va_up (va_up (va_up (va_up cs2 1401 (nI ((bufL A D).length + 1))) 1402 (nI (szs sz (bufL A D) + C))) 101 0) 102 0) 9 (nI (D + 1))) ca2 (va_up cr 15 (va_up (cr 15) (bufL A D).length (some nx))) none (docD dyn1 nx v C (ndF (cr 2) C)) → n1 = nx + 2 → ∀ A' B' S', agr [9, 11, 12, 13, 14, 15, 16, 22, 23, 24, 25] A' A1 → agr [26] B' B → agr [6, 7, 8, 10, 18, 27] S' S → (∀ q, q < C → laidQ A1 A' B B' (O + num q) q (pv q)) → (∀ x, x < O → keepQ A1 A' B B' x) → mInv (A1 9) (A' 9) C (fun o f => 4 * pa o + f) (fun o f => A 3 (4 * o + f)) (fun a _ => a < C) → S' 10 = nI (nz (A' 9) 16) → A' 11 = va_up (A1 11) D (nI O) → A' 12 = va_up (A1 12) D (nI C) → A' 13 = va_up (A1 13) D v → A' 14 = va_up (A1 14) D (-1) → A' 15 = va_up (A1 15) D (-2) → A' 16 = va_up (A1 16) D 1 → S' 18 = nI (D + 1) → S' 27 = nI (O + C) → S' 6 = 0 → S' 7 = 0 → S' 8 = -1 → REST (ob, mheap M A' B' S', n1, cb, sb) := by
          rintro ob n1 rfl rfl A' B' S' a1 a2 a3 a4 a5 a6 a7 a8 a9 a10 a11 a12 a13 a14 a15 a16 a17 a18
          rw [e9] at a6
          have emap : ∀ k, k < 16 → flt ca2 5 k = A' 9 k := mInv_eq hI2 a6 (fun o f ho hf => (hnum o ho).1) (fun o f ho hf => ho)
          refine hrest _ _ _ _ _ _ (fun q => if nx ≤ q then nx else bs q) (nx + 2) _ _ _ 0 0 [] (D + 1) (O + C) _ _ _ _ _ ?_ (add_Rk hd1 (by omega) hlo hdb hv20 k1 a8 a9 a10 a13 a4 hpv a5) (add_Rr k2 hD (by rw [ebuf]; exact c30) k4 a10 a11 a13 a14 a15 (a3 19 (by decide)) (a3 20 (by decide)) ?_ (va_up_self _ _ _) ?_ ?_ ?_ ?_ ?_) ⟨fun p f hp hf => ?_, fun k hk' => ?_, ?_, a7⟩ (add_Rs (hs.to (fun _ _ => rfl) (fun _ _ => rfl) rfl (fun k hk' => hA1 k (fun q => by revert q hk'; simp; omega)) rfl) a10 a12 (a1 17 (by decide)) (fun k hk' => ?_) (fun k hk' => ?_) ?_ (a3 21 (by decide))) ?_ ?_ (agr.rf.up (by decide)) ?_ a3 (by omega) (Nat.le_refl _) (fun d hd' => ⟨by omega, ?_, ?_⟩) (by omega) (by omega)
          · refine ⟨⟨by omega, rfl, ?_, a16, ?_, a17, rfl, a18⟩, ⟨trivial, fun i hi => by cases hi⟩, fun i hi => by omega, fun i j _ hj => by omega, fun i hi => by omega, ⟨fun i hi => by omega, fun c hc => by omega⟩, fun c w hc => by omega, fun c z j hc => by omega, fun c j hc => by omega, fun i j _ hj => by omega, fun i hi => by omega, fun c hc => by omega⟩
            · rw [va_up_ne _ _ (by decide), va_up_self]; rfl
            · rw [va_up_ne _ _ (by decide), va_up_ne _ _ (by decide), va_up_self]; rfl
          · rw [va_up_ne _ _ (by decide), va_up_ne _ _ (by decide), va_up_ne _ _ (by decide), va_up_ne _ _ (by decide), va_up_ne _ _ (by decide)]; exact hgc 8 (by decide)
          · rw [va_up_ne _ _ (by decide), va_up_ne _ _ (by decide), va_up_ne _ _ (by decide), va_up_ne _ _ (by decide), va_up_ne _ _ (by decide)]; exact hgc 10 (by decide)
          · rw [va_up_ne _ _ (by decide), va_up_ne _ _ (by decide), va_up_ne _ _ (by decide), va_up_ne _ _ (by decide), va_up_self, ebuf]
          · rw [va_up_ne _ _ (by decide), va_up_ne _ _ (by decide), va_up_ne _ _ (by decide), va_up_self, ebuf]
          · rw [va_up_self, ebuf]
          · exact va_up_ne _ _ (by decide)
          · rw [← flt_at (ca := ca2) (b := 5) (p := p) hf, emap _ (by omega)]
          · by_cases q : A' 9 k = 0
            · exact Or.inl q
            · rcases a6.2.2 k hk' q with z | ⟨o, f, z1, z2, z3, z4, z5⟩
              · rw [z]; exact hm.2.1 k hk'
              · rw [← z5]; exact (ht o f z1 z2).2
          · rw [va_up_ne _ _ (by decide), va_up_ne _ _ (by decide), va_up_ne _ _ (by decide), va_up_ne _ _ (by decide), va_up_ne _ _ (by decide), hz2, nz_congr 16 emap]
          · rw [va_up_ne _ _ (fun q => by subst q; revert hk'; decide), va_up_ne _ _ (fun q => by subst q; revert hk'; decide), va_up_ne _ _ (fun q => by subst q; revert hk'; decide), va_up_ne _ _ (fun q => by subst q; revert hk'; decide), va_up_ne _ _ (fun q => by subst q; revert hk'; decide)]
            exact hgc k (fun q => by revert q hk'; simp; omega)
          · rw [hga k (fun q => by revert q hk'; simp; omega)]
            exact hg1 k (fun q => by revert q hk'; simp; omega)
          · exact va_up_ne _ _ (by decide)
          · intro k hk'
            rw [va_up_ne _ _ (fun q => hk' (by rw [q]; decide)), va_up_ne _ _ (fun q => hk' (by rw [q]; decide)), va_up_ne _ _ (fun q => hk' (by rw [q]; decide)), va_up_ne _ _ (fun q => hk' (by rw [q]; decide)), va_up_ne _ _ (fun q => hk' (by rw [q]; decide))]
            exact hgc k (fun q => hk' (by revert q; simp; omega))
          · intro k hk'
            rw [hga k (fun q => hk' (by revert q; simp; omega))]
            exact hg1 k (fun q => hk' (by revert q; simp; omega))
          · intro k hk'
            rw [a1 k hk']
            exact hA1 k (fun q => hk' (by revert q; simp; omega))
          · rw [a9, va_up_ne _ _ (by omega), hA1 12 (by decide)]
          · rw [a10, va_up_ne _ _ (by omega), hA1 13 (by decide)]
        rcases k5 with ⟨rfl, rfl⟩ | ⟨d, hdD, rfl, rfl⟩
        · rw [xif_t (by decide)]
          refine tail _ _ _ (fun A' B' S' a1 a2 a3 a4 a5 a6 a7 a8 a9 a10 a11 a12 a13 a14 a15 a16 a17 a18 => ?_)
          exact lw_fin (fin _ _ rfl rfl A' B' S' a1 a2 a3 a4 a5 a6 a7 a8 a9 a10 a11 a12 a13 a14 a15 a16 a17 a18)
        · rw [xif_f (nI_pos (by omega)), m_g16, m_w16, cl_nI (by omega)]
          refine ⟨vp_in_nI (by omega) (by decide), Or.inl rfl, ?_⟩
          refine tail _ _ _ (fun A' B' S' a1 a2 a3 a4 a5 a6 a7 a8 a9 a10 a11 a12 a13 a14 a15 a16 a17 a18 => ?_)
          exact lw_fin (fin _ _ rfl rfl A' B' S' a1 a2 a3 a4 a5 a6 a7 a8 a9 a10 a11 a12 a13 a14 a15 a16 a17 a18)
      · have c30' : ¬ nI (szs sz (bufL A D) + C) ≤ 30 := nI_ge (a := 30) (by omega) (by omega)
        rw [xif_f c30']
        dsimp only
        refine lwK_of (MA _ _ _ (fun hn => absurd hc hn) (fun _ => ?_))
        rw [xif_f c30']
        exact lw_fin (same ca1 hg1)
    · dsimp only
      rw [xif_t rfl]
      dsimp only
      exact lwK_of (MA _ _ _ (fun _ => lw_fin (same ca1 hg1)) (fun hc => absurd hc hn))
end AA
