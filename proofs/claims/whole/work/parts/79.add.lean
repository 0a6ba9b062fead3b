/-! add, of both -/
def lwK (REST : xS → Prop) (M : Nat) (PM : Nat → (Int32 → xS → Prop) → xS → Prop) (v : Int32) : xS → Prop := xsw (xob 10 (some M) fun b => xcall 0 0 (PM b) fun w => xsw (xif (v = w) REST xno))
theorem lwK_of {REST : xS → Prop} {M : Nat} {PM : Nat → (Int32 → xS → Prop) → xS → Prop} {v : Int32} {A : Nat → Nat → Int32} {B : Nat → Nat → Int64} {S : Nat → Int32} {c : xM} {nx cb sb : Nat} (h : PM M (fun w G' => xsw (xif (v = w) REST xno) (G'.1, G'.2.1, G'.2.2.1, cb, sb)) (mheap M A B S, c, nx, 0, 0)) : lwK REST M PM v (c, mheap M A B S, nx, cb, sb) := by
  unfold lwK
  show (xob 10 (some M) _) (mheap M A B S, c, nx, cb, sb)
  rw [m_ob, m_call]
  exact h
theorem lw_fin {REST : xS → Prop} {v : Int32} {c m : xM} {nx cb sb : Nat} (h : REST (c, m, nx, cb, sb)) : xsw (xif (v = v) REST xno) (m, c, nx, cb, sb) := by
  show xif (v = v) REST xno (c, m, nx, cb, sb)
  rw [xif_t rfl]
  exact h
def Rm (ca : Nat → Nat → Int32) (cs : Nat → Int32) (A : Nat → Nat → Int32) (S : Nat → Int32) : Prop := (∀ p f, p < 4 → f < 4 → ca (5 + p) f = A 9 (4 * p + f)) ∧ (∀ k, k < 16 → A 9 k = 0 ∨ A 9 k = 1 ∨ A 9 k = 2) ∧ cs 301 = nI (nz (A 9) 16) ∧ S 10 = nI (nz (A 9) 16)
theorem Rm.to {ca ca' : Nat → Nat → Int32} {cs cs' : Nat → Int32} {A A' : Nat → Nat → Int32} {S S' : Nat → Int32} (h : Rm ca cs A S) (hca : ∀ k, k ∈ [5, 6, 7, 8] → ca' k = ca k) (hcs : cs' 301 = cs 301) (hA : A' 9 = A 9) (hS : S' 10 = S 10) : Rm ca' cs' A' S' := by
  unfold Rm
  rw [hcs, hA, hS]
  exact ⟨fun p f hp hf => by rw [hca _ (mem_mp hp)]; exact h.1 p f hp hf, h.2⟩
section AT
variable {M : Nat} {N O D : Nat} {pa num : Nat → Nat} {t : Nat → Nat → Int32} {m0 : Nat → Int32}
theorem M_add_tail {v : Int32} {pv : Nat → Int32} {K : Int32 → xS → Prop} {ob : xM} {nx cb sb : Nat} {A : Nat → Nat → Int32} {B : Nat → Nat → Int64} {S : Nat → Int32} {sz : Nat → Nat} (hN : N ≤ 10) (hD : D < 180) (hO : O + N ≤ 260) (hno : ∀ o, o < N → num o < N) (hinj : ∀ o q, o < N → q < N → num o = num q → o = q) (hpa : ∀ o, o < N → pa o < 4) (hc : mCons (A 9) N (fun o f => 4 * pa o + f) t) (hS : S 27 = nI O) (hS6 : S 6 = nI N) (hSD : S 18 = nI D) (h0 : ∀ o, o < N → A 0 o = nI (pa o) ∧ A 2 o = nI (num o) ∧ pvQ A num N o (pv o)) (ht : ∀ o f, o < N → f < 4 → A 3 (4 * o + f) = t o f ∧ (t o f = 0 ∨ t o f = 1 ∨ t o f = 2)) (hz : S 10 = nI (nz (A 9) 16)) (hsz : ∀ d, d < D → A 12 d = nI (sz d))
    (h1 : ∀ A' B' S', agr [9, 11, 12, 13, 14, 15, 16, 22, 23, 24, 25] A' A → agr [26] B' B → agr [6, 7, 8, 10, 18, 27] S' S → (∀ q, q < N → laidQ A A' B B' (O + num q) q (pv q)) → (∀ x, x < O → keepQ A A' B B' x) → mInv (A 9) (A' 9) N (fun o f => 4 * pa o + f) t (fun a _ => a < N) → S' 10 = nI (nz (A' 9) 16) → A' 11 = va_up (A 11) D (nI O) → A' 12 = va_up (A 12) D (nI N) → A' 13 = va_up (A 13) D v → A' 14 = va_up (A 14) D (-1) → A' 15 = va_up (A 15) D (-2) → A' 16 = va_up (A 16) D 1 → S' 18 = nI (D + 1) → S' 27 = nI (O + N) → S' 6 = 0 → S' 7 = 0 → S' 8 = -1 → K (nI (szs sz (bufL A D) + N)) (mheap M A' B' S', ob, nx, cb, sb)) :
    p_M_add_L89 M v K (xgR 10 11 (some M) fun v11 => xgI 10 18 (some M) fun v12 => xgI 10 27 (some M) fun v13 => xas 0 v11 v12 v13 (xgR 10 12 (some M) fun v14 => xgI 10 18 (some M) fun v15 => xgI 10 6 (some M) fun v16 => xas 0 v14 v15 v16 (xgR 10 13 (some M) fun v17 => xgI 10 18 (some M) fun v18 => xas 0 v17 v18 v (xgR 10 14 (some M) fun v19 => xgI 10 18 (some M) fun v20 => xas 0 v19 v20 (-1) (xgR 10 15 (some M) fun v21 => xgI 10 18 (some M) fun v22 => xas 0 v21 v22 (-2) (xgR 10 16 (some M) fun v23 => xgI 10 18 (some M) fun v24 => xasZ 1 v23 v24 1 (xgI 10 18 (some M) fun v25 => xpI 10 18 (some M) (v25 + 1) (xgI 10 27 (some M) fun v26 => xgI 10 6 (some M) fun v27 => xpI 10 27 (some M) (v26 + v27) (xob 10 (some M) fun b => xcall 0 0 (p_M_wipe b ) fun v28 => xob 10 (some M) fun b => xcall 0 0 (p_M_inBuffer b ) fun v29 => K v29))))))))) 1000 0 (mheap M A B S, ob, nx, cb, sb) := by
  have hin : vp_in (nI D) 180 := vp_in_nI (by omega) (by decide)
  refine lay_all (pv := pv) (Ab := A) (Bb := B) (Sb := S) hN hO hno hinj hpa hc hS hS6 h0 ht N 1000 0 A B S (by omega) (by omega) agr.rf agr.rf agr.rf (fun q hq => by omega) (fun x _ => keepQ.rf) (mInv_0 (fun o f _ _ q => by omega) (fun _ _ => rfl)) hz (fun A' B' S' hA hB hS' hl hk hI hz' => ?_)
  have s18 : S' 18 = nI D := (hS' 18 (by decide)).trans hSD
  have s27 : S' 27 = nI O := (hS' 27 (by decide)).trans hS
  have s6 : S' 6 = nI N := (hS' 6 (by decide)).trans hS6
  have n18 : ∀ x y, va_up (va_up S' 18 x) 27 y 18 = x := fun x y => by rw [va_up_ne _ _ (by decide), va_up_self]
  rw [m_g11, m_g18, s18, m_g27, s27, m_w11, cl_nI (by omega), m_g12, m_g18, s18, m_g6, s6, m_w12, cl_nI (by omega), m_g13, m_g18, s18, m_w13, cl_nI (by omega), m_g14, m_g18, s18, m_w14, cl_nI (by omega), m_g15, m_g18, s18, m_w15, cl_nI (by omega), m_g16, m_g18, s18, m_w16, cl_nI (by omega), m_g18, s18, m_p18, nI_1, m_g27, va_up_ne (j := 27) (k := 18) _ _ (by decide), s27, m_g6, va_up_ne (j := 6) (k := 18) _ _ (by decide), s6, m_p27, nI_add, m_ob, m_call]
  refine ⟨hin, hin, hin, hin, hin, hin, Or.inr rfl, ?_⟩
  unfold p_M_wipe
  rw [m_g6, m_p6, m_p7, m_p8]
  dsimp only
  rw [m_ob, m_call]
  have a12 : A' 12 = A 12 := hA 12 (by decide)
  have a14 : A' 14 = A 14 := hA 14 (by decide)
  generalize hA3 : (va_up (va_up (va_up (va_up (va_up (va_up A' 11 (va_up (A' 11) D (nI O))) 12 (va_up (va_up A' 11 (va_up (A' 11) D (nI O)) 12) D (nI N))) 13 (va_up (va_up (va_up A' 11 (va_up (A' 11) D (nI O))) 12 (va_up (va_up A' 11 (va_up (A' 11) D (nI O)) 12) D (nI N)) 13) D v)) 14 (va_up (va_up (va_up (va_up A' 11 (va_up (A' 11) D (nI O))) 12 (va_up (va_up A' 11 (va_up (A' 11) D (nI O)) 12) D (nI N))) 13 (va_up (va_up (va_up A' 11 (va_up (A' 11) D (nI O))) 12 (va_up (va_up A' 11 (va_up (A' 11) D (nI O)) 12) D (nI N)) 13) D v) 14) D (-1))) 15 (va_up (va_up (va_up (va_up (va_up A' 11 (va_up (A' 11) D (nI O))) 12 (va_up (va_up A' 11 (va_up (A' 11) D (nI O)) 12) D (nI N))) 13 (va_up (va_up (va_up A' 11 (va_up (A' 11) D (nI O))) 12 (va_up (va_up A' 11 (va_up (A' 11) D (nI O)) 12) D (nI N)) 13) D v)) 14 (va_up (va_up (va_up (va_up A' 11 (va_up (A' 11) D (nI O))) 12 (va_up (va_up A' 11 (va_up (A' 11) D (nI O)) 12) D (nI N))) 13 (va_up (va_up (va_up A' 11 (va_up (A' 11) D (nI O))) 12 (va_up (va_up A' 11 (va_up (A' 11) D (nI O)) 12) D (nI N)) 13) D v) 14) D (-1)) 15) D (-2))) 16 _) = A3
  have e11 : A3 11 = va_up (A 11) D (nI O) := by rw [← hA3, va_up_ne _ _ (by decide), va_up_ne _ _ (by decide), va_up_ne _ _ (by decide), va_up_ne _ _ (by decide), va_up_ne _ _ (by decide), va_up_self, hA 11 (by decide)]
  have e12 : A3 12 = va_up (A 12) D (nI N) := by rw [← hA3, va_up_ne _ _ (by decide), va_up_ne _ _ (by decide), va_up_ne _ _ (by decide), va_up_ne _ _ (by decide), va_up_self, va_up_ne (j := 12) (k := 11) _ _ (by decide), a12]
  have e13 : A3 13 = va_up (A 13) D v := by rw [← hA3, va_up_ne _ _ (by decide), va_up_ne _ _ (by decide), va_up_ne _ _ (by decide), va_up_self, va_up_ne (j := 13) (k := 12) _ _ (by decide), va_up_ne (j := 13) (k := 11) _ _ (by decide), hA 13 (by decide)]
  have e14 : A3 14 = va_up (A 14) D (-1) := by rw [← hA3, va_up_ne _ _ (by decide), va_up_ne _ _ (by decide), va_up_self, va_up_ne (j := 14) (k := 13) _ _ (by decide), va_up_ne (j := 14) (k := 12) _ _ (by decide), va_up_ne (j := 14) (k := 11) _ _ (by decide), a14]
  have e15 : A3 15 = va_up (A 15) D (-2) := by rw [← hA3, va_up_ne _ _ (by decide), va_up_self, va_up_ne (j := 15) (k := 14) _ _ (by decide), va_up_ne (j := 15) (k := 13) _ _ (by decide), va_up_ne (j := 15) (k := 12) _ _ (by decide), va_up_ne (j := 15) (k := 11) _ _ (by decide), hA 15 (by decide)]
  have e16 : A3 16 = va_up (A 16) D 1 := by rw [← hA3, va_up_self, va_up_ne (j := 16) (k := 15) _ _ (by decide), va_up_ne (j := 16) (k := 14) _ _ (by decide), va_up_ne (j := 16) (k := 13) _ _ (by decide), va_up_ne (j := 16) (k := 12) _ _ (by decide), va_up_ne (j := 16) (k := 11) _ _ (by decide), hA 16 (by decide)]
  have eo : agr [11, 12, 13, 14, 15, 16] A3 A' := by
    rw [← hA3]
    exact (((((agr.rf.up (by decide)).up (by decide)).up (by decide)).up (by decide)).up (by decide)).up (by decide)
  have e22 := eo 22 (by decide); have e23 := eo 23 (by decide); have e24 := eo 24 (by decide); have e25 := eo 25 (by decide); have e9 := eo 9 (by decide)
  have hbuf : bufL A3 (D + 1) = bufL A D ++ [D] := by
    unfold bufL
    rw [sel_snoc, Nat.zero_add, segB_t (by rw [e14, va_up_self]), if_pos rfl, sel_congr D 0 (p := segB (A3 14) (-1)) (q := segB (A 14) (-1)) (fun x _ hx => by unfold segB; rw [e14, va_up_ne _ _ (by omega)])]
  rw [M_inBuffer_eq (D := D + 1) (sz := va_up sz D N) (by rw [va_up_ne _ _ (by decide), va_up_ne _ _ (by decide), va_up_ne _ _ (by decide), n18]) (by omega) (fun d hd => by
    rw [e12]
    by_cases q : d = D
    · subst q; rw [va_up_self, va_up_self]
    · rw [va_up_ne _ _ q, va_up_ne _ _ q]; exact hsz d (by omega))]
  rw [show sel (segB (A3 14) (-1)) 0 (D + 1) = bufL A D ++ [D] from hbuf, szs_app, szs_congr _ (f := va_up sz D N) (g := sz) (fun x hx => va_up_ne _ _ (by have := (mem_buf.mp hx).1; omega)), show szs (va_up sz D N) [D] = N from by show va_up sz D N D + 0 = N; rw [va_up_self]; rfl]
  dsimp only
  refine h1 A3 B' _ ?_ hB ?_ (fun q hq => ?_) (fun x hx => ?_) (by rw [e9]; exact hI) ?_ e11 e12 e13 e14 e15 e16 ?_ ?_ ?_ ?_ ?_
  · intro k hk'
    rw [eo k (fun q => hk' (by revert q; simp; omega)), hA k (fun q => hk' (by revert q; simp; omega))]
  · intro k hk'
    rw [va_up_ne _ _ (fun q => hk' (by rw [q]; decide)), va_up_ne _ _ (fun q => hk' (by rw [q]; decide)), va_up_ne _ _ (fun q => hk' (by rw [q]; decide)), va_up_ne _ _ (fun q => hk' (by rw [q]; decide)), va_up_ne _ _ (fun q => hk' (by rw [q]; decide)), hS' k (fun q => hk' (by revert q; simp; omega))]
  · unfold laidQ; rw [e22, e23, e24, e25]; exact hl q hq
  · unfold keepQ; rw [e22, e23, e24, e25]; exact hk x hx
  · rw [va_up_ne _ _ (by decide), va_up_ne _ _ (by decide), va_up_ne _ _ (by decide), va_up_ne _ _ (by decide), va_up_ne _ _ (by decide), e9]; exact hz'
  · rw [va_up_ne _ _ (by decide), va_up_ne _ _ (by decide), va_up_ne _ _ (by decide), n18]
  · rw [va_up_ne _ _ (by decide), va_up_ne _ _ (by decide), va_up_ne _ _ (by decide), va_up_self]
  · rw [va_up_ne _ _ (by decide), va_up_ne _ _ (by decide), va_up_self]
  · rw [va_up_ne _ _ (by decide), va_up_self]
  · exact va_up_self _ _ _
end AT
