/-! prepare, of both: all of it -/
/-- how often each word that is asked for stands in each object -/
def Tm (X M : Nat) (dyn : xM) (A : Nat → Nat → Int32) (B : Nat → Nat → Int64) (D : Nat) (fr sz na : Nat → Nat) (T : Nat) (tm : Nat → Nat → Nat → Nat) : Prop :=
  (∀ t d k, tm t d k ≤ 8) ∧ ∀ t d k, t < T → A 28 t = 0 → d < D → k < sz d →
    (∀ (cs : Nat → Int32) (ca : Nat → Nat → Int32) (cr : Nat → Nat → Option Nat) (cu : Option Nat) (K : Int32 → xS → Prop) (r : xM × Nat × Nat × Nat), p_Nd_timesOf (na (fr d + k)) (A 29 t) (A 30 t) K (cheap X cs ca cr cu dyn, r) ↔ K (nI (tm t d k)) (cheap X cs ca cr cu dyn, r)) ∧
    (∀ (A' : Nat → Nat → Int32) (S : Nat → Int32) (K : Int32 → xS → Prop) (r : xM × Nat × Nat × Nat), A' 24 = A 24 → A' 25 = A 25 → (p_M_times M (nI (fr d + k)) (A 29 t) (A 30 t) K (mheap M A' B S, r) ↔ K (nI (tm t d k)) (mheap M A' B S, r)))
theorem inR_n {v : Int32} {n : Nat} (h : inR v 0 (n : Int) = 1) : ∃ i, i ≤ n ∧ v = nI i := by
  have h0 : ¬ (v.toInt < 0 ∨ (n : Int) < v.toInt) := fun q => by rw [inR_0.mpr q] at h; exact absurd h (by decide)
  refine ⟨v.toInt.toNat, by omega, ?_⟩
  have hlt := Int32.toInt_lt v
  rw [i_eq, nI_toInt (by omega)]
  omega
theorem tok0 {a b : Int32} (h : tokV 0 a b = 1) : (∃ f, f ≤ 3 ∧ a = nI f) ∧ ∃ q, q ≤ 25 ∧ b = nI q := by
  unfold tokV at h
  rw [if_pos rfl] at h
  by_cases c : inR a 0 3 = 0
  · rw [if_pos c] at h; exact absurd h (by decide)
  · rw [if_neg c] at h
    exact ⟨inR_n (n := 3) ((inR_cases a 0 3).resolve_left c), inR_n (n := 25) h⟩
theorem tok_k {k a b : Int32} (h : tokV k a b = 1) : ∃ i, i ≤ 8 ∧ k = nI i := by
  unfold tokV at h
  by_cases c0 : k = 0
  · exact ⟨0, by omega, c0⟩
  rw [if_neg c0] at h
  by_cases c1 : k = 1 ∨ k = 2
  · rcases c1 with c | c
    · exact ⟨1, by omega, c⟩
    · exact ⟨2, by omega, c⟩
  rw [if_neg c1] at h
  by_cases c3 : k = 3
  · exact ⟨3, by omega, c3⟩
  rw [if_neg c3] at h
  by_cases c8 : k = 8
  · exact ⟨8, by omega, c8⟩
  rw [if_neg c8] at h
  have h0 : ¬ (k.toInt < 4 ∨ (7 : Int) < k.toInt) := fun q => by rw [inR_0.mpr q] at h; exact absurd h (by decide)
  refine ⟨k.toInt.toNat, by omega, ?_⟩
  rw [i_eq, nI_toInt (by omega)]
  omega
theorem Tm_ex {X M nx db D O T : Nat} {bs : Nat → Nat} {dyn : xM} {A : Nat → Nat → Int32} {B : Nat → Nat → Int64} {fr sz da na le : Nat → Nat} (hk : Rk (X + 66) nx db bs dyn A B D O fr sz da na le) (hO : O ≤ 260) (hq : Qc A T) : ∃ tm, Tm X M dyn A B D fr sz na T tm := by
  have h : ∀ t d k, ∃ c, c ≤ 8 ∧ (t < T → A 28 t = 0 → d < D → k < sz d →
    (∀ (cs : Nat → Int32) (ca : Nat → Nat → Int32) (cr : Nat → Nat → Option Nat) (cu : Option Nat) (K : Int32 → xS → Prop) (r : xM × Nat × Nat × Nat), p_Nd_timesOf (na (fr d + k)) (A 29 t) (A 30 t) K (cheap X cs ca cr cu dyn, r) ↔ K (nI c) (cheap X cs ca cr cu dyn, r)) ∧
    (∀ (A' : Nat → Nat → Int32) (S : Nat → Int32) (K : Int32 → xS → Prop) (r : xM × Nat × Nat × Nat), A' 24 = A 24 → A' 25 = A 25 → (p_M_times M (nI (fr d + k)) (A 29 t) (A 30 t) K (mheap M A' B S, r) ↔ K (nI c) (mheap M A' B S, r)))) := fun t d k => by
    by_cases c : t < T ∧ A 28 t = 0 ∧ d < D ∧ k < sz d
    · obtain ⟨c1, c2, c3, c4⟩ := c
      have ht := (hq.2.2.2.1 t c1).1
      rw [c2] at ht
      obtain ⟨⟨f, f1, f2⟩, q, q1, q2⟩ := tok0 ht
      obtain ⟨c, h1, h2, h3⟩ := times_both (M := M) hk hO c3 c4 (show f < 4 by omega) (show q < 26 by omega)
      rw [f2, q2]
      exact ⟨c, h1, fun _ _ _ _ => ⟨h2, h3⟩⟩
    · exact ⟨0, by omega, fun c1 c2 c3 c4 => absurd ⟨c1, c2, c3, c4⟩ c⟩
  refine ⟨fun t d k => Classical.choose (h t d k), fun t d k => (Classical.choose_spec (h t d k)).1, fun t d k => (Classical.choose_spec (h t d k)).2⟩
/-- all and having -/
def alF (A : Nat → Nat → Int32) (fr sz : Nat → Nat) (L : List Nat) (t : Nat) : Nat := szs (fun d => cnA (A 22) (A 31 t) (fr d) (sz d)) L
def hvF (A : Nat → Nat → Int32) (fr sz : Nat → Nat) (tm : Nat → Nat → Nat → Nat) (L : List Nat) (t : Nat) : Nat := szs (fun d => cnH (A 22) (A 31 t) (tm t d) (fr d) 0 (sz d)) L
def ptA (A : Nat → Nat → Int32) (t : Nat) : Nat := prtN (A 28 t)
section PM
variable {X M nx db : Nat} {bs : Nat → Nat} {dyn : xM} {A : Nat → Nat → Int32} {B : Nat → Nat → Int64} {S : Nat → Int32} {D O T : Nat} {fr sz da na le : Nat → Nat} {tm : Nat → Nat → Nat → Nat}
theorem wm_all {K : Unit → xS → Prop} {Kx : xS → Prop} {t : Nat} {r : xM × Nat × Nat × Nat} (hk : Rk (X + 66) nx db bs dyn A B D O fr sz da na le) (hO : O ≤ 260) (hD : D ≤ 180) (hS : S 18 = nI D) (hq : Qc A T) (htm : Tm X M dyn A B D fr sz na T tm) (ht : t < T) (h0 : A 28 t = 0) :
    ∀ (n fu d a h : Nat) (A1 : Nat → Nat → Int32), n < fu → d + n = D → agr [32, 34, 35] A1 A → A1 34 t = nI a → A1 35 t = nI h → (p_M_prepare_L66 M (nI t) K Kx fu (nI d) (mheap M A1 B S, r) ↔ Kx (mheap M (va_up (va_up A1 34 (va_up (A1 34) t (nI (a + alF A fr sz (sel (nnB (A 15)) d n) t)))) 35 (va_up (A1 35) t (nI (h + hvF A fr sz tm (sel (nnB (A 15)) d n) t)))) B S, r))
  | 0, fu + 1, d, a, h, A1, hf, hd, hA, h34, h35 => by
    unfold p_M_prepare_L66
    rw [m_g18, hS, xif_t (nI_le (by omega) (by omega))]
    rw [show a + alF A fr sz (sel (nnB (A 15)) d 0) t = a from rfl, show h + hvF A fr sz tm (sel (nnB (A 15)) d 0) t = h from rfl, va_up_id (f := A1 34) h34, va_up_id (f := A1 35) h35, va_up_id (f := A1) rfl, va_up_id (f := A1) rfl]
  | n + 1, fu + 1, d, a, h, A1, hf, hd, hA, h34, h35 => by
    have hT := hq.2.1
    have hin : vp_in (nI d) 180 := vp_in_nI (by omega) (by decide)
    have hin2 : vp_in (nI t) 12 := vp_in_nI (by omega) (by decide)
    obtain ⟨⟨e11, e12, e1, e10, eO⟩, -⟩ := hk.1 d (by omega)
    have htk := (hq.2.2.2.1 t ht).1
    rw [h0] at htk
    obtain ⟨⟨f, f1, f2⟩, q, q1, q2⟩ := tok0 htk
    have ih := fun a h A1 => wm_all (K := K) (Kx := Kx) (r := r) hk hO hD hS hq htm ht h0 n fu (d + 1) a h A1 (by omega) (by omega)
    unfold p_M_prepare_L66
    rw [m_g18, hS, xif_f (nI_ge (by omega) (by omega)), m_g28, m_r28, cl_nI (by omega), hA 28 (by decide), xif_t h0, m_g11, m_r11, cl_nI (by omega), hA 11 (by decide), e11, nI_1]
    simp only [hin, hin2, true_and]
    by_cases c : A 15 d < 0
    · rw [sel_f (nnB_f c), ← ih a h A1 hA h34 h35]
      unfold p_M_prepare_L91
      rw [m_g11, m_r11, cl_nI (by omega), hA 11 (by decide), e11, m_g12, m_r12, cl_nI (by omega), hA 12 (by decide), e12, nI_add, xif_f (nI_ge (by omega) (by omega)), m_g15, m_r15, cl_nI (by omega), hA 15 (by decide), xif_t c]
      simp only [hin, true_and]
    · rw [sel_t (nnB_t c)]
      obtain ⟨ob, n1, cb, sb⟩ := r
      have W := fun Kx => wm_doc (M := M) (B := B) (S := S) (fr := fr) (sz := sz) (ob := ob) (n1 := n1) (cb := cb) (sb := sb) (K := K) (Kx := Kx) (t := t) (f := f) (q := q) (d := d) (p := A 31 t) (tm := tm t d) (A0 := A1) (by omega) (by omega) (by omega) ((congrFun (hA 11 (by decide)) d).trans e11) ((congrFun (hA 12 (by decide)) d).trans e12) (by rw [hA 15 (by decide)]; exact c) (congrFun (hA 31 (by decide)) t) ((congrFun (hA 29 (by decide)) t).trans f2) ((congrFun (hA 30 (by decide)) t).trans q2) (htm.1 t d) (fun k hk' A' S K r g1 g2 => by
        have := (htm.2 t d k ht h0 (by omega) hk').2 A' S K r (g1.trans (hA 24 (by decide))) (g2.trans (hA 25 (by decide)))
        rw [f2, q2] at this
        exact this) (sz d) 1000 0 a h A1 (by omega) (by omega) agr.rf h34 h35
      rw [Nat.add_zero] at W
      rw [W, hA 22 (by decide), ih _ _ _ ((((agr.rf (ks := [32, 34, 35])).up (by decide)).up (by decide)).tr hA) (by rw [va_up_ne _ _ (by decide), va_up_self, va_up_self]) (by rw [va_up_self, va_up_self]), va_up_self, va_up_ne (j := 34) (k := 35) _ _ (by decide), va_up_self, va_up_sw (k := 35) (j := 34) (by decide), bx_uu, bx_uu, bx_uu, bx_uu]
      unfold alF hvF
      rw [Nat.add_assoc, Nat.add_assoc]
      exact Iff.rfl
theorem M_end {K : Unit → xS → Prop} {Kx : Int32 → xS → Prop} {t : Nat} {r : xM × Nat × Nat × Nat} {A1 : Nat → Nat → Int32} (hq : Qc A T) (ht : t < T) (hA : agr [32, 34, 35] A1 A) (h32 : ∀ x, t < x → x < T → A1 32 x = nI (Ef (ptA A) T x)) : p_M_prepare_L17 M (nI t) K Kx 1000 (nI (t + 1)) 0 (mheap M A1 B S, r) ↔ Kx (nI (Ef (ptA A) T t)) (mheap M A1 B S, r) := by
  have hT := hq.2.1
  have hin2 : vp_in (nI t) 12 := vp_in_nI (by omega) (by decide)
  obtain ⟨i, i8, hi⟩ := tok_k (hq.2.2.2.1 t ht).1
  have hp : prtN (A 28 t) = 0 ∨ prtN (A 28 t) = 1 ∨ prtN (A 28 t) = 2 := by unfold prtN; split <;> (try split) <;> simp
  have hpp : ∀ K G, p_M_parts (A 28 t) K G ↔ K (nI (prtN (A 28 t))) G := fun K G => M_parts_eq (by rw [hi, nI_toInt (by omega)]; omega)
  obtain ⟨ob, n1, cb, sb⟩ := r
  have step : ∀ (fu : Nat) (l2 l3 : Int32), p_M_prepare_L17 M (nI t) K Kx (fu + 1) l2 l3 (mheap M A1 B S, ob, n1, cb, sb) ↔ (xif (nI (prtN (A 28 t)) ≤ l3) (Kx l2) (fun G => xgR 10 32 (some M) (fun v5 => xal 0 v5 l2 fun v6 => p_M_prepare_L17 M (nI t) K Kx fu v6 (l3 + 1)) G) (mheap M A1 B S, ob, n1, cb, sb)) := fun fu l2 l3 => by
    show (xgR 10 28 (some M) fun v2 => xal 0 v2 (nI t) fun v3 => xcall 0 0 (p_M_parts v3) fun v4 => xif (v4 ≤ l3) (Kx l2) (xgR 10 32 (some M) fun v5 => xal 0 v5 l2 fun v6 => p_M_prepare_L17 M (nI t) K Kx fu v6 (l3 + 1))) (mheap M A1 B S, ob, n1, cb, sb) ↔ _
    rw [m_g28, m_r28, cl_nI (by omega), hA 28 (by decide), m_call, hpp]
    simp only [hin2, true_and]
  have z1 : (0 : Int32) + 1 = nI 1 := by decide
  have z2 : (nI 1 : Int32) + 1 = nI 2 := by decide
  rw [show (1000 : Nat) = 999 + 1 from rfl, step]
  rcases hp with e | e | e
  · rw [e, xif_t (by decide), Ef_0 ht e]
  · obtain ⟨t1, -⟩ := hq.2.2.2.2.1 t ht (by omega)
    have hin3 : vp_in (nI (t + 1)) 12 := vp_in_nI (by omega) (by decide)
    rw [e, xif_f (by decide), m_g32, m_r32, cl_nI (by omega), h32 (t + 1) (by omega) t1, z1, show (999 : Nat) = 998 + 1 from rfl, step, e, xif_t (by decide), Ef_1 ht e]
    simp only [hin3, true_and]
  · obtain ⟨t1, -⟩ := hq.2.2.2.2.1 t ht (by omega)
    obtain ⟨t2', -⟩ := hq.2.2.2.2.2 t ht e
    have t2 : Ef (ptA A) T (t + 1) < T := t2'
    have t3 := (Ef_lt (pt := ptA A) t1).1
    have hin3 : vp_in (nI (t + 1)) 12 := vp_in_nI (by omega) (by decide)
    have hin4 : vp_in (nI (Ef (ptA A) T (t + 1))) 12 := vp_in_nI (by omega) (by decide)
    rw [e, xif_f (by decide), m_g32, m_r32, cl_nI (by omega), h32 (t + 1) (by omega) t1, z1, show (999 : Nat) = 998 + 1 from rfl, step, e, xif_f (by decide), m_g32, m_r32, cl_nI (by omega), h32 _ (by omega) t2, z2, show (998 : Nat) = 997 + 1 from rfl, step, e, xif_t (by decide), Ef_2 ht e]
    simp only [hin3, hin4, true_and]
/-- what prepare makes, in the reference -/
def doM (A0 A : Nat → Nat → Int32) (T : Nat) (fr sz : Nat → Nat) (tm : Nat → Nat → Nat → Nat) (L : List Nat) (x : Nat) : Prop :=
  A 32 x = nI (Ef (ptA A0) T x) ∧ (A0 28 x = 0 → A 34 x = nI (alF A0 fr sz L x) ∧ A 35 x = nI (hvF A0 fr sz tm L x))
theorem M_prep_L (hk : Rk (X + 66) nx db bs dyn A B D O fr sz da na le) (hO : O ≤ 260) (hD : D ≤ 180) (hS : S 18 = nI D) (hq : Qc A T) (htm : Tm X M dyn A B D fr sz na T tm) : ∀ (n fu : Nat) (A1 : Nat → Nat → Int32), n < fu → n ≤ T → agr [32, 34, 35] A1 A → (∀ x, n ≤ x → x < T → doM A A1 T fr sz tm (snapL A D) x) →
    ∃ A2, agr [32, 34, 35] A2 A ∧ (∀ x, x < T → doM A A2 T fr sz tm (snapL A D) x) ∧ ∀ (K : Unit → xS → Prop) (Kx : xS → Prop) (r : xM × Nat × Nat × Nat), Kx (mheap M A2 B S, r) → p_M_prepare_L7 M K Kx fu (nI n - 1) (mheap M A1 B S, r)
  | 0, fu + 1, A1, hf, hn, hA, hd => by
    refine ⟨A1, hA, fun x hx => hd x (Nat.zero_le _) hx, fun K Kx r h => ?_⟩
    unfold p_M_prepare_L7
    rw [xif_t nI_z]
    exact h
  | n + 1, fu + 1, A1, hf, hn, hA, hd => by
    have hT := hq.2.1
    have hin : vp_in (nI n) 12 := vp_in_nI (by omega) (by decide)
    have hl : ∀ fA fB fC : Nat → Int32, agr [32, 34, 35] (va_up (va_up (va_up A1 32 fA) 34 fB) 35 fC) A := fun fA fB fC => ((((agr.rf (ks := [32, 34, 35])).up (by decide)).up (by decide)).up (by decide)).tr hA
    have r32 : ∀ fA fB fC : Nat → Int32, va_up (va_up (va_up A1 32 fA) 34 fB) 35 fC 32 = fA := fun fA fB fC => by rw [va_up_ne _ _ (by decide), va_up_ne _ _ (by decide), va_up_self]
    have r34 : ∀ fA fB fC : Nat → Int32, va_up (va_up (va_up A1 32 fA) 34 fB) 35 fC 34 = fB := fun fA fB fC => by rw [va_up_ne _ _ (by decide), va_up_self]
    have r35 : ∀ fA fB fC : Nat → Int32, va_up (va_up (va_up A1 32 fA) 34 fB) 35 fC 35 = fC := fun fA fB fC => va_up_self _ _ _
    have go : ∀ (v34 v35 : Int32), (A 28 n = 0 → v34 = nI (alF A fr sz (snapL A D) n) ∧ v35 = nI (hvF A fr sz tm (snapL A D) n)) → ∃ A2, agr [32, 34, 35] A2 A ∧ (∀ x, x < T → doM A A2 T fr sz tm (snapL A D) x) ∧ ∀ (K : Unit → xS → Prop) (Kx : xS → Prop) (r : xM × Nat × Nat × Nat), Kx (mheap M A2 B S, r) → p_M_prepare_L7 M K Kx fu (nI n - 1) (mheap M (va_up (va_up (va_up A1 32 (va_up (A1 32) n (nI (Ef (ptA A) T n)))) 34 (va_up (A1 34) n v34)) 35 (va_up (A1 35) n v35)) B S, r) := fun v34 v35 hv => by
      refine M_prep_L hk hO hD hS hq htm n fu _ (by omega) (by omega) (hl _ _ _) (fun x hx hxT => ?_)
      unfold doM
      rw [r32, r34, r35]
      by_cases e : x = n
      · subst e; rw [va_up_self, va_up_self, va_up_self]; exact ⟨rfl, hv⟩
      · rw [va_up_ne _ _ e, va_up_ne _ _ e, va_up_ne _ _ e]; exact hd x (by omega) hxT
    have head : ∀ (K : Unit → xS → Prop) (Kx : xS → Prop) (r : xM × Nat × Nat × Nat), p_M_prepare_L66 M (nI n) K (p_M_prepare_L7 M K Kx fu (nI n - 1)) 1000 0 (mheap M (va_up (va_up (va_up A1 32 (va_up (A1 32) n (nI (Ef (ptA A) T n)))) 34 (va_up (A1 34) n 0)) 35 (va_up (A1 35) n 0)) B S, r) → p_M_prepare_L7 M K Kx (fu + 1) (nI (n + 1) - 1) (mheap M A1 B S, r) := fun K Kx r h => by
      unfold p_M_prepare_L7
      rw [nI_m1, xif_f (show ¬ nI n < 0 from nI_pos (by omega)), nI_1, M_end hq (show n < T by omega) hA (fun x h1 h2 => (hd x (by omega) h2).1), m_g32, m_w32, cl_nI (by omega), m_g34, m_w34, cl_nI (by omega), m_g35, m_w35, cl_nI (by omega), nI_a1]
      refine ⟨hin, hin, hin, ?_⟩
      rw [va_up_ne (j := 35) (k := 34) _ _ (by decide), va_up_ne (j := 35) (k := 32) _ _ (by decide), va_up_ne (j := 34) (k := 32) _ _ (by decide)]
      exact h
    by_cases c : A 28 n = 0
    · obtain ⟨A2, g1, g2, g3⟩ := go (nI (alF A fr sz (snapL A D) n)) (nI (hvF A fr sz tm (snapL A D) n)) (fun _ => ⟨rfl, rfl⟩)
      refine ⟨A2, g1, g2, fun K Kx r h => head K Kx r ?_⟩
      have W := fun Kx => wm_all (K := K) (Kx := Kx) (r := r) hk hO hD hS hq htm (show n < T by omega) c D 1000 0 0 0 (va_up (va_up (va_up A1 32 (va_up (A1 32) n (nI (Ef (ptA A) T n)))) 34 (va_up (A1 34) n 0)) 35 (va_up (A1 35) n 0)) (by omega) (by omega) (hl _ _ _) (by rw [r34, va_up_self]; rfl) (by rw [r35, va_up_self]; rfl)
      rw [show nI 0 = 0 from rfl] at W
      rw [W, r34, r35, bx_uu, bx_uu, va_up_sw (k := 35) (j := 34) (by decide), bx_uu, bx_uu, Nat.zero_add, Nat.zero_add]
      exact g3 K Kx r h
    · obtain ⟨A2, g1, g2, g3⟩ := go 0 0 (fun q => absurd q c)
      refine ⟨A2, g1, g2, fun K Kx r h => head K Kx r ?_⟩
      unfold p_M_prepare_L66
      rw [m_g18, hS]
      by_cases z : nI D ≤ 0
      · rw [xif_t z]; exact g3 K Kx r h
      · rw [xif_f z, m_g28, m_r28, cl_nI (by omega), hl _ _ _ 28 (by decide), xif_f c]
        exact ⟨hin, g3 K Kx r h⟩
theorem M_prepare_ex (hk : Rk (X + 66) nx db bs dyn A B D O fr sz da na le) (hO : O ≤ 260) (hD : D ≤ 180) (hS : S 18 = nI D) (h36 : S 36 = nI T) (hq : Qc A T) (htm : Tm X M dyn A B D fr sz na T tm) :
    ∃ A2, agr [32, 34, 35] A2 A ∧ (∀ x, x < T → doM A A2 T fr sz tm (snapL A D) x) ∧ ∀ (K : Unit → xS → Prop) (r : xM × Nat × Nat × Nat), K () (mheap M A2 B S, r) → p_M_prepare M K (mheap M A B S, r) := by
  obtain ⟨A2, g1, g2, g3⟩ := M_prep_L hk hO hD hS hq htm T 1000 A (by have := hq.2.1; omega) (Nat.le_refl _) agr.rf (fun x h1 h2 => by omega)
  refine ⟨A2, g1, g2, fun K r h => ?_⟩
  unfold p_M_prepare
  rw [m_g36, h36]
  exact g3 K _ r h
end PM
