/-! prepare, of both -/
def cnA (pth : Nat → Int32) (p : Int32) : Nat → Nat → Nat
  | _, 0 => 0
  | o, n + 1 => (if pth o = p then 1 else 0) + cnA pth p (o + 1) n
def cnH (pth : Nat → Int32) (p : Int32) (tm : Nat → Nat) (b : Nat) : Nat → Nat → Nat
  | _, 0 => 0
  | k, n + 1 => (if pth (b + k) = p ∧ 0 < tm k then 1 else 0) + cnH pth p tm b (k + 1) n
theorem cnA_le (pth : Nat → Int32) (p : Int32) : ∀ (n o : Nat), cnA pth p o n ≤ n
  | 0, _ => Nat.le_refl _
  | n + 1, o => by
    have := cnA_le pth p n (o + 1)
    show (if pth o = p then 1 else 0) + cnA pth p (o + 1) n ≤ n + 1
    split <;> omega
theorem cnH_le (pth : Nat → Int32) (p : Int32) (tm : Nat → Nat) (b : Nat) : ∀ (n k : Nat), cnH pth p tm b k n ≤ n
  | 0, _ => Nat.le_refl _
  | n + 1, k => by
    have := cnH_le pth p tm b n (k + 1)
    show (if pth (b + k) = p ∧ 0 < tm k then 1 else 0) + cnH pth p tm b (k + 1) n ≤ n + 1
    split <;> omega
theorem cnH_pos {pth : Nat → Int32} {p : Int32} {tm : Nat → Nat} {b j : Nat} (hp : pth (b + j) = p) (ht : 0 < tm j) : ∀ (n k : Nat), k ≤ j → j < k + n → 1 ≤ cnH pth p tm b k n
  | 0, k, h1, h2 => by omega
  | n + 1, k, h1, h2 => by
    show 1 ≤ (if pth (b + k) = p ∧ 0 < tm k then 1 else 0) + cnH pth p tm b (k + 1) n
    by_cases e : k = j
    · subst e; rw [if_pos ⟨hp, ht⟩]; omega
    · have := cnH_pos hp ht n (k + 1) (by omega) (by omega); omega
theorem szs_mem {g : Nat → Nat} : ∀ (L : List Nat) (d : Nat), d ∈ L → g d ≤ szs g L
  | [], _, h => by cases h
  | x :: L, d, h => by
    show g d ≤ g x + szs g L
    rcases List.mem_cons.mp h with rfl | h
    · omega
    · have := szs_mem (g := g) L d h; omega
theorem szs_bd {g : Nat → Nat} {b : Nat} : ∀ (L : List Nat), (∀ d ∈ L, g d ≤ b) → szs g L ≤ b * L.length
  | [], _ => Nat.le_refl _
  | x :: L, h => by
    have h1 := szs_bd L (fun d hd => h d (List.mem_cons_of_mem _ hd))
    have h2 := h x List.mem_cons_self
    show g x + szs g L ≤ b * (L.length + 1)
    rw [Nat.mul_add]
    omega
section QB
variable {X : Nat} {cs : Nat → Int32} {ca : Nat → Nat → Int32} {cr : Nat → Nat → Option Nat} {cu : Option Nat} {dyn : xM} {o : xM} {nx cb sb : Nat} {T : Nat} {kd : Nat → Int32}
theorem Qu_behind_L {K Kx : Int32 → xS → Prop} (hT : T ≤ 12) (hcs : cs 2204 = nI T) (hk : ∀ t, t < T → ca 23 t = kd t) : ∀ (f fu x d : Nat), f < fu → x + f = T → d + 2 * f < 2 ^ 31 → (p_Qu_behind_L4 (X + 22) K Kx fu (nI x) (nI d) (cheap X cs ca cr cu dyn, o, nx, cb, sb) ↔ Kx (nI (scn (fun t => prtN (kd t)) f x d)) (cheap X cs ca cr cu dyn, o, nx, cb, sb))
  | f, fu + 1, x, 0, hf, hx, hd => by
    unfold p_Qu_behind_L4
    rw [xif_t (show nI 0 ≤ 0 from by decide), scn_0]
  | 0, fu + 1, x, d + 1, hf, hx, hd => by
    unfold p_Qu_behind_L4
    rw [xif_f (show ¬ nI (d + 1) ≤ 0 from nI_ge (a := 0) (by omega) (by omega)), c_g22_4, hcs, xif_t (nI_le (by omega) (by omega))]
    exact Iff.rfl
  | f + 1, fu + 1, x, d + 1, hf, hx, hd => by
    have hp : prtN (kd x) ≤ 2 := by unfold prtN; split <;> (try split) <;> omega
    have hin : vp_in (nI x) 12 := vp_in_nI (by omega) (by decide)
    unfold p_Qu_behind_L4
    rw [xif_f (show ¬ nI (d + 1) ≤ 0 from nI_ge (a := 0) (by omega) (by omega)), c_g22_4, hcs, xif_f (nI_ge (by omega) (by omega)), c_g22_0, c_r23, cl_nI (by omega), hk x (by omega), m_call, Qu_parts_eq]
    dsimp only
    rw [show nI (d + 1) + (nI (prtN (kd x)) - 1) = nI (d + prtN (kd x)) from by
      rw [Int32.sub_eq_add_neg, ← Int32.add_assoc, nI_add, nI_a1, show (1 : Int32) = nI 1 from rfl, pk_sub (by omega)]
      congr 1
      omega, nI_1, Qu_behind_L hT hcs hk f fu (x + 1) (d + prtN (kd x)) (by omega) (by omega) (by omega)]
    simp only [hin, true_and]
    exact Iff.rfl
end QB
section WC
variable {X M nx db : Nat} {bs : Nat → Nat} {dyn : xM} {A : Nat → Nat → Int32} {B : Nat → Nat → Int64} {D O : Nat} {fr sz da na le : Nat → Nat} {cr : Nat → Nat → Option Nat} {cu : Option Nat} {ob : xM}
/-- one document of the class -/
theorem w_doc {K : Int32 → xS → Prop} {Kx : Int32 → Int32 → xS → Prop} {cs : Nat → Int32} {ca : Nat → Nat → Int32} {l2 : Option Nat} {l5 : Int32} {t f q d : Nat} {p : Int32} {tm : Nat → Nat} {n1 cb sb : Nat} (hk : Rk (X + 66) nx db bs dyn A B D O fr sz da na le) (hd : d < D) (ht : t < 12) (h26 : ca 26 t = p) (h24 : ca 24 t = nI f) (h25 : ca 25 t = nI q) (htm : ∀ k, k < sz d → ∀ (K : Int32 → xS → Prop) (r : xM × Nat × Nat × Nat), p_Nd_timesOf (na (fr d + k)) (nI f) (nI q) K (cheap X cs ca cr cu dyn, r) ↔ K (nI (tm k)) (cheap X cs ca cr cu dyn, r)) (htm8 : ∀ k, tm k ≤ 8) :
    ∀ (n fu k a h : Nat), n < fu → k + n = sz d → (p_Sc_weightOf_L37 (some (X + 22)) (nI t) l2 l5 (some (da d + 1)) (nI (sz d)) K Kx fu (nI a) (nI h) (nI k) (cheap X cs ca cr cu dyn, ob, n1, cb, sb) ↔ Kx (nI (a + cnA (A 22) p (fr d + k) n)) (nI (h + cnH (A 22) p tm (fr d) k n)) (cheap X cs ca cr cu dyn, ob, n1, cb, sb))
  | 0, fu + 1, k, a, h, hf, hkn => by
    unfold p_Sc_weightOf_L37
    have := (hk.1 d hd).1.2.2.2.1
    rw [xif_t (nI_le (by omega) (by omega))]
    exact Iff.rfl
  | n + 1, fu + 1, k, a, h, hf, hkn => by
    have hs := (hk.1 d hd).1.2.2.2.1
    obtain ⟨nodes, hn⟩ := docs_of hk
    obtain ⟨d1, d2⟩ := hn d hd
    obtain ⟨-, -, -, par, ty, va, wd, a4, -, -⟩ := hk.2.2.1 d k hd (by omega)
    have hb := d1.1.1
    have hin : vp_in (nI k) (sz d) := vp_in_nI (by omega) (by omega)
    have hin2 : vp_in (nI t) 12 := vp_in_nI ht (by decide)
    have ih := fun a h => w_doc (K := K) (Kx := Kx) (l2 := l2) (l5 := l5) (n1 := n1) (cb := cb) (sb := sb) hk hd ht h26 h24 h25 htm htm8 n fu (k + 1) a h (by omega) (by omega)
    unfold p_Sc_weightOf_L37
    rw [xif_f (nI_ge (by omega) (by omega)), y_alR (by omega) d1.2.2, cl_nI (by omega), d2 k (by omega), y_gI a4.1.1 a4.2.1 rfl, c_g22_3, c_r26, cl_nI (by omega), h26]
    show _ ↔ Kx (nI (a + ((if A 22 (fr d + k) = p then 1 else 0) + cnA (A 22) p (fr d + (k + 1)) n))) (nI (h + ((if A 22 (fr d + k) = p ∧ 0 < tm k then 1 else 0) + cnH (A 22) p tm (fr d) (k + 1) n))) _
    by_cases e : A 22 (fr d + k) = p
    · rw [xif_t e, c_g22_1, c_r24, cl_nI (by omega), h24, c_g22_2, c_r25, cl_nI (by omega), h25, y_ob a4.1.1 a4.2.1, m_call, htm k (by omega)]
      dsimp only
      rw [nI_1, nI_1, if_pos e]
      by_cases e2 : 0 < tm k
      · rw [xif_f (show ¬ nI (tm k) ≤ 0 from nI_ge (a := 0) e2 (by have := htm8 k; omega)), nI_1, ih, if_pos ⟨e, e2⟩, Nat.add_assoc, Nat.add_assoc]
        simp only [hin, hin2, true_and]
      · rw [xif_t (show nI (tm k) ≤ 0 from by rw [show tm k = 0 by omega]; decide), ih, if_neg (fun z => e2 z.2), Nat.add_assoc, Nat.zero_add]
        simp only [hin, hin2, true_and]
    · rw [xif_f e, nI_1, ih, if_neg e, if_neg (fun z => e z.1), Nat.zero_add, Nat.zero_add]
      simp only [hin, hin2, true_and]
/-- all documents of the snapshot -/
theorem w_all {K : Int32 → xS → Prop} {Kx : Int32 → Int32 → xS → Prop} {cs : Nat → Int32} {ca : Nat → Nat → Int32} {t f q N : Nat} {p : Int32} {tm : Nat → Nat → Nat} {n1 cb sb : Nat} (hk : Rk (X + 66) nx db bs dyn A B D O fr sz da na le) (ht : t < 12) (h26 : ca 26 t = p) (h24 : ca 24 t = nI f) (h25 : ca 25 t = nI q) (htm : ∀ d k, d < D → k < sz d → ∀ (K : Int32 → xS → Prop) (r : xM × Nat × Nat × Nat), p_Nd_timesOf (na (fr d + k)) (nI f) (nI q) K (cheap X cs ca cr cu dyn, r) ↔ K (nI (tm d k)) (cheap X cs ca cr cu dyn, r)) (htm8 : ∀ d k, tm d k ≤ 8) (hN : N ≤ 120) (hcs : cs 1701 = nI N) :
    ∀ (L : List Nat) (j fu a h : Nat), L.length < fu → j + L.length = N → (∀ d ∈ L, d < D) → lstV (cr 18) j (L.map (fun d => some (da d))) → (p_Sc_weightOf_L8 (some (X + 22)) (nI t) (some (X + 17)) K Kx fu (nI a) (nI h) (nI j) (cheap X cs ca cr cu dyn, ob, n1, cb, sb) ↔ Kx (nI (a + szs (fun d => cnA (A 22) p (fr d) (sz d)) L)) (nI (h + szs (fun d => cnH (A 22) p (tm d) (fr d) 0 (sz d)) L)) (cheap X cs ca cr cu dyn, ob, n1, cb, sb))
  | [], j, fu + 1, a, h, hf, hj, _, _ => by
    unfold p_Sc_weightOf_L8
    rw [c_g17_1, hcs, xif_t (nI_le (by simp at hj; omega) (by omega))]
    exact Iff.rfl
  | d :: L, j, fu + 1, a, h, hf, hj, hd, hl => by
    rw [List.length_cons] at hf hj
    have hdD := hd d List.mem_cons_self
    obtain ⟨nodes, hn⟩ := docs_of hk
    obtain ⟨d1, d2⟩ := hn d hdD
    have hb := d1.1.1
    have hs := (hk.1 d hdD).1.2.2.2.1
    have hin : vp_in (nI j) 120 := vp_in_nI (by omega) (by decide)
    unfold p_Sc_weightOf_L8
    rw [c_g17_1, hcs, xif_f (nI_ge (by omega) (by omega)), c_g17_2, c_r18, cl_nI (by omega), hl.1, y_gR (v := some (da d + 1)) hb d1.2.1 rfl, y_len (by omega) d1.2.2]
    have W := fun K Kx => w_doc (K := K) (Kx := Kx) (cs := cs) (ca := ca) (cr := cr) (cu := cu) (ob := ob) (n1 := n1) (cb := cb) (sb := sb) (l2 := some (X + 17)) (l5 := nI j) (t := t) (f := f) (q := q) (p := p) (tm := tm d) hk hdD ht h26 h24 h25 (fun k hk' => htm d k hdD hk') (htm8 d) (sz d) 1000 0 a h (by omega) (by omega)
    simp only [Nat.add_zero, show nI 0 = 0 from rfl] at W
    rw [W, nI_1, w_all hk ht h26 h24 h25 htm htm8 hN hcs L (j + 1) fu _ _ (by omega) (by omega) (fun x hx => hd x (List.mem_cons_of_mem _ hx)) hl.2, Nat.add_assoc, Nat.add_assoc]
    simp only [hin, true_and]
    exact Iff.rfl
end WC
section WM
variable {M : Nat} {B : Nat → Nat → Int64} {S : Nat → Int32} {D O : Nat} {fr sz : Nat → Nat} {ob : xM} {n1 cb sb : Nat}
/-- one document of the reference -/
theorem wm_doc {K : Unit → xS → Prop} {Kx : xS → Prop} {t f q d : Nat} {p : Int32} {tm : Nat → Nat} {A0 : Nat → Nat → Int32} (hd : d < 180) (ht : t < 12) (hO : fr d + sz d ≤ 260) (hfr : A0 11 d = nI (fr d)) (hsz : A0 12 d = nI (sz d)) (h15 : ¬ A0 15 d < 0) (h31 : A0 31 t = p) (h29 : A0 29 t = nI f) (h30 : A0 30 t = nI q) (htm8 : ∀ k, tm k ≤ 8)
    (htm : ∀ k, k < sz d → ∀ (A' : Nat → Nat → Int32) (S : Nat → Int32) (K : Int32 → xS → Prop) (r : xM × Nat × Nat × Nat), A' 24 = A0 24 → A' 25 = A0 25 → (p_M_times M (nI (fr d + k)) (nI f) (nI q) K (mheap M A' B S, r) ↔ K (nI (tm k)) (mheap M A' B S, r))) :
    ∀ (n fu k a h : Nat) (A : Nat → Nat → Int32), n < fu → k + n = sz d → agr [34, 35] A A0 → A 34 t = nI a → A 35 t = nI h → (p_M_prepare_L91 M (nI t) (nI d) K Kx fu (nI (fr d + k)) (mheap M A B S, ob, n1, cb, sb) ↔ Kx (mheap M (va_up (va_up A 34 (va_up (A 34) t (nI (a + cnA (A0 22) p (fr d + k) n)))) 35 (va_up (A 35) t (nI (h + cnH (A0 22) p tm (fr d) k n)))) B S, ob, n1, cb, sb))
  | 0, fu + 1, k, a, h, A, hf, hkn, hA, h34, h35 => by
    have hin : vp_in (nI d) 180 := vp_in_nI hd (by decide)
    unfold p_M_prepare_L91
    rw [m_g11, m_r11, cl_nI (by omega), hA 11 (by decide), hfr, m_g12, m_r12, cl_nI (by omega), hA 12 (by decide), hsz, nI_add, xif_t (nI_le (by omega) (by omega))]
    simp only [hin, true_and]
    rw [show a + cnA (A0 22) p (fr d + k) 0 = a from rfl, show h + cnH (A0 22) p tm (fr d) k 0 = h from rfl, va_up_id (f := A 34) h34, va_up_id (f := A 35) h35, va_up_id (f := A) rfl, va_up_id (f := A) rfl]
  | n + 1, fu + 1, k, a, h, A, hf, hkn, hA, h34, h35 => by
    have hin : vp_in (nI d) 180 := vp_in_nI hd (by decide)
    have hin2 : vp_in (nI t) 12 := vp_in_nI ht (by decide)
    have hin3 : vp_in (nI (fr d + k)) 260 := vp_in_nI (by omega) (by decide)
    unfold p_M_prepare_L91
    rw [m_g11, m_r11, cl_nI (by omega), hA 11 (by decide), hfr, m_g12, m_r12, cl_nI (by omega), hA 12 (by decide), hsz, nI_add, xif_f (nI_ge (by omega) (by omega)), m_g15, m_r15, cl_nI (by omega), hA 15 (by decide), xif_f h15, m_g22, m_r22, cl_nI (by omega), hA 22 (by decide), m_g31, m_r31, cl_nI (by omega), hA 31 (by decide), h31]
    simp only [hin, hin2, hin3, true_and]
    show _ ↔ Kx (mheap M (va_up (va_up A 34 (va_up (A 34) t (nI (a + ((if A0 22 (fr d + k) = p then 1 else 0) + cnA (A0 22) p (fr d + (k + 1)) n))))) 35 (va_up (A 35) t (nI (h + ((if A0 22 (fr d + k) = p ∧ 0 < tm k then 1 else 0) + cnH (A0 22) p tm (fr d) (k + 1) n))))) B S, ob, n1, cb, sb)
    by_cases e : A0 22 (fr d + k) = p
    · rw [xif_t e, m_g34, m_r34, cl_nI (by omega), h34, m_w34, cl_nI (by omega), nI_1, m_g29, m_r29, cl_nI (by omega), va_up_ne (j := 29) (k := 34) _ _ (by decide), hA 29 (by decide), h29, m_g30, m_r30, cl_nI (by omega), va_up_ne (j := 30) (k := 34) _ _ (by decide), hA 30 (by decide), h30, m_ob, m_call, htm k (by omega) _ _ _ _ ((va_up_ne _ _ (by decide)).trans (hA 24 (by decide))) ((va_up_ne _ _ (by decide)).trans (hA 25 (by decide)))]
      dsimp only
      simp only [hin2, true_and]
      rw [if_pos e]
      by_cases e2 : 0 < tm k
      · rw [xif_f (show ¬ nI (tm k) ≤ 0 from nI_ge (a := 0) e2 (by have := htm8 k; omega)), m_g35, m_r35, cl_nI (by omega), va_up_ne (j := 35) (k := 34) _ _ (by decide), h35, m_w35, cl_nI (by omega), nI_1, nI_1, show fr d + k + 1 = fr d + (k + 1) by omega, va_up_ne (j := 35) (k := 34) _ _ (by decide)]
        rw [wm_doc hd ht hO hfr hsz h15 h31 h29 h30 htm8 htm n fu (k + 1) (a + 1) (h + 1) _ (by omega) (by omega) ((((agr.rf (ks := [34, 35])).up (by decide)).up (by decide)).tr hA) (by rw [va_up_ne _ _ (by decide), va_up_self, va_up_self]) (by rw [va_up_self, va_up_self]), va_up_self, va_up_ne (j := 34) (k := 35) _ _ (by decide), va_up_self, va_up_sw (k := 35) (j := 34) (by decide), bx_uu, bx_uu, bx_uu, bx_uu, if_pos ⟨e, e2⟩, Nat.add_assoc, Nat.add_assoc]
        simp only [hin2, true_and]
      · rw [xif_t (show nI (tm k) ≤ 0 from by rw [show tm k = 0 by omega]; decide), nI_1, show fr d + k + 1 = fr d + (k + 1) by omega]
        rw [wm_doc hd ht hO hfr hsz h15 h31 h29 h30 htm8 htm n fu (k + 1) (a + 1) h _ (by omega) (by omega) (((agr.rf (ks := [34, 35])).up (by decide)).tr hA) (by rw [va_up_self, va_up_self]) (by rw [va_up_ne _ _ (by decide)]; exact h35), va_up_self, va_up_ne (j := 35) (k := 34) _ _ (by decide), bx_uu, bx_uu, if_neg (fun z => e2 z.2), Nat.add_assoc, Nat.zero_add]
    · rw [xif_f e, nI_1, show fr d + k + 1 = fr d + (k + 1) by omega, wm_doc hd ht hO hfr hsz h15 h31 h29 h30 htm8 htm n fu (k + 1) a h A (by omega) (by omega) hA h34 h35, if_neg e, if_neg (fun z => e z.1), Nat.zero_add, Nat.zero_add]
end WM
