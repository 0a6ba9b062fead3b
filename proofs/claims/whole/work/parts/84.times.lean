/-! how often a word is in a field -/
theorem lg_cmp0 {x y : Int64} : lg_cmp x y = 0 ↔ x = y := by
  unfold lg_cmp
  by_cases h1 : x > y
  · rw [if_pos h1]
    exact ⟨fun q => absurd q (by decide), fun q => by subst q; exact absurd h1 (Int64.lt_irrefl)⟩
  · rw [if_neg h1]
    by_cases h2 : x = y
    · rw [if_pos h2]; exact ⟨fun _ => h2, fun _ => rfl⟩
    · rw [if_neg h2]; exact ⟨fun q => absurd q (by decide), fun q => absurd q h2⟩
theorem lN_inj {a b : Nat} (ha : a < 2 ^ 31) (hb : b < 2 ^ 31) : lN a = lN b ↔ a = b := by
  constructor
  · intro h
    have := congrArg Int64.toBitVec h
    have h2 := congrArg BitVec.toNat this
    rw [wb_tn (by omega), wb_tn (by omega)] at h2
    exact h2
  · exact fun h => by rw [h]
/-- how many of n words from i on are q -/
def cw (ws : Nat → Nat) (q : Nat) : Nat → Nat → Nat
  | _, 0 => 0
  | i, n + 1 => (if ws i = q then 1 else 0) + cw ws q (i + 1) n
theorem cw_le (ws : Nat → Nat) (q : Nat) : ∀ (n i : Nat), cw ws q i n ≤ n
  | 0, _ => Nat.le_refl _
  | n + 1, i => by
    have := cw_le ws q n (i + 1)
    show (if ws i = q then 1 else 0) + cw ws q (i + 1) n ≤ n + 1
    split <;> omega
section TM
variable {X : Nat} {dyn : xM} {a f q n : Nat} {ws : Nat → Nat}
theorem Nd_times_L {cs : Nat → Int32} {ca : Nat → Nat → Int32} {cr : Nat → Nat → Option Nat} {cu : Option Nat} {r : xM × Nat × Nat × Nat} {fs : List Value} {va wd : Nat → Int32} {K Kx : Int32 → xS → Prop} (ha : X + 66 ≤ a) (h1 : dyn a = some (.inr (2, fs))) (h5 : fs[5]? = some (va_rf (some (a + 2)))) (h6 : fs[6]? = some (va_rf (some (a + 3)))) (hv : dyn (a + 2) = some (.inl (0, 4, .inl va))) (hw : dyn (a + 3) = some (.inl (0, 32, .inl wd))) (hf : f < 4) (hq : q < 26) (hn : va f = nI n) (hn8 : n ≤ 8) (hws : ∀ k, k < n → ws k < 26 ∧ wd (8 * f + k) = nI (ws k)) :
    ∀ (m fu i c : Nat), m < fu → i + m = n → (p_Nd_timesOf_L17 a (nI f) (nI q) K Kx fu (nI c) (nI i) (cheap X cs ca cr cu dyn, r) ↔ Kx (nI (c + cw ws q i m)) (cheap X cs ca cr cu dyn, r))
  | 0, fu + 1, i, c, hfu, hi => by
    have hin : vp_in (nI f) 4 := vp_in_nI hf (by decide)
    unfold p_Nd_timesOf_L17
    rw [y_gR (v := some (a + 2)) ha h1 h5, y_al (by omega) hv, cl_nI (by omega), hn, xif_t (nI_le (by omega) (by omega))]
    simp only [hin, true_and]
    rfl
  | m + 1, fu + 1, i, c, hfu, hi => by
    have hin : vp_in (nI f) 4 := vp_in_nI hf (by decide)
    have hin2 : vp_in (nI (8 * f + i)) 32 := vp_in_nI (by omega) (by decide)
    obtain ⟨w1, w2⟩ := hws i (by omega)
    unfold p_Nd_timesOf_L17
    rw [y_gR (v := some (a + 2)) ha h1 h5, y_al (by omega) hv, cl_nI (by omega), hn, xif_f (nI_ge (by omega) (by omega)), y_gR (v := some (a + 3)) ha h1 h6, show nI f * 8 + nI i = nI (8 * f + i) by rw [show (8 : Int32) = nI 8 from rfl, pk_mul, nI_add, Nat.mul_comm], y_al (by omega) hw, cl_nI (by omega), w2]
    show _ ↔ Kx (nI (c + ((if ws i = q then 1 else 0) + cw ws q (i + 1) m))) _
    by_cases e : ws i = q
    · rw [xif_t (by rw [e]), nI_1, nI_1, Nd_times_L ha h1 h5 h6 hv hw hf hq hn hn8 hws m fu (i + 1) (c + 1) (by omega) (by omega), if_pos e, Nat.add_assoc]
      simp only [hin, hin2, true_and]
    · rw [xif_f (fun z => e ((nI_eq (by omega) (by omega)).mp z)), nI_1, Nd_times_L ha h1 h5 h6 hv hw hf hq hn hn8 hws m fu (i + 1) c (by omega) (by omega), if_neg e, Nat.zero_add]
      simp only [hin, hin2, true_and]
theorem M_times_L {M : Nat} {A : Nat → Nat → Int32} {B : Nat → Nat → Int64} {S : Nat → Int32} {r : xM × Nat × Nat × Nat} {o : Nat} {K Kx : Int32 → xS → Prop} (ho : o < 260) (hf : f < 4) (hq : q < 26) (ht : A 24 (4 * o + f) = 2) (hn : A 25 (4 * o + f) = nI n) (hn8 : n ≤ 8) (hws : ∀ k, k < n → ws k < 26) (hB : B 26 (4 * o + f) = lN (enc ws n)) :
    ∀ (m fu i c : Nat), m < fu → i + m = n → (p_M_times_L6 M (nI o) (nI f) (nI q) K Kx fu (nI c) (nI i) (mheap M A B S, r) ↔ Kx (nI (c + cw ws q i m)) (mheap M A B S, r))
  | 0, fu + 1, i, c, hfu, hi => by
    have hin : vp_in (nI (4 * o + f)) 1040 := vp_in_nI (by omega) (by decide)
    unfold p_M_times_L6
    rw [m_g25, i4, m_r25, cl_nI (by omega), hn, xif_t (nI_le (by omega) (by omega))]
    simp only [hin, true_and]
    rfl
  | m + 1, fu + 1, i, c, hfu, hi => by
    have hin : vp_in (nI (4 * o + f)) 1040 := vp_in_nI (by omega) (by decide)
    have he : enc ws n < 2 ^ 62 := by
      have h1 := enc_lt (ws := ws) n (fun k hk => by have := hws k hk; omega)
      have h2 : 32 ^ n ≤ 32 ^ 8 := Nat.pow_le_pow_right (by decide) hn8
      have h3 : (32 : Nat) ^ 8 = 1099511627776 := by decide
      omega
    have w1 := hws i (by omega)
    unfold p_M_times_L6
    rw [m_g25, i4, m_r25, cl_nI (by omega), hn, xif_f (nI_ge (by omega) (by omega)), m_g24, m_r24, cl_nI (by omega), xif_t ht, m_g26, m_r26, cl_nI (by omega), hB, wd_get he (by omega), enc_get (fun k hk => by have := hws k hk; omega) (show i < n by omega), nI_l (by omega), lg_cmp0, lN_inj (by omega) (by omega)]
    show _ ↔ Kx (nI (c + ((if ws i = q then 1 else 0) + cw ws q (i + 1) m))) _
    by_cases e : ws i = q
    · rw [xif_t e, nI_1, nI_1, M_times_L ho hf hq ht hn hn8 hws hB m fu (i + 1) (c + 1) (by omega) (by omega), if_pos e, Nat.add_assoc]
      simp only [hin, true_and]
    · rw [xif_f e, nI_1, M_times_L ho hf hq ht hn hn8 hws hB m fu (i + 1) c (by omega) (by omega), if_neg e, Nat.zero_add]
      simp only [hin, true_and]
end TM
/-- how often, of both -/
theorem times_both {X M nx db D O : Nat} {bs : Nat → Nat} {dyn : xM} {A : Nat → Nat → Int32} {B : Nat → Nat → Int64} {fr sz da na le : Nat → Nat} (hk : Rk (X + 66) nx db bs dyn A B D O fr sz da na le) (hO : O ≤ 260) {d k f q : Nat} (hd : d < D) (hkk : k < sz d) (hf : f < 4) (hq : q < 26) :
    ∃ c, c ≤ 8 ∧ (∀ (cs : Nat → Int32) (ca : Nat → Nat → Int32) (cr : Nat → Nat → Option Nat) (cu : Option Nat) (K : Int32 → xS → Prop) (r : xM × Nat × Nat × Nat), p_Nd_timesOf (na (fr d + k)) (nI f) (nI q) K (cheap X cs ca cr cu dyn, r) ↔ K (nI c) (cheap X cs ca cr cu dyn, r)) ∧
      (∀ (A' : Nat → Nat → Int32) (S : Nat → Int32) (K : Int32 → xS → Prop) (r : xM × Nat × Nat × Nat), A' 24 = A 24 → A' 25 = A 25 → (p_M_times M (nI (fr d + k)) (nI f) (nI q) K (mheap M A' B S, r) ↔ K (nI c) (mheap M A' B S, r))) := by
  obtain ⟨⟨b1, b2, b3, b4, b5⟩, -⟩ := hk.1 d hd
  obtain ⟨-, -, -, par, ty, va, wd, a4, a5, -⟩ := hk.2.2.1 d k hd hkk
  obtain ⟨e1, e2, e3⟩ := a5 f hf
  have ha := a4.1.1
  have hin : vp_in (nI f) 4 := vp_in_nI hf (by decide)
  have hin2 : vp_in (nI (4 * (fr d + k) + f)) 1040 := vp_in_nI (by omega) (by decide)
  by_cases c2 : A 24 (4 * (fr d + k) + f) = 2
  · rcases e3 with ⟨z, -⟩ | ⟨z, -⟩ | ⟨-, n, ws, n1, n8, vn, hws, hB⟩
    · rw [z] at c2; exact absurd c2 (by decide)
    · rw [z] at c2; exact absurd c2 (by decide)
    · refine ⟨cw ws q 0 n, Nat.le_trans (cw_le _ _ _ _) n8, fun cs ca cr cu K r => ?_, fun A' S K r h24 h25 => ?_⟩
      · unfold p_Nd_timesOf
        rw [y_gR (v := some (na (fr d + k) + 1)) ha a4.2.1 rfl, y_al (by omega) a4.2.2.1, cl_nI (by omega), e1, xif_t c2]
        have L := fun K Kx => Nd_times_L (X := X) (dyn := dyn) (cs := cs) (ca := ca) (cr := cr) (cu := cu) (r := r) (q := q) (K := K) (Kx := Kx) (ws := ws) (n := n) ha a4.2.1 rfl rfl a4.2.2.2.1 a4.2.2.2.2 hf hq (e2.trans vn) n8 hws n 1000 0 0 (by omega) (by omega)
        simp only [Nat.zero_add, show nI 0 = 0 from rfl] at L
        rw [L]
        simp only [hin, true_and]
      · unfold p_M_times
        have L := fun K Kx => M_times_L (M := M) (A := A') (B := B) (S := S) (r := r) (o := fr d + k) (f := f) (q := q) (K := K) (Kx := Kx) (ws := ws) (n := n) (by omega) hf hq (by rw [h24]; exact c2) (by rw [h25]; exact vn) n8 (fun k hk => (hws k hk).1) hB n 1000 0 0 (by omega) (by omega)
        simp only [Nat.zero_add, show nI 0 = 0 from rfl] at L
        exact L K _
  · refine ⟨0, by omega, fun cs ca cr cu K r => ?_, fun A' S K r h24 h25 => ?_⟩
    · unfold p_Nd_timesOf
      rw [y_gR (v := some (na (fr d + k) + 1)) ha a4.2.1 rfl, y_al (by omega) a4.2.2.1, cl_nI (by omega), e1, xif_f c2]
      simp only [hin, true_and]
      exact Iff.rfl
    · unfold p_M_times
      unfold p_M_times_L6
      rw [m_g25, i4, m_r25, cl_nI (by omega), h25]
      simp only [hin2, true_and]
      by_cases c : A 25 (4 * (fr d + k) + f) ≤ 0
      · rw [xif_t c]; exact Iff.rfl
      · rw [xif_f c, m_g24, m_r24, cl_nI (by omega), h24, xif_f c2]
        simp only [hin2, true_and]
        exact Iff.rfl
