/-! the tables: what stands in a field, words, both, either -/
theorem tokF {k a b : Int32} (h : tokV k a b = 1) (hk : k = 1 ∨ k = 2 ∨ k = 3) : ∃ f, f ≤ 3 ∧ a = nI f := by
  unfold tokV at h
  have k0 : ¬ k = 0 := by rcases hk with rfl | rfl | rfl <;> decide
  rw [if_neg k0] at h
  by_cases c1 : k = 1 ∨ k = 2
  · rw [if_pos c1] at h
    by_cases c : inR a 0 3 = 0
    · rw [if_pos c] at h; exact absurd h (by decide)
    · exact inR_n (n := 3) ((inR_cases a 0 3).resolve_left c)
  · rw [if_neg c1] at h
    have k3 : k = 3 := by
      rcases hk with q | q | q
      · exact absurd (Or.inl q) c1
      · exact absurd (Or.inr q) c1
      · exact q
    rw [if_pos k3] at h
    exact inR_n (n := 3) h
section PF
variable {X M nx db : Nat} {bs : Nat → Nat} {dyn : xM} {A : Nat → Nat → Int32} {B : Nat → Nat → Int64} {S : Nat → Int32} {D O T : Nat} {fr sz da na le : Nat → Nat} {tm : Nat → Nat → Nat → Nat} {cs : Nat → Int32} {ca : Nat → Nat → Int32} {cr : Nat → Nat → Option Nat} {cu : Option Nat} {L : List Nat} {d t n : Nat} {ca1 A1 : Nat → Nat → Int32}
theorem pt_from (hk : Rk (X + 66) nx db bs dyn A B D O fr sz da na le) (hO : O ≤ 260) (hD : D ≤ 180) (hq : Qc A T) (hrow : ∀ t, t < T → ca 23 t = A 28 t ∧ ca 24 t = A 29 t ∧ ca 25 t = A 30 t ∧ ca 26 t = A 31 t) (hpm : ∀ x, x < T → doM A A T fr sz tm L x) (hc : agr tbs ca1 ca) (hA : agr [38, 39] A1 A) (hd : d < D) (ht : t < T) (hn : n < sz d) (hkd : A 28 t = 1) : ptOk X M dyn B S cs cr cu da d t n ca1 A1 (bdF A T t) := by
  obtain ⟨f, f1, f2⟩ := tokF (hq.2.2.2.1 t ht).1 (by rw [hkd]; decide)
  have hsz := (hk.1 d hd).1.2.2.2.1
  have hfO := (hk.1 d hd).1.2.2.2.2
  have hT := hq.2.1
  have hin : vp_in (nI t) 12 := vp_in_nI (by omega) (by decide)
  have hinn : vp_in (nI n) (sz d) := vp_in_nI hn (by omega)
  have hinn10 : vp_in (nI n) 10 := vp_in_nI (by omega) (by decide)
  have hf4 : vp_in (nI f) 4 := vp_in_nI (by omega) (by decide)
  have hino : vp_in (nI (4 * (fr d + n) + f)) 1040 := vp_in_nI (by omega) (by decide)
  obtain ⟨nodes, ty, va, d1, d2, na0, ⟨fs, g1, g2, g3⟩, g4, g5, e1, e2, e3⟩ := pt_nd hk hd hn (show f < 4 by omega)
  have hb := d1.1.1
  have hr : A 24 (4 * (fr d + n) + f) = 1 → ¬ (1000 : Int32) < A 25 (4 * (fr d + n) + f) := fun q => by
    rcases e3 with z | ⟨-, z⟩ | z
    · rw [z] at q; exact absurd q (by decide)
    · have h0 : ¬ ((A 25 (4 * (fr d + n) + f)).toInt < -1000 ∨ (1000 : Int) < (A 25 (4 * (fr d + n) + f)).toInt) := fun y => by rw [inR_0.mpr y] at z; exact absurd z (by decide)
      rw [i_lt, show (1000 : Int32).toInt = 1000 from rfl]
      omega
    · rw [z] at q; exact absurd q (by decide)
  have b1 := (bd_lt (A := A) hT ht).2
  by_cases c1 : A 24 (4 * (fr d + n) + f) = 1
  · replace hr := hr c1
    by_cases c2 : A 25 (4 * (fr d + n) + f) < A 30 t
    · refine ⟨-1, 0, 0, Or.inl ⟨rfl, rfl, rfl⟩, fun K o n1 cb sb h => ?_, fun K r h => ?_⟩
      · unfold p_Sc_pointsAt
        rw [c_g22_1, c_r24, cl_nI (by omega), hc 24 (by decide), (hrow t ht).2.1, c_g22_2, c_r25, cl_nI (by omega), hc 25 (by decide), (hrow t ht).2.2.1, c_g22_0, c_r23, cl_nI (by omega), hc 23 (by decide), (hrow t ht).1]
        refine ⟨hin, hin, hin, ?_⟩
        rw [hkd, xif_f (by decide), xif_t rfl, y_alR (by omega) d1.2.2, cl_nI (by omega), d2, y_ob na0 g1, m_call, f2]
        refine ⟨hinn, ?_⟩
        unfold p_Nd_hasNumberWithin
        rw [y_gR (v := some (na (fr d + n) + 1)) na0 g1 g2, y_al (by omega) g4, cl_nI (by omega), e1]
        refine ⟨hf4, ?_⟩
        rw [xif_t c1, y_gR (v := some (na (fr d + n) + 2)) na0 g1 g3, y_al (by omega) g5, cl_nI (by omega), e2, xif_t c2, xrz_0]
        refine ⟨hf4, ?_⟩
        dsimp only
        rw [m_call]
        unfold p_Sc_oneIf
        rw [xif_t rfl]
        exact h
      · obtain ⟨o, n1, cb, sb⟩ := r
        rw [M_look_eq hk hD hq hpm hA hd ht, f2, i4]
        unfold p_M_look_B60
        rw [m_g28, m_r28, cl_nI (by omega), hA 28 (by decide), hkd]
        refine ⟨hin, ?_⟩
        rw [xif_f (by decide), xif_t rfl, m_g24, m_r24, cl_nI (by omega), hA 24 (by decide)]
        refine ⟨hino, ?_⟩
        rw [xif_t c1, m_g25, m_r25, cl_nI (by omega), hA 25 (by decide), m_g30, m_r30, cl_nI (by omega), hA 30 (by decide), xif_t c2, m_ob, m_call, M_set_eq (by omega) (by omega) (Or.inl rfl)]
        exact ⟨hino, hin, h⟩
    · refine ⟨1, 1, 1, Or.inr ⟨1, by omega, rfl, rfl, rfl⟩, fun K o n1 cb sb h => ?_, fun K r h => ?_⟩
      · unfold p_Sc_pointsAt
        rw [c_g22_1, c_r24, cl_nI (by omega), hc 24 (by decide), (hrow t ht).2.1, c_g22_2, c_r25, cl_nI (by omega), hc 25 (by decide), (hrow t ht).2.2.1, c_g22_0, c_r23, cl_nI (by omega), hc 23 (by decide), (hrow t ht).1]
        refine ⟨hin, hin, hin, ?_⟩
        rw [hkd, xif_f (by decide), xif_t rfl, y_alR (by omega) d1.2.2, cl_nI (by omega), d2, y_ob na0 g1, m_call, f2]
        refine ⟨hinn, ?_⟩
        unfold p_Nd_hasNumberWithin
        rw [y_gR (v := some (na (fr d + n) + 1)) na0 g1 g2, y_al (by omega) g4, cl_nI (by omega), e1]
        refine ⟨hf4, ?_⟩
        rw [xif_t c1, y_gR (v := some (na (fr d + n) + 2)) na0 g1 g3, y_al (by omega) g5, cl_nI (by omega), e2, xif_f c2, y_gR (v := some (na (fr d + n) + 2)) na0 g1 g3, y_al (by omega) g5, cl_nI (by omega), e2, xif_f hr, xrz_1]
        refine ⟨hf4, hf4, ?_⟩
        dsimp only
        rw [m_call]
        unfold p_Sc_oneIf
        rw [xif_f (by decide)]
        exact h
      · obtain ⟨o, n1, cb, sb⟩ := r
        rw [M_look_eq hk hD hq hpm hA hd ht, f2, i4]
        unfold p_M_look_B60
        rw [m_g28, m_r28, cl_nI (by omega), hA 28 (by decide), hkd]
        refine ⟨hin, ?_⟩
        rw [xif_f (by decide), xif_t rfl, m_g24, m_r24, cl_nI (by omega), hA 24 (by decide)]
        refine ⟨hino, ?_⟩
        rw [xif_t c1, m_g25, m_r25, cl_nI (by omega), hA 25 (by decide), m_g30, m_r30, cl_nI (by omega), hA 30 (by decide), xif_f c2, m_ob, m_call, M_set_eq (by omega) (by omega) (Or.inr rfl)]
        exact ⟨hino, hin, h⟩
  · refine ⟨-1, 0, 0, Or.inl ⟨rfl, rfl, rfl⟩, fun K o n1 cb sb h => ?_, fun K r h => ?_⟩
    · unfold p_Sc_pointsAt
      rw [c_g22_1, c_r24, cl_nI (by omega), hc 24 (by decide), (hrow t ht).2.1, c_g22_2, c_r25, cl_nI (by omega), hc 25 (by decide), (hrow t ht).2.2.1, c_g22_0, c_r23, cl_nI (by omega), hc 23 (by decide), (hrow t ht).1]
      refine ⟨hin, hin, hin, ?_⟩
      rw [hkd, xif_f (by decide), xif_t rfl, y_alR (by omega) d1.2.2, cl_nI (by omega), d2, y_ob na0 g1, m_call, f2]
      refine ⟨hinn, ?_⟩
      unfold p_Nd_hasNumberWithin
      rw [y_gR (v := some (na (fr d + n) + 1)) na0 g1 g2, y_al (by omega) g4, cl_nI (by omega), e1]
      refine ⟨hf4, ?_⟩
      rw [xif_f c1, xrz_0]
      dsimp only
      rw [m_call]
      unfold p_Sc_oneIf
      rw [xif_t rfl]
      exact h
    · obtain ⟨o, n1, cb, sb⟩ := r
      rw [M_look_eq hk hD hq hpm hA hd ht, f2, i4]
      unfold p_M_look_B60
      rw [m_g28, m_r28, cl_nI (by omega), hA 28 (by decide), hkd]
      refine ⟨hin, ?_⟩
      rw [xif_f (by decide), xif_t rfl, m_g24, m_r24, cl_nI (by omega), hA 24 (by decide)]
      refine ⟨hino, ?_⟩
      rw [xif_f c1, m_ob, m_call, M_set_eq (by omega) (by omega) (Or.inl rfl)]
      exact h
theorem pt_upto (hk : Rk (X + 66) nx db bs dyn A B D O fr sz da na le) (hO : O ≤ 260) (hD : D ≤ 180) (hq : Qc A T) (hrow : ∀ t, t < T → ca 23 t = A 28 t ∧ ca 24 t = A 29 t ∧ ca 25 t = A 30 t ∧ ca 26 t = A 31 t) (hpm : ∀ x, x < T → doM A A T fr sz tm L x) (hc : agr tbs ca1 ca) (hA : agr [38, 39] A1 A) (hd : d < D) (ht : t < T) (hn : n < sz d) (hkd : A 28 t = 2) : ptOk X M dyn B S cs cr cu da d t n ca1 A1 (bdF A T t) := by
  obtain ⟨f, f1, f2⟩ := tokF (hq.2.2.2.1 t ht).1 (by rw [hkd]; decide)
  have hsz := (hk.1 d hd).1.2.2.2.1
  have hfO := (hk.1 d hd).1.2.2.2.2
  have hT := hq.2.1
  have hin : vp_in (nI t) 12 := vp_in_nI (by omega) (by decide)
  have hinn : vp_in (nI n) (sz d) := vp_in_nI hn (by omega)
  have hinn10 : vp_in (nI n) 10 := vp_in_nI (by omega) (by decide)
  have hf4 : vp_in (nI f) 4 := vp_in_nI (by omega) (by decide)
  have hino : vp_in (nI (4 * (fr d + n) + f)) 1040 := vp_in_nI (by omega) (by decide)
  obtain ⟨nodes, ty, va, d1, d2, na0, ⟨fs, g1, g2, g3⟩, g4, g5, e1, e2, e3⟩ := pt_nd hk hd hn (show f < 4 by omega)
  have hb := d1.1.1
  have hr : A 24 (4 * (fr d + n) + f) = 1 → ¬ A 25 (4 * (fr d + n) + f) < (-1000 : Int32) := fun q => by
    rcases e3 with z | ⟨-, z⟩ | z
    · rw [z] at q; exact absurd q (by decide)
    · have h0 : ¬ ((A 25 (4 * (fr d + n) + f)).toInt < -1000 ∨ (1000 : Int) < (A 25 (4 * (fr d + n) + f)).toInt) := fun y => by rw [inR_0.mpr y] at z; exact absurd z (by decide)
      rw [i_lt, show (-1000 : Int32).toInt = -1000 from rfl]
      omega
    · rw [z] at q; exact absurd q (by decide)
  have b1 := (bd_lt (A := A) hT ht).2
  by_cases c1 : A 24 (4 * (fr d + n) + f) = 1
  · replace hr := hr c1
    by_cases c2 : A 30 t < A 25 (4 * (fr d + n) + f)
    · refine ⟨-1, 0, 0, Or.inl ⟨rfl, rfl, rfl⟩, fun K o n1 cb sb h => ?_, fun K r h => ?_⟩
      · unfold p_Sc_pointsAt
        rw [c_g22_1, c_r24, cl_nI (by omega), hc 24 (by decide), (hrow t ht).2.1, c_g22_2, c_r25, cl_nI (by omega), hc 25 (by decide), (hrow t ht).2.2.1, c_g22_0, c_r23, cl_nI (by omega), hc 23 (by decide), (hrow t ht).1]
        refine ⟨hin, hin, hin, ?_⟩
        rw [hkd, xif_f (by decide), xif_f (by decide), xif_t rfl, y_alR (by omega) d1.2.2, cl_nI (by omega), d2, y_ob na0 g1, m_call, f2]
        refine ⟨hinn, ?_⟩
        unfold p_Nd_hasNumberWithin
        rw [y_gR (v := some (na (fr d + n) + 1)) na0 g1 g2, y_al (by omega) g4, cl_nI (by omega), e1]
        refine ⟨hf4, ?_⟩
        rw [xif_t c1, y_gR (v := some (na (fr d + n) + 2)) na0 g1 g3, y_al (by omega) g5, cl_nI (by omega), e2, xif_f hr, y_gR (v := some (na (fr d + n) + 2)) na0 g1 g3, y_al (by omega) g5, cl_nI (by omega), e2, xif_t c2, xrz_0]
        refine ⟨hf4, hf4, ?_⟩
        dsimp only
        rw [m_call]
        unfold p_Sc_oneIf
        rw [xif_t rfl]
        exact h
      · obtain ⟨o, n1, cb, sb⟩ := r
        rw [M_look_eq hk hD hq hpm hA hd ht, f2, i4]
        unfold p_M_look_B60
        rw [m_g28, m_r28, cl_nI (by omega), hA 28 (by decide), hkd]
        refine ⟨hin, ?_⟩
        rw [xif_f (by decide), xif_f (by decide), xif_t rfl, m_g24, m_r24, cl_nI (by omega), hA 24 (by decide)]
        refine ⟨hino, ?_⟩
        rw [xif_t c1, m_g25, m_r25, cl_nI (by omega), hA 25 (by decide), m_g30, m_r30, cl_nI (by omega), hA 30 (by decide), xif_t c2, m_ob, m_call, M_set_eq (by omega) (by omega) (Or.inl rfl)]
        exact ⟨hino, hin, h⟩
    · refine ⟨1, 1, 1, Or.inr ⟨1, by omega, rfl, rfl, rfl⟩, fun K o n1 cb sb h => ?_, fun K r h => ?_⟩
      · unfold p_Sc_pointsAt
        rw [c_g22_1, c_r24, cl_nI (by omega), hc 24 (by decide), (hrow t ht).2.1, c_g22_2, c_r25, cl_nI (by omega), hc 25 (by decide), (hrow t ht).2.2.1, c_g22_0, c_r23, cl_nI (by omega), hc 23 (by decide), (hrow t ht).1]
        refine ⟨hin, hin, hin, ?_⟩
        rw [hkd, xif_f (by decide), xif_f (by decide), xif_t rfl, y_alR (by omega) d1.2.2, cl_nI (by omega), d2, y_ob na0 g1, m_call, f2]
        refine ⟨hinn, ?_⟩
        unfold p_Nd_hasNumberWithin
        rw [y_gR (v := some (na (fr d + n) + 1)) na0 g1 g2, y_al (by omega) g4, cl_nI (by omega), e1]
        refine ⟨hf4, ?_⟩
        rw [xif_t c1, y_gR (v := some (na (fr d + n) + 2)) na0 g1 g3, y_al (by omega) g5, cl_nI (by omega), e2, xif_f hr, y_gR (v := some (na (fr d + n) + 2)) na0 g1 g3, y_al (by omega) g5, cl_nI (by omega), e2, xif_f c2, xrz_1]
        refine ⟨hf4, hf4, ?_⟩
        dsimp only
        rw [m_call]
        unfold p_Sc_oneIf
        rw [xif_f (by decide)]
        exact h
      · obtain ⟨o, n1, cb, sb⟩ := r
        rw [M_look_eq hk hD hq hpm hA hd ht, f2, i4]
        unfold p_M_look_B60
        rw [m_g28, m_r28, cl_nI (by omega), hA 28 (by decide), hkd]
        refine ⟨hin, ?_⟩
        rw [xif_f (by decide), xif_f (by decide), xif_t rfl, m_g24, m_r24, cl_nI (by omega), hA 24 (by decide)]
        refine ⟨hino, ?_⟩
        rw [xif_t c1, m_g25, m_r25, cl_nI (by omega), hA 25 (by decide), m_g30, m_r30, cl_nI (by omega), hA 30 (by decide), xif_f c2, m_ob, m_call, M_set_eq (by omega) (by omega) (Or.inr rfl)]
        exact ⟨hino, hin, h⟩
  · refine ⟨-1, 0, 0, Or.inl ⟨rfl, rfl, rfl⟩, fun K o n1 cb sb h => ?_, fun K r h => ?_⟩
    · unfold p_Sc_pointsAt
      rw [c_g22_1, c_r24, cl_nI (by omega), hc 24 (by decide), (hrow t ht).2.1, c_g22_2, c_r25, cl_nI (by omega), hc 25 (by decide), (hrow t ht).2.2.1, c_g22_0, c_r23, cl_nI (by omega), hc 23 (by decide), (hrow t ht).1]
      refine ⟨hin, hin, hin, ?_⟩
      rw [hkd, xif_f (by decide), xif_f (by decide), xif_t rfl, y_alR (by omega) d1.2.2, cl_nI (by omega), d2, y_ob na0 g1, m_call, f2]
      refine ⟨hinn, ?_⟩
      unfold p_Nd_hasNumberWithin
      rw [y_gR (v := some (na (fr d + n) + 1)) na0 g1 g2, y_al (by omega) g4, cl_nI (by omega), e1]
      refine ⟨hf4, ?_⟩
      rw [xif_f c1, xrz_0]
      dsimp only
      rw [m_call]
      unfold p_Sc_oneIf
      rw [xif_t rfl]
      exact h
    · obtain ⟨o, n1, cb, sb⟩ := r
      rw [M_look_eq hk hD hq hpm hA hd ht, f2, i4]
      unfold p_M_look_B60
      rw [m_g28, m_r28, cl_nI (by omega), hA 28 (by decide), hkd]
      refine ⟨hin, ?_⟩
      rw [xif_f (by decide), xif_f (by decide), xif_t rfl, m_g24, m_r24, cl_nI (by omega), hA 24 (by decide)]
      refine ⟨hino, ?_⟩
      rw [xif_f c1, m_ob, m_call, M_set_eq (by omega) (by omega) (Or.inl rfl)]
      exact h
theorem pt_some (hk : Rk (X + 66) nx db bs dyn A B D O fr sz da na le) (hO : O ≤ 260) (hD : D ≤ 180) (hq : Qc A T) (hrow : ∀ t, t < T → ca 23 t = A 28 t ∧ ca 24 t = A 29 t ∧ ca 25 t = A 30 t ∧ ca 26 t = A 31 t) (hpm : ∀ x, x < T → doM A A T fr sz tm L x) (hc : agr tbs ca1 ca) (hA : agr [38, 39] A1 A) (hd : d < D) (ht : t < T) (hn : n < sz d) (hkd : A 28 t = 3) : ptOk X M dyn B S cs cr cu da d t n ca1 A1 (bdF A T t) := by
  obtain ⟨f, f1, f2⟩ := tokF (hq.2.2.2.1 t ht).1 (by rw [hkd]; decide)
  have hsz := (hk.1 d hd).1.2.2.2.1
  have hfO := (hk.1 d hd).1.2.2.2.2
  have hT := hq.2.1
  have hin : vp_in (nI t) 12 := vp_in_nI (by omega) (by decide)
  have hinn : vp_in (nI n) (sz d) := vp_in_nI hn (by omega)
  have hinn10 : vp_in (nI n) 10 := vp_in_nI (by omega) (by decide)
  have hf4 : vp_in (nI f) 4 := vp_in_nI (by omega) (by decide)
  have hino : vp_in (nI (4 * (fr d + n) + f)) 1040 := vp_in_nI (by omega) (by decide)
  obtain ⟨nodes, ty, va, d1, d2, na0, ⟨fs, g1, g2, g3⟩, g4, g5, e1, e2, e3⟩ := pt_nd hk hd hn (show f < 4 by omega)
  have hb := d1.1.1
  have b1 := (bd_lt (A := A) hT ht).2
  by_cases c1 : A 24 (4 * (fr d + n) + f) = 0
  · refine ⟨-1, 0, 0, Or.inl ⟨rfl, rfl, rfl⟩, fun K o n1 cb sb h => ?_, fun K r h => ?_⟩
    · unfold p_Sc_pointsAt
      rw [c_g22_1, c_r24, cl_nI (by omega), hc 24 (by decide), (hrow t ht).2.1, c_g22_2, c_r25, cl_nI (by omega), hc 25 (by decide), (hrow t ht).2.2.1, c_g22_0, c_r23, cl_nI (by omega), hc 23 (by decide), (hrow t ht).1]
      refine ⟨hin, hin, hin, ?_⟩
      rw [hkd, xif_f (by decide), xif_f (by decide), xif_f (by decide), xif_t rfl, y_alR (by omega) d1.2.2, cl_nI (by omega), d2, y_gR (v := some (na (fr d + n) + 1)) na0 g1 g2, f2, y_al (by omega) g4, cl_nI (by omega), e1]
      refine ⟨hinn, hf4, ?_⟩
      rw [xif_t c1, m_call]
      unfold p_Sc_oneIf
      rw [xif_t rfl]
      exact h
    · obtain ⟨o, n1, cb, sb⟩ := r
      rw [M_look_eq hk hD hq hpm hA hd ht, f2, i4]
      unfold p_M_look_B60
      rw [m_g28, m_r28, cl_nI (by omega), hA 28 (by decide), hkd]
      refine ⟨hin, ?_⟩
      rw [xif_f (by decide), xif_f (by decide), xif_f (by decide), xif_t rfl, m_g24, m_r24, cl_nI (by omega), hA 24 (by decide)]
      refine ⟨hino, ?_⟩
      rw [xif_t (by rw [c1]; decide), m_ob, m_call, M_set_eq (by omega) (by omega) (Or.inl rfl)]
      exact h
  · have c2 : ¬ A 24 (4 * (fr d + n) + f) ≤ 0 := by
      rcases e3 with z | ⟨z, -⟩ | z
      · exact absurd z c1
      · rw [z]; decide
      · rw [z]; decide
    refine ⟨1, 1, 1, Or.inr ⟨1, by omega, rfl, rfl, rfl⟩, fun K o n1 cb sb h => ?_, fun K r h => ?_⟩
    · unfold p_Sc_pointsAt
      rw [c_g22_1, c_r24, cl_nI (by omega), hc 24 (by decide), (hrow t ht).2.1, c_g22_2, c_r25, cl_nI (by omega), hc 25 (by decide), (hrow t ht).2.2.1, c_g22_0, c_r23, cl_nI (by omega), hc 23 (by decide), (hrow t ht).1]
      refine ⟨hin, hin, hin, ?_⟩
      rw [hkd, xif_f (by decide), xif_f (by decide), xif_f (by decide), xif_t rfl, y_alR (by omega) d1.2.2, cl_nI (by omega), d2, y_gR (v := some (na (fr d + n) + 1)) na0 g1 g2, f2, y_al (by omega) g4, cl_nI (by omega), e1]
      refine ⟨hinn, hf4, ?_⟩
      rw [xif_f c1, m_call]
      unfold p_Sc_oneIf
      rw [xif_f (by decide)]
      exact h
    · obtain ⟨o, n1, cb, sb⟩ := r
      rw [M_look_eq hk hD hq hpm hA hd ht, f2, i4]
      unfold p_M_look_B60
      rw [m_g28, m_r28, cl_nI (by omega), hA 28 (by decide), hkd]
      refine ⟨hin, ?_⟩
      rw [xif_f (by decide), xif_f (by decide), xif_f (by decide), xif_t rfl, m_g24, m_r24, cl_nI (by omega), hA 24 (by decide)]
      refine ⟨hino, ?_⟩
      rw [xif_f c2, m_ob, m_call, M_set_eq (by omega) (by omega) (Or.inr rfl)]
      exact h
theorem pt_has (hk : Rk (X + 66) nx db bs dyn A B D O fr sz da na le) (hO : O ≤ 260) (hD : D ≤ 180) (hq : Qc A T) (hrow : ∀ t, t < T → ca 23 t = A 28 t ∧ ca 24 t = A 29 t ∧ ca 25 t = A 30 t ∧ ca 26 t = A 31 t) (hpm : ∀ x, x < T → doM A A T fr sz tm L x) (hc : agr tbs ca1 ca) (hA : agr [38, 39] A1 A) (hd : d < D) (ht : t < T) (hn : n < sz d) (hpc : ∀ x, x < T → doC A ca T fr sz tm L x) (htm : Tm X M dyn A B D fr sz na T tm) (hL : ∀ e ∈ L, e < D) (hdL : d ∈ L) (hLl : L.length ≤ 120) (hp : A 22 (fr d + n) = A 31 t) (hkd : A 28 t = 0) : ptOk X M dyn B S cs cr cu da d t n ca1 A1 (bdF A T t) := by
  have hsz := (hk.1 d hd).1.2.2.2.1
  have hT := hq.2.1
  have hin : vp_in (nI t) 12 := vp_in_nI (by omega) (by decide)
  have hinn : vp_in (nI n) (sz d) := vp_in_nI hn (by omega)
  have hinn10 : vp_in (nI n) 10 := vp_in_nI (by omega) (by decide)
  obtain ⟨nodes, ty, va, d1, d2, na0, ⟨fs, g1, g2, g3⟩, -⟩ := pt_nd hk hd hn (show 0 < 4 by omega)
  have hb := d1.1.1
  obtain ⟨W1, W2⟩ := htm.2 t d n ht hkd hd hn
  replace W2 := fun S K r => W2 A1 S K r (hA 24 (by decide)) (hA 25 (by decide))
  have t8 := htm.1 t d n
  have b1 := (bd_lt (A := A) hT ht).2
  have b2 := al_bd hk L hL t
  have b3 := hv_bd (tm := tm) hk L hL t
  by_cases c : tm t d n = 0
  · rw [c] at W1 W2
    refine ⟨-1, 0, 0, Or.inl ⟨rfl, rfl, rfl⟩, fun K o n1 cb sb h => ?_, fun K r h => ?_⟩
    · unfold p_Sc_pointsAt
      rw [c_g22_1, c_r24, cl_nI (by omega), hc 24 (by decide), (hrow t ht).2.1, c_g22_2, c_r25, cl_nI (by omega), hc 25 (by decide), (hrow t ht).2.2.1, c_g22_0, c_r23, cl_nI (by omega), hc 23 (by decide), (hrow t ht).1]
      refine ⟨hin, hin, hin, ?_⟩
      rw [hkd, xif_t rfl, y_alR (by omega) d1.2.2, cl_nI (by omega), d2, y_ob na0 g1, m_call, W1]
      refine ⟨hinn, ?_⟩
      dsimp only
      rw [c_g28_0, c_r29, cl_nI (by omega), hc 29 (by decide), (hpc t ht).1 hkd]
      refine ⟨hin, ?_⟩
      rw [m_call]
      unfold p_Sc_weighed
      rw [xif_t (by decide)]
      exact h
    · obtain ⟨o, n1, cb, sb⟩ := r
      rw [M_look_eq hk hD hq hpm hA hd ht]
      unfold p_M_look_B60
      rw [m_g28, m_r28, cl_nI (by omega), hA 28 (by decide), hkd]
      refine ⟨hin, ?_⟩
      rw [xif_t rfl, m_g29, m_r29, cl_nI (by omega), hA 29 (by decide), m_g30, m_r30, cl_nI (by omega), hA 30 (by decide), m_ob, m_call, W2]
      refine ⟨hin, hin, ?_⟩
      dsimp only
      rw [xif_t (by decide)]
      unfold p_M_look_B149
      rw [xif_t (show nI 0 = 0 from rfl), m_ob, m_call, M_set_eq (by omega) (by omega) (Or.inl rfl)]
      exact h
  · have hv : 1 ≤ hvF A fr sz tm L t := by
      have q1 := szs_mem (g := fun d => cnH (A 22) (A 31 t) (tm t d) (fr d) 0 (sz d)) L d hdL
      have q2 := cnH_pos (pth := A 22) (p := A 31 t) (tm := tm t d) (b := fr d) (j := n) hp (by omega) (sz d) 0 (by omega) (by omega)
      exact Nat.le_trans q2 q1
    have e1 : wgt (alF A fr sz L t) (hvF A fr sz tm L t) = nI (1 + alF A fr sz L t / hvF A fr sz tm L t) := if_neg (by omega)
    have q3 : alF A fr sz L t / hvF A fr sz tm L t ≤ alF A fr sz L t := Nat.div_le_self _ _
    have q4 : tm t d n * (1 + alF A fr sz L t / hvF A fr sz tm L t) ≤ 8 * (1 + 1200) := Nat.mul_le_mul t8 (by omega)
    have hne : ¬ nI (tm t d n) = 0 := fun z => c ((nI_eq (b := 0) (by omega) (by decide)).mp z)
    have hvn : ¬ nI (hvF A fr sz tm L t) = 0 := fun z => by have := (nI_eq (b := 0) (by omega) (by decide)).mp z; omega
    refine ⟨nI (tm t d n * (1 + alF A fr sz L t / hvF A fr sz tm L t)), 1, nI (tm t d n * (1 + alF A fr sz L t / hvF A fr sz tm L t)), Or.inr ⟨_, by omega, rfl, rfl, rfl⟩, fun K o n1 cb sb h => ?_, fun K r h => ?_⟩
    · unfold p_Sc_pointsAt
      rw [c_g22_1, c_r24, cl_nI (by omega), hc 24 (by decide), (hrow t ht).2.1, c_g22_2, c_r25, cl_nI (by omega), hc 25 (by decide), (hrow t ht).2.2.1, c_g22_0, c_r23, cl_nI (by omega), hc 23 (by decide), (hrow t ht).1]
      refine ⟨hin, hin, hin, ?_⟩
      rw [hkd, xif_t rfl, y_alR (by omega) d1.2.2, cl_nI (by omega), d2, y_ob na0 g1, m_call, W1]
      refine ⟨hinn, ?_⟩
      dsimp only
      rw [c_g28_0, c_r29, cl_nI (by omega), hc 29 (by decide), (hpc t ht).1 hkd]
      refine ⟨hin, ?_⟩
      rw [m_call]
      unfold p_Sc_weighed
      rw [xif_f (show ¬ nI (tm t d n) ≤ 0 from nI_ge (a := 0) (by omega) (by omega)), e1, pk_mul]
      exact h
    · obtain ⟨o, n1, cb, sb⟩ := r
      rw [M_look_eq hk hD hq hpm hA hd ht]
      unfold p_M_look_B60
      rw [m_g28, m_r28, cl_nI (by omega), hA 28 (by decide), hkd]
      refine ⟨hin, ?_⟩
      rw [xif_t rfl, m_g29, m_r29, cl_nI (by omega), hA 29 (by decide), m_g30, m_r30, cl_nI (by omega), hA 30 (by decide), m_ob, m_call, W2]
      refine ⟨hin, hin, ?_⟩
      dsimp only
      rw [xif_f (show ¬ nI (tm t d n) ≤ 0 from nI_ge (a := 0) (by omega) (by omega))]
      unfold p_M_look_B149
      rw [xif_f hne, m_g34, m_r34, cl_nI (by omega), hA 34 (by decide), ((hpm t ht).2 hkd).1, m_g35, m_r35, cl_nI (by omega), hA 35 (by decide), ((hpm t ht).2 hkd).2]
      refine ⟨hin, hin, hvn, ?_⟩
      dsimp only
      rw [m_ob, m_call, M_set_eq (by omega) (by omega) (Or.inr rfl), if_neg (by decide), pk_div (by omega) (by omega) (by omega), show (1 : Int32) + nI (alF A fr sz L t / hvF A fr sz tm L t) = nI (1 + alF A fr sz L t / hvF A fr sz tm L t) from by rw [show (1 : Int32) = nI 1 from rfl, nI_add], pk_mul]
      exact h
theorem M_B330 {x y : Nat} {h : Int32} (ht : t < 12) (hn : n < 10) (hx : x < 120) (hy : y < 120) (h01 : h = 0 ∨ h = 1) {K : Unit → xS → Prop} {o : xM} {n1 cb sb : Nat} : p_M_look_B330 M (nI x) (nI y) h (nI n) (nI t) (some M) K (mheap M A1 B S, o, n1, cb, sb) ↔ K () (mheap M (mst A1 t n h (if h = 0 then 0 else A1 39 x + A1 39 y)) B S, o, n1, cb, sb) := by
  have h1 : vp_in (nI x) 120 := vp_in_nI hx (by decide)
  have h2 : vp_in (nI y) 120 := vp_in_nI hy (by decide)
  unfold p_M_look_B330
  rw [m_g39, m_r39, cl_nI (by omega), m_g39, m_r39, cl_nI (by omega), m_ob, m_call, M_set_eq ht hn h01]
  simp only [h1, h2, true_and]
theorem M_B379 {x y : Nat} {h : Int32} (ht : t < 12) (hn : n < 10) (hx : x < 120) (hy : y < 120) (h01 : h = 0 ∨ h = 1) {K : Unit → xS → Prop} {o : xM} {n1 cb sb : Nat} : p_M_look_B379 M (nI x) (nI y) h (nI n) (nI t) (some M) K (mheap M A1 B S, o, n1, cb, sb) ↔ K () (mheap M (mst A1 t n h (if h = 0 then 0 else A1 39 x + A1 39 y)) B S, o, n1, cb, sb) := by
  have h1 : vp_in (nI x) 120 := vp_in_nI hx (by decide)
  have h2 : vp_in (nI y) 120 := vp_in_nI hy (by decide)
  unfold p_M_look_B379
  rw [m_g39, m_r39, cl_nI (by omega), m_g39, m_r39, cl_nI (by omega), m_ob, m_call, M_set_eq ht hn h01]
  simp only [h1, h2, true_and]
theorem pt_both (hk : Rk (X + 66) nx db bs dyn A B D O fr sz da na le) (hO : O ≤ 260) (hD : D ≤ 180) (hq : Qc A T) (hrow : ∀ t, t < T → ca 23 t = A 28 t ∧ ca 24 t = A 29 t ∧ ca 25 t = A 30 t ∧ ca 26 t = A 31 t) (hpm : ∀ x, x < T → doM A A T fr sz tm L x) (hc : agr tbs ca1 ca) (hA : agr [38, 39] A1 A) (hd : d < D) (ht : t < T) (hn : n < sz d) (hpc : ∀ x, x < T → doC A ca T fr sz tm L x) (hp : A 22 (fr d + n) = A 31 t) (hkd : A 28 t = 5) (htb : ∀ x, t < x → x < T → tbOk A fr sz T d ca1 A1 x) : ptOk X M dyn B S cs cr cu da d t n ca1 A1 (bdF A T t) := by
  have hsz := (hk.1 d hd).1.2.2.2.1
  have hT := hq.2.1
  have hin : vp_in (nI t) 12 := vp_in_nI (by omega) (by decide)
  have hinn : vp_in (nI n) (sz d) := vp_in_nI hn (by omega)
  have hinn10 : vp_in (nI n) 10 := vp_in_nI (by omega) (by decide)
  have hp2 : prtN (A 28 t) = 2 := by rw [hkd]; decide
  obtain ⟨t1, t2⟩ := hq.2.2.2.2.1 t ht (by omega)
  obtain ⟨t3', t4'⟩ := hq.2.2.2.2.2 t ht hp2
  have t3 : Ef (ptA A) T (t + 1) < T := t3'
  have t4 : A 31 (Ef (ptA A) T (t + 1)) = cpI A t := t4'
  have cp : cpI A t = A 31 t := by unfold cpI; rw [if_neg (by rw [hkd]; decide)]
  rw [cp] at t2 t4
  have t5 := (Ef_lt (pt := ptA A) t1).1
  have R1 := htb (t + 1) (by omega) t1 n hn (by rw [t2]; exact hp)
  have R2 := htb (Ef (ptA A) T (t + 1)) (by omega) t3 n hn (by rw [t4]; exact hp)
  have hbd : bdF A T (t + 1) + bdF A T (Ef (ptA A) T (t + 1)) ≤ bdF A T t := by
    have e2 := Ef_2 (pt := ptA A) ht hp2
    have l2 := (Ef_lt (pt := ptA A) t3).1
    unfold bdF
    rw [t2, t4, e2]
    rcases dpw_c (A 31 t) with e | e | e <;> rw [e] <;> omega
  have b1 := (bd_lt (A := A) hT t1).1
  have b2 := (bd_lt (A := A) hT t3).1
  have hin3 : vp_in (nI (t + 1)) 12 := vp_in_nI (by omega) (by decide)
  have hin5 : vp_in (nI (Ef (ptA A) T (t + 1))) 12 := vp_in_nI (by omega) (by decide)
  have hin4 : vp_in (nI (10 * (t + 1) + n)) 120 := vp_in_nI (by omega) (by decide)
  have hin6 : vp_in (nI (10 * Ef (ptA A) T (t + 1) + n)) 120 := vp_in_nI (by omega) (by decide)
  have hC : ∀ (K : Int32 → xS → Prop) (o : xM) (n1 cb sb : Nat), p_Sc_sumOfBoth (ca1 (32 + (t + 1)) n) (ca1 (32 + Ef (ptA A) T (t + 1)) n) (fun v G' => K v (G'.1, G'.2.1, G'.2.2.1, cb, sb)) (cheap X cs ca1 cr cu dyn, o, n1, 0, 0) → p_Sc_pointsAt (X + 28) (some (X + 22)) (nI t) (some (da d + 1)) (nI n) K (cheap X cs ca1 cr cu dyn, o, n1, cb, sb) := fun K o n1 cb sb h => by
    unfold p_Sc_pointsAt
    rw [c_g22_1, c_r24, cl_nI (by omega), hc 24 (by decide), (hrow t ht).2.1, c_g22_2, c_r25, cl_nI (by omega), hc 25 (by decide), (hrow t ht).2.2.1, c_g22_0, c_r23, cl_nI (by omega), hc 23 (by decide), (hrow t ht).1]
    refine ⟨hin, hin, hin, ?_⟩
    rw [hkd, xif_f (by decide), xif_f (by decide), xif_f (by decide), xif_f (by decide), xif_f (by decide), xif_t rfl, c_g28_2, nI_1, c_r31, cl_nI (by omega), if_pos (by omega), cr_tab (by omega), cl_nI (by omega), c_g28_2, c_g28_1, c_r30, cl_nI (by omega), hc 30 (by decide), (hpc t ht).2 (Or.inl hkd), c_r31, cl_nI (by omega), if_pos (by omega), cr_tab (by omega), cl_nI (by omega), m_call]
    exact ⟨hin3, hinn10, hin, hin5, hinn10, h⟩
  have hM : ∀ (K : Unit → xS → Prop) (o : xM) (n1 cb sb : Nat), K () (mheap M (mst A1 t n (if A1 38 (10 * (t + 1) + n) = 0 ∨ A1 38 (10 * Ef (ptA A) T (t + 1) + n) = 0 then 0 else 1) (if A1 38 (10 * (t + 1) + n) = 0 ∨ A1 38 (10 * Ef (ptA A) T (t + 1) + n) = 0 then 0 else A1 39 (10 * (t + 1) + n) + A1 39 (10 * Ef (ptA A) T (t + 1) + n))) B S, o, n1, cb, sb) → p_M_look M (nI d) (nI t) (nI n) K (mheap M A1 B S, o, n1, cb, sb) := fun K o n1 cb sb h => by
    rw [M_look_eq hk hD hq hpm hA hd ht, if_pos hp2]
    unfold p_M_look_B60
    rw [m_g28, m_r28, cl_nI (by omega), hA 28 (by decide), hkd, i10]
    refine ⟨hin, ?_⟩
    rw [xif_f (by decide), xif_f (by decide), xif_f (by decide), xif_f (by decide), xif_f (by decide), xif_t rfl, m_g38, m_r38, cl_nI (by omega)]
    refine ⟨hin4, ?_⟩
    by_cases c1 : A1 38 (10 * (t + 1) + n) = 0
    · rw [xif_t c1]
      unfold p_M_look_B329
      rw [M_B330 (by omega) (by omega) (by omega) (by omega) (Or.inl rfl), if_pos rfl]
      rw [if_pos (Or.inl c1), if_pos (Or.inl c1)] at h
      exact h
    · rw [xif_f c1, m_g38, m_r38, cl_nI (by omega)]
      refine ⟨hin6, ?_⟩
      by_cases c2 : A1 38 (10 * Ef (ptA A) T (t + 1) + n) = 0
      · rw [xif_t c2]
        unfold p_M_look_B329
        rw [M_B330 (by omega) (by omega) (by omega) (by omega) (Or.inl rfl), if_pos rfl]
        rw [if_pos (Or.inr c2), if_pos (Or.inr c2)] at h
        exact h
      · rw [xif_f c2, M_B330 (by omega) (by omega) (by omega) (by omega) (Or.inr rfl), if_neg (by decide)]
        rw [if_neg (fun q => q.elim c1 c2), if_neg (fun q => q.elim c1 c2)] at h
        exact h
  rcases R1 with ⟨r1, r2, r3⟩ | ⟨v, v1, r1, r2, r3⟩
  · refine ⟨-1, 0, 0, Or.inl ⟨rfl, rfl, rfl⟩, fun K o n1 cb sb h => hC K o n1 cb sb ?_, fun K r h => hM K _ _ _ _ ?_⟩
    · unfold p_Sc_sumOfBoth
      rw [xif_t r1]
      exact h
    · rw [if_pos (Or.inl r2), if_pos (Or.inl r2)]
      exact h
  · rcases R2 with ⟨q1, q2, q3⟩ | ⟨w, w1, q1, q2, q3⟩
    · refine ⟨-1, 0, 0, Or.inl ⟨rfl, rfl, rfl⟩, fun K o n1 cb sb h => hC K o n1 cb sb ?_, fun K r h => hM K _ _ _ _ ?_⟩
      · unfold p_Sc_sumOfBoth
        rw [xif_f (by rw [r1]; exact nI_m1_ne (by omega)), xif_t q1]
        exact h
      · rw [if_pos (Or.inr q2), if_pos (Or.inr q2)]
        exact h
    · have e1 : ¬ (A1 38 (10 * (t + 1) + n) = 0 ∨ A1 38 (10 * Ef (ptA A) T (t + 1) + n) = 0) := by rw [r2, q2]; decide
      refine ⟨nI (v + w), 1, nI (v + w), Or.inr ⟨_, by omega, rfl, rfl, rfl⟩, fun K o n1 cb sb h => hC K o n1 cb sb ?_, fun K r h => hM K _ _ _ _ ?_⟩
      · unfold p_Sc_sumOfBoth
        rw [xif_f (by rw [r1]; exact nI_m1_ne (by omega)), xif_f (by rw [q1]; exact nI_m1_ne (by omega)), r1, q1, nI_add]
        exact h
      · rw [if_neg e1, if_neg e1, r3, q3, nI_add]
        exact h
theorem pt_eith (hk : Rk (X + 66) nx db bs dyn A B D O fr sz da na le) (hO : O ≤ 260) (hD : D ≤ 180) (hq : Qc A T) (hrow : ∀ t, t < T → ca 23 t = A 28 t ∧ ca 24 t = A 29 t ∧ ca 25 t = A 30 t ∧ ca 26 t = A 31 t) (hpm : ∀ x, x < T → doM A A T fr sz tm L x) (hc : agr tbs ca1 ca) (hA : agr [38, 39] A1 A) (hd : d < D) (ht : t < T) (hn : n < sz d) (hpc : ∀ x, x < T → doC A ca T fr sz tm L x) (hp : A 22 (fr d + n) = A 31 t) (hkd : A 28 t = 6) (htb : ∀ x, t < x → x < T → tbOk A fr sz T d ca1 A1 x) : ptOk X M dyn B S cs cr cu da d t n ca1 A1 (bdF A T t) := by
  have hsz := (hk.1 d hd).1.2.2.2.1
  have hT := hq.2.1
  have hin : vp_in (nI t) 12 := vp_in_nI (by omega) (by decide)
  have hinn : vp_in (nI n) (sz d) := vp_in_nI hn (by omega)
  have hinn10 : vp_in (nI n) 10 := vp_in_nI (by omega) (by decide)
  have hp2 : prtN (A 28 t) = 2 := by rw [hkd]; decide
  obtain ⟨t1, t2⟩ := hq.2.2.2.2.1 t ht (by omega)
  obtain ⟨t3', t4'⟩ := hq.2.2.2.2.2 t ht hp2
  have t3 : Ef (ptA A) T (t + 1) < T := t3'
  have t4 : A 31 (Ef (ptA A) T (t + 1)) = cpI A t := t4'
  have cp : cpI A t = A 31 t := by unfold cpI; rw [if_neg (by rw [hkd]; decide)]
  rw [cp] at t2 t4
  have t5 := (Ef_lt (pt := ptA A) t1).1
  have R1 := htb (t + 1) (by omega) t1 n hn (by rw [t2]; exact hp)
  have R2 := htb (Ef (ptA A) T (t + 1)) (by omega) t3 n hn (by rw [t4]; exact hp)
  have hbd : bdF A T (t + 1) + bdF A T (Ef (ptA A) T (t + 1)) ≤ bdF A T t := by
    have e2 := Ef_2 (pt := ptA A) ht hp2
    have l2 := (Ef_lt (pt := ptA A) t3).1
    unfold bdF
    rw [t2, t4, e2]
    rcases dpw_c (A 31 t) with e | e | e <;> rw [e] <;> omega
  have b1 := (bd_lt (A := A) hT t1).1
  have b2 := (bd_lt (A := A) hT t3).1
  have hin3 : vp_in (nI (t + 1)) 12 := vp_in_nI (by omega) (by decide)
  have hin5 : vp_in (nI (Ef (ptA A) T (t + 1))) 12 := vp_in_nI (by omega) (by decide)
  have hin4 : vp_in (nI (10 * (t + 1) + n)) 120 := vp_in_nI (by omega) (by decide)
  have hin6 : vp_in (nI (10 * Ef (ptA A) T (t + 1) + n)) 120 := vp_in_nI (by omega) (by decide)
  have hC : ∀ (K : Int32 → xS → Prop) (o : xM) (n1 cb sb : Nat), p_Sc_sumOfEither (ca1 (32 + (t + 1)) n) (ca1 (32 + Ef (ptA A) T (t + 1)) n) (fun v G' => K v (G'.1, G'.2.1, G'.2.2.1, cb, sb)) (cheap X cs ca1 cr cu dyn, o, n1, 0, 0) → p_Sc_pointsAt (X + 28) (some (X + 22)) (nI t) (some (da d + 1)) (nI n) K (cheap X cs ca1 cr cu dyn, o, n1, cb, sb) := fun K o n1 cb sb h => by
    unfold p_Sc_pointsAt
    rw [c_g22_1, c_r24, cl_nI (by omega), hc 24 (by decide), (hrow t ht).2.1, c_g22_2, c_r25, cl_nI (by omega), hc 25 (by decide), (hrow t ht).2.2.1, c_g22_0, c_r23, cl_nI (by omega), hc 23 (by decide), (hrow t ht).1]
    refine ⟨hin, hin, hin, ?_⟩
    rw [hkd, xif_f (by decide), xif_f (by decide), xif_f (by decide), xif_f (by decide), xif_f (by decide), xif_f (by decide), xif_t rfl, c_g28_2, nI_1, c_r31, cl_nI (by omega), if_pos (by omega), cr_tab (by omega), cl_nI (by omega), c_g28_2, c_g28_1, c_r30, cl_nI (by omega), hc 30 (by decide), (hpc t ht).2 (Or.inr hkd), c_r31, cl_nI (by omega), if_pos (by omega), cr_tab (by omega), cl_nI (by omega), m_call]
    exact ⟨hin3, hinn10, hin, hin5, hinn10, h⟩
  have hM : ∀ (K : Unit → xS → Prop) (o : xM) (n1 cb sb : Nat), K () (mheap M (mst A1 t n (if A1 38 (10 * (t + 1) + n) = 0 ∧ A1 38 (10 * Ef (ptA A) T (t + 1) + n) = 0 then 0 else 1) (if A1 38 (10 * (t + 1) + n) = 0 ∧ A1 38 (10 * Ef (ptA A) T (t + 1) + n) = 0 then 0 else A1 39 (10 * (t + 1) + n) + A1 39 (10 * Ef (ptA A) T (t + 1) + n))) B S, o, n1, cb, sb) → p_M_look M (nI d) (nI t) (nI n) K (mheap M A1 B S, o, n1, cb, sb) := fun K o n1 cb sb h => by
    rw [M_look_eq hk hD hq hpm hA hd ht, if_pos hp2]
    unfold p_M_look_B60
    rw [m_g28, m_r28, cl_nI (by omega), hA 28 (by decide), hkd, i10]
    refine ⟨hin, ?_⟩
    rw [xif_f (by decide), xif_f (by decide), xif_f (by decide), xif_f (by decide), xif_f (by decide), xif_f (by decide), xif_t rfl, m_g38, m_r38, cl_nI (by omega)]
    refine ⟨hin4, ?_⟩
    by_cases c1 : A1 38 (10 * (t + 1) + n) = 0
    · rw [xif_t c1, m_g38, m_r38, cl_nI (by omega)]
      refine ⟨hin6, ?_⟩
      by_cases c2 : A1 38 (10 * Ef (ptA A) T (t + 1) + n) = 0
      · rw [xif_t c2, M_B379 (by omega) (by omega) (by omega) (by omega) (Or.inl rfl), if_pos rfl]
        rw [if_pos ⟨c1, c2⟩, if_pos ⟨c1, c2⟩] at h
        exact h
      · rw [xif_f c2]
        unfold p_M_look_B374
        rw [M_B379 (by omega) (by omega) (by omega) (by omega) (Or.inr rfl), if_neg (by decide)]
        rw [if_neg (fun q => c2 q.2), if_neg (fun q => c2 q.2)] at h
        exact h
    · rw [xif_f c1]
      unfold p_M_look_B374
      rw [M_B379 (by omega) (by omega) (by omega) (by omega) (Or.inr rfl), if_neg (by decide)]
      rw [if_neg (fun q => c1 q.1), if_neg (fun q => c1 q.1)] at h
      exact h
  rcases R1 with ⟨r1, r2, r3⟩ | ⟨v, v1, r1, r2, r3⟩
  · rcases R2 with ⟨q1, q2, q3⟩ | ⟨w, w1, q1, q2, q3⟩
    · refine ⟨-1, 0, 0, Or.inl ⟨rfl, rfl, rfl⟩, fun K o n1 cb sb h => hC K o n1 cb sb ?_, fun K r h => hM K _ _ _ _ ?_⟩
      · unfold p_Sc_sumOfEither
        rw [xif_t r1, q1]
        exact h
      · rw [if_pos ⟨r2, q2⟩, if_pos ⟨r2, q2⟩]
        exact h
    · have e1 : ¬ (A1 38 (10 * (t + 1) + n) = 0 ∧ A1 38 (10 * Ef (ptA A) T (t + 1) + n) = 0) := by rw [r2, q2]; decide
      refine ⟨nI w, 1, nI w, Or.inr ⟨_, by omega, rfl, rfl, rfl⟩, fun K o n1 cb sb h => hC K o n1 cb sb ?_, fun K r h => hM K _ _ _ _ ?_⟩
      · unfold p_Sc_sumOfEither
        rw [xif_t r1, q1]
        exact h
      · rw [if_neg e1, if_neg e1, r3, q3, Int32.zero_add]
        exact h
  · have e1 : ¬ (A1 38 (10 * (t + 1) + n) = 0 ∧ A1 38 (10 * Ef (ptA A) T (t + 1) + n) = 0) := by rw [r2]; exact fun q => absurd q.1 (by decide)
    rcases R2 with ⟨q1, q2, q3⟩ | ⟨w, w1, q1, q2, q3⟩
    · refine ⟨nI v, 1, nI v, Or.inr ⟨_, by omega, rfl, rfl, rfl⟩, fun K o n1 cb sb h => hC K o n1 cb sb ?_, fun K r h => hM K _ _ _ _ ?_⟩
      · unfold p_Sc_sumOfEither
        rw [xif_f (by rw [r1]; exact nI_m1_ne (by omega)), xif_t q1, r1]
        exact h
      · rw [if_neg e1, if_neg e1, r3, q3, Int32.add_zero]
        exact h
    · refine ⟨nI (v + w), 1, nI (v + w), Or.inr ⟨_, by omega, rfl, rfl, rfl⟩, fun K o n1 cb sb h => hC K o n1 cb sb ?_, fun K r h => hM K _ _ _ _ ?_⟩
      · unfold p_Sc_sumOfEither
        rw [xif_f (by rw [r1]; exact nI_m1_ne (by omega)), xif_f (by rw [q1]; exact nI_m1_ne (by omega)), r1, q1, nI_add]
        exact h
      · rw [if_neg e1, if_neg e1, r3, q3, nI_add]
        exact h
end PF
