/-! object, of both -/
section BL
variable {M : Nat} {A : Nat → Nat → Int32} {B : Nat → Nat → Int64} {S : Nat → Int32} {d : Nat} {fr sz le : Nat → Nat}
theorem below_L {o : Nat} {K : Int32 → xS → Prop} {Kx : Int32 → xS → Prop} {r : xM × Nat × Nat × Nat} (hd : d < 180) (hfr : A 11 d = nI (fr d)) (hO : fr d + sz d ≤ 260) (ho : o < sz d) (hle : le (fr d + o) ≤ o) (hp : ∀ k, k < sz d → (k + 1 = sz d ∧ A 23 (fr d + k) = -1) ∨ ∃ p, k < p ∧ p < sz d ∧ A 23 (fr d + k) = nI p) (t1 : ∀ k p, p < sz d → le (fr d + o) ≤ k → k < o → A 23 (fr d + k) = nI p → p ≤ o) (t2 : ∀ k p, p < sz d → k < le (fr d + o) → A 23 (fr d + k) = nI p → p < le (fr d + o) ∨ o < p) :
    ∀ (n f j : Nat), n + 1 < f → j < sz d → sz d ≤ j + n + 1 → (p_M_isBelow_L3 M (nI d) (nI o) K Kx f (nI j) (mheap M A B S, r) ↔ Kx (if le (fr d + o) ≤ j ∧ j ≤ o then nI o else -1) (mheap M A B S, r))
  | n, f + 1, j, hf, hj, hn => by
    have hin : vp_in (nI d) 180 := vp_in_nI hd (by decide)
    have hin2 : vp_in (nI (fr d + j)) 260 := vp_in_nI (by omega) (by decide)
    unfold p_M_isBelow_L3
    rw [xif_f (nI_pos (by omega))]
    by_cases e : j = o
    · subst e
      rw [xif_t rfl, if_pos ⟨hle, Nat.le_refl _⟩]
    · rw [xif_f (fun q => e ((nI_eq (by omega) (by omega)).mp q)), m_g23, m_g11, m_r11, cl_nI (by omega), hfr, nI_add, m_r23, cl_nI (by omega)]
      simp only [hin, hin2, true_and]
      rcases hp j hj with ⟨q1, q2⟩ | ⟨p, p1, p2, p3⟩
      · rw [q2, if_neg (by omega)]
        cases f with
        | zero => omega
        | succ f =>
          unfold p_M_isBelow_L3
          rw [xif_t (by decide)]
      · rw [p3]
        cases n with
        | zero => omega
        | succ n =>
          rw [below_L hd hfr hO ho hle hp t1 t2 n f p (by omega) p2 (by omega)]
          by_cases c : le (fr d + o) ≤ j ∧ j ≤ o
          · have := t1 j p p2 c.1 (by omega) p3
            rw [if_pos c, if_pos (by omega)]
          · rw [if_neg c]
            by_cases c2 : j < le (fr d + o)
            · have := t2 j p p2 c2 p3
              rw [if_neg (by omega)]
            · rw [if_neg (by omega)]
theorem told_L {o : Nat} {l3 : Int32} {K : Int32 → xS → Prop} {Kx : Int32 → xS → Prop} {ob : xM} {nx cb sb : Nat} (hd : d < 180) (hfr : A 11 d = nI (fr d)) (hO : fr d + sz d ≤ 260) (ho : o < sz d) (hle : le (fr d + o) ≤ o) (hp : ∀ k, k < sz d → (k + 1 = sz d ∧ A 23 (fr d + k) = -1) ∨ ∃ p, k < p ∧ p < sz d ∧ A 23 (fr d + k) = nI p) (t1 : ∀ k p, p < sz d → le (fr d + o) ≤ k → k < o → A 23 (fr d + k) = nI p → p ≤ o) (t2 : ∀ k p, p < sz d → k < le (fr d + o) → A 23 (fr d + k) = nI p → p < le (fr d + o) ∨ o < p) :
    ∀ (i f : Nat) (l6 : Int32), i < f → i ≤ o + 1 → (i ≤ le (fr d + o) → l6 = nI (le (fr d + o))) → (p_M_told_L169 M (nI d) (nI o) l3 K Kx f l6 (nI i + (-1)) (mheap M A B S, ob, nx, cb, sb) ↔ Kx (nI (le (fr d + o))) (mheap M A B S, ob, nx, cb, sb))
  | 0, f + 1, l6, hf, hi, h6 => by
    unfold p_M_told_L169
    rw [xif_t (show nI 0 + (-1) < 0 from by decide), h6 (Nat.zero_le _)]
  | j + 1, f + 1, l6, hf, hi, h6 => by
    have ej : nI (j + 1) + (-1) = nI j := (nI_a1 (j + 1)).trans (nI_m1 j)
    unfold p_M_told_L169
    rw [ej, xif_f (nI_pos (by omega)), m_ob, m_call]
    unfold p_M_isBelow
    rw [below_L hd hfr hO ho hle hp t1 t2 (sz d) 1000 j (by omega) (by omega) (by omega)]
    by_cases c : le (fr d + o) ≤ j
    · rw [if_pos ⟨c, by omega⟩, xif_t rfl, xrz_1]
      dsimp only
      rw [xif_f (by decide), told_L hd hfr hO ho hle hp t1 t2 j f (nI j) (by omega) (by omega) (fun q => by rw [show le (fr d + o) = j by omega])]
    · rw [if_neg (by omega), xif_f (fun q => m1_ne (by omega) q), xrz_0]
      dsimp only
      rw [xif_t rfl, told_L hd hfr hO ho hle hp t1 t2 j f l6 (by omega) (by omega) (fun q => h6 (by omega))]
end BL
section OB
variable {X M nx db : Nat} {bs : Nat → Nat} {dyn : xM} {cs : Nat → Int32} {ca : Nat → Nat → Int32} {cr : Nat → Nat → Option Nat} {cu : Option Nat} {A : Nat → Nat → Int32} {B : Nat → Nat → Int64} {S : Nat → Int32} {D O K : Nat} {fr sz da na le : Nat → Nat}
theorem fact_eq (hk : Rk (X + 66) nx db bs dyn A B D O fr sz da na le) (hD : D ≤ 180) (hO : O ≤ 260) {d k : Nat} (hd : d < D) (hkk : k < sz d) (c : Nat) {w : Int32} (hw : inR w 0 4 = 1 ∨ inR w 10 13 = 1) :
    ∃ x : Int32, (∀ (KK : Int32 → xS → Prop) (o : xM) (n1 cb sb : Nat), KK x (cheap X cs ca cr cu dyn, o, n1, cb, sb) → p_Do_factOf (da d) (nI k) (nI c) w KK (cheap X cs ca cr cu dyn, o, n1, cb, sb)) ∧ (∀ (KK : Int32 → xS → Prop) (ob : xM) (n1 cb sb : Nat), KK x (mheap M A B S, ob, n1, cb, sb) → p_M_told M (nI d) (nI k) (nI c) w KK (mheap M A B S, ob, n1, cb, sb)) := by
  obtain ⟨⟨b1, b2, b3, b4, b5⟩, b6, b7, nodes, b8, b9⟩ := hk.1 d hd
  obtain ⟨a1, a2, a3, par, ty, va, wd, a4, a5, a6⟩ := hk.2.2.1 d k hd hkk
  have hb := b8.1.1
  have ha := a4.1.1
  have hin : vp_in (nI k) (sz d) := vp_in_nI hkk (by omega)
  have hin2 : vp_in (nI d) 180 := vp_in_nI (by omega) (by decide)
  have hin3 : vp_in (nI (fr d + k)) 260 := vp_in_nI (by omega) (by decide)
  have cB : ∀ (KK : Int32 → xS → Prop) (o : xM) (n1 cb sb : Nat), p_Do_factOf (da d) (nI k) (nI c) w KK (cheap X cs ca cr cu dyn, o, n1, cb, sb) ↔ (xif (w = 0) (KK (A 22 (fr d + k))) (xif (w = 1) (xnn par (fun _ => xgI 2 3 par fun v6 => KK (nI c + v6)) (KK (-2))) (xif (w = 2) (KK (A 13 d)) (xif (w = 3) (xif (A 16 d = 0) (KK 0) (KK 1)) (xif (w = 4) (KK (nI c + nI (le (fr d + k)))) (xcall 0 0 (p_Nd_fieldFact (na (fr d + k)) (w - 10)) fun v10 => KK v10)))))) (cheap X cs ca cr cu dyn, o, n1, cb, sb) := by
    intro KK o n1 cb sb
    unfold p_Do_factOf
    rw [y_gR (v := some (da d + 1)) hb b8.2.1 rfl, y_alR (by omega) b8.2.2, cl_nI (by omega), b9 k hkk]
    simp only [hin, true_and]
    by_cases c0 : w = 0
    · rw [xif_t c0, xif_t c0, y_gI ha a4.2.1 rfl]
    rw [xif_f c0, xif_f c0]
    by_cases c1 : w = 1
    · rw [xif_t c1, xif_t c1, y_gR (v := par) ha a4.2.1 rfl]
      cases par with
      | none => rw [xnn_n, xnn_n]
      | some p => rw [xnn_s, xnn_s, y_gR (v := some p) ha a4.2.1 rfl]
    rw [xif_f c1, xif_f c1]
    by_cases c2 : w = 2
    · rw [xif_t c2, xif_t c2, y_gI hb b8.2.1 rfl]
    rw [xif_f c2, xif_f c2]
    by_cases c3 : w = 3
    · rw [xif_t c3, xif_t c3, y_gI hb b8.2.1 rfl]
    rw [xif_f c3, xif_f c3]
    by_cases c4 : w = 4
    · rw [xif_t c4, xif_t c4, y_gI ha a4.2.1 rfl]
    rw [xif_f c4, xif_f c4, y_ob ha a4.2.1]
  rcases hw with hw | hw
  · obtain ⟨w, hw4, rfl⟩ := in_of (n := 4) hw (by decide)
    have cM : ∀ (KK : Int32 → xS → Prop) (ob : xM) (n1 cb sb : Nat), p_M_told M (nI d) (nI k) (nI c) (nI w) KK (mheap M A B S, ob, n1, cb, sb) ↔ (xif (nI w = 0) (xgR 10 22 (some M) fun v3 => xal 0 v3 (nI (fr d + k)) fun v4 => KK v4) (xif (nI w = 1) (xgR 10 23 (some M) fun v5 => xal 0 v5 (nI (fr d + k)) fun v6 => xif (0 ≤ v6) (xgR 10 23 (some M) fun v7 => xal 0 v7 (nI (fr d + k)) fun v8 => KK (nI c + v8)) (KK (-2))) (xif (nI w = 2) (xgR 10 13 (some M) fun v9 => xal 0 v9 (nI d) fun v10 => KK v10) (xif (nI w = 3) (xgR 10 16 (some M) fun v11 => xal 1 v11 (nI d) fun v12 => xif (v12 = 0) (KK 0) (KK 1)) (p_M_told_L169 M (nI d) (nI k) (nI c) KK (fun m14 => KK (nI c + m14)) 1000 (nI k) (nI k)))))) (mheap M A B S, ob, n1, cb, sb) := by
      intro KK ob n1 cb sb
      unfold p_M_told
      rw [m_g11, m_r11, cl_nI (by omega), b1, xif_t (show nI w ≤ 9 from nI_le (b := 9) (by omega) (by decide)), nI_add]
      simp only [hin2, true_and]
    rcases (show w = 0 ∨ w = 1 ∨ w = 2 ∨ w = 3 ∨ w = 4 by omega) with rfl | rfl | rfl | rfl | rfl
    · refine ⟨A 22 (fr d + k), fun KK o n1 cb sb hK => ?_, fun KK ob n1 cb sb hK => ?_⟩
      · rw [cB, xif_t (by decide)]; exact hK
      · rw [cM, xif_t (by decide), m_g22, m_r22, cl_nI (by omega)]; exact ⟨hin3, hK⟩
    · rcases a6 with ⟨q1, q2, q3, q4⟩ | ⟨p, p1, p2, p3, p4⟩
      · refine ⟨-2, fun KK o n1 cb sb hK => ?_, fun KK ob n1 cb sb hK => ?_⟩
        · rw [cB, xif_f (by decide), xif_t (by decide), q3, xnn_n]; exact hK
        · rw [cM, xif_f (by decide), xif_t (by decide), m_g23, m_r23, cl_nI (by omega), q2, xif_f (by decide)]; exact ⟨hin3, hK⟩
      · obtain ⟨-, -, -, par', ty', va', wd', a4', -⟩ := hk.2.2.1 d p hd p2
        refine ⟨nI c + nI p, fun KK o n1 cb sb hK => ?_, fun KK ob n1 cb sb hK => ?_⟩
        · rw [cB, xif_f (by decide), xif_t (by decide), p4, xnn_s, y_gI a4'.1.1 a4'.2.1 rfl]; exact hK
        · rw [cM, xif_f (by decide), xif_t (by decide), m_g23, m_r23, cl_nI (by omega), p3, xif_t (nI_pos' (by omega)), m_g23, m_r23, cl_nI (by omega), p3]; exact ⟨hin3, hin3, hK⟩
    · refine ⟨A 13 d, fun KK o n1 cb sb hK => ?_, fun KK ob n1 cb sb hK => ?_⟩
      · rw [cB, xif_f (by decide), xif_f (by decide), xif_t (by decide)]; exact hK
      · rw [cM, xif_f (by decide), xif_f (by decide), xif_t (by decide), m_g13, m_r13, cl_nI (by omega)]; exact ⟨hin2, hK⟩
    · by_cases cl : A 16 d = 0
      · refine ⟨0, fun KK o n1 cb sb hK => ?_, fun KK ob n1 cb sb hK => ?_⟩
        · rw [cB, xif_f (by decide), xif_f (by decide), xif_f (by decide), xif_t (by decide), xif_t cl]; exact hK
        · rw [cM, xif_f (by decide), xif_f (by decide), xif_f (by decide), xif_t (by decide), m_g16, m_r16, cl_nI (by omega), xif_t cl]; exact ⟨hin2, hK⟩
      · refine ⟨1, fun KK o n1 cb sb hK => ?_, fun KK ob n1 cb sb hK => ?_⟩
        · rw [cB, xif_f (by decide), xif_f (by decide), xif_f (by decide), xif_t (by decide), xif_f cl]; exact hK
        · rw [cM, xif_f (by decide), xif_f (by decide), xif_f (by decide), xif_t (by decide), m_g16, m_r16, cl_nI (by omega), xif_f cl]; exact ⟨hin2, hK⟩
    · refine ⟨nI c + nI (le (fr d + k)), fun KK o n1 cb sb hK => ?_, fun KK ob n1 cb sb hK => ?_⟩
      · rw [cB, xif_f (by decide), xif_f (by decide), xif_f (by decide), xif_f (by decide), xif_t (by decide)]; exact hK
      · obtain ⟨t1, t2, -⟩ := hk.2.2.2 d hd
        have L := told_L (M := M) (A := A) (B := B) (S := S) (d := d) (fr := fr) (sz := sz) (le := le) (o := k) (l3 := nI c) (K := KK) (Kx := fun m14 => KK (nI c + m14)) (ob := ob) (nx := n1) (cb := cb) (sb := sb) (by omega) b1 (by omega) hkk a3 (fun q hq => by
          obtain ⟨-, -, -, par', ty', va', wd', -, -, z⟩ := hk.2.2.1 d q hd hq
          rcases z with z | ⟨p, z1, z2, z3, -⟩
          · exact Or.inl ⟨z.1, z.2.1⟩
          · exact Or.inr ⟨p, z1, z2, z3⟩) (fun q p hp h1 h2 h3 => t1 q k p hkk hp h1 h2 h3) (fun q p hp h1 h2 => t2 q k p hkk hp h1 h2) (k + 1) 1000 (nI k) (by omega) (Nat.le_refl _) (fun q => by omega)
        rw [show nI (k + 1) + (-1) = nI k from (nI_a1 (k + 1)).trans (nI_m1 k)] at L
        rw [cM, xif_f (by decide), xif_f (by decide), xif_f (by decide), xif_f (by decide), L]
        exact hK
  · have hv : ¬ (w.toInt < 10 ∨ 13 < w.toInt) := fun q => by rw [inR_0.mpr q] at hw; exact absurd hw (by decide)
    obtain ⟨w, hw14, rfl⟩ := vp_in_of (x := w) (n := 14) (vp_in_iff.mpr ⟨by omega, by omega⟩) (by decide)
    rw [nI_toInt (by omega)] at hv
    obtain ⟨f, rfl⟩ : ∃ f, w = 10 + f := ⟨w - 10, by omega⟩
    have hf : f < 4 := by omega
    obtain ⟨e1, e2, e3⟩ := a5 f hf
    have hinf : vp_in (nI f) 4 := vp_in_nI hf (by decide)
    have hin5 : vp_in (nI (4 * (fr d + k) + f)) 1040 := vp_in_nI (by omega) (by decide)
    have hsub : nI (10 + f) - 10 = nI f := by rw [show (10 : Int32) = nI 10 from rfl, pk_sub (by omega), Nat.add_sub_cancel_left]
    have ne : ∀ j, j < 10 → ¬ nI (10 + f) = nI j := fun j hj q => by have := (nI_eq (by omega) (by omega)).mp q; omega
    have cB2 : ∀ (KK : Int32 → xS → Prop) (o : xM) (n1 cb sb : Nat), p_Do_factOf (da d) (nI k) (nI c) (nI (10 + f)) KK (cheap X cs ca cr cu dyn, o, n1, cb, sb) ↔ (xif (A 24 (4 * (fr d + k) + f) = 0) (KK (-2)) (xif (A 24 (4 * (fr d + k) + f) = 1) (KK (A 25 (4 * (fr d + k) + f))) (KK (2000 + A 25 (4 * (fr d + k) + f))))) (cheap X cs ca cr cu dyn, o, n1, cb, sb) := by
      intro KK o n1 cb sb
      rw [cB, xif_f (show ¬ nI (10 + f) = 0 from ne 0 (by omega)), xif_f (show ¬ nI (10 + f) = 1 from ne 1 (by omega)), xif_f (show ¬ nI (10 + f) = 2 from ne 2 (by omega)), xif_f (show ¬ nI (10 + f) = 3 from ne 3 (by omega)), xif_f (show ¬ nI (10 + f) = 4 from ne 4 (by omega)), m_call, hsub]
      unfold p_Nd_fieldFact
      rw [y_gR (v := some (na (fr d + k) + 1)) ha a4.2.1 rfl, y_al (by omega) a4.2.2.1, cl_nI (by omega), e1]
      simp only [hinf, true_and]
      by_cases q0 : A 24 (4 * (fr d + k) + f) = 0
      · rw [xif_t q0, xif_t q0]
      · rw [xif_f q0, xif_f q0, y_gR (v := some (na (fr d + k) + 1)) ha a4.2.1 rfl, y_al (by omega) a4.2.2.1, cl_nI (by omega), e1]
        simp only [hinf, true_and]
        by_cases q1 : A 24 (4 * (fr d + k) + f) = 1
        · rw [xif_t q1, xif_t q1, y_gR (v := some (na (fr d + k) + 2)) ha a4.2.1 rfl, y_al (by omega) a4.2.2.2.1, cl_nI (by omega), e2]
          simp only [hinf, true_and]
        · rw [xif_f q1, xif_f q1, y_gR (v := some (na (fr d + k) + 2)) ha a4.2.1 rfl, y_al (by omega) a4.2.2.2.1, cl_nI (by omega), e2]
          simp only [hinf, true_and]
    have cM : ∀ (KK : Int32 → xS → Prop) (ob : xM) (n1 cb sb : Nat), p_M_told M (nI d) (nI k) (nI c) (nI (10 + f)) KK (mheap M A B S, ob, n1, cb, sb) ↔ (xif (A 24 (4 * (fr d + k) + f) = 0) (KK (-2)) (xif (A 24 (4 * (fr d + k) + f) = 1) (KK (A 25 (4 * (fr d + k) + f))) (KK (2000 + A 25 (4 * (fr d + k) + f))))) (mheap M A B S, ob, n1, cb, sb) := by
      intro KK ob n1 cb sb
      unfold p_M_told
      rw [m_g11, m_r11, cl_nI (by omega), b1, xif_f (show ¬ nI (10 + f) ≤ 9 from nI_ge (a := 9) (by omega) (by omega)), nI_add, i4, show nI (4 * (fr d + k) + (10 + f)) - 10 = nI (4 * (fr d + k) + f) from by rw [show (10 : Int32) = nI 10 from rfl, pk_sub (by omega)]; congr 1; omega, m_g24, m_r24, cl_nI (by omega)]
      simp only [hin2, hin5, true_and]
      by_cases q0 : A 24 (4 * (fr d + k) + f) = 0
      · rw [xif_t q0, xif_t q0]
      · rw [xif_f q0, xif_f q0, m_g24, m_r24, cl_nI (by omega)]
        simp only [hin5, true_and]
        by_cases q1 : A 24 (4 * (fr d + k) + f) = 1
        · rw [xif_t q1, xif_t q1, m_g25, m_r25, cl_nI (by omega)]
          simp only [hin5, true_and]
        · rw [xif_f q1, xif_f q1, m_g25, m_r25, cl_nI (by omega)]
          simp only [hin5, true_and]
    by_cases q0 : A 24 (4 * (fr d + k) + f) = 0
    · exact ⟨-2, fun KK o n1 cb sb hK => by rw [cB2, xif_t q0]; exact hK, fun KK ob n1 cb sb hK => by rw [cM, xif_t q0]; exact hK⟩
    · by_cases q1 : A 24 (4 * (fr d + k) + f) = 1
      · exact ⟨_, fun KK o n1 cb sb hK => by rw [cB2, xif_f q0, xif_t q1]; exact hK, fun KK ob n1 cb sb hK => by rw [cM, xif_f q0, xif_t q1]; exact hK⟩
      · exact ⟨_, fun KK o n1 cb sb hK => by rw [cB2, xif_f q0, xif_f q1]; exact hK, fun KK ob n1 cb sb hK => by rw [cM, xif_f q0, xif_f q1]; exact hK⟩
theorem st_object (hk : Rk (X + 66) nx db bs dyn A B D O fr sz da na le) (hr : Rr (X + 66) nx bs dyn cs cr A S D O K sz da) (hO : O ≤ 260) (g v w : Int32) :
    ∃ x : Int32, (∀ (KK : Int32 → xS → Prop) (o : xM) (cb sb : Nat), KK x (cheap X cs ca cr cu dyn, o, nx, cb, sb) → p_B_object X g v w KK (cheap X cs ca cr cu dyn, o, nx, cb, sb)) ∧ (∀ (KK : Int32 → xS → Prop) (r : xM × Nat × Nat × Nat), KK x (mheap M A B S, r) → p_M_object M g v w KK (mheap M A B S, r)) := by
  obtain ⟨nodes, hn⟩ := docs_of hk
  obtain ⟨⟨g1, g2, g3, g4, g5, g6, g7, g8⟩, -, hsg, hsegs⟩ := id hr
  have hz : ∀ d, d < D → A 12 d = nI (sz d) := fun d hd => (hk.1 d hd).1.2.1
  by_cases hw : inR w 0 4 = 1 ∨ inR w 10 13 = 1
  · have eB : ∀ (KK : Int32 → xS → Prop) (G : xS), p_B_object X g v w KK G ↔ p_B_object_B35 X g v w KK G := by
      intro KK G
      unfold p_B_object
      rcases hw with q | q
      · have hv : ¬ (w.toInt < 0 ∨ 4 < w.toInt) := fun z => by rw [inR_0.mpr z] at q; exact absurd q (by decide)
        rw [xif_t (by rw [i_lt, show (10 : Int32).toInt = 10 from rfl]; omega)]
        unfold p_B_object_B16 p_B_object_B17
        rw [xif_t rfl, xif_f (by rw [i_lt, show (0 : Int32).toInt = 0 from rfl]; omega), xif_t (by rw [i_le, show (4 : Int32).toInt = 4 from rfl]; omega)]
      · have hv : ¬ (w.toInt < 10 ∨ 13 < w.toInt) := fun z => by rw [inR_0.mpr z] at q; exact absurd q (by decide)
        rw [xif_f (by rw [i_lt, show (10 : Int32).toInt = 10 from rfl]; omega), xif_f (by rw [i_le, show (14 : Int32).toInt = 14 from rfl]; omega)]
        unfold p_B_object_B17
        rw [xif_f (by decide)]
    have eM : ∀ (KK : Int32 → xS → Prop) (r1 : xM) (r2 r3 r4 : Nat), p_M_object M g v w KK (mheap M A B S, r1, r2, r3, r4) ↔ p_M_object_B22 M g v w KK (mheap M A B S, r1, r2, r3, r4) := by
      intro KK r1 r2 r3 r4
      unfold p_M_object
      rw [m_call, M_in04]
      dsimp only
      rcases inR_cases w 0 4 with z | z
      · rw [z, xif_t rfl, m_call, M_in_eq, show (10 : Int32).toInt = 10 from rfl, show (13 : Int32).toInt = 13 from rfl]
        dsimp only
        rcases hw with q | q
        · rw [q] at z; exact absurd z (by decide)
        · rw [q, xif_f (by decide)]
      · rw [z, xif_f (by decide)]
    have hsub : (nI K - 1).toInt = (K : Int) - 1 := pk_sub_toInt (b := 1) (by omega) (by decide)
    have no : (g.toInt < 0 ∨ (K : Int) ≤ g.toInt ∨ v.toInt < 0) → ∃ x : Int32, (∀ (KK : Int32 → xS → Prop) (o : xM) (cb sb : Nat), KK x (cheap X cs ca cr cu dyn, o, nx, cb, sb) → p_B_object X g v w KK (cheap X cs ca cr cu dyn, o, nx, cb, sb)) ∧ (∀ (KK : Int32 → xS → Prop) (r : xM × Nat × Nat × Nat), KK x (mheap M A B S, r) → p_M_object M g v w KK (mheap M A B S, r)) := by
      intro hno
      refine ⟨-2, fun KK o cb sb hK => ?_, fun KK r hK => ?_⟩
      · rw [eB]
        unfold p_B_object_B35
        by_cases c1 : g.toInt < 0
        · rw [xif_t (by rw [i_lt]; exact c1)]; exact hK
        · rw [xif_f (by rw [i_lt]; exact c1), c_g0_8, g5]
          by_cases c2 : (K : Int) ≤ g.toInt
          · rw [xif_t (by rw [i_le, nI_toInt (by omega)]; exact c2)]; exact hK
          · rw [xif_f (by rw [i_le, nI_toInt (by omega)]; exact c2), xif_f (by rw [i_le, show (0 : Int32).toInt = 0 from rfl]; omega)]; exact hK
      · obtain ⟨r1, r2, r3, r4⟩ := r
        rw [eM]
        unfold p_M_object_B22
        rw [m_g19, g6, m_call, M_in_eq, show (0 : Int32).toInt = 0 from rfl, hsub]
        dsimp only
        rcases inR_cases g 0 ((K : Int) - 1) with z | z
        · rw [z, xif_t rfl]; exact hK
        · have hv : ¬ (g.toInt < 0 ∨ (K : Int) - 1 < g.toInt) := fun q => by rw [inR_0.mpr q] at z; exact absurd z (by decide)
          rw [z, xif_f (by decide), xif_f (by rw [i_le, show (0 : Int32).toInt = 0 from rfl]; omega)]; exact hK
    by_cases c1 : g.toInt < 0 ∨ (K : Int) ≤ g.toInt ∨ v.toInt < 0
    · exact no c1
    obtain ⟨k, hkK, rfl⟩ := vp_in_of (x := g) (n := K) (vp_in_iff.mpr ⟨by omega, by omega⟩) (by omega)
    obtain ⟨ad, cap, docs, a1, a2, a3, a4, a5⟩ := hsg k hkK
    have hrow := rowM_of (cs := cs) (ca := ca) (cr := cr) (cu := cu) a2 a3 a4
    have hin : vp_in (nI k) 6 := vp_in_nI (by omega) (by decide)
    have vB : ∀ (KK : Int32 → xS → Prop) (o : xM) (cb sb : Nat), p_B_object X (nI k) v w KK (cheap X cs ca cr cu dyn, o, nx, cb, sb) ↔ (match loc sz v 0 (segL A D k) with | none => KK (-2) | some (d, c) => fun G => p_Do_factOf (da d) (v - nI c) (nI c) w (fun x G' => KK x (G'.1, G'.2.1, G'.2.2.1, cb, sb)) (G.1, G.2.1, G.2.2.1, 0, 0)) (cheap X cs ca cr cu dyn, o, nx, cb, sb) := by
      intro KK o cb sb
      rw [eB]
      unfold p_B_object_B35
      rw [xif_f (nI_pos (by omega)), c_g0_8, g5, xif_f (nI_ge hkK (by omega)), xif_t (by rw [i_le, show (0 : Int32).toInt = 0 from rfl]; omega), c_g0_3, c_r16, cl_nI (by omega), a1, g_ob hrow.1, m_call]
      unfold p_Rw_factOf
      have L := fun KK Kx r => Rw_fact_L (da := da) (sz := sz) (id := A 13) (lv := A 16) (nodes := nodes) (K := KK) (Kx := Kx) (v := v) (w := w) (r := r) hrow (segL A D k) 0 0 1000 (by omega) (by omega) a5 (fun d hd => docM_of (hn d (mem_seg.mp hd).1).1)
      simp only [show nI 0 = 0 from rfl] at L
      rw [L]
      simp only [hin, true_and]
      cases loc sz v 0 (segL A D k) with
      | none => exact Iff.rfl
      | some p =>
        obtain ⟨d, c⟩ := p
        show xcall 0 0 _ _ _ ↔ _
        rw [m_call]
    have vM : ∀ (KK : Int32 → xS → Prop) (r1 : xM) (r2 r3 r4 : Nat), p_M_object M (nI k) v w KK (mheap M A B S, r1, r2, r3, r4) ↔ (match loc sz v 0 (segL A D k) with | none => KK (-2) | some (d, c) => fun G => p_M_told M (nI d) (v - nI c) (nI c) w (fun x G' => KK x (G'.1, G'.2.1, G'.2.2.1, r3, r4)) (G.1, G.2.1, G.2.2.1, 0, 0)) (mheap M A B S, r1, r2, r3, r4) := by
      intro KK r1 r2 r3 r4
      rw [eM]
      unfold p_M_object_B22
      rw [m_g19, g6, m_call, M_in_eq, show (0 : Int32).toInt = 0 from rfl, hsub]
      dsimp only
      have z : inR (nI k) 0 ((K : Int) - 1) = 1 := by unfold inR; rw [nI_toInt (by omega), if_neg (by omega)]
      rw [z, xif_f (by decide), xif_t (by rw [i_le, show (0 : Int32).toInt = 0 from rfl]; omega)]
      have L := fun KK Kx => M_object_L (M := M) (A := A) (B := B) (S := S) (o := r1) (nx := r2) (cb := r3) (sb := r4) (sz := sz) (K := KK) (Kx := Kx) (g := nI k) (v := v) (w := w) g1 g8 hz D 1000 0 0 (by omega) (by omega)
      simp only [show nI 0 = 0 from rfl] at L
      rw [L]
      rw [show sel (segB (A 14) (nI k)) 0 D = segL A D k from rfl]
      cases loc sz v 0 (segL A D k) with
      | none => exact Iff.rfl
      | some p =>
        obtain ⟨d, c⟩ := p
        show xcall 0 0 _ _ _ ↔ _
        rw [m_call]
    cases hl : loc sz v 0 (segL A D k) with
    | none =>
      rw [hl] at vB vM
      refine ⟨-2, fun KK o cb sb hK => (vB KK o cb sb).mpr hK, fun KK r hK => ?_⟩
      obtain ⟨r1, r2, r3, r4⟩ := r
      exact (vM KK r1 r2 r3 r4).mpr hK
    | some p =>
      obtain ⟨d, c⟩ := p
      rw [hl] at vB vM
      have hbd : ∀ L : List Nat, (∀ x ∈ L, sz x ≤ 10) → szs sz L ≤ 10 * L.length := by
        intro L
        induction L with
        | nil => intro _; exact Nat.le_refl _
        | cons x L ih =>
          intro h
          have := ih (fun y hy => h y (List.mem_cons_of_mem _ hy))
          have := h x List.mem_cons_self
          show sz x + szs sz L ≤ 10 * (L.length + 1)
          omega
      have hb1 := hbd (segL A D k) (fun x hx => (hk.1 x (mem_seg.mp hx).1).1.2.2.2.1)
      have hb2 : (segL A D k).length ≤ D := sel_len _ _
      obtain ⟨l1, n, l2, l3, l4, l5⟩ := loc_s (segL A D k) 0 d c (by omega) (by omega) hl
      have hdD := (mem_seg.mp l1).1
      have hvn : v - nI c = nI (n - c) := by rw [l2]; exact pk_sub l3
      obtain ⟨x, f1, f2⟩ := fact_eq (M := M) (S := S) (cs := cs) (ca := ca) (cr := cr) (cu := cu) hk g8 hO hdD (k := n - c) (by omega) c hw
      refine ⟨x, fun KK o cb sb hK => (vB KK o cb sb).mpr ?_, fun KK r hK => ?_⟩
      · show p_Do_factOf (da d) (v - nI c) (nI c) w _ _
        rw [hvn]
        exact f1 _ _ _ _ _ hK
      · obtain ⟨r1, r2, r3, r4⟩ := r
        refine (vM KK r1 r2 r3 r4).mpr ?_
        show p_M_told M (nI d) (v - nI c) (nI c) w _ _
        rw [hvn]
        exact f2 _ _ _ _ _ hK
  · have h1 : inR w 0 4 = 0 := by rcases inR_cases w 0 4 with q | q; exact q; exact absurd (Or.inl q) hw
    have h2 : inR w 10 13 = 0 := by rcases inR_cases w 10 13 with q | q; exact q; exact absurd (Or.inr q) hw
    have e1 := inR_0.mp h1
    have e2 := inR_0.mp h2
    refine ⟨-1, fun KK o cb sb hK => ?_, fun KK r hK => ?_⟩
    · have b16 : p_B_object_B16 X g v w KK (cheap X cs ca cr cu dyn, o, nx, cb, sb) := by
        unfold p_B_object_B16 p_B_object_B17
        rw [xif_t rfl]
        by_cases c1 : w.toInt < 0
        · rw [xif_t (by rw [i_lt]; exact c1)]; exact hK
        · rw [xif_f (by rw [i_lt]; exact c1), xif_f (by rw [i_le, show (4 : Int32).toInt = 4 from rfl]; omega)]; exact hK
      unfold p_B_object
      by_cases c1 : w.toInt < 10
      · rw [xif_t (by rw [i_lt]; exact c1)]; exact b16
      · rw [xif_f (by rw [i_lt]; exact c1), xif_t (by rw [i_le, show (14 : Int32).toInt = 14 from rfl]; omega)]; exact b16
    · obtain ⟨r1, r2, r3, r4⟩ := r
      unfold p_M_object
      rw [m_call, M_in04, h1]
      dsimp only
      rw [xif_t rfl, m_call, M_in_eq, show (10 : Int32).toInt = 10 from rfl, show (13 : Int32).toInt = 13 from rfl, h2]
      dsimp only
      rw [xif_t rfl]
      exact hK
end OB
