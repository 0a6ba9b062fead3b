/-! prepare of the class -/
def wgt (a h : Nat) : Int32 := if h = 0 then 0 else nI (1 + a / h)
/-- what prepare makes, in the class -/
def doC (A : Nat → Nat → Int32) (ca : Nat → Nat → Int32) (T : Nat) (fr sz : Nat → Nat) (tm : Nat → Nat → Nat → Nat) (L : List Nat) (x : Nat) : Prop :=
  (A 28 x = 0 → ca 29 x = wgt (alF A fr sz L x) (hvF A fr sz tm L x)) ∧ (A 28 x = 5 ∨ A 28 x = 6 → ca 30 x = nI (Ef (ptA A) T (x + 1)))
section PC
variable {X M nx db : Nat} {bs : Nat → Nat} {dyn : xM} {A : Nat → Nat → Int32} {B : Nat → Nat → Int64} {S : Nat → Int32} {D O T : Nat} {fr sz da na le : Nat → Nat} {tm : Nat → Nat → Nat → Nat} {cs : Nat → Int32} {ca : Nat → Nat → Int32} {cr : Nat → Nat → Option Nat} {cu : Option Nat}
theorem al_bd (hk : Rk (X + 66) nx db bs dyn A B D O fr sz da na le) (L : List Nat) (hL : ∀ d ∈ L, d < D) (t : Nat) : alF A fr sz L t ≤ 10 * L.length := by
  refine szs_bd L (fun d hd => ?_)
  have h1 := cnA_le (A 22) (A 31 t) (sz d) (fr d)
  have h2 := (hk.1 d (hL d hd)).1.2.2.2.1
  show cnA (A 22) (A 31 t) (fr d) (sz d) ≤ 10
  omega
theorem hv_bd (hk : Rk (X + 66) nx db bs dyn A B D O fr sz da na le) (L : List Nat) (hL : ∀ d ∈ L, d < D) (t : Nat) : hvF A fr sz tm L t ≤ 10 * L.length := by
  refine szs_bd L (fun d hd => ?_)
  have h1 := cnH_le (A 22) (A 31 t) (tm t d) (fr d) (sz d) 0
  have h2 := (hk.1 d (hL d hd)).1.2.2.2.1
  show cnH (A 22) (A 31 t) (tm t d) (fr d) 0 (sz d) ≤ 10
  omega
theorem C_weight {K : Int32 → xS → Prop} {t : Nat} {o : xM} {n1 cb sb : Nat} {ca1 : Nat → Nat → Int32} (hk : Rk (X + 66) nx db bs dyn A B D O fr sz da na le) (hs : Rs cs ca cr A S D sz da) (hq : Qc A T) (htm : Tm X M dyn A B D fr sz na T tm) (hca : agr [29, 30] ca1 ca) (hrow : ∀ t, t < T → ca 23 t = A 28 t ∧ ca 24 t = A 29 t ∧ ca 25 t = A 30 t ∧ ca 26 t = A 31 t) (ht : t < T) (h0 : A 28 t = 0) :
    p_Sc_weightOf (some (X + 22)) (nI t) (some (X + 17)) K (cheap X cs ca1 cr cu dyn, o, n1, cb, sb) ↔ K (wgt (alF A fr sz (snapL A D) t) (hvF A fr sz tm (snapL A D) t)) (cheap X cs ca1 cr cu dyn, o, n1, cb, sb) := by
  have hT := hq.2.1
  obtain ⟨-, ⟨s1, s2, s3, s4, s5, s6⟩, -⟩ := hs
  obtain ⟨r23, r24, r25, r26⟩ := hrow t ht
  have htk := (hq.2.2.2.1 t ht).1
  rw [h0] at htk
  obtain ⟨⟨f, f1, f2⟩, q, q1, q2⟩ := tok0 htk
  have hL : ∀ d ∈ snapL A D, d < D := fun d hd => (mem_snap.mp hd).1
  have b1 := al_bd hk _ hL t
  have b2 := hv_bd (tm := tm) hk _ hL t
  unfold p_Sc_weightOf
  have W := fun Kx => w_all (X := X) (cr := cr) (cu := cu) (ob := o) (K := K) (Kx := Kx) (cs := cs) (ca := ca1) (t := t) (f := f) (q := q) (p := A 31 t) (tm := tm t) (n1 := n1) (cb := cb) (sb := sb) hk (by omega) (by rw [hca 26 (by decide)]; exact r26) (by rw [hca 24 (by decide), r24]; exact f2) (by rw [hca 25 (by decide), r25]; exact q2) (fun d k hd hkk K r => by
    have := (htm.2 t d k ht h0 hd hkk).1 cs ca1 cr cu K r
    rw [f2, q2] at this
    exact this) (htm.1 t) s2 s1 (snapL A D) 0 1000 0 0 (by omega) (by omega) hL s3
  simp only [Nat.zero_add, show nI 0 = 0 from rfl] at W
  rw [W]
  show xif (nI (hvF A fr sz tm (snapL A D) t) = 0) (K 0) (xdiv (nI (alF A fr sz (snapL A D) t)) (nI (hvF A fr sz tm (snapL A D) t)) fun _ => K (1 + (nI (alF A fr sz (snapL A D) t) / nI (hvF A fr sz tm (snapL A D) t)))) _ ↔ _
  unfold wgt
  by_cases e : hvF A fr sz tm (snapL A D) t = 0
  · rw [xif_t (by rw [e]; rfl), if_pos e]
  · have e' : ¬ nI (hvF A fr sz tm (snapL A D) t) = 0 := fun z => e ((nI_eq (b := 0) (by omega) (by decide)).mp z)
    rw [xif_f e', if_neg e]
    unfold xdiv
    simp only [e', not_false_eq_true, true_and]
    rw [pk_div (by omega) (by omega) (by omega), show (1 : Int32) = nI 1 from rfl, nI_add]
theorem C_prep_L (hk : Rk (X + 66) nx db bs dyn A B D O fr sz da na le) (hs : Rs cs ca cr A S D sz da) (hq : Qc A T) (htm : Tm X M dyn A B D fr sz na T tm) (hcs : cs 2204 = nI T) (hrow : ∀ t, t < T → ca 23 t = A 28 t ∧ ca 24 t = A 29 t ∧ ca 25 t = A 30 t ∧ ca 26 t = A 31 t) : ∀ (n fu t : Nat) (ca1 : Nat → Nat → Int32), n < fu → t + n = T → agr [29, 30] ca1 ca → (∀ x, x < t → doC A ca1 T fr sz tm (snapL A D) x) →
    ∃ ca2, agr [29, 30] ca2 ca ∧ (∀ x, x < T → doC A ca2 T fr sz tm (snapL A D) x) ∧ ∀ (K : Unit → xS → Prop) (Kx : xS → Prop) (o : xM) (n1 cb sb : Nat), Kx (cheap X cs ca2 cr cu dyn, o, n1, cb, sb) → p_Sc_prepare_L2 (X + 28) (some (X + 22)) (some (X + 17)) K Kx fu (nI t) (cheap X cs ca1 cr cu dyn, o, n1, cb, sb)
  | 0, fu + 1, t, ca1, hf, ht, hA, hd => by
    have hT := hq.2.1
    refine ⟨ca1, hA, fun x hx => hd x (by omega), fun K Kx o n1 cb sb h => ?_⟩
    unfold p_Sc_prepare_L2
    rw [c_g22_4, hcs, xif_t (nI_le (by omega) (by omega))]
    exact h
  | n + 1, fu + 1, t, ca1, hf, ht, hA, hd => by
    have hT := hq.2.1
    have hin : vp_in (nI t) 12 := vp_in_nI (by omega) (by decide)
    obtain ⟨i, i8, hi⟩ := tok_k (hq.2.2.2.1 t (by omega)).1
    have head : ∀ (K : Unit → xS → Prop) (Kx : xS → Prop) (o : xM) (n1 cb sb : Nat), xif (A 28 t = 0) (xgR 7 0 (some (X + 28)) fun v6 => xcall 0 0 (p_Sc_weightOf (some (X + 22)) (nI t) (some (X + 17))) fun v7 => xas 0 v6 (nI t) v7 (p_Sc_prepare_B35 (X + 28) (some (X + 22)) (some (X + 17)) (nI t) (A 28 t) K (p_Sc_prepare_L2 (X + 28) (some (X + 22)) (some (X + 17)) K Kx fu) Kx)) (p_Sc_prepare_B35 (X + 28) (some (X + 22)) (some (X + 17)) (nI t) (A 28 t) K (p_Sc_prepare_L2 (X + 28) (some (X + 22)) (some (X + 17)) K Kx fu) Kx) (cheap X cs ca1 cr cu dyn, o, n1, cb, sb) → p_Sc_prepare_L2 (X + 28) (some (X + 22)) (some (X + 17)) K Kx (fu + 1) (nI t) (cheap X cs ca1 cr cu dyn, o, n1, cb, sb) := fun K Kx o n1 cb sb h => by
      unfold p_Sc_prepare_L2
      rw [c_g22_4, hcs, xif_f (nI_ge (by omega) (by omega)), c_g22_0, c_r23, cl_nI (by omega), hA 23 (by decide), (hrow t (by omega)).1]
      exact ⟨hin, h⟩
    have old : ∀ (ca' : Nat → Nat → Int32) (x : Nat), x < t → (∀ y, y < t → ca' 29 y = ca1 29 y ∧ ca' 30 y = ca1 30 y) → doC A ca' T fr sz tm (snapL A D) x := fun ca' x hx h => by
      have := hd x hx
      unfold doC at this ⊢
      rw [(h x hx).1, (h x hx).2]
      exact this
    by_cases c0 : A 28 t = 0
    · obtain ⟨ca2, g1, g2, g3⟩ := C_prep_L hk hs hq htm hcs hrow n fu (t + 1) (va_up ca1 29 (va_up (ca1 29) t (wgt (alF A fr sz (snapL A D) t) (hvF A fr sz tm (snapL A D) t)))) (by omega) (by omega) (((agr.rf (ks := [29, 30])).up (by decide)).tr hA) (fun x hx => by
        by_cases e : x = t
        · subst e
          refine ⟨fun _ => by rw [va_up_self, va_up_self], fun q => ?_⟩
          rw [c0] at q
          rcases q with q | q <;> exact absurd q (by decide)
        · exact old _ x (by omega) (fun y hy => ⟨by rw [va_up_self, va_up_ne _ _ (by omega)], by rw [va_up_ne _ _ (by decide)]⟩))
      refine ⟨ca2, g1, g2, fun K Kx o n1 cb sb h => head K Kx o n1 cb sb ?_⟩
      rw [xif_t c0, c_g28_0, m_call, C_weight hk hs hq htm hA hrow (by omega) c0]
      dsimp only
      rw [c_w29, cl_nI (by omega)]
      refine ⟨hin, ?_⟩
      unfold p_Sc_prepare_B35
      rw [c0, xif_f (by decide), xif_f (by decide), nI_1]
      exact g3 K Kx o n1 cb sb h
    · by_cases c5 : A 28 t = 5 ∨ A 28 t = 6
      · have h2 : prtN (A 28 t) = 2 := by unfold prtN; rw [if_pos c5]
        obtain ⟨t1, -⟩ := hq.2.2.2.2.1 t (by omega) (by omega)
        obtain ⟨ca2, g1, g2, g3⟩ := C_prep_L hk hs hq htm hcs hrow n fu (t + 1) (va_up ca1 30 (va_up (ca1 30) t (nI (Ef (ptA A) T (t + 1))))) (by omega) (by omega) (((agr.rf (ks := [29, 30])).up (by decide)).tr hA) (fun x hx => by
          by_cases e : x = t
          · subst e
            exact ⟨fun q => absurd q c0, fun _ => by rw [va_up_self, va_up_self]⟩
          · exact old _ x (by omega) (fun y hy => ⟨by rw [va_up_ne _ _ (by decide)], by rw [va_up_self, va_up_ne _ _ (by omega)]⟩))
        have B48 : ∀ (K : Unit → xS → Prop) (Kx : xS → Prop) (o : xM) (n1 cb sb : Nat), Kx (cheap X cs ca2 cr cu dyn, o, n1, cb, sb) → p_Sc_prepare_B48 (X + 28) (some (X + 22)) (some (X + 17)) (nI t) K (p_Sc_prepare_L2 (X + 28) (some (X + 22)) (some (X + 17)) K Kx fu) Kx (cheap X cs ca1 cr cu dyn, o, n1, cb, sb) := fun K Kx o n1 cb sb h => by
          unfold p_Sc_prepare_B48
          rw [c_g28_1, c_ob22, nI_1, m_call]
          unfold p_Qu_behind
          have W := fun K Kx => Qu_behind_L (X := X) (cs := cs) (ca := ca1) (cr := cr) (cu := cu) (dyn := dyn) (o := o) (nx := n1) (cb := 0) (sb := 0) (T := T) (kd := A 28) (K := K) (Kx := Kx) hT hcs (fun t ht' => by rw [hA 23 (by decide)]; exact (hrow t ht').1) (T - (t + 1)) 1000 (t + 1) 1 (by omega) (by omega) (by omega)
          rw [show nI 1 = 1 from rfl] at W
          rw [W]
          dsimp only
          rw [c_w30, cl_nI (by omega)]
          exact ⟨hin, g3 K Kx o n1 cb sb h⟩
        refine ⟨ca2, g1, g2, fun K Kx o n1 cb sb h => head K Kx o n1 cb sb ?_⟩
        rw [xif_f c0]
        unfold p_Sc_prepare_B35
        by_cases c : A 28 t = 5
        · rw [xif_t c]; exact B48 K Kx o n1 cb sb h
        · rw [xif_f c, xif_t (c5.resolve_left c)]; exact B48 K Kx o n1 cb sb h
      · obtain ⟨ca2, g1, g2, g3⟩ := C_prep_L hk hs hq htm hcs hrow n fu (t + 1) ca1 (by omega) (by omega) hA (fun x hx => by
          by_cases e : x = t
          · subst e
            exact ⟨fun q => absurd q c0, fun q => absurd q c5⟩
          · exact hd x (by omega))
        refine ⟨ca2, g1, g2, fun K Kx o n1 cb sb h => head K Kx o n1 cb sb ?_⟩
        rw [xif_f c0]
        unfold p_Sc_prepare_B35
        rw [xif_f (fun q => c5 (Or.inl q)), xif_f (fun q => c5 (Or.inr q)), nI_1]
        exact g3 K Kx o n1 cb sb h
theorem C_prepare_ex (hk : Rk (X + 66) nx db bs dyn A B D O fr sz da na le) (hs : Rs cs ca cr A S D sz da) (hq : Qc A T) (htm : Tm X M dyn A B D fr sz na T tm) (hcs : cs 2204 = nI T) (hrow : ∀ t, t < T → ca 23 t = A 28 t ∧ ca 24 t = A 29 t ∧ ca 25 t = A 30 t ∧ ca 26 t = A 31 t) :
    ∃ ca2, agr [29, 30] ca2 ca ∧ (∀ x, x < T → doC A ca2 T fr sz tm (snapL A D) x) ∧ ∀ (K : Unit → xS → Prop) (o : xM) (n1 cb sb : Nat), K () (cheap X cs ca2 cr cu dyn, o, n1, cb, sb) → p_Sc_prepare (X + 28) (some (X + 22)) (some (X + 17)) K (cheap X cs ca cr cu dyn, o, n1, cb, sb) := by
  obtain ⟨ca2, g1, g2, g3⟩ := C_prep_L (cu := cu) hk hs hq htm hcs hrow T 1000 0 ca (by have := hq.2.1; omega) (by omega) agr.rf (fun x hx => by omega)
  refine ⟨ca2, g1, g2, fun K o n1 cb sb h => ?_⟩
  unfold p_Sc_prepare
  exact g3 K _ o n1 cb sb h
end PC
