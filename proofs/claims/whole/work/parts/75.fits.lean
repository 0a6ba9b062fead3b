/-! types: fits and learn of the class, conflicts of the reference -/
def nodT (dyn : xM) (a p : Nat) (tt : Nat → Int32) : Prop := ∃ fs ty, dyn a = some (.inr (2, fs)) ∧ fs[0]? = some (.int (nI p)) ∧ fs[4]? = some (va_rf (some (a + 1))) ∧ dyn (a + 1) = some (.inl (0, 4, .inl ty)) ∧ ∀ f, f < 4 → ty f = tt f
theorem mem_tri {p : Nat} (h : p < 4) : 10 + p ∈ [10, 11, 12, 13] := by
  rcases (show p = 0 ∨ p = 1 ∨ p = 2 ∨ p = 3 by omega) with rfl | rfl | rfl | rfl <;> decide
theorem mem_mp {p : Nat} (h : p < 4) : 5 + p ∈ [5, 6, 7, 8] := by
  rcases (show p = 0 ∨ p = 1 ∨ p = 2 ∨ p = 3 by omega) with rfl | rfl | rfl | rfl <;> decide
section FT
variable {X : Nat} {cs : Nat → Int32} {cr : Nat → Nat → Option Nat} {cu : Option Nat} {dyn : xM} {m0 : Nat → Int32} {N : Nat} {pa : Nat → Nat} {t : Nat → Nat → Int32}
theorem fitsT_L {a o : Nat} {Q : Nat → Nat → Prop} {K : Int32 → xS → Prop} {Kx : xS → Prop} {r : xM × Nat × Nat × Nat} (ha : X + 66 ≤ a) (nod : nodT dyn a (pa o) (t o)) (hpa : ∀ o, o < N → pa o < 4) (ho : o < N) : ∀ (n fu f : Nat) (ca : Nat → Nat → Int32), n < fu → f + n = 4 → mInv m0 (flt ca 10) N (fun o f => 4 * pa o + f) t (fun a b => Q a b ∨ (a = o ∧ b < f)) →
    (∀ ca', agr [10, 11, 12, 13] ca' ca → mInv m0 (flt ca' 10) N (fun o f => 4 * pa o + f) t (fun a b => Q a b ∨ (a = o ∧ b < 4)) → Kx (cheap X cs ca' cr cu dyn, r)) →
    (∀ ca', agr [10, 11, 12, 13] ca' ca → ¬ mCons m0 N (fun o f => 4 * pa o + f) t → K 0 (cheap X cs ca' cr cu dyn, r)) → p_Mp_fitsTrial_L12 (some a) (some (X + 10 + pa o)) K Kx fu (nI f) (cheap X cs ca cr cu dyn, r)
  | 0, fu + 1, f, ca, hfu, hf, hI, h1, h2 => by
    have e : f = 4 := by omega
    subst e
    unfold p_Mp_fitsTrial_L12
    rw [xif_t (show (4 : Int32) ≤ nI 4 from by decide)]
    exact h1 ca agr.rf hI
  | n + 1, fu + 1, f, ca, hfu, hf, hI, h1, h2 => by
    have hky : ∀ o f, o < N → f < 4 → 4 * pa o + f < 16 := fun o f ho hf => by have := hpa o ho; omega
    obtain ⟨fs, ty, n1, n2, n3, n4, n5⟩ := nod
    have hin : vp_in (nI f) 4 := vp_in_nI (by omega) (by decide)
    have hp := hpa o ho
    have hf4 : f < 4 := by omega
    have PP : ∀ m', mInv m0 m' N (fun o f => 4 * pa o + f) t (fun a b => (Q a b ∨ (a = o ∧ b < f)) ∨ (a = o ∧ b = f)) → mInv m0 m' N (fun o f => 4 * pa o + f) t (fun a b => Q a b ∨ (a = o ∧ b < f + 1)) := fun m' h => mInv_P h (fun x y _ _ => by
      constructor
      · rintro ((q | q) | q)
        · exact Or.inl q
        · exact Or.inr ⟨q.1, by omega⟩
        · exact Or.inr ⟨q.1, by omega⟩
      · rintro (q | q)
        · exact Or.inl (Or.inl q)
        · by_cases e : y = f
          · exact Or.inr ⟨q.1, e⟩
          · exact Or.inl (Or.inr ⟨q.1, by omega⟩))
    unfold p_Mp_fitsTrial_L12
    rw [xif_f (show ¬ (4 : Int32) ≤ nI f from nI_ge (b := 4) hf4 (by decide)), y_gR (v := some (a + 1)) ha n1 n3, y_al (by omega) n4, cl_nI (by omega), n5 f hf4, nI_1]
    refine ⟨hin, ?_⟩
    have wr : t o f ≠ 0 → (flt ca 10 (4 * pa o + f) = 0 ∨ flt ca 10 (4 * pa o + f) = t o f) → (xif (t o f = 0) (p_Mp_fitsTrial_L12 (some a) (some (X + 10 + pa o)) K Kx fu (nI (f + 1))) (xas 0 (some (X + 10 + pa o)) (nI f) (t o f) (p_Mp_fitsTrial_L12 (some a) (some (X + 10 + pa o)) K Kx fu (nI (f + 1))))) (cheap X cs ca cr cu dyn, r) := by
      intro c1 c2
      rw [xif_f c1, cw_tri hp, cl_nI (by omega)]
      refine ⟨hin, fitsT_L ha ⟨fs, ty, n1, n2, n3, n4, n5⟩ hpa ho n fu (f + 1) _ (by omega) (by omega) (PP _ ?_) (fun ca' hg hI' => h1 ca' (hg.tr (agr.rf.up (mem_tri hp))) hI') (fun ca' hg hc => h2 ca' (hg.tr (agr.rf.up (mem_tri hp))) hc)⟩
      rw [flt_up hf4]
      exact mInv_s hky hI ho hf4 (Or.inr ⟨c1, c2, fun _ _ => rfl⟩)
    by_cases c1 : t o f = 0
    · rw [xif_t c1, xif_t c1]
      exact fitsT_L ha ⟨fs, ty, n1, n2, n3, n4, n5⟩ hpa ho n fu (f + 1) ca (by omega) (by omega) (PP _ (mInv_s hky hI ho hf4 (Or.inl ⟨c1, fun _ _ => rfl⟩))) h1 h2
    · rw [xif_f c1, cr_tri hp, cl_nI (by omega)]
      refine ⟨hin, ?_⟩
      by_cases c2 : ca (10 + pa o) f = 0
      · rw [xif_t c2]
        exact wr c1 (Or.inl (by rw [flt_at hf4]; exact c2))
      · rw [xif_f c2, cr_tri hp, cl_nI (by omega)]
        refine ⟨hin, ?_⟩
        by_cases c3 : ca (10 + pa o) f = t o f
        · rw [xif_t c3]
          exact wr c1 (Or.inr (by rw [flt_at hf4]; exact c3))
        · rw [xif_f c3, xrz_0]
          refine h2 ca agr.rf (fun hc => c3 ?_)
          have := mInv_no hky hI ho hf4 hc c1 (by rw [flt_at hf4]; exact c2)
          rw [flt_at hf4] at this
          exact this
theorem fits_L {dn cl num : Nat → Nat} {K : Int32 → xS → Prop} {Kx : xS → Prop} {ob : xM} {nx cb sb : Nat} (hN : N ≤ 10) (hcs : cs 101 = nI N) (hpa : ∀ o, o < N → pa o < 4) (hcl : ∀ c, c < N → cl c < N ∧ num (cl c) = c ∧ cr 2 c = some (dn (cl c)) ∧ X + 66 ≤ dn (cl c) ∧ nodT dyn (dn (cl c)) (pa (cl c)) (t (cl c))) (hnum : ∀ o, o < N → num o < N ∧ cl (num o) = o) : ∀ (n fu c : Nat) (ca : Nat → Nat → Int32), n < fu → c + n = N → mInv m0 (flt ca 10) N (fun o f => 4 * pa o + f) t (fun a _ => num a < c) →
    (∀ ca', agr [10, 11, 12, 13] ca' ca → mCons m0 N (fun o f => 4 * pa o + f) t → Kx (cheap X cs ca' cr cu dyn, ob, nx, cb, sb)) →
    (∀ ca', agr [10, 11, 12, 13] ca' ca → ¬ mCons m0 N (fun o f => 4 * pa o + f) t → K 0 (cheap X cs ca' cr cu dyn, ob, nx, cb, sb)) → p_Mp_fits_L33 (X + 3) (some (X + 1)) K Kx fu (nI c) (cheap X cs ca cr cu dyn, ob, nx, cb, sb)
  | 0, fu + 1, c, ca, hfu, hc, hI, h1, h2 => by
    unfold p_Mp_fits_L33
    rw [c_g1_1, hcs, xif_t (nI_le (by omega) (by omega))]
    exact h1 ca agr.rf (mInv_all (fun o f ho hf => by have := hpa o ho; omega) hI (fun o f ho hf => by have := (hnum o ho).1; omega))
  | n + 1, fu + 1, c, ca, hfu, hc, hI, h1, h2 => by
    obtain ⟨o1, o2, o3, o4, o5⟩ := hcl c (by omega)
    have hin : vp_in (nI c) 10 := vp_in_nI (by omega) (by decide)
    have hp := hpa _ o1
    have hin2 : vp_in (nI (pa (cl c))) 4 := vp_in_nI hp (by decide)
    obtain ⟨fs, ty, n1, n2, n3, n4, n5⟩ := id o5
    unfold p_Mp_fits_L33
    rw [c_g1_1, hcs, xif_f (nI_ge (by omega) (by omega)), c_g1_0, c_r2, cl_nI (by omega), o3, c_ob3, m_call]
    refine ⟨hin, ?_⟩
    unfold p_Mp_fitsTrial
    rw [c_g3_2, y_gI o4 n1 n2, c_r9, cl_nI (by omega), if_pos hp]
    refine ⟨hin2, ?_⟩
    refine fitsT_L (Q := fun a _ => num a < c) o4 o5 hpa o1 4 1000 0 ca (by omega) (by omega) (mInv_P hI (fun x y _ _ => ⟨Or.inl, fun q => by rcases q with q | q; exact q; omega⟩)) (fun ca' hg hI' => ?_) (fun ca' hg hn => ?_)
    · rw [xrz_1]
      dsimp only
      rw [xif_f (by decide), nI_1]
      refine fits_L hN hcs hpa hcl hnum n fu (c + 1) ca' (by omega) (by omega) (mInv_P hI' (fun x y hx hy => ?_)) (fun ca2 hg2 hc2 => h1 ca2 (hg2.tr hg) hc2) (fun ca2 hg2 hc2 => h2 ca2 (hg2.tr hg) hc2)
      constructor
      · rintro (q | q)
        · omega
        · have := q.1; subst this; omega
      · intro q
        by_cases e : num x = c
        · refine Or.inr ⟨?_, hy⟩
          have := (hnum x hx).2
          rw [e] at this
          exact this.symm
        · exact Or.inl (by omega)
    · dsimp only
      rw [xif_t rfl, xrz_0]
      exact h2 ca' hg hn
theorem copy_L {K : Int32 → xS → Prop} {Kx : xS → Prop} {l : Option Nat} {r : xM × Nat × Nat × Nat} : ∀ (n fu p : Nat) (ca : Nat → Nat → Int32), n < fu → p + n = 4 → (∀ ca', agr [10, 11, 12, 13] ca' ca → (∀ q f, p ≤ q → q < 4 → f < 4 → ca' (10 + q) f = ca (5 + q) f) → (∀ q, q < p → ca' (10 + q) = ca (10 + q)) → Kx (cheap X cs ca' cr cu dyn, r)) → p_Mp_fits_L2 (X + 3) l K Kx fu (nI p) (cheap X cs ca cr cu dyn, r)
  | 0, fu + 1, p, ca, hfu, hp, h1 => by
    have e : p = 4 := by omega
    subst e
    unfold p_Mp_fits_L2
    rw [xif_t (show (4 : Int32) ≤ nI 4 from by decide)]
    exact h1 ca agr.rf (fun q f a b => by omega) (fun _ _ => rfl)
  | n + 1, fu + 1, p, ca, hfu, hp, h1 => by
    have hp4 : p < 4 := by omega
    have hin : vp_in (nI p) 4 := vp_in_nI hp4 (by decide)
    unfold p_Mp_fits_L2
    rw [xif_f (show ¬ (4 : Int32) ≤ nI p from nI_ge (b := 4) hp4 (by decide)), c_g3_0, c_r4, cl_nI (by omega), if_pos hp4, c_g3_2, c_r9, cl_nI (by omega), if_pos hp4]
    refine ⟨hin, hin, X + 5 + p, 4, ca (5 + p), X + 10 + p, 4, ca (10 + p), rfl, rfl, cf_map hp4, cf_tri hp4, by omega, by decide, by decide, by decide, by decide, by decide, ?_⟩
    dsimp only
    rw [cu_tri hp4, nI_1]
    refine copy_L n fu (p + 1) _ (by omega) (by omega) (fun ca' hg hq hl => h1 ca' (hg.tr (agr.rf.up (mem_tri hp4))) (fun q f a b c => ?_) (fun q hq' => ?_))
    · by_cases e : q = p
      · subst e
        rw [hl q (by omega), va_up_self]
        unfold va_cpy
        rw [if_pos (show (0 : Int32).toNatClampNeg ≤ f ∧ f < (0 : Int32).toNatClampNeg + (4 : Int32).toNatClampNeg from ⟨Nat.zero_le _, by rw [show (4 : Int32).toNatClampNeg = 4 from rfl]; omega⟩), show (0 : Int32).toNatClampNeg = 0 from rfl, Nat.zero_add, Nat.sub_zero]
      · rw [hq q f (by omega) b c, va_up_ne _ _ (by omega)]
    · rw [hl q (by omega), va_up_ne _ _ (by omega)]
theorem B_fits {dn cl num : Nat → Nat} {K : Int32 → xS → Prop} {ca : Nat → Nat → Int32} {ob : xM} {nx cb sb : Nat} (hN : N ≤ 10) (hcs : cs 101 = nI N) (hpa : ∀ o, o < N → pa o < 4) (hcl : ∀ c, c < N → cl c < N ∧ num (cl c) = c ∧ cr 2 c = some (dn (cl c)) ∧ X + 66 ≤ dn (cl c) ∧ nodT dyn (dn (cl c)) (pa (cl c)) (t (cl c))) (hnum : ∀ o, o < N → num o < N ∧ cl (num o) = o) (hm : ∀ p f, p < 4 → f < 4 → ca (5 + p) f = m0 (4 * p + f))
    (h1 : ∀ ca', agr [10, 11, 12, 13] ca' ca → mCons m0 N (fun o f => 4 * pa o + f) t → K 1 (cheap X cs ca' cr cu dyn, ob, nx, cb, sb)) (h2 : ∀ ca', agr [10, 11, 12, 13] ca' ca → ¬ mCons m0 N (fun o f => 4 * pa o + f) t → K 0 (cheap X cs ca' cr cu dyn, ob, nx, cb, sb)) : p_Mp_fits (X + 3) (some (X + 1)) K (cheap X cs ca cr cu dyn, ob, nx, cb, sb) := by
  unfold p_Mp_fits
  refine copy_L 4 1000 0 ca (by omega) (by omega) (fun ca' hg hq _ => ?_)
  refine fits_L (m0 := m0) hN hcs hpa hcl hnum N 1000 0 ca' (by omega) (by omega) (mInv_0 (fun o f _ _ q => by omega) (fun k hk => ?_)) (fun ca2 hg2 hc => ?_) (fun ca2 hg2 hc => ?_)
  · unfold flt
    rw [hq (k / 4) (k % 4) (by omega) (by omega) (by omega), hm (k / 4) (k % 4) (by omega) (by omega), show 4 * (k / 4) + k % 4 = k by omega]
  · rw [xrz_1]; exact h1 ca2 (hg2.tr hg) hc
  · exact h2 ca2 (hg2.tr hg) hc
theorem learnT_L {a o : Nat} {Q : Nat → Nat → Prop} {K : Unit → xS → Prop} {Kx : xS → Prop} {r : xM × Nat × Nat × Nat} (ha : X + 66 ≤ a) (nod : nodT dyn a (pa o) (t o)) (hpa : ∀ o, o < N → pa o < 4) (ho : o < N) (hc : mCons m0 N (fun o f => 4 * pa o + f) t) : ∀ (n fu f : Nat) (cs : Nat → Int32) (ca : Nat → Nat → Int32), n < fu → f + n = 4 → mInv m0 (flt ca 5) N (fun o f => 4 * pa o + f) t (fun a b => Q a b ∨ (a = o ∧ b < f)) → cs 301 = nI (nz (flt ca 5) 16) →
    (∀ cs' ca', agr [301] cs' cs → agr [5, 6, 7, 8] ca' ca → mInv m0 (flt ca' 5) N (fun o f => 4 * pa o + f) t (fun a b => Q a b ∨ (a = o ∧ b < 4)) → cs' 301 = nI (nz (flt ca' 5) 16) → Kx (cheap X cs' ca' cr cu dyn, r)) → p_Mp_learnFrom_L12 (X + 3) (some a) (some (X + 5 + pa o)) K Kx fu (nI f) (cheap X cs ca cr cu dyn, r)
  | 0, fu + 1, f, cs, ca, hfu, hf, hI, hz, h1 => by
    have e : f = 4 := by omega
    subst e
    unfold p_Mp_learnFrom_L12
    rw [xif_t (show (4 : Int32) ≤ nI 4 from by decide)]
    exact h1 cs ca agr.rf agr.rf hI hz
  | n + 1, fu + 1, f, cs, ca, hfu, hf, hI, hz, h1 => by
    have hky : ∀ o f, o < N → f < 4 → 4 * pa o + f < 16 := fun o f ho hf => by have := hpa o ho; omega
    obtain ⟨fs, ty, n1, n2, n3, n4, n5⟩ := id nod
    have hin : vp_in (nI f) 4 := vp_in_nI (by omega) (by decide)
    have hp := hpa o ho
    have hf4 : f < 4 := by omega
    have PP : ∀ m', mInv m0 m' N (fun o f => 4 * pa o + f) t (fun a b => (Q a b ∨ (a = o ∧ b < f)) ∨ (a = o ∧ b = f)) → mInv m0 m' N (fun o f => 4 * pa o + f) t (fun a b => Q a b ∨ (a = o ∧ b < f + 1)) := fun m' h => mInv_P h (fun x y _ _ => by
      constructor
      · rintro ((q | q) | q)
        · exact Or.inl q
        · exact Or.inr ⟨q.1, by omega⟩
        · exact Or.inr ⟨q.1, by omega⟩
      · rintro (q | q)
        · exact Or.inl (Or.inl q)
        · by_cases e : y = f
          · exact Or.inr ⟨q.1, e⟩
          · exact Or.inl (Or.inr ⟨q.1, by omega⟩))
    unfold p_Mp_learnFrom_L12
    rw [xif_f (show ¬ (4 : Int32) ≤ nI f from nI_ge (b := 4) hf4 (by decide)), cr_map hp, cl_nI (by omega), nI_1]
    refine ⟨hin, ?_⟩
    have same : ((t o f = 0) ∨ (t o f ≠ 0 ∧ flt ca 5 (4 * pa o + f) = t o f)) → p_Mp_learnFrom_L12 (X + 3) (some a) (some (X + 5 + pa o)) K Kx fu (nI (f + 1)) (cheap X cs ca cr cu dyn, r) := by
      intro hor
      refine learnT_L ha nod hpa ho hc n fu (f + 1) cs ca (by omega) (by omega) (PP _ (mInv_s hky hI ho hf4 ?_)) hz h1
      rcases hor with q | ⟨q1, q2⟩
      · exact Or.inl ⟨q, fun _ _ => rfl⟩
      · exact Or.inr ⟨q1, Or.inr q2, fun k _ => by rw [va_up_id (f := flt ca 5) q2]⟩
    by_cases c1 : ca (5 + pa o) f = 0
    · rw [xif_t c1, y_gR (v := some (a + 1)) ha n1 n3, y_al (by omega) n4, cl_nI (by omega), n5 f hf4]
      refine ⟨hin, ?_⟩
      by_cases c2 : t o f = 0
      · rw [xif_t c2]; exact same (Or.inl c2)
      · rw [xif_f c2, y_gR (v := some (a + 1)) ha n1 n3, y_al (by omega) n4, cl_nI (by omega), n5 f hf4, cw_map hp, cl_nI (by omega), c_g3_1, c_p3_1, hz, nI_1]
        have c1' : flt ca 5 (4 * pa o + f) = 0 := by rw [flt_at hf4]; exact c1
        refine ⟨hin, hin, learnT_L ha nod hpa ho hc n fu (f + 1) _ _ (by omega) (by omega) (PP _ ?_) ?_ (fun cs' ca' hg1 hg2 hI' hz' => h1 cs' ca' (hg1.tr (agr.rf.up (by decide))) (hg2.tr (agr.rf.up (mem_mp hp))) hI' hz')⟩
        · rw [flt_up hf4]
          exact mInv_s hky hI ho hf4 (Or.inr ⟨c2, Or.inl c1', fun _ _ => rfl⟩)
        · rw [va_up_self, flt_up hf4, nz_up c1' c2 16 (by omega)]
    · rw [xif_f c1]
      by_cases c2 : t o f = 0
      · exact same (Or.inl c2)
      · exact same (Or.inr ⟨c2, mInv_no hky hI ho hf4 hc c2 (by rw [flt_at hf4]; exact c1)⟩)
theorem learn_L {dn cl num : Nat → Nat} {K : Unit → xS → Prop} {Kx : xS → Prop} {ob : xM} {nx cb sb : Nat} (hN : N ≤ 10) (hpa : ∀ o, o < N → pa o < 4) (hcl : ∀ c, c < N → cl c < N ∧ num (cl c) = c ∧ cr 2 c = some (dn (cl c)) ∧ X + 66 ≤ dn (cl c) ∧ nodT dyn (dn (cl c)) (pa (cl c)) (t (cl c))) (hnum : ∀ o, o < N → num o < N ∧ cl (num o) = o) (hc : mCons m0 N (fun o f => 4 * pa o + f) t) : ∀ (n fu c : Nat) (cs : Nat → Int32) (ca : Nat → Nat → Int32), n < fu → c + n = N → cs 101 = nI N → mInv m0 (flt ca 5) N (fun o f => 4 * pa o + f) t (fun a _ => num a < c) → cs 301 = nI (nz (flt ca 5) 16) →
    (∀ cs' ca', agr [301] cs' cs → agr [5, 6, 7, 8] ca' ca → mInv m0 (flt ca' 5) N (fun o f => 4 * pa o + f) t (fun a _ => num a < N) → cs' 301 = nI (nz (flt ca' 5) 16) → Kx (cheap X cs' ca' cr cu dyn, ob, nx, cb, sb)) → p_Mp_learn_L2 (X + 3) (some (X + 1)) K Kx fu (nI c) (cheap X cs ca cr cu dyn, ob, nx, cb, sb)
  | 0, fu + 1, c, cs, ca, hfu, hcc, hcs, hI, hz, h1 => by
    unfold p_Mp_learn_L2
    rw [c_g1_1, hcs, xif_t (nI_le (by omega) (by omega))]
    have e : c = N := by omega
    subst e
    exact h1 cs ca agr.rf agr.rf hI hz
  | n + 1, fu + 1, c, cs, ca, hfu, hcc, hcs, hI, hz, h1 => by
    obtain ⟨o1, o2, o3, o4, o5⟩ := hcl c (by omega)
    have hin : vp_in (nI c) 10 := vp_in_nI (by omega) (by decide)
    have hp := hpa _ o1
    have hin2 : vp_in (nI (pa (cl c))) 4 := vp_in_nI hp (by decide)
    obtain ⟨fs, ty, n1, n2, n3, n4, n5⟩ := id o5
    unfold p_Mp_learn_L2
    rw [c_g1_1, hcs, xif_f (nI_ge (by omega) (by omega)), c_g1_0, c_r2, cl_nI (by omega), o3, c_ob3, m_call]
    refine ⟨hin, ?_⟩
    unfold p_Mp_learnFrom
    rw [c_g3_0, y_gI o4 n1 n2, c_r4, cl_nI (by omega), if_pos hp]
    refine ⟨hin2, ?_⟩
    refine learnT_L (Q := fun a _ => num a < c) o4 o5 hpa o1 hc 4 1000 0 cs ca (by omega) (by omega) (mInv_P hI (fun x y _ _ => ⟨Or.inl, fun q => by rcases q with q | q; exact q; omega⟩)) hz (fun cs' ca' hg1 hg2 hI' hz' => ?_)
    dsimp only
    rw [nI_1]
    refine learn_L hN hpa hcl hnum hc n fu (c + 1) cs' ca' (by omega) (by omega) ((hg1 101 (by decide)).trans hcs) (mInv_P hI' (fun x y hx hy => ?_)) hz' (fun cs2 ca2 hg3 hg4 hI2 hz2 => h1 cs2 ca2 (hg3.tr hg1) (hg4.tr hg2) hI2 hz2)
    constructor
    · rintro (q | q)
      · omega
      · have := q.1; subst this; omega
    · intro q
      by_cases e : num x = c
      · refine Or.inr ⟨?_, hy⟩
        have := (hnum x hx).2
        rw [e] at this
        exact this.symm
      · exact Or.inl (by omega)
end FT
