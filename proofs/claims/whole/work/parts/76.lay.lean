/-! conflicts and lay of the reference -/
theorem le0_012 {x : Int32} (h : x = 0 ∨ x = 1 ∨ x = 2) : x ≤ 0 ↔ x = 0 := by rcases h with rfl | rfl | rfl <;> decide
section CF
variable {M : Nat} {A : Nat → Nat → Int32} {B : Nat → Nat → Int64} {S : Nat → Int32} {r : xM × Nat × Nat × Nat} {N : Nat} {pa : Nat → Nat} {t : Nat → Nat → Int32}
theorem cf_p {o f : Nat} {K : Int32 → xS → Prop} {Kx : xS → Prop} (hN : N ≤ 10) (h0 : ∀ o, o < N → A 0 o = nI (pa o) ∧ pa o < 4) (ht : ∀ o f, o < N → f < 4 → A 3 (4 * o + f) = t o f ∧ (t o f = 0 ∨ t o f = 1 ∨ t o f = 2)) (ho : o < N) (hf : f < 4)
    (hn : ¬ mCons (A 9) N (fun o f => 4 * pa o + f) t → K 1 (mheap M A B S, r)) : ∀ (n fu q : Nat), n < fu → q + n = o → (∀ p, p < q → pa p = pa o → t o f ≠ 0 → t p f ≠ 0 → t p f = t o f) → ((∀ p, p < o → pa p = pa o → t o f ≠ 0 → t p f ≠ 0 → t p f = t o f) → Kx (mheap M A B S, r)) → p_M_conflicts_L65 M (nI o) (nI f) (t o f) K Kx fu (nI q) (mheap M A B S, r)
  | 0, fu + 1, q, hfu, hq, hg, hx => by
    have e : q = o := by omega
    subst e
    unfold p_M_conflicts_L65
    rw [xif_t (nI_le (Nat.le_refl _) (by omega))]
    exact hx hg
  | n + 1, fu + 1, q, hfu, hq, hg, hx => by
    have go : (pa q = pa o → t o f ≠ 0 → t q f ≠ 0 → t q f = t o f) → p_M_conflicts_L65 M (nI o) (nI f) (t o f) K Kx fu (nI (q + 1)) (mheap M A B S, r) := fun hq' => cf_p hN h0 ht ho hf hn n fu (q + 1) (by omega) (by omega) (fun p hp => by
      by_cases e : p = q
      · subst e; exact hq'
      · exact hg p (by omega)) hx
    have hin : vp_in (nI q) 10 := vp_in_nI (by omega) (by decide)
    have hin2 : vp_in (nI o) 10 := vp_in_nI (by omega) (by decide)
    have hin3 : vp_in (nI (4 * q + f)) 40 := vp_in_nI (by omega) (by decide)
    have hl := le0_012 (ht o f ho hf).2
    have hl2 := le0_012 (ht q f (by omega) hf).2
    unfold p_M_conflicts_L65
    rw [xif_f (nI_ge (by omega) (by omega)), nI_1]
    by_cases c1 : t o f = 0
    · rw [xif_t (hl.mpr c1)]
      exact go (fun _ z => absurd c1 z)
    · rw [xif_f (fun z => c1 (hl.mp z)), m_g0, m_r0, cl_nI (by omega), m_g0, m_r0, cl_nI (by omega), (h0 q (by omega)).1, (h0 o ho).1]
      refine ⟨hin, hin2, ?_⟩
      by_cases c2 : pa q = pa o
      · rw [xif_t (by rw [c2]), m_g3, i4, m_r3, cl_nI (by omega), (ht q f (by omega) hf).1]
        refine ⟨hin3, ?_⟩
        by_cases c3 : t q f = 0
        · rw [xif_t (hl2.mpr c3)]
          exact go (fun _ _ z => absurd c3 z)
        · rw [xif_f (fun z => c3 (hl2.mp z)), m_g3, m_r3, cl_nI (by omega), (ht q f (by omega) hf).1]
          refine ⟨hin3, ?_⟩
          by_cases c4 : t q f = t o f
          · rw [xif_t c4]
            exact go (fun _ _ _ => c4)
          · rw [xif_f c4, xrz_1]
            exact hn (fun hc => c4 (hc.2 q f o f (by omega) hf ho hf (show 4 * pa q + f = 4 * pa o + f by rw [c2]) c3 c1))
      · rw [xif_f (fun z => c2 ((nI_eq (by have := (h0 q (by omega)).2; omega) (by have := (h0 o ho).2; omega)).mp z))]
        exact go (fun z => absurd z c2)
def cgood (m0 : Nat → Int32) (pa : Nat → Nat) (t : Nat → Nat → Int32) (o f : Nat) : Prop := t o f ≠ 0 → (m0 (4 * pa o + f) = 0 ∨ m0 (4 * pa o + f) = t o f) ∧ ∀ p, p < o → pa p = pa o → t p f ≠ 0 → t p f = t o f
theorem cf_f {o : Nat} {K : Int32 → xS → Prop} {Kx : xS → Prop} (hN : N ≤ 10) (h0 : ∀ o, o < N → A 0 o = nI (pa o) ∧ pa o < 4) (ht : ∀ o f, o < N → f < 4 → A 3 (4 * o + f) = t o f ∧ (t o f = 0 ∨ t o f = 1 ∨ t o f = 2)) (hm : ∀ k, k < 16 → A 9 k = 0 ∨ A 9 k = 1 ∨ A 9 k = 2) (ho : o < N)
    (hn : ¬ mCons (A 9) N (fun o f => 4 * pa o + f) t → K 1 (mheap M A B S, r)) (hx : (∀ f, f < 4 → cgood (A 9) pa t o f) → Kx (mheap M A B S, r)) : ∀ (n fu f : Nat), n < fu → f + n = 4 → (∀ g, g < f → cgood (A 9) pa t o g) → p_M_conflicts_L12 M (nI o) K Kx fu (nI f) (mheap M A B S, r)
  | 0, fu + 1, f, hfu, hf, hg => by
    have e : f = 4 := by omega
    subst e
    unfold p_M_conflicts_L12
    rw [xif_t (show (4 : Int32) ≤ nI 4 from by decide)]
    exact hx hg
  | n + 1, fu + 1, f, hfu, hf, hg => by
    have hf4 : f < 4 := by omega
    have hp := (h0 o ho).2
    have hin : vp_in (nI o) 10 := vp_in_nI (by omega) (by decide)
    have hin2 : vp_in (nI (4 * o + f)) 40 := vp_in_nI (by omega) (by decide)
    have hin3 : vp_in (nI (4 * pa o + f)) 16 := vp_in_nI (by omega) (by decide)
    have hl := le0_012 (ht o f ho hf4).2
    have hl2 := le0_012 (hm (4 * pa o + f) (by omega))
    have go : (t o f ≠ 0 → A 9 (4 * pa o + f) = 0 ∨ A 9 (4 * pa o + f) = t o f) → p_M_conflicts_L65 M (nI o) (nI f) (t o f) K (p_M_conflicts_L12 M (nI o) K Kx fu (nI (f + 1))) 1000 0 (mheap M A B S, r) := fun h => cf_p hN h0 ht ho hf4 hn o 1000 0 (by omega) (by omega) (fun p hp' => by omega) (fun hp' => cf_f hN h0 ht hm ho hn hx n fu (f + 1) (by omega) (by omega) (fun g hg' => by
      by_cases e : g = f
      · subst e; exact fun h0' => ⟨h h0', fun p a b c => hp' p a b h0' c⟩
      · exact hg g (by omega)))
    unfold p_M_conflicts_L12
    rw [xif_f (show ¬ (4 : Int32) ≤ nI f from nI_ge (b := 4) hf4 (by decide)), m_g3, i4, m_r3, cl_nI (by omega), (ht o f ho hf4).1, m_g9, m_g0, m_r0, cl_nI (by omega), (h0 o ho).1, i4, m_r9, cl_nI (by omega), nI_1]
    refine ⟨hin2, hin, hin3, ?_⟩
    by_cases c1 : t o f = 0
    · rw [xif_t (hl.mpr c1)]
      exact go (fun z => absurd c1 z)
    · rw [xif_f (fun z => c1 (hl.mp z))]
      by_cases c2 : A 9 (4 * pa o + f) = 0
      · rw [xif_t (hl2.mpr c2)]
        exact go (fun _ => Or.inl c2)
      · rw [xif_f (fun z => c2 (hl2.mp z))]
        by_cases c3 : t o f = A 9 (4 * pa o + f)
        · rw [xif_t c3]
          exact go (fun _ => Or.inr c3.symm)
        · rw [xif_f c3, xrz_1]
          refine hn (fun hc => ?_)
          rcases hc.1 o f ho hf4 c1 with q | q
          · exact c2 q
          · exact c3 q.symm
theorem cf_o {K : Int32 → xS → Prop} {Kx : xS → Prop} (hS : S 6 = nI N) (hN : N ≤ 10) (h0 : ∀ o, o < N → A 0 o = nI (pa o) ∧ pa o < 4) (ht : ∀ o f, o < N → f < 4 → A 3 (4 * o + f) = t o f ∧ (t o f = 0 ∨ t o f = 1 ∨ t o f = 2)) (hm : ∀ k, k < 16 → A 9 k = 0 ∨ A 9 k = 1 ∨ A 9 k = 2)
    (hn : ¬ mCons (A 9) N (fun o f => 4 * pa o + f) t → K 1 (mheap M A B S, r)) (hx : mCons (A 9) N (fun o f => 4 * pa o + f) t → Kx (mheap M A B S, r)) : ∀ (n fu o : Nat), n < fu → o + n = N → (∀ p f, p < o → f < 4 → cgood (A 9) pa t p f) → p_M_conflicts_L2 M K Kx fu (nI o) (mheap M A B S, r)
  | 0, fu + 1, o, hfu, ho, hg => by
    have e : o = N := by omega
    subst e
    unfold p_M_conflicts_L2
    rw [m_g6, hS, xif_t (nI_le (Nat.le_refl _) (by omega))]
    refine hx ⟨fun p f hp hf hne => (hg p f hp hf hne).1, fun p f p' f' hp hf hp' hf' hk hne hne' => ?_⟩
    have hk' : 4 * pa p + f = 4 * pa p' + f' := hk
    have ef : f = f' := by omega
    subst ef
    have ep : pa p = pa p' := by omega
    rcases Nat.lt_trichotomy p p' with q | q | q
    · exact (hg p' f hp' hf' hne').2 p q ep hne
    · rw [q]
    · exact ((hg p f hp hf hne).2 p' q ep.symm hne').symm
  | n + 1, fu + 1, o, hfu, ho, hg => by
    unfold p_M_conflicts_L2
    rw [m_g6, hS, xif_f (nI_ge (by omega) (by omega))]
    refine cf_f hN h0 ht hm (by omega) hn (fun hgo => ?_) 4 1000 0 (by omega) (by omega) (fun g hg' => by omega)
    rw [nI_1]
    refine cf_o hS hN h0 ht hm hn hx n fu (o + 1) (by omega) (by omega) (fun p f hp hf => ?_)
    by_cases e : p = o
    · subst e; exact hgo f hf
    · exact hg p f (by omega) hf
theorem M_conflicts_ok {K : Int32 → xS → Prop} (hS : S 6 = nI N) (hN : N ≤ 10) (h0 : ∀ o, o < N → A 0 o = nI (pa o) ∧ pa o < 4) (ht : ∀ o f, o < N → f < 4 → A 3 (4 * o + f) = t o f ∧ (t o f = 0 ∨ t o f = 1 ∨ t o f = 2)) (hm : ∀ k, k < 16 → A 9 k = 0 ∨ A 9 k = 1 ∨ A 9 k = 2)
    (hn : ¬ mCons (A 9) N (fun o f => 4 * pa o + f) t → K 1 (mheap M A B S, r)) (hx : mCons (A 9) N (fun o f => 4 * pa o + f) t → K 0 (mheap M A B S, r)) : p_M_conflicts M K (mheap M A B S, r) := by
  unfold p_M_conflicts
  exact cf_o hS hN h0 ht hm hn (fun hc => xrz_0.mpr (hx hc)) N 1000 0 (by omega) (by omega) (fun p f hp => by omega)
end CF
section LY
variable {M : Nat} {r : xM × Nat × Nat × Nat} {N O : Nat} {pa num : Nat → Nat} {t : Nat → Nat → Int32} {m0 : Nat → Int32}
/-- the field of an object is laid down -/
theorem lay_f {o w : Nat} {Q : Nat → Nat → Prop} {K : Unit → xS → Prop} {Kx : xS → Prop} (ho : o < N) (hN : N ≤ 10) (hw : w < 260) (hpa : ∀ o, o < N → pa o < 4) (hc : mCons m0 N (fun o f => 4 * pa o + f) t) : ∀ (n fu f : Nat) (A : Nat → Nat → Int32) (B : Nat → Nat → Int64) (S : Nat → Int32), n < fu → f + n = 4 → A 0 o = nI (pa o) → (∀ f, f < 4 → A 3 (4 * o + f) = t o f ∧ (t o f = 0 ∨ t o f = 1 ∨ t o f = 2)) → mInv m0 (A 9) N (fun o f => 4 * pa o + f) t (fun a b => Q a b ∨ (a = o ∧ b < f)) → S 10 = nI (nz (A 9) 16) →
    (∀ A' B' S', agr [9, 24, 25] A' A → agr [26] B' B → agr [10] S' S → (∀ g, f ≤ g → g < 4 → A' 24 (4 * w + g) = A 3 (4 * o + g) ∧ A' 25 (4 * w + g) = A 4 (4 * o + g) ∧ B' 26 (4 * w + g) = B 5 (4 * o + g)) → (∀ x, (∀ g, f ≤ g → g < 4 → x ≠ 4 * w + g) → A' 24 x = A 24 x ∧ A' 25 x = A 25 x ∧ B' 26 x = B 26 x) → mInv m0 (A' 9) N (fun o f => 4 * pa o + f) t (fun a b => Q a b ∨ (a = o ∧ b < 4)) → S' 10 = nI (nz (A' 9) 16) → Kx (mheap M A' B' S', r)) → p_M_lay_L56 M (nI o) (nI w) K Kx fu (nI f) (mheap M A B S, r)
  | 0, fu + 1, f, A, B, S, hfu, hf, h0, ht, hI, hz, h1 => by
    have e : f = 4 := by omega
    subst e
    unfold p_M_lay_L56
    rw [xif_t (show (4 : Int32) ≤ nI 4 from by decide)]
    exact h1 A B S agr.rf agr.rf agr.rf (fun g a b => by omega) (fun _ _ => ⟨rfl, rfl, rfl⟩) hI hz
  | n + 1, fu + 1, f, A, B, S, hfu, hf, h0, ht, hI, hz, h1 => by
    have hky : ∀ o f, o < N → f < 4 → 4 * pa o + f < 16 := fun o f ho hf => by have := hpa o ho; omega
    have hf4 : f < 4 := by omega
    have hp := hpa o ho
    have hin : vp_in (nI o) 10 := vp_in_nI (by omega) (by decide)
    have hin2 : vp_in (nI (4 * o + f)) 40 := vp_in_nI (by omega) (by decide)
    have hin3 : vp_in (nI (4 * pa o + f)) 16 := vp_in_nI (by omega) (by decide)
    have hin4 : vp_in (nI (4 * w + f)) 1040 := vp_in_nI (by omega) (by decide)
    have hl := le0_012 (ht f hf4).2
    have PP : ∀ m', mInv m0 m' N (fun o f => 4 * pa o + f) t (fun a b => (Q a b ∨ (a = o ∧ b < f)) ∨ (a = o ∧ b = f)) → mInv m0 m' N (fun o f => 4 * pa o + f) t (fun a b => Q a b ∨ (a = o ∧ b < f + 1)) := fun m' h => mInv_P h (fun x y _ _ => by
      constructor
      · rintro ((q | q) | q)
        · exact Or.inl q
        · exact Or.inr ⟨q.1, by omega⟩
        · exact Or.inr ⟨q.1, by omega⟩
      · rintro (q | q)
        · exact Or.inl (Or.inl q)
        · by_cases e : y = f
          · exact Or.inr ⟨q.1, e⟩
          · exact Or.inl (Or.inr ⟨q.1, by omega⟩))
    have go : ∀ (g9 : Nat → Int32) (S1 : Nat → Int32), mInv m0 g9 N (fun o f => 4 * pa o + f) t (fun a b => Q a b ∨ (a = o ∧ b < f + 1)) → agr [10] S1 S → S1 10 = nI (nz g9 16) → p_M_lay_L56 M (nI o) (nI w) K Kx fu (nI (f + 1)) (mheap M (va_up (va_up (va_up A 24 (va_up (A 24) (4 * w + f) (A 3 (4 * o + f)))) 25 (va_up (A 25) (4 * w + f) (A 4 (4 * o + f)))) 9 g9) (va_up B 26 (va_up (B 26) (4 * w + f) (B 5 (4 * o + f)))) S1, r) := by
      intro g9 S1 hI1 hS1 hz1
      refine lay_f ho hN hw hpa hc n fu (f + 1) _ _ _ (by omega) (by omega) ?_ ?_ ?_ ?_ (fun A' B' S' hA hB hS hl' hk hI' hz' => h1 A' B' S' (hA.tr (((agr.rf.up (by decide)).up (by decide)).up (by decide))) (hB.tr (agr.rf.up (by decide))) (hS.tr hS1) (fun g a b => ?_) (fun x hx => ?_) hI' hz')
      · rw [va_up_ne _ _ (by decide), va_up_ne _ _ (by decide), va_up_ne _ _ (by decide)]; exact h0
      · intro g hg
        rw [va_up_ne _ _ (by decide), va_up_ne _ _ (by decide), va_up_ne _ _ (by decide)]; exact ht g hg
      · rw [va_up_self]; exact hI1
      · rw [va_up_self]; exact hz1
      · by_cases e : g = f
        · subst e
          obtain ⟨k1, k2, k3⟩ := hk (4 * w + g) (fun g' a' b' => by omega)
          rw [k1, k2, k3, va_up_ne (j := 24) (k := 9) _ _ (by decide), va_up_ne (j := 24) (k := 25) _ _ (by decide), va_up_ne (j := 25) (k := 9) _ _ (by decide), va_up_self, va_up_self, va_up_self, va_up_self, va_up_self, va_up_self]
          exact ⟨rfl, rfl, rfl⟩
        · obtain ⟨k1, k2, k3⟩ := hl' g (by omega) b
          rw [k1, k2, k3, va_up_ne (j := 3) (k := 9) _ _ (by decide), va_up_ne (j := 3) (k := 25) _ _ (by decide), va_up_ne (j := 3) (k := 24) _ _ (by decide), va_up_ne (j := 4) (k := 9) _ _ (by decide), va_up_ne (j := 4) (k := 25) _ _ (by decide), va_up_ne (j := 4) (k := 24) _ _ (by decide), va_up_ne (j := 5) (k := 26) _ _ (by decide)]
          exact ⟨rfl, rfl, rfl⟩
      · obtain ⟨k1, k2, k3⟩ := hk x (fun g a b => hx g (by omega) b)
        have hxf := hx f (Nat.le_refl _) hf4
        rw [k1, k2, k3, va_up_ne (j := 24) (k := 9) _ _ (by decide), va_up_ne (j := 24) (k := 25) _ _ (by decide), va_up_ne (j := 25) (k := 9) _ _ (by decide), va_up_self, va_up_self, va_up_self, va_up_ne _ _ hxf, va_up_ne _ _ hxf, va_up_ne _ _ hxf]
        exact ⟨rfl, rfl, rfl⟩
    have same : mInv m0 (A 9) N (fun o f => 4 * pa o + f) t (fun a b => Q a b ∨ (a = o ∧ b < f + 1)) → p_M_lay_L56 M (nI o) (nI w) K Kx fu (nI (f + 1)) (mheap M (va_up (va_up A 24 (va_up (A 24) (4 * w + f) (A 3 (4 * o + f)))) 25 (va_up (A 25) (4 * w + f) (A 4 (4 * o + f)))) (va_up B 26 (va_up (B 26) (4 * w + f) (B 5 (4 * o + f)))) S, r) := by
      intro h
      have := go (A 9) S h agr.rf hz
      rw [va_up_id (k := 9) (by rw [va_up_ne _ _ (by decide), va_up_ne _ _ (by decide)])] at this
      exact this
    unfold p_M_lay_L56
    rw [xif_f (show ¬ (4 : Int32) ≤ nI f from nI_ge (b := 4) hf4 (by decide)), m_g24, m_g3, i4, m_r3, i4, m_w24, cl_nI (by omega), cl_nI (by omega), m_g25, m_g4, m_r4, m_w25, cl_nI (by omega), cl_nI (by omega), m_g26, m_g5, m_r5, m_w26, cl_nI (by omega), cl_nI (by omega), m_g0, m_r0, cl_nI (by omega), m_g3, m_r3, cl_nI (by omega), nI_1]
    rw [va_up_ne (j := 0) (k := 25) _ _ (by decide), va_up_ne (j := 0) (k := 24) _ _ (by decide), h0, i4, va_up_ne (j := 3) (k := 25) _ _ (by decide), va_up_ne (j := 3) (k := 24) _ _ (by decide), va_up_ne (j := 4) (k := 24) _ _ (by decide), va_up_ne (j := 25) (k := 24) _ _ (by decide)]
    refine ⟨hin2, hin4, hin2, hin4, hin2, hin4, hin, hin2, ?_⟩
    have t1 := (ht f hf4).1
    by_cases c1 : t o f = 0
    · rw [xif_t (by rw [t1]; exact hl.mpr c1)]
      exact same (PP _ (mInv_s hky hI ho hf4 (Or.inl ⟨c1, fun _ _ => rfl⟩)))
    · rw [xif_f (by rw [t1]; exact fun z => c1 (hl.mp z)), m_g9, m_r9, cl_nI (by omega), va_up_ne (j := 9) (k := 25) _ _ (by decide), va_up_ne (j := 9) (k := 24) _ _ (by decide)]
      refine ⟨hin3, ?_⟩
      by_cases c2 : A 9 (4 * pa o + f) = 0
      · rw [xif_t c2, m_g9, m_g3, m_r3, cl_nI (by omega), m_w9, cl_nI (by omega), m_g10, hz, m_p10, nI_1, va_up_ne (j := 3) (k := 25) _ _ (by decide), va_up_ne (j := 3) (k := 24) _ _ (by decide), va_up_ne (j := 9) (k := 25) _ _ (by decide), va_up_ne (j := 9) (k := 24) _ _ (by decide)]
        refine ⟨hin2, hin3, go _ _ (PP _ ?_) (agr.rf.up (by decide)) ?_⟩
        · rw [t1]
          exact mInv_s hky hI ho hf4 (Or.inr ⟨c1, Or.inl c2, fun _ _ => rfl⟩)
        · rw [va_up_self, t1, nz_up c2 c1 16 (by omega)]
      · rw [xif_f c2]
        have := mInv_no hky hI ho hf4 hc c1 c2
        exact same (PP _ (mInv_s hky hI ho hf4 (Or.inr ⟨c1, Or.inr this, fun k _ => by rw [va_up_id (f := A 9) this]⟩)))
end LY
