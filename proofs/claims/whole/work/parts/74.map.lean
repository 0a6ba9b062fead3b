/-! THE MAPPING -/
def nz (f : Nat → Int32) : Nat → Nat
  | 0 => 0
  | n + 1 => nz f n + (if f n = 0 then 0 else 1)
theorem nz_congr {f g : Nat → Int32} : ∀ (n : Nat), (∀ k, k < n → f k = g k) → nz f n = nz g n
  | 0, _ => rfl
  | n + 1, h => by
    show nz f n + _ = nz g n + _
    rw [nz_congr n (fun k hk => h k (by omega)), h n (by omega)]
theorem nz_up {f : Nat → Int32} {k : Nat} {v : Int32} (h0 : f k = 0) (hv : v ≠ 0) : ∀ (n : Nat), k < n → nz (va_up f k v) n = nz f n + 1
  | 0, h => absurd h (Nat.not_lt_zero _)
  | n + 1, h => by
    show nz (va_up f k v) n + _ = nz f n + _ + 1
    by_cases e : k = n
    · subst e
      rw [va_up_self, if_neg hv, h0, if_pos rfl, nz_congr (f := va_up f k v) (g := f) k (fun j hj => va_up_ne _ _ (by omega))]
    · rw [nz_up h0 hv n (by omega), va_up_ne _ _ (by omega)]
      omega
theorem nz_le (f : Nat → Int32) : ∀ n, nz f n ≤ n
  | 0 => Nat.le_refl _
  | n + 1 => by
    have := nz_le f n
    show nz f n + (if f n = 0 then 0 else 1) ≤ n + 1
    by_cases e : f n = 0
    · rw [if_pos e]; omega
    · rw [if_neg e]; omega
/-- what is known of types when the pairs of P have been looked at -/
def mInv (m0 m : Nat → Int32) (N : Nat) (ky : Nat → Nat → Nat) (t : Nat → Nat → Int32) (P : Nat → Nat → Prop) : Prop :=
  (∀ k, k < 16 → m0 k ≠ 0 → m k = m0 k) ∧ (∀ o f, o < N → f < 4 → P o f → t o f ≠ 0 → m (ky o f) = t o f) ∧ ∀ k, k < 16 → m k ≠ 0 → m k = m0 k ∨ ∃ o f, o < N ∧ f < 4 ∧ P o f ∧ ky o f = k ∧ t o f = m k
def mCons (m0 : Nat → Int32) (N : Nat) (ky : Nat → Nat → Nat) (t : Nat → Nat → Int32) : Prop :=
  (∀ o f, o < N → f < 4 → t o f ≠ 0 → m0 (ky o f) = 0 ∨ m0 (ky o f) = t o f) ∧ ∀ o f o' f', o < N → f < 4 → o' < N → f' < 4 → ky o f = ky o' f' → t o f ≠ 0 → t o' f' ≠ 0 → t o f = t o' f'
theorem mInv_0 {m0 : Nat → Int32} {N : Nat} {ky : Nat → Nat → Nat} {t : Nat → Nat → Int32} {P : Nat → Nat → Prop} (hP : ∀ o f, o < N → f < 4 → ¬ P o f) {m : Nat → Int32} (hm : ∀ k, k < 16 → m k = m0 k) : mInv m0 m N ky t P := ⟨fun k hk _ => hm k hk, fun o f ho hf hp => absurd hp (hP o f ho hf), fun k hk _ => Or.inl (hm k hk)⟩
theorem mInv_P {m0 m : Nat → Int32} {N : Nat} {ky : Nat → Nat → Nat} {t : Nat → Nat → Int32} {P Q : Nat → Nat → Prop} (h : mInv m0 m N ky t P) (hPQ : ∀ o f, o < N → f < 4 → (P o f ↔ Q o f)) : mInv m0 m N ky t Q :=
  ⟨h.1, fun o f ho hf hq => h.2.1 o f ho hf ((hPQ o f ho hf).mpr hq), fun k hk hne => by
    rcases h.2.2 k hk hne with q | ⟨o, f, a, b, c, d⟩
    · exact Or.inl q
    · exact Or.inr ⟨o, f, a, b, (hPQ o f a b).mp c, d⟩⟩
theorem mInv_m {m0 m m' : Nat → Int32} {N : Nat} {ky : Nat → Nat → Nat} {t : Nat → Nat → Int32} {P : Nat → Nat → Prop} (hky : ∀ o f, o < N → f < 4 → ky o f < 16) (h : mInv m0 m N ky t P) (hm : ∀ k, k < 16 → m' k = m k) : mInv m0 m' N ky t P :=
  ⟨fun k hk hne => (hm k hk).trans (h.1 k hk hne), fun o f ho hf hp hne => (hm _ (hky o f ho hf)).trans (h.2.1 o f ho hf hp hne), fun k hk hne => by
    rw [hm k hk] at hne ⊢
    exact h.2.2 k hk hne⟩
/-- one more pair -/
theorem mInv_s {m0 m m' : Nat → Int32} {N : Nat} {ky : Nat → Nat → Nat} {t : Nat → Nat → Int32} {P : Nat → Nat → Prop} {o f : Nat} (hky : ∀ o f, o < N → f < 4 → ky o f < 16) (h : mInv m0 m N ky t P) (ho : o < N) (hf : f < 4)
    (hm : (t o f = 0 ∧ ∀ k, k < 16 → m' k = m k) ∨ (t o f ≠ 0 ∧ (m (ky o f) = 0 ∨ m (ky o f) = t o f) ∧ ∀ k, k < 16 → m' k = va_up m (ky o f) (t o f) k)) : mInv m0 m' N ky t (fun a b => P a b ∨ (a = o ∧ b = f)) := by
  rcases hm with ⟨h0, hm⟩ | ⟨h0, hor, hm⟩
  · refine mInv_m hky ⟨h.1, fun a b ha hb hp hne => ?_, fun k hk hne => ?_⟩ hm
    · rcases hp with hp | ⟨rfl, rfl⟩
      · exact h.2.1 a b ha hb hp hne
      · exact absurd h0 hne
    · rcases h.2.2 k hk hne with q | ⟨a, b, q1, q2, q3, q4⟩
      · exact Or.inl q
      · exact Or.inr ⟨a, b, q1, q2, Or.inl q3, q4⟩
  · refine mInv_m hky ⟨fun k hk hne => ?_, fun a b ha hb hp hne => ?_, fun k hk hne => ?_⟩ hm
    · by_cases e : k = ky o f
      · subst e
        rw [va_up_self]
        have := h.1 _ hk hne
        rcases hor with q | q
        · exact absurd (this.symm.trans q) hne
        · exact q.symm.trans this
      · rw [va_up_ne _ _ e]; exact h.1 k hk hne
    · by_cases e : ky a b = ky o f
      · rw [e, va_up_self]
        rcases hp with hp | ⟨rfl, rfl⟩
        · have := h.2.1 a b ha hb hp hne
          rw [e] at this
          rcases hor with q | q
          · exact absurd (this.symm.trans q) hne
          · exact q.symm.trans this
        · rfl
      · rw [va_up_ne _ _ e]
        rcases hp with hp | ⟨rfl, rfl⟩
        · exact h.2.1 a b ha hb hp hne
        · exact absurd rfl e
    · by_cases e : k = ky o f
      · subst e
        rw [va_up_self]
        exact Or.inr ⟨o, f, ho, hf, Or.inr ⟨rfl, rfl⟩, rfl, rfl⟩
      · rw [va_up_ne _ _ e] at hne ⊢
        rcases h.2.2 k hk hne with q | ⟨a, b, q1, q2, q3, q4⟩
        · exact Or.inl q
        · exact Or.inr ⟨a, b, q1, q2, Or.inl q3, q4⟩
theorem mInv_no {m0 m : Nat → Int32} {N : Nat} {ky : Nat → Nat → Nat} {t : Nat → Nat → Int32} {P : Nat → Nat → Prop} {o f : Nat} (hky : ∀ o f, o < N → f < 4 → ky o f < 16) (h : mInv m0 m N ky t P) (ho : o < N) (hf : f < 4) (hc : mCons m0 N ky t) (h0 : t o f ≠ 0) (h1 : m (ky o f) ≠ 0) : m (ky o f) = t o f := by
  rcases h.2.2 _ (hky o f ho hf) h1 with q | ⟨a, b, q1, q2, q3, q4, q5⟩
  · rcases hc.1 o f ho hf h0 with c | c
    · exact absurd (q.trans c) h1
    · exact q.trans c
  · rw [← q5]
    exact hc.2 a b o f q1 q2 ho hf q4 (by rw [q5]; exact h1) h0
theorem mInv_all {m0 m : Nat → Int32} {N : Nat} {ky : Nat → Nat → Nat} {t : Nat → Nat → Int32} {P : Nat → Nat → Prop} (hky : ∀ o f, o < N → f < 4 → ky o f < 16) (h : mInv m0 m N ky t P) (hP : ∀ o f, o < N → f < 4 → P o f) : mCons m0 N ky t := by
  refine ⟨fun o f ho hf hne => ?_, fun o f o' f' ho hf ho' hf' hk hne hne' => ?_⟩
  · by_cases e : m0 (ky o f) = 0
    · exact Or.inl e
    · exact Or.inr ((h.1 _ (hky o f ho hf) e).symm.trans (h.2.1 o f ho hf (hP o f ho hf) hne))
  · have a := h.2.1 o f ho hf (hP o f ho hf) hne
    have b := h.2.1 o' f' ho' hf' (hP o' f' ho' hf') hne'
    rw [hk] at a
    exact a.symm.trans b
theorem mInv_eq {m0 m m' : Nat → Int32} {N : Nat} {ky : Nat → Nat → Nat} {t : Nat → Nat → Int32} {P Q : Nat → Nat → Prop} (h : mInv m0 m N ky t P) (h' : mInv m0 m' N ky t Q) (hP : ∀ o f, o < N → f < 4 → P o f) (hQ : ∀ o f, o < N → f < 4 → Q o f) : ∀ k, k < 16 → m k = m' k := by
  intro k hk
  by_cases e : m k = 0
  · by_cases e' : m' k = 0
    · rw [e, e']
    · rcases h'.2.2 k hk e' with q | ⟨a, b, q1, q2, q3, q4, q5⟩
      · have := h.1 k hk (by rw [← q]; exact e')
        exact absurd (q.trans this.symm) (by rw [e]; exact e')
      · have := h.2.1 a b q1 q2 (hP a b q1 q2) (by rw [q5]; exact e')
        rw [q4, q5] at this
        exact this
  · rcases h.2.2 k hk e with q | ⟨a, b, q1, q2, q3, q4, q5⟩
    · have := h'.1 k hk (by rw [← q]; exact e)
      exact q.trans this.symm
    · have := h'.2.1 a b q1 q2 (hQ a b q1 q2) (by rw [q5]; exact e)
      rw [q4, q5] at this
      exact this.symm
section CT
variable {X : Nat} {cs : Nat → Int32} {ca : Nat → Nat → Int32} {cr : Nat → Nat → Option Nat} {cu : Option Nat} {dyn : xM} {r : xM × Nat × Nat × Nat}
theorem cu_tri {j : Nat} (hj : j < 4) {g : Nat → Int32} : va_up (cheap X cs ca cr cu dyn) (X + 10 + j) (some (.inl (0, 4, .inl g))) = cheap X cs (va_up ca (10 + j) g) cr cu dyn := by
  rw [Nat.add_assoc]
  rcases (show j = 0 ∨ j = 1 ∨ j = 2 ∨ j = 3 by omega) with rfl | rfl | rfl | rfl
  · exact cheap_w 10 (by decide) (lt66 rfl rfl rfl rfl rfl rfl rfl rfl rfl rfl rfl rfl rfl rfl rfl rfl rfl rfl rfl rfl rfl rfl rfl rfl rfl rfl rfl rfl rfl rfl rfl rfl rfl rfl rfl rfl rfl rfl rfl rfl rfl rfl rfl rfl rfl rfl rfl rfl rfl rfl rfl rfl rfl rfl rfl rfl rfl rfl rfl rfl rfl rfl rfl rfl rfl rfl)
  · exact cheap_w 11 (by decide) (lt66 rfl rfl rfl rfl rfl rfl rfl rfl rfl rfl rfl rfl rfl rfl rfl rfl rfl rfl rfl rfl rfl rfl rfl rfl rfl rfl rfl rfl rfl rfl rfl rfl rfl rfl rfl rfl rfl rfl rfl rfl rfl rfl rfl rfl rfl rfl rfl rfl rfl rfl rfl rfl rfl rfl rfl rfl rfl rfl rfl rfl rfl rfl rfl rfl rfl rfl)
  · exact cheap_w 12 (by decide) (lt66 rfl rfl rfl rfl rfl rfl rfl rfl rfl rfl rfl rfl rfl rfl rfl rfl rfl rfl rfl rfl rfl rfl rfl rfl rfl rfl rfl rfl rfl rfl rfl rfl rfl rfl rfl rfl rfl rfl rfl rfl rfl rfl rfl rfl rfl rfl rfl rfl rfl rfl rfl rfl rfl rfl rfl rfl rfl rfl rfl rfl rfl rfl rfl rfl rfl rfl)
  · exact cheap_w 13 (by decide) (lt66 rfl rfl rfl rfl rfl rfl rfl rfl rfl rfl rfl rfl rfl rfl rfl rfl rfl rfl rfl rfl rfl rfl rfl rfl rfl rfl rfl rfl rfl rfl rfl rfl rfl rfl rfl rfl rfl rfl rfl rfl rfl rfl rfl rfl rfl rfl rfl rfl rfl rfl rfl rfl rfl rfl rfl rfl rfl rfl rfl rfl rfl rfl rfl rfl rfl rfl)
/-- the rows of four, as one -/
def flt (ca : Nat → Nat → Int32) (b : Nat) (k : Nat) : Int32 := ca (b + k / 4) (k % 4)
theorem flt_at {ca : Nat → Nat → Int32} {b p f : Nat} (hf : f < 4) : flt ca b (4 * p + f) = ca (b + p) f := by
  unfold flt
  rw [show (4 * p + f) / 4 = p by omega, show (4 * p + f) % 4 = f by omega]
theorem flt_up {ca : Nat → Nat → Int32} {b p f : Nat} {v : Int32} (hf : f < 4) : flt (va_up ca (b + p) (va_up (ca (b + p)) f v)) b = va_up (flt ca b) (4 * p + f) v := by
  funext k
  by_cases e : k = 4 * p + f
  · subst e; rw [va_up_self, flt_at hf, va_up_self, va_up_self]
  · rw [va_up_ne _ _ e]
    unfold flt
    by_cases e2 : k / 4 = p
    · rw [e2, va_up_self, va_up_ne _ _ (by omega)]
    · rw [va_up_ne _ _ (by omega)]
end CT
