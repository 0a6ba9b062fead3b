def mtab : List (Nat × Nat × Nat) := [(0, 0, 10), (1, 0, 10), (2, 0, 10), (3, 0, 40), (4, 0, 40), (5, 6, 40), (9, 0, 16), (11, 0, 180), (12, 0, 180), (13, 0, 180), (14, 0, 180), (15, 0, 180), (16, 1, 180), (17, 1, 180), (22, 0, 260), (23, 0, 260), (24, 0, 1040), (25, 0, 1040), (26, 6, 1040), (28, 0, 12), (29, 0, 12), (30, 0, 12), (31, 0, 12), (32, 0, 12), (33, 0, 12), (34, 0, 12), (35, 0, 12), (38, 1, 120), (39, 0, 120), (40, 0, 180), (41, 0, 180), (42, 0, 180), (43, 0, 180)]
def mfl (M : Nat) (S : Nat → Int32) : List Value := [.ref (M + 1), .ref (M + 2), .ref (M + 3), .ref (M + 4), .ref (M + 5), .ref (M + 6), .int (S 6), .int (S 7), .int (S 8), .ref (M + 7), .int (S 10), .ref (M + 8), .ref (M + 9), .ref (M + 10), .ref (M + 11), .ref (M + 12), .ref (M + 13), .ref (M + 14), .int (S 18), .int (S 19), .int (S 20), .int (S 21), .ref (M + 15), .ref (M + 16), .ref (M + 17), .ref (M + 18), .ref (M + 19), .int (S 27), .ref (M + 20), .ref (M + 21), .ref (M + 22), .ref (M + 23), .ref (M + 24), .ref (M + 25), .ref (M + 26), .ref (M + 27), .int (S 36), .int (S 37), .ref (M + 28), .ref (M + 29), .ref (M + 30), .ref (M + 31), .ref (M + 32), .ref (M + 33), .int (S 44)]
def mcell (A : Nat → Nat → Int32) (B : Nat → Nat → Int64) (q : Nat × Nat × Nat) : xC := if q.2.1 = 6 then .inl (6, q.2.2, .inr (.inr (B q.1))) else .inl (q.2.1, q.2.2, .inl (A q.1))
/-- the reference's cells: the object at M, its arrays behind it -/
def mheap (M : Nat) (A : Nat → Nat → Int32) (B : Nat → Nat → Int64) (S : Nat → Int32) : xM := fun a =>
  if a = M then some (.inr (10, mfl M S)) else if a < M then none else (mtab[a - M - 1]?).map (mcell A B)
theorem mheap_M {M : Nat} {A : Nat → Nat → Int32} {B : Nat → Nat → Int64} {S : Nat → Int32} : mheap M A B S M = some (.inr (10, mfl M S)) := if_pos rfl
theorem mheap_a {M off : Nat} {A : Nat → Nat → Int32} {B : Nat → Nat → Int64} {S : Nat → Int32} : mheap M A B S (M + (off + 1)) = (mtab[off]?).map (mcell A B) := by
  unfold mheap
  rw [if_neg (by omega), if_neg (by omega), show M + (off + 1) - M - 1 = off by omega]
theorem mtab_inj : ∀ i, i < mtab.length → ∀ j, j < mtab.length → (mtab[i]?).map (·.1) = (mtab[j]?).map (·.1) → i = j := by decide +kernel
theorem mheap_wA {M off k t n : Nat} {A : Nat → Nat → Int32} {B : Nat → Nat → Int64} {S : Nat → Int32} {f : Nat → Int32} (h : mtab[off]? = some (k, t, n)) (ht : ¬ t = 6) : va_up (mheap M A B S) (M + (off + 1)) (some (.inl (t, n, .inl f))) = mheap M (va_up A k f) B S := by
  funext a
  by_cases e : a = M + (off + 1)
  · subst e
    rw [va_up_self, mheap_a, h]
    simp [mcell, ht, va_up_self]
  · rw [va_up_ne _ _ e]
    unfold mheap
    by_cases e1 : a = M
    · rw [if_pos e1, if_pos e1]
    · rw [if_neg e1, if_neg e1]
      by_cases e2 : a < M
      · rw [if_pos e2, if_pos e2]
      · rw [if_neg e2, if_neg e2]
        cases hq : mtab[a - M - 1]? with
        | none => rfl
        | some q =>
          have hl := (List.getElem?_eq_some_iff.mp hq).1
          have hl2 := (List.getElem?_eq_some_iff.mp h).1
          have hk : q.1 ≠ k := by
            intro hk
            have := mtab_inj _ hl _ hl2 (by rw [hq, h]; simp [hk])
            omega
          simp [mcell, va_up_ne _ _ hk]
theorem mheap_wB {M off k n : Nat} {A : Nat → Nat → Int32} {B : Nat → Nat → Int64} {S : Nat → Int32} {f : Nat → Int64} (h : mtab[off]? = some (k, 6, n)) : va_up (mheap M A B S) (M + (off + 1)) (some (.inl (6, n, .inr (.inr f)))) = mheap M A (va_up B k f) S := by
  funext a
  by_cases e : a = M + (off + 1)
  · subst e
    rw [va_up_self, mheap_a, h]
    simp [mcell, va_up_self]
  · rw [va_up_ne _ _ e]
    unfold mheap
    by_cases e1 : a = M
    · rw [if_pos e1, if_pos e1]
    · rw [if_neg e1, if_neg e1]
      by_cases e2 : a < M
      · rw [if_pos e2, if_pos e2]
      · rw [if_neg e2, if_neg e2]
        cases hq : mtab[a - M - 1]? with
        | none => rfl
        | some q =>
          have hl := (List.getElem?_eq_some_iff.mp hq).1
          have hl2 := (List.getElem?_eq_some_iff.mp h).1
          have hk : q.1 ≠ k := by
            intro hk
            have := mtab_inj _ hl _ hl2 (by rw [hq, h]; simp [hk])
            omega
          simp [mcell, va_up_ne _ _ hk]
theorem mheap_wS {M k : Nat} {A : Nat → Nat → Int32} {B : Nat → Nat → Int64} {S : Nat → Int32} {v : Int32} (h : (mfl M S).set k (.int v) = mfl M (va_up S k v)) : va_up (mheap M A B S) M (some (.inr (10, (mfl M S).set k (.int v)))) = mheap M A B (va_up S k v) := by
  funext a
  by_cases e : a = M
  · subst e
    rw [va_up_self, mheap_M, h]
  · rw [va_up_ne _ _ e]
    unfold mheap
    rw [if_neg e, if_neg e]
section MH
variable {M : Nat} {A : Nat → Nat → Int32} {B : Nat → Nat → Int64} {S : Nat → Int32} {r : xM × Nat × Nat × Nat}
theorem m_gR {k off : Nat} {K : Option Nat → xS → Prop} (h : (mfl M S)[k]? = some (va_rf (some (M + off)))) : xgR 10 k (some M) K (mheap M A B S, r) ↔ K (some (M + off)) (mheap M A B S, r) := by
  unfold xgR
  constructor
  · rintro ⟨a, fs, v, h1, h2, h3, h4⟩
    cases h1
    dsimp only at h2
    rw [mheap_M] at h2
    cases h2
    rw [h] at h3
    have : v = some (M + off) := by
      cases v with
      | none => simp [va_rf] at h3
      | some x =>
        simp only [va_rf, Option.some.injEq, Value.ref.injEq] at h3
        rw [h3]
    subst this
    exact h4
  · intro h4
    exact ⟨M, _, _, rfl, mheap_M, h, h4⟩
theorem m_gI {k : Nat} {v : Int32} {K : Int32 → xS → Prop} (h : (mfl M S)[k]? = some (.int v)) : xgI 10 k (some M) K (mheap M A B S, r) ↔ K v (mheap M A B S, r) := by
  unfold xgI
  constructor
  · rintro ⟨a, fs, v', h1, h2, h3, h4⟩
    cases h1
    dsimp only at h2
    rw [mheap_M] at h2
    cases h2
    rw [h] at h3
    cases h3
    exact h4
  · intro h4
    exact ⟨M, _, _, rfl, mheap_M, h, h4⟩
theorem m_pI {k : Nat} {v : Int32} {K : xS → Prop} (hl : k < (mfl M S).length) (h : (mfl M S).set k (.int v) = mfl M (va_up S k v)) : xpI 10 k (some M) v K (mheap M A B S, r) ↔ K (mheap M A B (va_up S k v), r) := by
  unfold xpI
  constructor
  · rintro ⟨a, fs, h1, h2, h3, h4⟩
    cases h1
    dsimp only at h2
    rw [mheap_M] at h2
    cases h2
    dsimp only at h4
    rw [mheap_wS h] at h4
    exact h4
  · intro h4
    refine ⟨M, _, rfl, mheap_M, hl, ?_⟩
    dsimp only
    rw [mheap_wS h]
    exact h4
theorem m_pZ {k : Nat} {v : Int32} {K : xS → Prop} (hl : k < (mfl M S).length) (h : (mfl M S).set k (.int v) = mfl M (va_up S k v)) : xpZ 10 k (some M) v K (mheap M A B S, r) ↔ (v = 0 ∨ v = 1) ∧ K (mheap M A B (va_up S k v), r) := by
  unfold xpZ
  constructor
  · rintro ⟨a, fs, h1, h2, h3, hz, h4⟩
    cases h1
    dsimp only at h2
    rw [mheap_M] at h2
    cases h2
    dsimp only at h4
    rw [mheap_wS h] at h4
    exact ⟨hz, h4⟩
  · rintro ⟨hz, h4⟩
    refine ⟨M, _, rfl, mheap_M, hl, hz, ?_⟩
    dsimp only
    rw [mheap_wS h]
    exact h4
theorem m_rA {k off t n : Nat} {i : Int32} {K : Int32 → xS → Prop} (h : mtab[off]? = some (k, t, n)) (ht : ¬ t = 6) : xal t (some (M + (off + 1))) i K (mheap M A B S, r) ↔ vp_in i n ∧ K (A k i.toNatClampNeg) (mheap M A B S, r) := by
  unfold xal
  have e : mheap M A B S (M + (off + 1)) = some (.inl (t, n, .inl (A k))) := by rw [mheap_a, h]; simp [mcell, ht]
  constructor
  · rintro ⟨a, n', f, h1, h2, h3, h4⟩
    cases h1
    dsimp only at h2
    rw [e] at h2
    cases h2
    exact ⟨h3, h4⟩
  · rintro ⟨h3, h4⟩
    exact ⟨_, _, _, rfl, e, h3, h4⟩
theorem m_rB {k off n : Nat} {i : Int32} {K : Int64 → xS → Prop} (h : mtab[off]? = some (k, 6, n)) : xalL 6 (some (M + (off + 1))) i K (mheap M A B S, r) ↔ vp_in i n ∧ K (B k i.toNatClampNeg) (mheap M A B S, r) := by
  unfold xalL
  have e : mheap M A B S (M + (off + 1)) = some (.inl (6, n, .inr (.inr (B k)))) := by rw [mheap_a, h]; simp [mcell]
  constructor
  · rintro ⟨a, n', f, h1, h2, h3, h4⟩
    cases h1
    dsimp only at h2
    rw [e] at h2
    cases h2
    exact ⟨h3, h4⟩
  · rintro ⟨h3, h4⟩
    exact ⟨_, _, _, rfl, e, h3, h4⟩
theorem m_wA {k off n : Nat} {i v : Int32} {K : xS → Prop} (h : mtab[off]? = some (k, 0, n)) : xas 0 (some (M + (off + 1))) i v K (mheap M A B S, r) ↔ vp_in i n ∧ K (mheap M (va_up A k (va_up (A k) i.toNatClampNeg v)) B S, r) := by
  unfold xas
  have e : mheap M A B S (M + (off + 1)) = some (.inl (0, n, .inl (A k))) := by rw [mheap_a, h]; simp [mcell]
  constructor
  · rintro ⟨a, n', f, h1, h2, h3, h4⟩
    cases h1
    dsimp only at h2
    rw [e] at h2
    cases h2
    dsimp only at h4
    rw [mheap_wA h (by decide)] at h4
    exact ⟨h3, h4⟩
  · rintro ⟨h3, h4⟩
    refine ⟨_, _, _, rfl, e, h3, ?_⟩
    dsimp only
    rw [mheap_wA h (by decide)]
    exact h4
theorem m_wZ {k off n : Nat} {i v : Int32} {K : xS → Prop} (h : mtab[off]? = some (k, 1, n)) : xasZ 1 (some (M + (off + 1))) i v K (mheap M A B S, r) ↔ vp_in i n ∧ (v = 0 ∨ v = 1) ∧ K (mheap M (va_up A k (va_up (A k) i.toNatClampNeg v)) B S, r) := by
  unfold xasZ
  have e : mheap M A B S (M + (off + 1)) = some (.inl (1, n, .inl (A k))) := by rw [mheap_a, h]; simp [mcell]
  constructor
  · rintro ⟨a, n', f, h1, h2, h3, hz, h4⟩
    cases h1
    dsimp only at h2
    rw [e] at h2
    cases h2
    dsimp only at h4
    rw [mheap_wA h (by decide)] at h4
    exact ⟨h3, hz, h4⟩
  · rintro ⟨h3, hz, h4⟩
    refine ⟨_, _, _, rfl, e, h3, hz, ?_⟩
    dsimp only
    rw [mheap_wA h (by decide)]
    exact h4
theorem m_wB {k off n : Nat} {i : Int32} {v : Int64} {K : xS → Prop} (h : mtab[off]? = some (k, 6, n)) : xasL 6 (some (M + (off + 1))) i v K (mheap M A B S, r) ↔ vp_in i n ∧ K (mheap M A (va_up B k (va_up (B k) i.toNatClampNeg v)) S, r) := by
  unfold xasL
  have e : mheap M A B S (M + (off + 1)) = some (.inl (6, n, .inr (.inr (B k)))) := by rw [mheap_a, h]; simp [mcell]
  constructor
  · rintro ⟨a, n', f, h1, h2, h3, h4⟩
    cases h1
    dsimp only at h2
    rw [e] at h2
    cases h2
    dsimp only at h4
    rw [mheap_wB h] at h4
    exact ⟨h3, h4⟩
  · rintro ⟨h3, h4⟩
    refine ⟨_, _, _, rfl, e, h3, ?_⟩
    dsimp only
    rw [mheap_wB h]
    exact h4
theorem m_ob {K : Nat → xS → Prop} : xob 10 (some M) K (mheap M A B S, r) ↔ K M (mheap M A B S, r) := by
  unfold xob
  constructor
  · rintro ⟨b, fs, h1, h2, h3⟩
    cases h1
    exact h3
  · intro h
    exact ⟨M, _, rfl, mheap_M, h⟩
theorem m_call {ρ : Type} {m o : xM} {nx cb sb : Nat} {P : (ρ → xS → Prop) → xS → Prop} {K : ρ → xS → Prop} : xcall 0 0 P K (m, o, nx, cb, sb) ↔ P (fun r G' => K r (G'.1, G'.2.1, G'.2.2.1, cb, sb)) (m, o, nx, 0, 0) := by
  unfold xcall
  exact ⟨fun h => h.2.2, fun h => ⟨Nat.zero_le _, Nat.zero_le _, h⟩⟩
theorem m_g0 {K : Option Nat → xS → Prop} : xgR 10 0 (some M) K (mheap M A B S, r) ↔ K (some (M + 1)) (mheap M A B S, r) := m_gR rfl
theorem m_r0 {i : Int32} {K : Int32 → xS → Prop} : xal 0 (some (M + 1)) i K (mheap M A B S, r) ↔ vp_in i 10 ∧ K (A 0 i.toNatClampNeg) (mheap M A B S, r) := m_rA (off := 0) rfl (by decide)
theorem m_w0 {i v : Int32} {K : xS → Prop} : xas 0 (some (M + 1)) i v K (mheap M A B S, r) ↔ vp_in i 10 ∧ K (mheap M (va_up A 0 (va_up (A 0) i.toNatClampNeg v)) B S, r) := m_wA (off := 0) rfl
theorem m_g1 {K : Option Nat → xS → Prop} : xgR 10 1 (some M) K (mheap M A B S, r) ↔ K (some (M + 2)) (mheap M A B S, r) := m_gR rfl
theorem m_r1 {i : Int32} {K : Int32 → xS → Prop} : xal 0 (some (M + 2)) i K (mheap M A B S, r) ↔ vp_in i 10 ∧ K (A 1 i.toNatClampNeg) (mheap M A B S, r) := m_rA (off := 1) rfl (by decide)
theorem m_w1 {i v : Int32} {K : xS → Prop} : xas 0 (some (M + 2)) i v K (mheap M A B S, r) ↔ vp_in i 10 ∧ K (mheap M (va_up A 1 (va_up (A 1) i.toNatClampNeg v)) B S, r) := m_wA (off := 1) rfl
theorem m_g2 {K : Option Nat → xS → Prop} : xgR 10 2 (some M) K (mheap M A B S, r) ↔ K (some (M + 3)) (mheap M A B S, r) := m_gR rfl
theorem m_r2 {i : Int32} {K : Int32 → xS → Prop} : xal 0 (some (M + 3)) i K (mheap M A B S, r) ↔ vp_in i 10 ∧ K (A 2 i.toNatClampNeg) (mheap M A B S, r) := m_rA (off := 2) rfl (by decide)
theorem m_w2 {i v : Int32} {K : xS → Prop} : xas 0 (some (M + 3)) i v K (mheap M A B S, r) ↔ vp_in i 10 ∧ K (mheap M (va_up A 2 (va_up (A 2) i.toNatClampNeg v)) B S, r) := m_wA (off := 2) rfl
theorem m_g3 {K : Option Nat → xS → Prop} : xgR 10 3 (some M) K (mheap M A B S, r) ↔ K (some (M + 4)) (mheap M A B S, r) := m_gR rfl
theorem m_r3 {i : Int32} {K : Int32 → xS → Prop} : xal 0 (some (M + 4)) i K (mheap M A B S, r) ↔ vp_in i 40 ∧ K (A 3 i.toNatClampNeg) (mheap M A B S, r) := m_rA (off := 3) rfl (by decide)
theorem m_w3 {i v : Int32} {K : xS → Prop} : xas 0 (some (M + 4)) i v K (mheap M A B S, r) ↔ vp_in i 40 ∧ K (mheap M (va_up A 3 (va_up (A 3) i.toNatClampNeg v)) B S, r) := m_wA (off := 3) rfl
theorem m_g4 {K : Option Nat → xS → Prop} : xgR 10 4 (some M) K (mheap M A B S, r) ↔ K (some (M + 5)) (mheap M A B S, r) := m_gR rfl
theorem m_r4 {i : Int32} {K : Int32 → xS → Prop} : xal 0 (some (M + 5)) i K (mheap M A B S, r) ↔ vp_in i 40 ∧ K (A 4 i.toNatClampNeg) (mheap M A B S, r) := m_rA (off := 4) rfl (by decide)
theorem m_w4 {i v : Int32} {K : xS → Prop} : xas 0 (some (M + 5)) i v K (mheap M A B S, r) ↔ vp_in i 40 ∧ K (mheap M (va_up A 4 (va_up (A 4) i.toNatClampNeg v)) B S, r) := m_wA (off := 4) rfl
theorem m_g5 {K : Option Nat → xS → Prop} : xgR 10 5 (some M) K (mheap M A B S, r) ↔ K (some (M + 6)) (mheap M A B S, r) := m_gR rfl
theorem m_r5 {i : Int32} {K : Int64 → xS → Prop} : xalL 6 (some (M + 6)) i K (mheap M A B S, r) ↔ vp_in i 40 ∧ K (B 5 i.toNatClampNeg) (mheap M A B S, r) := m_rB (off := 5) rfl
theorem m_w5 {i : Int32} {v : Int64} {K : xS → Prop} : xasL 6 (some (M + 6)) i v K (mheap M A B S, r) ↔ vp_in i 40 ∧ K (mheap M A (va_up B 5 (va_up (B 5) i.toNatClampNeg v)) S, r) := m_wB (off := 5) rfl
theorem m_g6 {K : Int32 → xS → Prop} : xgI 10 6 (some M) K (mheap M A B S, r) ↔ K (S 6) (mheap M A B S, r) := m_gI rfl
theorem m_p6 {v : Int32} {K : xS → Prop} : xpI 10 6 (some M) v K (mheap M A B S, r) ↔ K (mheap M A B (va_up S 6 v), r) := m_pI (Nat.le_of_ble_eq_true rfl) rfl
theorem m_g7 {K : Int32 → xS → Prop} : xgI 10 7 (some M) K (mheap M A B S, r) ↔ K (S 7) (mheap M A B S, r) := m_gI rfl
theorem m_p7 {v : Int32} {K : xS → Prop} : xpI 10 7 (some M) v K (mheap M A B S, r) ↔ K (mheap M A B (va_up S 7 v), r) := m_pI (Nat.le_of_ble_eq_true rfl) rfl
theorem m_g8 {K : Int32 → xS → Prop} : xgI 10 8 (some M) K (mheap M A B S, r) ↔ K (S 8) (mheap M A B S, r) := m_gI rfl
theorem m_p8 {v : Int32} {K : xS → Prop} : xpI 10 8 (some M) v K (mheap M A B S, r) ↔ K (mheap M A B (va_up S 8 v), r) := m_pI (Nat.le_of_ble_eq_true rfl) rfl
theorem m_g9 {K : Option Nat → xS → Prop} : xgR 10 9 (some M) K (mheap M A B S, r) ↔ K (some (M + 7)) (mheap M A B S, r) := m_gR rfl
theorem m_r9 {i : Int32} {K : Int32 → xS → Prop} : xal 0 (some (M + 7)) i K (mheap M A B S, r) ↔ vp_in i 16 ∧ K (A 9 i.toNatClampNeg) (mheap M A B S, r) := m_rA (off := 6) rfl (by decide)
theorem m_w9 {i v : Int32} {K : xS → Prop} : xas 0 (some (M + 7)) i v K (mheap M A B S, r) ↔ vp_in i 16 ∧ K (mheap M (va_up A 9 (va_up (A 9) i.toNatClampNeg v)) B S, r) := m_wA (off := 6) rfl
theorem m_g10 {K : Int32 → xS → Prop} : xgI 10 10 (some M) K (mheap M A B S, r) ↔ K (S 10) (mheap M A B S, r) := m_gI rfl
theorem m_p10 {v : Int32} {K : xS → Prop} : xpI 10 10 (some M) v K (mheap M A B S, r) ↔ K (mheap M A B (va_up S 10 v), r) := m_pI (Nat.le_of_ble_eq_true rfl) rfl
theorem m_g11 {K : Option Nat → xS → Prop} : xgR 10 11 (some M) K (mheap M A B S, r) ↔ K (some (M + 8)) (mheap M A B S, r) := m_gR rfl
theorem m_r11 {i : Int32} {K : Int32 → xS → Prop} : xal 0 (some (M + 8)) i K (mheap M A B S, r) ↔ vp_in i 180 ∧ K (A 11 i.toNatClampNeg) (mheap M A B S, r) := m_rA (off := 7) rfl (by decide)
theorem m_w11 {i v : Int32} {K : xS → Prop} : xas 0 (some (M + 8)) i v K (mheap M A B S, r) ↔ vp_in i 180 ∧ K (mheap M (va_up A 11 (va_up (A 11) i.toNatClampNeg v)) B S, r) := m_wA (off := 7) rfl
theorem m_g12 {K : Option Nat → xS → Prop} : xgR 10 12 (some M) K (mheap M A B S, r) ↔ K (some (M + 9)) (mheap M A B S, r) := m_gR rfl
theorem m_r12 {i : Int32} {K : Int32 → xS → Prop} : xal 0 (some (M + 9)) i K (mheap M A B S, r) ↔ vp_in i 180 ∧ K (A 12 i.toNatClampNeg) (mheap M A B S, r) := m_rA (off := 8) rfl (by decide)
theorem m_w12 {i v : Int32} {K : xS → Prop} : xas 0 (some (M + 9)) i v K (mheap M A B S, r) ↔ vp_in i 180 ∧ K (mheap M (va_up A 12 (va_up (A 12) i.toNatClampNeg v)) B S, r) := m_wA (off := 8) rfl
theorem m_g13 {K : Option Nat → xS → Prop} : xgR 10 13 (some M) K (mheap M A B S, r) ↔ K (some (M + 10)) (mheap M A B S, r) := m_gR rfl
theorem m_r13 {i : Int32} {K : Int32 → xS → Prop} : xal 0 (some (M + 10)) i K (mheap M A B S, r) ↔ vp_in i 180 ∧ K (A 13 i.toNatClampNeg) (mheap M A B S, r) := m_rA (off := 9) rfl (by decide)
theorem m_w13 {i v : Int32} {K : xS → Prop} : xas 0 (some (M + 10)) i v K (mheap M A B S, r) ↔ vp_in i 180 ∧ K (mheap M (va_up A 13 (va_up (A 13) i.toNatClampNeg v)) B S, r) := m_wA (off := 9) rfl
theorem m_g14 {K : Option Nat → xS → Prop} : xgR 10 14 (some M) K (mheap M A B S, r) ↔ K (some (M + 11)) (mheap M A B S, r) := m_gR rfl
theorem m_r14 {i : Int32} {K : Int32 → xS → Prop} : xal 0 (some (M + 11)) i K (mheap M A B S, r) ↔ vp_in i 180 ∧ K (A 14 i.toNatClampNeg) (mheap M A B S, r) := m_rA (off := 10) rfl (by decide)
theorem m_w14 {i v : Int32} {K : xS → Prop} : xas 0 (some (M + 11)) i v K (mheap M A B S, r) ↔ vp_in i 180 ∧ K (mheap M (va_up A 14 (va_up (A 14) i.toNatClampNeg v)) B S, r) := m_wA (off := 10) rfl
theorem m_g15 {K : Option Nat → xS → Prop} : xgR 10 15 (some M) K (mheap M A B S, r) ↔ K (some (M + 12)) (mheap M A B S, r) := m_gR rfl
theorem m_r15 {i : Int32} {K : Int32 → xS → Prop} : xal 0 (some (M + 12)) i K (mheap M A B S, r) ↔ vp_in i 180 ∧ K (A 15 i.toNatClampNeg) (mheap M A B S, r) := m_rA (off := 11) rfl (by decide)
theorem m_w15 {i v : Int32} {K : xS → Prop} : xas 0 (some (M + 12)) i v K (mheap M A B S, r) ↔ vp_in i 180 ∧ K (mheap M (va_up A 15 (va_up (A 15) i.toNatClampNeg v)) B S, r) := m_wA (off := 11) rfl
theorem m_g16 {K : Option Nat → xS → Prop} : xgR 10 16 (some M) K (mheap M A B S, r) ↔ K (some (M + 13)) (mheap M A B S, r) := m_gR rfl
theorem m_r16 {i : Int32} {K : Int32 → xS → Prop} : xal 1 (some (M + 13)) i K (mheap M A B S, r) ↔ vp_in i 180 ∧ K (A 16 i.toNatClampNeg) (mheap M A B S, r) := m_rA (off := 12) rfl (by decide)
theorem m_w16 {i v : Int32} {K : xS → Prop} : xasZ 1 (some (M + 13)) i v K (mheap M A B S, r) ↔ vp_in i 180 ∧ (v = 0 ∨ v = 1) ∧ K (mheap M (va_up A 16 (va_up (A 16) i.toNatClampNeg v)) B S, r) := m_wZ (off := 12) rfl
theorem m_g17 {K : Option Nat → xS → Prop} : xgR 10 17 (some M) K (mheap M A B S, r) ↔ K (some (M + 14)) (mheap M A B S, r) := m_gR rfl
theorem m_r17 {i : Int32} {K : Int32 → xS → Prop} : xal 1 (some (M + 14)) i K (mheap M A B S, r) ↔ vp_in i 180 ∧ K (A 17 i.toNatClampNeg) (mheap M A B S, r) := m_rA (off := 13) rfl (by decide)
theorem m_w17 {i v : Int32} {K : xS → Prop} : xasZ 1 (some (M + 14)) i v K (mheap M A B S, r) ↔ vp_in i 180 ∧ (v = 0 ∨ v = 1) ∧ K (mheap M (va_up A 17 (va_up (A 17) i.toNatClampNeg v)) B S, r) := m_wZ (off := 13) rfl
theorem m_g18 {K : Int32 → xS → Prop} : xgI 10 18 (some M) K (mheap M A B S, r) ↔ K (S 18) (mheap M A B S, r) := m_gI rfl
theorem m_p18 {v : Int32} {K : xS → Prop} : xpI 10 18 (some M) v K (mheap M A B S, r) ↔ K (mheap M A B (va_up S 18 v), r) := m_pI (Nat.le_of_ble_eq_true rfl) rfl
theorem m_g19 {K : Int32 → xS → Prop} : xgI 10 19 (some M) K (mheap M A B S, r) ↔ K (S 19) (mheap M A B S, r) := m_gI rfl
theorem m_p19 {v : Int32} {K : xS → Prop} : xpI 10 19 (some M) v K (mheap M A B S, r) ↔ K (mheap M A B (va_up S 19 v), r) := m_pI (Nat.le_of_ble_eq_true rfl) rfl
theorem m_g20 {K : Int32 → xS → Prop} : xgI 10 20 (some M) K (mheap M A B S, r) ↔ K (S 20) (mheap M A B S, r) := m_gI rfl
theorem m_p20 {v : Int32} {K : xS → Prop} : xpI 10 20 (some M) v K (mheap M A B S, r) ↔ K (mheap M A B (va_up S 20 v), r) := m_pI (Nat.le_of_ble_eq_true rfl) rfl
theorem m_g21 {K : Int32 → xS → Prop} : xgI 10 21 (some M) K (mheap M A B S, r) ↔ K (S 21) (mheap M A B S, r) := m_gI rfl
theorem m_p21 {v : Int32} {K : xS → Prop} : xpZ 10 21 (some M) v K (mheap M A B S, r) ↔ (v = 0 ∨ v = 1) ∧ K (mheap M A B (va_up S 21 v), r) := m_pZ (Nat.le_of_ble_eq_true rfl) rfl
theorem m_g22 {K : Option Nat → xS → Prop} : xgR 10 22 (some M) K (mheap M A B S, r) ↔ K (some (M + 15)) (mheap M A B S, r) := m_gR rfl
theorem m_r22 {i : Int32} {K : Int32 → xS → Prop} : xal 0 (some (M + 15)) i K (mheap M A B S, r) ↔ vp_in i 260 ∧ K (A 22 i.toNatClampNeg) (mheap M A B S, r) := m_rA (off := 14) rfl (by decide)
theorem m_w22 {i v : Int32} {K : xS → Prop} : xas 0 (some (M + 15)) i v K (mheap M A B S, r) ↔ vp_in i 260 ∧ K (mheap M (va_up A 22 (va_up (A 22) i.toNatClampNeg v)) B S, r) := m_wA (off := 14) rfl
theorem m_g23 {K : Option Nat → xS → Prop} : xgR 10 23 (some M) K (mheap M A B S, r) ↔ K (some (M + 16)) (mheap M A B S, r) := m_gR rfl
theorem m_r23 {i : Int32} {K : Int32 → xS → Prop} : xal 0 (some (M + 16)) i K (mheap M A B S, r) ↔ vp_in i 260 ∧ K (A 23 i.toNatClampNeg) (mheap M A B S, r) := m_rA (off := 15) rfl (by decide)
theorem m_w23 {i v : Int32} {K : xS → Prop} : xas 0 (some (M + 16)) i v K (mheap M A B S, r) ↔ vp_in i 260 ∧ K (mheap M (va_up A 23 (va_up (A 23) i.toNatClampNeg v)) B S, r) := m_wA (off := 15) rfl
theorem m_g24 {K : Option Nat → xS → Prop} : xgR 10 24 (some M) K (mheap M A B S, r) ↔ K (some (M + 17)) (mheap M A B S, r) := m_gR rfl
theorem m_r24 {i : Int32} {K : Int32 → xS → Prop} : xal 0 (some (M + 17)) i K (mheap M A B S, r) ↔ vp_in i 1040 ∧ K (A 24 i.toNatClampNeg) (mheap M A B S, r) := m_rA (off := 16) rfl (by decide)
theorem m_w24 {i v : Int32} {K : xS → Prop} : xas 0 (some (M + 17)) i v K (mheap M A B S, r) ↔ vp_in i 1040 ∧ K (mheap M (va_up A 24 (va_up (A 24) i.toNatClampNeg v)) B S, r) := m_wA (off := 16) rfl
theorem m_g25 {K : Option Nat → xS → Prop} : xgR 10 25 (some M) K (mheap M A B S, r) ↔ K (some (M + 18)) (mheap M A B S, r) := m_gR rfl
theorem m_r25 {i : Int32} {K : Int32 → xS → Prop} : xal 0 (some (M + 18)) i K (mheap M A B S, r) ↔ vp_in i 1040 ∧ K (A 25 i.toNatClampNeg) (mheap M A B S, r) := m_rA (off := 17) rfl (by decide)
theorem m_w25 {i v : Int32} {K : xS → Prop} : xas 0 (some (M + 18)) i v K (mheap M A B S, r) ↔ vp_in i 1040 ∧ K (mheap M (va_up A 25 (va_up (A 25) i.toNatClampNeg v)) B S, r) := m_wA (off := 17) rfl
theorem m_g26 {K : Option Nat → xS → Prop} : xgR 10 26 (some M) K (mheap M A B S, r) ↔ K (some (M + 19)) (mheap M A B S, r) := m_gR rfl
theorem m_r26 {i : Int32} {K : Int64 → xS → Prop} : xalL 6 (some (M + 19)) i K (mheap M A B S, r) ↔ vp_in i 1040 ∧ K (B 26 i.toNatClampNeg) (mheap M A B S, r) := m_rB (off := 18) rfl
theorem m_w26 {i : Int32} {v : Int64} {K : xS → Prop} : xasL 6 (some (M + 19)) i v K (mheap M A B S, r) ↔ vp_in i 1040 ∧ K (mheap M A (va_up B 26 (va_up (B 26) i.toNatClampNeg v)) S, r) := m_wB (off := 18) rfl
theorem m_g27 {K : Int32 → xS → Prop} : xgI 10 27 (some M) K (mheap M A B S, r) ↔ K (S 27) (mheap M A B S, r) := m_gI rfl
theorem m_p27 {v : Int32} {K : xS → Prop} : xpI 10 27 (some M) v K (mheap M A B S, r) ↔ K (mheap M A B (va_up S 27 v), r) := m_pI (Nat.le_of_ble_eq_true rfl) rfl
theorem m_g28 {K : Option Nat → xS → Prop} : xgR 10 28 (some M) K (mheap M A B S, r) ↔ K (some (M + 20)) (mheap M A B S, r) := m_gR rfl
theorem m_r28 {i : Int32} {K : Int32 → xS → Prop} : xal 0 (some (M + 20)) i K (mheap M A B S, r) ↔ vp_in i 12 ∧ K (A 28 i.toNatClampNeg) (mheap M A B S, r) := m_rA (off := 19) rfl (by decide)
theorem m_w28 {i v : Int32} {K : xS → Prop} : xas 0 (some (M + 20)) i v K (mheap M A B S, r) ↔ vp_in i 12 ∧ K (mheap M (va_up A 28 (va_up (A 28) i.toNatClampNeg v)) B S, r) := m_wA (off := 19) rfl
theorem m_g29 {K : Option Nat → xS → Prop} : xgR 10 29 (some M) K (mheap M A B S, r) ↔ K (some (M + 21)) (mheap M A B S, r) := m_gR rfl
theorem m_r29 {i : Int32} {K : Int32 → xS → Prop} : xal 0 (some (M + 21)) i K (mheap M A B S, r) ↔ vp_in i 12 ∧ K (A 29 i.toNatClampNeg) (mheap M A B S, r) := m_rA (off := 20) rfl (by decide)
theorem m_w29 {i v : Int32} {K : xS → Prop} : xas 0 (some (M + 21)) i v K (mheap M A B S, r) ↔ vp_in i 12 ∧ K (mheap M (va_up A 29 (va_up (A 29) i.toNatClampNeg v)) B S, r) := m_wA (off := 20) rfl
theorem m_g30 {K : Option Nat → xS → Prop} : xgR 10 30 (some M) K (mheap M A B S, r) ↔ K (some (M + 22)) (mheap M A B S, r) := m_gR rfl
theorem m_r30 {i : Int32} {K : Int32 → xS → Prop} : xal 0 (some (M + 22)) i K (mheap M A B S, r) ↔ vp_in i 12 ∧ K (A 30 i.toNatClampNeg) (mheap M A B S, r) := m_rA (off := 21) rfl (by decide)
theorem m_w30 {i v : Int32} {K : xS → Prop} : xas 0 (some (M + 22)) i v K (mheap M A B S, r) ↔ vp_in i 12 ∧ K (mheap M (va_up A 30 (va_up (A 30) i.toNatClampNeg v)) B S, r) := m_wA (off := 21) rfl
theorem m_g31 {K : Option Nat → xS → Prop} : xgR 10 31 (some M) K (mheap M A B S, r) ↔ K (some (M + 23)) (mheap M A B S, r) := m_gR rfl
theorem m_r31 {i : Int32} {K : Int32 → xS → Prop} : xal 0 (some (M + 23)) i K (mheap M A B S, r) ↔ vp_in i 12 ∧ K (A 31 i.toNatClampNeg) (mheap M A B S, r) := m_rA (off := 22) rfl (by decide)
theorem m_w31 {i v : Int32} {K : xS → Prop} : xas 0 (some (M + 23)) i v K (mheap M A B S, r) ↔ vp_in i 12 ∧ K (mheap M (va_up A 31 (va_up (A 31) i.toNatClampNeg v)) B S, r) := m_wA (off := 22) rfl
theorem m_g32 {K : Option Nat → xS → Prop} : xgR 10 32 (some M) K (mheap M A B S, r) ↔ K (some (M + 24)) (mheap M A B S, r) := m_gR rfl
theorem m_r32 {i : Int32} {K : Int32 → xS → Prop} : xal 0 (some (M + 24)) i K (mheap M A B S, r) ↔ vp_in i 12 ∧ K (A 32 i.toNatClampNeg) (mheap M A B S, r) := m_rA (off := 23) rfl (by decide)
theorem m_w32 {i v : Int32} {K : xS → Prop} : xas 0 (some (M + 24)) i v K (mheap M A B S, r) ↔ vp_in i 12 ∧ K (mheap M (va_up A 32 (va_up (A 32) i.toNatClampNeg v)) B S, r) := m_wA (off := 23) rfl
theorem m_g33 {K : Option Nat → xS → Prop} : xgR 10 33 (some M) K (mheap M A B S, r) ↔ K (some (M + 25)) (mheap M A B S, r) := m_gR rfl
theorem m_r33 {i : Int32} {K : Int32 → xS → Prop} : xal 0 (some (M + 25)) i K (mheap M A B S, r) ↔ vp_in i 12 ∧ K (A 33 i.toNatClampNeg) (mheap M A B S, r) := m_rA (off := 24) rfl (by decide)
theorem m_w33 {i v : Int32} {K : xS → Prop} : xas 0 (some (M + 25)) i v K (mheap M A B S, r) ↔ vp_in i 12 ∧ K (mheap M (va_up A 33 (va_up (A 33) i.toNatClampNeg v)) B S, r) := m_wA (off := 24) rfl
theorem m_g34 {K : Option Nat → xS → Prop} : xgR 10 34 (some M) K (mheap M A B S, r) ↔ K (some (M + 26)) (mheap M A B S, r) := m_gR rfl
theorem m_r34 {i : Int32} {K : Int32 → xS → Prop} : xal 0 (some (M + 26)) i K (mheap M A B S, r) ↔ vp_in i 12 ∧ K (A 34 i.toNatClampNeg) (mheap M A B S, r) := m_rA (off := 25) rfl (by decide)
theorem m_w34 {i v : Int32} {K : xS → Prop} : xas 0 (some (M + 26)) i v K (mheap M A B S, r) ↔ vp_in i 12 ∧ K (mheap M (va_up A 34 (va_up (A 34) i.toNatClampNeg v)) B S, r) := m_wA (off := 25) rfl
theorem m_g35 {K : Option Nat → xS → Prop} : xgR 10 35 (some M) K (mheap M A B S, r) ↔ K (some (M + 27)) (mheap M A B S, r) := m_gR rfl
theorem m_r35 {i : Int32} {K : Int32 → xS → Prop} : xal 0 (some (M + 27)) i K (mheap M A B S, r) ↔ vp_in i 12 ∧ K (A 35 i.toNatClampNeg) (mheap M A B S, r) := m_rA (off := 26) rfl (by decide)
theorem m_w35 {i v : Int32} {K : xS → Prop} : xas 0 (some (M + 27)) i v K (mheap M A B S, r) ↔ vp_in i 12 ∧ K (mheap M (va_up A 35 (va_up (A 35) i.toNatClampNeg v)) B S, r) := m_wA (off := 26) rfl
theorem m_g36 {K : Int32 → xS → Prop} : xgI 10 36 (some M) K (mheap M A B S, r) ↔ K (S 36) (mheap M A B S, r) := m_gI rfl
theorem m_p36 {v : Int32} {K : xS → Prop} : xpI 10 36 (some M) v K (mheap M A B S, r) ↔ K (mheap M A B (va_up S 36 v), r) := m_pI (Nat.le_of_ble_eq_true rfl) rfl
theorem m_g37 {K : Int32 → xS → Prop} : xgI 10 37 (some M) K (mheap M A B S, r) ↔ K (S 37) (mheap M A B S, r) := m_gI rfl
theorem m_p37 {v : Int32} {K : xS → Prop} : xpI 10 37 (some M) v K (mheap M A B S, r) ↔ K (mheap M A B (va_up S 37 v), r) := m_pI (Nat.le_of_ble_eq_true rfl) rfl
theorem m_g38 {K : Option Nat → xS → Prop} : xgR 10 38 (some M) K (mheap M A B S, r) ↔ K (some (M + 28)) (mheap M A B S, r) := m_gR rfl
theorem m_r38 {i : Int32} {K : Int32 → xS → Prop} : xal 1 (some (M + 28)) i K (mheap M A B S, r) ↔ vp_in i 120 ∧ K (A 38 i.toNatClampNeg) (mheap M A B S, r) := m_rA (off := 27) rfl (by decide)
theorem m_w38 {i v : Int32} {K : xS → Prop} : xasZ 1 (some (M + 28)) i v K (mheap M A B S, r) ↔ vp_in i 120 ∧ (v = 0 ∨ v = 1) ∧ K (mheap M (va_up A 38 (va_up (A 38) i.toNatClampNeg v)) B S, r) := m_wZ (off := 27) rfl
theorem m_g39 {K : Option Nat → xS → Prop} : xgR 10 39 (some M) K (mheap M A B S, r) ↔ K (some (M + 29)) (mheap M A B S, r) := m_gR rfl
theorem m_r39 {i : Int32} {K : Int32 → xS → Prop} : xal 0 (some (M + 29)) i K (mheap M A B S, r) ↔ vp_in i 120 ∧ K (A 39 i.toNatClampNeg) (mheap M A B S, r) := m_rA (off := 28) rfl (by decide)
theorem m_w39 {i v : Int32} {K : xS → Prop} : xas 0 (some (M + 29)) i v K (mheap M A B S, r) ↔ vp_in i 120 ∧ K (mheap M (va_up A 39 (va_up (A 39) i.toNatClampNeg v)) B S, r) := m_wA (off := 28) rfl
theorem m_g40 {K : Option Nat → xS → Prop} : xgR 10 40 (some M) K (mheap M A B S, r) ↔ K (some (M + 30)) (mheap M A B S, r) := m_gR rfl
theorem m_r40 {i : Int32} {K : Int32 → xS → Prop} : xal 0 (some (M + 30)) i K (mheap M A B S, r) ↔ vp_in i 180 ∧ K (A 40 i.toNatClampNeg) (mheap M A B S, r) := m_rA (off := 29) rfl (by decide)
theorem m_w40 {i v : Int32} {K : xS → Prop} : xas 0 (some (M + 30)) i v K (mheap M A B S, r) ↔ vp_in i 180 ∧ K (mheap M (va_up A 40 (va_up (A 40) i.toNatClampNeg v)) B S, r) := m_wA (off := 29) rfl
theorem m_g41 {K : Option Nat → xS → Prop} : xgR 10 41 (some M) K (mheap M A B S, r) ↔ K (some (M + 31)) (mheap M A B S, r) := m_gR rfl
theorem m_r41 {i : Int32} {K : Int32 → xS → Prop} : xal 0 (some (M + 31)) i K (mheap M A B S, r) ↔ vp_in i 180 ∧ K (A 41 i.toNatClampNeg) (mheap M A B S, r) := m_rA (off := 30) rfl (by decide)
theorem m_w41 {i v : Int32} {K : xS → Prop} : xas 0 (some (M + 31)) i v K (mheap M A B S, r) ↔ vp_in i 180 ∧ K (mheap M (va_up A 41 (va_up (A 41) i.toNatClampNeg v)) B S, r) := m_wA (off := 30) rfl
theorem m_g42 {K : Option Nat → xS → Prop} : xgR 10 42 (some M) K (mheap M A B S, r) ↔ K (some (M + 32)) (mheap M A B S, r) := m_gR rfl
theorem m_r42 {i : Int32} {K : Int32 → xS → Prop} : xal 0 (some (M + 32)) i K (mheap M A B S, r) ↔ vp_in i 180 ∧ K (A 42 i.toNatClampNeg) (mheap M A B S, r) := m_rA (off := 31) rfl (by decide)
theorem m_w42 {i v : Int32} {K : xS → Prop} : xas 0 (some (M + 32)) i v K (mheap M A B S, r) ↔ vp_in i 180 ∧ K (mheap M (va_up A 42 (va_up (A 42) i.toNatClampNeg v)) B S, r) := m_wA (off := 31) rfl
theorem m_g43 {K : Option Nat → xS → Prop} : xgR 10 43 (some M) K (mheap M A B S, r) ↔ K (some (M + 33)) (mheap M A B S, r) := m_gR rfl
theorem m_r43 {i : Int32} {K : Int32 → xS → Prop} : xal 0 (some (M + 33)) i K (mheap M A B S, r) ↔ vp_in i 180 ∧ K (A 43 i.toNatClampNeg) (mheap M A B S, r) := m_rA (off := 32) rfl (by decide)
theorem m_w43 {i v : Int32} {K : xS → Prop} : xas 0 (some (M + 33)) i v K (mheap M A B S, r) ↔ vp_in i 180 ∧ K (mheap M (va_up A 43 (va_up (A 43) i.toNatClampNeg v)) B S, r) := m_wA (off := 32) rfl
theorem m_g44 {K : Int32 → xS → Prop} : xgI 10 44 (some M) K (mheap M A B S, r) ↔ K (S 44) (mheap M A B S, r) := m_gI rfl
theorem m_p44 {v : Int32} {K : xS → Prop} : xpI 10 44 (some M) v K (mheap M A B S, r) ↔ K (mheap M A B (va_up S 44 v), r) := m_pI (Nat.le_of_ble_eq_true rfl) rfl
end MH
