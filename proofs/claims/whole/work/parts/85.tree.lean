/-! A COMPLETE QUERY: where parts stand -/
def scn (pt : Nat → Nat) : Nat → Nat → Nat → Nat
  | 0, x, _ => x
  | _ + 1, x, 0 => x
  | f + 1, x, d + 1 => scn pt f (x + 1) (d + pt x)
theorem scn_0 {pt : Nat → Nat} : ∀ (f x : Nat), scn pt f x 0 = x
  | 0, _ => rfl
  | _ + 1, _ => rfl
theorem scn_le {pt : Nat → Nat} : ∀ (f x d : Nat), x ≤ scn pt f x d ∧ scn pt f x d ≤ x + f
  | 0, x, d => ⟨Nat.le_refl _, Nat.le_refl _⟩
  | f + 1, x, 0 => by rw [scn_0]; omega
  | f + 1, x, d + 1 => by
    have := scn_le (pt := pt) f (x + 1) (d + pt x)
    show x ≤ scn pt f (x + 1) (d + pt x) ∧ scn pt f (x + 1) (d + pt x) ≤ x + (f + 1)
    omega
theorem scn_add {pt : Nat → Nat} {T : Nat} : ∀ (f x a b : Nat), x + f = T → scn pt f x (a + b) = scn pt (T - scn pt f x a) (scn pt f x a) b
  | 0, x, a, b, h => by
    show x = scn pt (T - x) x b
    rw [show T - x = 0 by omega]
    rfl
  | f + 1, x, 0, b, h => by rw [scn_0, Nat.zero_add, show T - x = f + 1 by omega]
  | f + 1, x, a + 1, b, h => by
    have ih := scn_add (pt := pt) (T := T) f (x + 1) (a + pt x) b (by omega)
    rw [show a + 1 + b = (a + b) + 1 by omega]
    show scn pt f (x + 1) (a + b + pt x) = scn pt (T - scn pt f (x + 1) (a + pt x)) (scn pt f (x + 1) (a + pt x)) b
    rw [← ih]
    congr 1
    omega
/-- behind a token and its parts -/
def Ef (pt : Nat → Nat) (T t : Nat) : Nat := scn pt (T - t) t 1
theorem Ef_lt {pt : Nat → Nat} {T t : Nat} (h : t < T) : t < Ef pt T t ∧ Ef pt T t ≤ T := by
  unfold Ef
  obtain ⟨f, hf⟩ : ∃ f, T - t = f + 1 := ⟨T - t - 1, by omega⟩
  rw [hf]
  have := scn_le (pt := pt) f (t + 1) (0 + pt t)
  show t < scn pt f (t + 1) (0 + pt t) ∧ scn pt f (t + 1) (0 + pt t) ≤ T
  omega
theorem Ef_eq {pt : Nat → Nat} {T t : Nat} (h : t < T) : Ef pt T t = scn pt (T - (t + 1)) (t + 1) (pt t) := by
  unfold Ef
  obtain ⟨f, hf⟩ : ∃ f, T - t = f + 1 := ⟨T - t - 1, by omega⟩
  rw [hf, show T - (t + 1) = f by omega]
  show scn pt f (t + 1) (0 + pt t) = _
  rw [Nat.zero_add]
theorem Ef_0 {pt : Nat → Nat} {T t : Nat} (h : t < T) (hp : pt t = 0) : Ef pt T t = t + 1 := by rw [Ef_eq h, hp, scn_0]
theorem Ef_1 {pt : Nat → Nat} {T t : Nat} (h : t < T) (hp : pt t = 1) : Ef pt T t = Ef pt T (t + 1) := by rw [Ef_eq h, hp]; rfl
theorem Ef_2 {pt : Nat → Nat} {T t : Nat} (h : t < T) (hp : pt t = 2) : Ef pt T t = Ef pt T (Ef pt T (t + 1)) := by
  rw [Ef_eq h, hp, show 2 = 1 + 1 from rfl, scn_add (T := T) _ _ _ _ (by omega)]
  rfl
theorem take_drop_app {α : Type} {l : List α} {r : List α} {n : Nat} (h : n + 1 ≤ l.length) : (l.dropLast ++ r).take n = l.take n := by
  rw [List.take_append_of_le_length (by rw [List.length_dropLast]; omega), List.dropLast_eq_take, List.take_take, Nat.min_eq_left (by omega)]
theorem scn_stk {pt : Nat → Nat} {T : Nat} {Ls : Nat → List Int32} {cp : Nat → Int32} (hL : ∀ t, t < T → Ls (t + 1) = (Ls t).dropLast ++ List.replicate (pt t) (cp t)) (hT : Ls T = []) (hne : ∀ t, t < T → Ls t ≠ []) : ∀ (f x a : Nat), x + f = T → a ≤ (Ls x).length → Ls (scn pt f x a) = (Ls x).take ((Ls x).length - a)
  | 0, x, a, h, ha => by
    have e : x = T := by omega
    subst e
    show Ls x = _
    rw [hT, List.take_nil]
  | f + 1, x, 0, h, ha => by rw [scn_0, Nat.sub_zero, List.take_length]
  | f + 1, x, a + 1, h, ha => by
    have hx : x < T := by omega
    have e := hL x hx
    have hlen : (Ls (x + 1)).length = (Ls x).length - 1 + pt x := by rw [e]; simp
    show Ls (scn pt f (x + 1) (a + pt x)) = _
    rw [scn_stk hL hT hne f (x + 1) (a + pt x) (by omega) (by omega), hlen, e, show (Ls x).length - 1 + pt x - (a + pt x) = (Ls x).length - (a + 1) by omega, take_drop_app (by omega)]
/-- what a complete query is -/
def Qc (A : Nat → Nat → Int32) (T : Nat) : Prop :=
  0 < T ∧ T ≤ 12 ∧ A 31 0 = 0 ∧ (∀ t, t < T → tokV (A 28 t) (A 29 t) (A 30 t) = 1 ∧ (A 28 t = 8 → parI (A 29 t) = A 31 t)) ∧
  (∀ t, t < T → 1 ≤ prtN (A 28 t) → t + 1 < T ∧ A 31 (t + 1) = cpI A t) ∧
  ∀ t, t < T → prtN (A 28 t) = 2 → Ef (fun t => prtN (A 28 t)) T (t + 1) < T ∧ A 31 (Ef (fun t => prtN (A 28 t)) T (t + 1)) = cpI A t
theorem Rq_com {cs : Nat → Int32} {ca A : Nat → Nat → Int32} {S : Nat → Int32} (h : Rq cs ca A S) : ∃ T, T ≤ 12 ∧ cs 2204 = nI T ∧ S 36 = nI T ∧ cs 2206 = S 37 ∧ (∃ W, W ≤ 13 ∧ S 37 = nI W) ∧ (T = 0 → S 37 ≠ 0) ∧ (∀ t, t < T → ca 23 t = A 28 t ∧ ca 24 t = A 29 t ∧ ca 25 t = A 30 t ∧ ca 26 t = A 31 t) ∧ (S 37 = 0 → Qc A T) := by
  obtain ⟨T, Ls, op, h1, h2, h3, h4, h5, hrow, hL0, hLs, hi, hp, hlen, hnst⟩ := h
  have hl := hlen T (Nat.le_refl _)
  refine ⟨T, h1, h2, h3, h4.trans h5.symm, ⟨_, by omega, h5⟩, fun e => ?_, fun t ht => ⟨(hrow t ht).1, (hrow t ht).2.1, (hrow t ht).2.2.1, (hrow t ht).2.2.2.1⟩, fun e => ?_⟩
  · subst e
    rw [h5, hL0]
    decide
  · have hT0 : Ls T = [] := by
      rw [h5] at e
      have := (nI_eq (b := 0) (by omega) (by decide)).mp e
      exact List.eq_nil_of_length_eq_zero this
    have hTp : 0 < T := by
      rcases Nat.eq_zero_or_pos T with z | z
      · subst z; rw [hL0] at hT0; cases hT0
      · exact z
    have hne : ∀ t, t < T → Ls t ≠ [] := fun t ht q => by
      have := (hLs t ht).2
      rw [q] at this
      cases this
    have hL : ∀ t, t < T → Ls (t + 1) = (Ls t).dropLast ++ List.replicate (prtN (A 28 t)) (cpI A t) := fun t ht => (hLs t ht).1
    have at' : ∀ t, t < T → (Ls t).getLast? = some (A 31 t) := fun t ht => (hLs t ht).2
    have l1 : ∀ t, t < T → (Ls (t + 1)).length = (Ls t).length - 1 + prtN (A 28 t) := fun t ht => by rw [hL t ht]; simp
    refine ⟨hTp, h1, ?_, fun t ht => ⟨(hrow t ht).2.2.2.2.1, hnst t ht⟩, fun t ht hp1 => ?_, fun t ht hp2 => ?_⟩
    · have := at' 0 hTp
      rw [hL0] at this
      injection this with this
      exact this.symm
    · have hlt : t + 1 < T := by
        by_cases q : t + 1 = T
        · have := l1 t ht
          rw [q, hT0] at this
          have e : ([] : List Int32).length = 0 := rfl
          omega
        · omega
      refine ⟨hlt, ?_⟩
      have := at' (t + 1) hlt
      obtain ⟨n, hn⟩ : ∃ n, prtN (A 28 t) = n + 1 := ⟨prtN (A 28 t) - 1, by omega⟩
      rw [hL t ht, hn, List.replicate_succ', ← List.append_assoc, List.getLast?_concat] at this
      injection this with this
      exact this.symm
    · have ht1 : t + 1 < T := by
        by_cases q : t + 1 = T
        · have := l1 t ht
          rw [q, hT0] at this
          have e : ([] : List Int32).length = 0 := rfl
          omega
        · omega
      have hs := scn_stk (pt := fun t => prtN (A 28 t)) (T := T) (Ls := Ls) (cp := cpI A) hL hT0 hne (T - (t + 1)) (t + 1) 1 (by omega) (by have := l1 t ht; omega)
      have hl1 := l1 t ht
      have e2 : (Ls (t + 1)).take ((Ls (t + 1)).length - 1) = (Ls t).dropLast ++ [cpI A t] := by
        rw [← List.dropLast_eq_take, hL t ht, hp2, show List.replicate 2 (cpI A t) = [cpI A t] ++ [cpI A t] from rfl, ← List.append_assoc, List.dropLast_concat]
      rw [e2] at hs
      have hs' : Ls (Ef (fun t => prtN (A 28 t)) T (t + 1)) = (Ls t).dropLast ++ [cpI A t] := hs
      have hlt : Ef (fun t => prtN (A 28 t)) T (t + 1) < T := by
        have := (Ef_lt (pt := fun t => prtN (A 28 t)) ht1).2
        by_cases q : Ef (fun t => prtN (A 28 t)) T (t + 1) = T
        · rw [q, hT0] at hs'
          exact absurd hs'.symm (by simp)
        · omega
      refine ⟨hlt, ?_⟩
      have := at' _ hlt
      rw [hs', List.getLast?_concat] at this
      injection this with this
      exact this.symm
