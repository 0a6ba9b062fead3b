/-- f and g agree but at the keys ks -/
def agr {α : Type} (ks : List Nat) (f g : Nat → α) : Prop := ∀ k, k ∉ ks → f k = g k
theorem agr.rf {α : Type} {ks : List Nat} {f : Nat → α} : agr ks f f := fun _ _ => rfl
theorem agr.up {α : Type} {ks : List Nat} {f g : Nat → α} {j : Nat} {v : α} (h : agr ks f g) (hj : j ∈ ks) : agr ks (va_up f j v) g := fun k hk => by
  rw [va_up_ne _ _ (fun e => hk (by rw [e]; exact hj))]
  exact h k hk
theorem agr.tr {α : Type} {ks : List Nat} {f g h : Nat → α} (h1 : agr ks f g) (h2 : agr ks g h) : agr ks f h := fun k hk => (h1 k hk).trans (h2 k hk)
/-- a call of both: the class's answer v, then the reference's, and they must be the same -/
def both (P : (Int32 → xS → Prop) → xS → Prop) (Q : (Int32 → xS → Prop) → xS → Prop) (NEXT : xS → Prop) : xS → Prop := P fun v => xsw (Q fun w => xsw (xif (v = w) NEXT xno))
theorem Rq_clear {cs : Nat → Int32} {ca A : Nat → Nat → Int32} {S : Nat → Int32} (h : Rq cs ca A S) : cs 2204 = S 36 ∧ Rq (va_up (va_up cs 2204 0) 2206 1) (va_up ca 27 (va_up (ca 27) 0 0)) A (va_up (va_up S 36 0) 37 1) := by
  obtain ⟨T, Ls, op, h1, h2, h3, -⟩ := h
  refine ⟨h2.trans h3.symm, 0, fun _ => [0], op, by omega, ?_, ?_, ?_, ?_, fun t ht => by omega, rfl, fun t ht => by omega, ?_, fun h => by omega, fun t ht => ?_, fun t ht => by omega⟩
  · rw [va_up_ne _ _ (by decide), va_up_self]; rfl
  · rw [va_up_ne _ _ (by decide), va_up_self]; rfl
  · rw [va_up_self]; rfl
  · rw [va_up_self]; rfl
  · intro i hi
    have : i = 0 := by simpa using hi
    subst this
    rw [va_up_self, va_up_self]
    rfl
  · show 1 ≤ t + 1; omega
theorem Rq_top {cs : Nat → Int32} {ca A : Nat → Nat → Int32} {S : Nat → Int32} {T : Nat} {Ls : Nat → List Int32} {op : Nat → Nat} (hL0 : Ls 0 = [0]) (hi : ∀ i, i < (Ls T).length → (Ls T)[i]? = some (ca 27 i)) (hp : 0 < T → pnd op (cpI A) T = Ls T) (hne : Ls T ≠ []) :
    (Ls T).getLast? = some (ca 27 ((Ls T).length - 1)) ∧ (pnd op (cpI A) T).getLastD 0 = ca 27 ((Ls T).length - 1) := by
  have hl : 0 < (Ls T).length := List.length_pos_iff.mpr hne
  have h1 : (Ls T).getLast? = some (ca 27 ((Ls T).length - 1)) := by
    rw [List.getLast?_eq_getElem?]
    exact hi _ (by omega)
  refine ⟨h1, ?_⟩
  cases T with
  | zero =>
    rw [hL0] at h1 ⊢
    show (0 : Int32) = _
    simpa using h1
  | succ t =>
    rw [hp (by omega), List.getLastD_eq_getLast?, h1]
    rfl
theorem Rq_token {cs : Nat → Int32} {ca A : Nat → Nat → Int32} {S : Nat → Int32} {T : Nat} {Ls : Nat → List Int32} {op : Nat → Nat} {k a b : Int32}
    (hT : T < 12) (h1 : cs 2204 = nI T) (h2 : S 36 = nI T) (hrow : ∀ t, t < T → ca 23 t = A 28 t ∧ ca 24 t = A 29 t ∧ ca 25 t = A 30 t ∧ ca 26 t = A 31 t ∧ tokV (A 28 t) (A 29 t) (A 30 t) = 1 ∧ A 33 t = nI (op t) ∧ op t ≤ 2) (hL0 : Ls 0 = [0]) (hLs : ∀ t, t < T → Ls (t + 1) = (Ls t).dropLast ++ List.replicate (prtN (A 28 t)) (cpI A t) ∧ (Ls t).getLast? = some (A 31 t))
    (hi : ∀ i, i < (Ls T).length → (Ls T)[i]? = some (ca 27 i)) (hp : 0 < T → pnd op (cpI A) T = Ls T) (hlen : ∀ t, t ≤ T → (Ls t).length ≤ t + 1) (hne : Ls T ≠ []) (htok : tokV k a b = 1) {W : Nat} (hW : W = (Ls T).length) (hnst : ∀ t, t < T → A 28 t = 8 → parI (A 29 t) = A 31 t) (hk8 : k = 8 → parI a = ca 27 (W - 1)) :
    Rq (va_up (va_up cs 2204 (nI (T + 1))) 2206 (nI (W - 1 + prtN k)))
      (va_up (va_up (va_up (va_up (va_up ca 23 (va_up (ca 23) T k)) 24 (va_up (ca 24) T a)) 25 (va_up (ca 25) T b)) 26 (va_up (ca 26) T (ca 27 (W - 1)))) 27 (fillA (ca 27) (W - 1) (prtN k) (if k = 8 then a else ca 27 (W - 1))))
      (va_up (va_up (va_up (va_up (va_up (decH A op (lastOp op T)) 28 (va_up (A 28) T k)) 29 (va_up (A 29) T a)) 30 (va_up (A 30) T b)) 31 (va_up (A 31) T (ca 27 (W - 1)))) 33 (va_up (decH A op (lastOp op T) 33) T (nI (prtN k))))
      (va_up (va_up S 36 (nI (T + 1))) 37 (nI (W - 1 + prtN k))) := by
  subst hW
  have hl : 0 < (Ls T).length := List.length_pos_iff.mpr hne
  obtain ⟨ht1, ht2⟩ := Rq_top (cs := cs) (S := S) hL0 hi hp hne
  generalize htop : ca 27 ((Ls T).length - 1) = top at *
  have hp2 : prtN k ≤ 2 := by unfold prtN; split <;> (try split) <;> omega
  -- the new heap of the reference
  generalize hA' : (va_up (va_up (va_up (va_up (va_up (decH A op (lastOp op T)) 28 (va_up (A 28) T k)) 29 (va_up (A 29) T a)) 30 (va_up (A 30) T b)) 31 (va_up (A 31) T top)) 33 (va_up (decH A op (lastOp op T) 33) T (nI (prtN k)))) = A'
  have a28 : A' 28 = va_up (A 28) T k := by rw [← hA', va_up_ne _ _ (by decide), va_up_ne _ _ (by decide), va_up_ne _ _ (by decide), va_up_ne _ _ (by decide), va_up_self]
  have a29 : A' 29 = va_up (A 29) T a := by rw [← hA', va_up_ne _ _ (by decide), va_up_ne _ _ (by decide), va_up_ne _ _ (by decide), va_up_self]
  have a30 : A' 30 = va_up (A 30) T b := by rw [← hA', va_up_ne _ _ (by decide), va_up_ne _ _ (by decide), va_up_self]
  have a31 : A' 31 = va_up (A 31) T top := by rw [← hA', va_up_ne _ _ (by decide), va_up_self]
  have a33 : A' 33 = va_up (decH A op (lastOp op T) 33) T (nI (prtN k)) := by rw [← hA', va_up_self]
  have hcpT : cpI A' T = if k = 8 then a else top := by
    unfold cpI
    rw [a28, a29, a31, va_up_self, va_up_self, va_up_self]
  have hcp : ∀ t, t < T → cpI A' t = cpI A t := by
    intro t ht
    unfold cpI
    rw [a28, a29, a31, va_up_ne _ _ (by omega), va_up_ne _ _ (by omega), va_up_ne _ _ (by omega)]
  -- the parts to come, by tokens
  obtain ⟨op', ho1, ho2, ho3⟩ : ∃ op' : Nat → Nat, (∀ t, t < T → decH A op (lastOp op T) 33 t = nI (op' t) ∧ op' t ≤ 2) ∧ (0 < T → pnd op' (cpI A) T = (Ls T).dropLast) ∧ True := by
    cases hlo : lastOp op T with
    | none =>
      refine ⟨op, fun t ht => (hrow t ht).2.2.2.2.2, fun h => ?_, trivial⟩
      have := pnd_none (cp := cpI A) hlo
      rw [hp h] at this
      exact absurd this hne
    | some q =>
      refine ⟨va_up op q (op q - 1), fun t ht => ?_, fun h => ?_, trivial⟩
      · show va_up A 33 (va_up (A 33) q (nI (op q - 1))) 33 t = _ ∧ _
        rw [va_up_self]
        by_cases e : t = q
        · subst e
          rw [va_up_self, va_up_self]
          exact ⟨rfl, by have := (hrow t ht).2.2.2.2.2.2; omega⟩
        · rw [va_up_ne _ _ e, va_up_ne _ _ e]
          exact (hrow t ht).2.2.2.2.2
      · have := pnd_some (cp := cpI A) hlo
        rw [hp h] at this
        rw [this, List.dropLast_concat]
  generalize hLn : (Ls T).dropLast ++ List.replicate (prtN k) (if k = 8 then a else top) = Ln
  have hLnl : Ln.length = (Ls T).length - 1 + prtN k := by rw [← hLn]; simp
  have hLs' : ∀ t, t ≤ T → va_up Ls (T + 1) Ln t = Ls t := fun t ht => va_up_ne _ _ (by omega)
  refine ⟨T + 1, va_up Ls (T + 1) Ln, va_up op' T (prtN k), by omega, ?_, ?_, ?_, ?_, fun t ht => ?_, ?_, fun t ht => ?_, fun i hi' => ?_, fun _ => ?_, fun t ht => ?_, fun t ht h8 => ?_⟩
  · rw [va_up_ne _ _ (by decide), va_up_self]
  · rw [va_up_ne _ _ (by decide), va_up_self]
  · rw [va_up_self, va_up_self, hLnl]
  · rw [va_up_self, va_up_self, hLnl]
  · rw [a28, a29, a30, a31, a33, va_up_ne (j := 23) _ _ (by decide), va_up_ne (j := 23) _ _ (by decide), va_up_ne (j := 23) _ _ (by decide), va_up_ne (j := 23) _ _ (by decide), va_up_self, va_up_ne (j := 24) _ _ (by decide), va_up_ne (j := 24) _ _ (by decide), va_up_ne (j := 24) _ _ (by decide), va_up_self, va_up_ne (j := 25) _ _ (by decide), va_up_ne (j := 25) _ _ (by decide), va_up_self, va_up_ne (j := 26) _ _ (by decide), va_up_self]
    by_cases e : t = T
    · subst e
      simp only [va_up_self]
      exact ⟨trivial, trivial, trivial, trivial, htok, trivial, hp2⟩
    · have ht' : t < T := by omega
      have hr := hrow t ht'
      simp only [va_up_ne _ _ e]
      exact ⟨hr.1, hr.2.1, hr.2.2.1, hr.2.2.2.1, hr.2.2.2.2.1, (ho1 t ht').1, (ho1 t ht').2⟩
  · rw [hLs' 0 (by omega)]; exact hL0
  · by_cases e : t = T
    · subst e
      rw [va_up_self, hLs' t (by omega), hcpT, a28, a31, va_up_self, va_up_self, hLn]
      exact ⟨rfl, ht1⟩
    · have ht' : t < T := by omega
      rw [hLs' (t + 1) (by omega), hLs' t (by omega), hcp t ht', a28, a31, va_up_ne _ _ e, va_up_ne _ _ e]
      exact hLs t ht'
  · rw [va_up_self] at hi' ⊢
    rw [va_up_self, ← hLn]
    unfold fillA
    rw [hLnl] at hi'
    by_cases c : i < (Ls T).length - 1
    · rw [List.getElem?_append_left (by simpa using c), List.getElem?_dropLast, if_pos c, if_neg (by omega)]
      exact hi i (by omega)
    · rw [List.getElem?_append_right (by simpa using c), List.getElem?_replicate, if_pos (show i - (Ls T).dropLast.length < prtN k by simp; omega), if_pos (show (Ls T).length - 1 ≤ i ∧ i < (Ls T).length - 1 + prtN k by omega)]
  · rw [va_up_self]
    show pnd (va_up op' T (prtN k)) (cpI A') T ++ List.replicate (va_up op' T (prtN k) T) (cpI A' T) = Ln
    rw [va_up_self, hcpT, ← hLn]
    congr 1
    rw [pnd_congr (op' := op') (cp' := cpI A) T (fun j hj => ⟨va_up_ne _ _ (by omega), hcp j hj⟩)]
    cases T with
    | zero =>
      rw [hL0]
      rfl
    | succ t => exact ho2 (by omega)
  · by_cases e : t = T + 1
    · subst e
      rw [va_up_self, hLnl]
      have := hlen T (by omega)
      omega
    · rw [hLs' t (by omega)]
      exact hlen t (by omega)
  · rw [a28] at h8
    rw [a29, a31]
    by_cases e : t = T
    · subst e
      rw [va_up_self] at h8
      rw [va_up_self, va_up_self]
      exact hk8 h8
    · rw [va_up_ne _ _ e] at h8
      rw [va_up_ne _ _ e, va_up_ne _ _ e]
      exact hnst t (by omega) h8
/-- token, of both -/
theorem st_token {X M : Nat} {cr : Nat → Nat → Option Nat} {cu : Option Nat} {dyn : xM} {nx cb sb : Nat} {cs : Nat → Int32} {ca A : Nat → Nat → Int32} {B : Nat → Nat → Int64} {S : Nat → Int32} {k a b : Int32} (hR : Rq cs ca A S) :
    ∃ (v : Int32) (cs' : Nat → Int32) (ca' A' : Nat → Nat → Int32) (S' : Nat → Int32), Rq cs' ca' A' S' ∧ agr [2204, 2206] cs' cs ∧ agr [23, 24, 25, 26, 27] ca' ca ∧ agr [28, 29, 30, 31, 33] A' A ∧ agr [36, 37] S' S ∧
      (∀ (K : Int32 → xS → Prop) (o : xM) (cb sb : Nat), K v (cheap X cs' ca' cr cu dyn, o, nx, cb, sb) → p_B_token X k a b K (cheap X cs ca cr cu dyn, o, nx, cb, sb)) ∧
      (∀ (K : Int32 → xS → Prop) (o : xM) (cb sb : Nat), K v (mheap M A' B S', o, nx, cb, sb) → p_M_token M k a b K (mheap M A B S, o, nx, cb, sb)) := by
  obtain ⟨T, Ls, op, hT, h1, h2, h3, h4, hrow, hL0, hLs, hi, hp, hlen, hnst⟩ := id hR
  have hW := hlen T (Nat.le_refl _)
  have hop : ∀ t, t < T → A 33 t = nI (op t) ∧ op t ≤ 2 := fun t ht => (hrow t ht).2.2.2.2.2
  generalize hWe : (Ls T).length = W at *
  by_cases c0 : tokV k a b = 0
  · refine ⟨-1, cs, ca, A, S, hR, agr.rf, agr.rf, agr.rf, agr.rf, fun K o cb sb hK => ?_, fun K o cb sb hK => ?_⟩
    · rw [B_token_eq hT hW h1 h3, if_pos c0]; exact hK
    · rw [M_token_eq hT h2 h4 (by omega) hop rfl, if_pos c0]; exact hK
  by_cases cW : W = 0
  · refine ⟨-2, cs, ca, A, S, hR, agr.rf, agr.rf, agr.rf, agr.rf, fun K o cb sb hK => ?_, fun K o cb sb hK => ?_⟩
    · rw [B_token_eq hT hW h1 h3, if_neg c0, if_pos (Or.inl cW)]; exact hK
    · rw [M_token_eq hT h2 h4 (by omega) hop rfl, if_neg c0, if_pos (Or.inl cW)]; exact hK
  have hne : Ls T ≠ [] := by
    intro e
    rw [e] at hWe
    exact cW hWe.symm
  have htop := (Rq_top (cs := cs) (S := S) (ca := ca) hL0 (fun i h => hi i (by rw [← hWe]; exact h)) hp hne).2
  rw [hWe] at htop
  by_cases c2 : W = 0 ∨ (k = 8 ∧ parI a ≠ ca 27 (W - 1))
  · refine ⟨-2, cs, ca, A, S, hR, agr.rf, agr.rf, agr.rf, agr.rf, fun K o cb sb hK => ?_, fun K o cb sb hK => ?_⟩
    · rw [B_token_eq hT hW h1 h3, if_neg c0, if_pos c2]; exact hK
    · rw [M_token_eq hT h2 h4 (by omega) hop htop, if_neg c0, if_pos c2]; exact hK
  by_cases c3 : T = 12
  · refine ⟨-3, cs, ca, A, S, hR, agr.rf, agr.rf, agr.rf, agr.rf, fun K o cb sb hK => ?_, fun K o cb sb hK => ?_⟩
    · rw [B_token_eq hT hW h1 h3, if_neg c0, if_neg c2, if_pos c3]; exact hK
    · rw [M_token_eq hT h2 h4 (by omega) hop htop, if_neg c0, if_neg c2, if_pos c3]; exact hK
  have htok : tokV k a b = 1 := by
    unfold tokV at c0 ⊢
    revert c0
    split <;> (try split) <;> (try split) <;> (try split) <;> (try split) <;> (try split) <;> intro c0 <;> first | exact absurd rfl c0 | (rcases inR_cases _ _ _ with e | e <;> first | exact e | exact absurd e c0)
  have hd : agr [28, 29, 30, 31, 33] (decH A op (lastOp op T)) A := by
    intro j hj
    cases lastOp op T with
    | none => rfl
    | some q => exact va_up_ne _ _ (fun e => hj (by rw [e]; decide))
  refine ⟨nI (W - 1 + prtN k), _, _, _, _, Rq_token (by omega) h1 h2 hrow hL0 hLs (fun i h => hi i (by rw [← hWe]; exact h)) hp hlen hne htok hWe.symm hnst (fun e => Classical.byContradiction (fun z => c2 (Or.inr ⟨e, z⟩))), (agr.rf.up (by decide)).up (by decide), ((((agr.rf.up (by decide)).up (by decide)).up (by decide)).up (by decide)).up (by decide), ((((hd.up (by decide)).up (by decide)).up (by decide)).up (by decide)).up (by decide), (agr.rf.up (by decide)).up (by decide), fun K o cb sb hK => ?_, fun K o cb sb hK => ?_⟩
  · rw [B_token_eq hT hW h1 h3, if_neg c0, if_neg c2, if_neg c3]; exact hK
  · rw [M_token_eq hT h2 h4 (by omega) hop htop, if_neg c0, if_neg c2, if_neg c3]; exact hK
