theorem nI_s1 {n : Nat} (h : 0 < n) : nI n - 1 = nI (n - 1) := by
  obtain ⟨k, rfl⟩ : ∃ k, n = k + 1 := ⟨n - 1, by omega⟩
  exact nI_pred k
def lastOp (op : Nat → Nat) : Nat → Option Nat
  | 0 => none
  | j + 1 => if op j = 0 then lastOp op j else some j
theorem lastOp_some {op : Nat → Nat} : ∀ {j q : Nat}, lastOp op j = some q → q < j ∧ 0 < op q
  | 0, _, h => by cases h
  | j + 1, q, h => by
    unfold lastOp at h
    by_cases c : op j = 0
    · rw [if_pos c] at h
      have := lastOp_some h
      exact ⟨by omega, this.2⟩
    · rw [if_neg c] at h
      cases h
      exact ⟨by omega, by omega⟩
theorem pnd_congr {op op' : Nat → Nat} {cp cp' : Nat → Int32} : ∀ (j : Nat), (∀ k, k < j → op k = op' k ∧ cp k = cp' k) → pnd op cp j = pnd op' cp' j
  | 0, _ => rfl
  | j + 1, h => by
    show pnd op cp j ++ _ = pnd op' cp' j ++ _
    rw [pnd_congr j (fun k hk => h k (by omega)), (h j (by omega)).1, (h j (by omega)).2]
theorem pnd_none {op : Nat → Nat} {cp : Nat → Int32} : ∀ {j : Nat}, lastOp op j = none → pnd op cp j = []
  | 0, _ => rfl
  | j + 1, h => by
    unfold lastOp at h
    by_cases c : op j = 0
    · rw [if_pos c] at h
      show pnd op cp j ++ _ = []
      rw [pnd_none h, c]
      rfl
    · rw [if_neg c] at h
      cases h
theorem pnd_some {op : Nat → Nat} {cp : Nat → Int32} : ∀ {j q : Nat}, lastOp op j = some q → pnd op cp j = pnd (va_up op q (op q - 1)) cp j ++ [cp q]
  | 0, _, h => by cases h
  | j + 1, q, h => by
    have hq := lastOp_some h
    unfold lastOp at h
    by_cases c : op j = 0
    · rw [if_pos c] at h
      have h3 := lastOp_some h
      show pnd op cp j ++ List.replicate (op j) (cp j) = (pnd (va_up op q (op q - 1)) cp j ++ List.replicate (va_up op q (op q - 1) j) (cp j)) ++ [cp q]
      rw [va_up_ne _ _ (by omega), c, pnd_some h]
      simp
    · rw [if_neg c] at h
      cases h
      show pnd op cp j ++ List.replicate (op j) (cp j) = (pnd (va_up op j (op j - 1)) cp j ++ List.replicate (va_up op j (op j - 1) j) (cp j)) ++ [cp j]
      rw [va_up_self, pnd_congr (op' := op) (cp' := cp) j (fun k hk => ⟨va_up_ne _ _ (by omega), rfl⟩), List.append_assoc, ← List.replicate_succ', show op j - 1 + 1 = op j by omega]
/-- the heap with one part fewer to come -/
def decH (A : Nat → Nat → Int32) (op : Nat → Nat) (o : Option Nat) : Nat → Nat → Int32 := match o with
  | none => A
  | some q => va_up A 33 (va_up (A 33) q (nI (op q - 1)))
theorem M_given_x {M : Nat} {G : xS} {k a b p : Int32} {K : Int32 → xS → Prop} {Kx : xS → Prop} {n : Nat} {x : Int32} (hn : 0 < n) : p_M_token_L69 M k a b p K Kx n 1 x G ↔ Kx G := by
  cases n with
  | zero => omega
  | succ n =>
    unfold p_M_token_L69
    by_cases c : x < 0
    · rw [xif_t c]
    · rw [xif_f c, xif_f (by decide)]
theorem M_given_L {M : Nat} {A : Nat → Nat → Int32} {B : Nat → Nat → Int64} {S : Nat → Int32} {r : xM × Nat × Nat × Nat} {op : Nat → Nat} {k a b p : Int32} {K : Int32 → xS → Prop} {Kx : xS → Prop} : ∀ (j n : Nat), j + 1 < n → j ≤ 12 → (∀ t, t < j → A 33 t = nI (op t) ∧ op t ≤ 2) →
    (p_M_token_L69 M k a b p K Kx n 0 (nI j - 1) (mheap M A B S, r) ↔ Kx (mheap M (decH A op (lastOp op j)) B S, r))
  | 0, n + 1, _, _, _ => by
    unfold p_M_token_L69
    rw [xif_t nI_z]
    exact Iff.rfl
  | j + 1, n + 1, hn, hj, h => by
    unfold p_M_token_L69
    have hin : vp_in (nI j) 12 := vp_in_nI (by omega) (by decide)
    have hcl : (nI j).toNatClampNeg = j := cl_nI (by omega)
    have hA := h j (by omega)
    rw [nI_m1, xif_f (nI_pos (by omega)), xif_t rfl, m_g33, m_r33, hcl, hA.1]
    simp only [hin, true_and]
    have ih := M_given_L (M := M) (B := B) (S := S) (r := r) (k := k) (a := a) (b := b) (p := p) (K := K) (Kx := Kx) j n (by omega) (by omega) (fun t ht => h t (by omega))
    by_cases c : op j = 0
    · rw [c, xif_t (by decide)]
      unfold p_M_token_B94
      rw [xif_t rfl, nI_a1, ih]
      show _ ↔ Kx (mheap M (decH A op (if op j = 0 then lastOp op j else some j)) B S, r)
      rw [if_pos c]
    · rw [xif_f (nI_nle (by omega) (by omega))]
      unfold p_M_token_B94
      rw [xif_f (by decide), m_g33, m_r33, m_w33, hcl, hA.1]
      simp only [hin, true_and]
      rw [M_given_x (by omega)]
      show _ ↔ Kx (mheap M (decH A op (if op j = 0 then lastOp op j else some j)) B S, r)
      rw [if_neg c, nI_s1 (by omega)]
      exact Iff.rfl
/-- what class and reference hold of the query -/
def Rq (cs : Nat → Int32) (ca : Nat → Nat → Int32) (A : Nat → Nat → Int32) (S : Nat → Int32) : Prop := ∃ (T : Nat) (Ls : Nat → List Int32) (op : Nat → Nat),
  T ≤ 12 ∧ cs 2204 = nI T ∧ S 36 = nI T ∧ cs 2206 = nI (Ls T).length ∧ S 37 = nI (Ls T).length ∧
  (∀ t, t < T → ca 23 t = A 28 t ∧ ca 24 t = A 29 t ∧ ca 25 t = A 30 t ∧ ca 26 t = A 31 t ∧ tokV (A 28 t) (A 29 t) (A 30 t) = 1 ∧ A 33 t = nI (op t) ∧ op t ≤ 2) ∧
  Ls 0 = [0] ∧ (∀ t, t < T → Ls (t + 1) = (Ls t).dropLast ++ List.replicate (prtN (A 28 t)) (cpI A t) ∧ (Ls t).getLast? = some (A 31 t)) ∧
  (∀ i, i < (Ls T).length → (Ls T)[i]? = some (ca 27 i)) ∧ (0 < T → pnd op (cpI A) T = Ls T) ∧ (∀ t, t ≤ T → (Ls t).length ≤ t + 1) ∧ ∀ t, t < T → A 28 t = 8 → parI (A 29 t) = A 31 t
theorem Rq.to {cs cs' : Nat → Int32} {ca ca' : Nat → Nat → Int32} {A A' : Nat → Nat → Int32} {S S' : Nat → Int32} (h : Rq cs ca A S) (h1 : cs' 2204 = cs 2204) (h2 : cs' 2206 = cs 2206) (h3 : S' 36 = S 36) (h4 : S' 37 = S 37) (h5 : ca' 23 = ca 23 ∧ ca' 24 = ca 24 ∧ ca' 25 = ca 25 ∧ ca' 26 = ca 26 ∧ ca' 27 = ca 27) (h6 : A' 28 = A 28 ∧ A' 29 = A 29 ∧ A' 30 = A 30 ∧ A' 31 = A 31 ∧ A' 33 = A 33) : Rq cs' ca' A' S' := by
  obtain ⟨T, Ls, op, q⟩ := h
  obtain ⟨a1, a2, a3, a4, a5⟩ := h5
  obtain ⟨b1, b2, b3, b4, b5⟩ := h6
  have e : cpI A' = cpI A := by funext k; unfold cpI; rw [b1, b2, b4]
  refine ⟨T, Ls, op, ?_⟩
  rw [h1, h2, h3, h4, a1, a2, a3, a4, a5, b1, b2, b3, b4, b5, e]
  exact q
/-- what token answers -/
def tokR (T W : Nat) (top k a b : Int32) : Int32 := if tokV k a b = 0 then -1 else if W = 0 ∨ (k = 8 ∧ parI a ≠ top) then -2 else if T = 12 then -3 else nI (W - 1 + prtN k)
theorem tok_a {a b : Int32} (h : ¬ tokV 8 a b = 0) : inR a 0 3 = 1 := by
  unfold tokV at h
  rw [if_neg (by decide), if_neg (by decide), if_neg (by decide), if_pos rfl] at h
  rcases inR_cases a 0 3 with e | e
  · rw [if_pos e] at h; exact absurd rfl h
  · exact e
section QT
variable {X : Nat} {cr : Nat → Nat → Option Nat} {cu : Option Nat} {dyn : xM} {o : xM} {nx cb sb : Nat} {cs : Nat → Int32} {ca : Nat → Nat → Int32}
theorem B_token_eq {T W : Nat} {k a b : Int32} {K : Int32 → xS → Prop} (hT : T ≤ 12) (hW : W ≤ T + 1) (h1 : cs 2204 = nI T) (h2 : cs 2206 = nI W) :
    p_B_token X k a b K (cheap X cs ca cr cu dyn, o, nx, cb, sb) ↔ (if tokV k a b = 0 then K (-1) (cheap X cs ca cr cu dyn, o, nx, cb, sb) else if W = 0 ∨ (k = 8 ∧ parI a ≠ ca 27 (W - 1)) then K (-2) (cheap X cs ca cr cu dyn, o, nx, cb, sb) else if T = 12 then K (-3) (cheap X cs ca cr cu dyn, o, nx, cb, sb) else
      K (nI (W - 1 + prtN k)) (cheap X (va_up (va_up cs 2204 (nI (T + 1))) 2206 (nI (W - 1 + prtN k)))
      (va_up (va_up (va_up (va_up (va_up ca 23 (va_up (ca 23) T k)) 24 (va_up (ca 24) T a)) 25 (va_up (ca 25) T b)) 26 (va_up (ca 26) T (ca 27 (W - 1)))) 27 (fillA (ca 27) (W - 1) (prtN k) (if k = 8 then a else ca 27 (W - 1)))) cr cu dyn, o, nx, cb, sb)) := by
  unfold p_B_token
  rw [m_call, B_isToken_eq]
  dsimp only
  by_cases c0 : tokV k a b = 0
  · rw [xif_t c0, if_pos c0]
  rw [xif_f c0, if_neg c0, c_g0_5, c_ob22, m_call]
  unfold p_Qu_isComplete
  rw [c_g22_6, h2]
  cases W with
  | zero =>
    rw [xif_t (by decide), xrz_1, if_pos (Or.inl rfl)]
    dsimp only
    rw [xif_f (by decide)]
  | succ w =>
    rw [xif_f (nI_ne0 (by omega) (by omega)), xrz_0]
    dsimp only
    rw [xif_t rfl, show w + 1 - 1 = w from rfl]
    have B45 : p_B_token_B45 X k a b K (cheap X cs ca cr cu dyn, o, nx, cb, sb) ↔ (if T = 12 then K (-3) (cheap X cs ca cr cu dyn, o, nx, cb, sb) else K (nI (w + prtN k)) (cheap X (va_up (va_up cs 2204 (nI (T + 1))) 2206 (nI (w + prtN k)))
      (va_up (va_up (va_up (va_up (va_up ca 23 (va_up (ca 23) T k)) 24 (va_up (ca 24) T a)) 25 (va_up (ca 25) T b)) 26 (va_up (ca 26) T (ca 27 w))) 27 (fillA (ca 27) w (prtN k) (if k = 8 then a else ca 27 w))) cr cu dyn, o, nx, cb, sb)) := by
      unfold p_B_token_B45
      rw [c_g0_5, c_g22_4, h1]
      by_cases c : T = 12
      · rw [xif_f (by rw [c]; decide), if_pos c]
      · rw [xif_t (show nI T < 12 from nI_lt (a := T) (b := 12) (by omega) (by decide)), if_neg c, c_g0_5, c_ob22, m_call, Qu_append_eq (T := T) (W := w) (by omega) (by omega) h1 h2]
        dsimp only
        rw [c_g0_5, c_g22_6, va_up_self]
    by_cases c8 : k = 8
    · rw [xif_t c8, par_tab (tok_a (b := b) (by rw [← c8]; exact c0)), c_g0_5, c_ob22, m_call, Qu_nextPath_eq (W := w + 1) (by omega) h2, if_neg (by omega), show w + 1 - 1 = w from rfl]
      dsimp only
      by_cases c : parI a = ca 27 w
      · rw [xif_t c, if_neg (fun q => q.elim (fun q => by omega) (fun q => q.2 c)), B45]
      · rw [xif_f c, if_pos (Or.inr ⟨c8, c⟩)]
    · rw [xif_f c8, if_neg (fun q => q.elim (fun q => by omega) (fun q => c8 q.1)), B45]
theorem B_clear_eq {K : Int32 → xS → Prop} : p_B_clear X K (cheap X cs ca cr cu dyn, o, nx, cb, sb) ↔ K (cs 2204) (cheap X (va_up (va_up cs 2204 0) 2206 1) (va_up ca 27 (va_up (ca 27) 0 0)) cr cu dyn, o, nx, cb, sb) := by
  unfold p_B_clear p_Qu_drop
  rw [c_g0_5, c_g22_4, c_g0_5, c_ob22, m_call, c_p22_4, c_g22_5, c_w27, c_p22_6]
  dsimp only
  rw [show (0 : Int32).toNatClampNeg = 0 from rfl]
  exact ⟨fun h => h.2, fun h => ⟨vp_in_nI (n := 0) (by decide) (by decide), h⟩⟩
end QT
section QM
variable {M : Nat} {o : xM} {nx cb sb : Nat} {A : Nat → Nat → Int32} {B : Nat → Nat → Int64} {S : Nat → Int32}
theorem M_clear_eq {K : Int32 → xS → Prop} : p_M_clear M K (mheap M A B S, o, nx, cb, sb) ↔ K (S 36) (mheap M A B (va_up (va_up S 36 0) 37 1), o, nx, cb, sb) := by
  unfold p_M_clear
  rw [m_g36, m_p36, m_p37]
theorem M_token_eq {T W : Nat} {op : Nat → Nat} {k a b : Int32} {K : Int32 → xS → Prop} (hT : T ≤ 12) (h1 : S 36 = nI T) (h2 : S 37 = nI W) (hW : W ≤ 13) (hop : ∀ t, t < T → A 33 t = nI (op t) ∧ op t ≤ 2) {top : Int32} (htop : (pnd op (cpI A) T).getLastD 0 = top) :
    p_M_token M k a b K (mheap M A B S, o, nx, cb, sb) ↔ (if tokV k a b = 0 then K (-1) (mheap M A B S, o, nx, cb, sb) else if W = 0 ∨ (k = 8 ∧ parI a ≠ top) then K (-2) (mheap M A B S, o, nx, cb, sb) else if T = 12 then K (-3) (mheap M A B S, o, nx, cb, sb) else
      K (nI (W - 1 + prtN k)) (mheap M (va_up (va_up (va_up (va_up (va_up (decH A op (lastOp op T)) 28 (va_up (A 28) T k)) 29 (va_up (A 29) T a)) 30 (va_up (A 30) T b)) 31 (va_up (A 31) T top)) 33 (va_up (decH A op (lastOp op T) 33) T (nI (prtN k)))) B (va_up (va_up S 36 (nI (T + 1))) 37 (nI (W - 1 + prtN k))), o, nx, cb, sb)) := by
  unfold p_M_token
  rw [m_call, M_isToken_eq]
  dsimp only
  by_cases c0 : tokV k a b = 0
  · rw [xif_t c0, if_pos c0]
  have hk8 : k.toInt ≤ 8 := by
    have : tokV k a b = 1 := by
      unfold tokV at c0 ⊢
      revert c0
      split <;> (try split) <;> (try split) <;> (try split) <;> (try split) <;> (try split) <;> intro c0 <;> first | exact absurd rfl c0 | (rcases inR_cases _ _ _ with e | e <;> first | exact e | exact absurd e c0)
    exact (tok_kind this).2
  have hpath : ∀ K' : Int32 → xS → Prop, p_M_pathOfNext M K' (mheap M A B S, o, nx, 0, 0) ↔ K' top (mheap M A B S, o, nx, 0, 0) := by
    intro K'
    unfold p_M_pathOfNext
    rw [m_g36, h1, M_path_L T 1000 (by omega) hT hop]
    rw [List.getLastD_eq_getLast?] at htop
    cases hl : (pnd op (cpI A) T).getLast? with
    | none => rw [hl] at htop; rw [← htop]; exact Iff.rfl
    | some v => rw [hl] at htop; rw [← htop]; exact Iff.rfl
  rw [xif_f c0, if_neg c0, m_ob, m_call, hpath]
  dsimp only
  rw [m_g37, h2]
  cases W with
  | zero => rw [xif_t (by decide), if_pos (Or.inl rfl)]
  | succ w =>
    rw [xif_f (nI_ne0 (by omega) (by omega)), show w + 1 - 1 = w from rfl]
    have hp2 : prtN k ≤ 2 := by unfold prtN; split <;> (try split) <;> omega
    have B46 : p_M_token_B46 M k a b top K (mheap M A B S, o, nx, cb, sb) ↔ (if T = 12 then K (-3) (mheap M A B S, o, nx, cb, sb) else K (nI (w + prtN k)) (mheap M (va_up (va_up (va_up (va_up (va_up (decH A op (lastOp op T)) 28 (va_up (A 28) T k)) 29 (va_up (A 29) T a)) 30 (va_up (A 30) T b)) 31 (va_up (A 31) T top)) 33 (va_up (decH A op (lastOp op T) 33) T (nI (prtN k)))) B (va_up (va_up S 36 (nI (T + 1))) 37 (nI (w + prtN k))), o, nx, cb, sb)) := by
      unfold p_M_token_B46
      rw [m_g36, h1]
      by_cases c : T = 12
      · rw [xif_t (by rw [c]; rfl), if_pos c]
      · have hin : vp_in (nI T) 12 := vp_in_nI (by omega) (by decide)
        have hcl : (nI T).toNatClampNeg = T := cl_nI (by omega)
        have hd : ∀ j, j ≠ 33 → decH A op (lastOp op T) j = A j := by
          intro j hj
          cases lastOp op T with
          | none => rfl
          | some q => exact va_up_ne _ _ hj
        rw [xif_f (by rw [show (12 : Int32) = nI 12 from rfl, nI_eq (by omega) (by omega)]; exact c), if_neg c, m_g36, h1, M_given_L T 1000 (by omega) hT hop]
        unfold p_M_token_B118
        rw [m_g28, m_g36, h1, m_w28, hcl, m_g29, m_g36, h1, m_w29, hcl, m_g30, m_g36, h1, m_w30, hcl, m_g31, m_g36, h1, m_w31, hcl, m_g33, m_g36, h1, m_call, M_parts_eq hk8]
        dsimp only
        rw [m_w33, hcl, m_g36, h1, m_p36, m_g37, va_up_ne _ _ (by decide), h2, m_call, M_parts_eq hk8]
        dsimp only
        rw [m_p37, m_g37, va_up_self]
        simp only [hin, true_and]
        have e1 : nI (w + 1) + (nI (prtN k) - 1) = nI (w + prtN k) := by
          rw [Int32.sub_eq_add_neg, ← Int32.add_assoc, nI_add, show w + 1 + prtN k = (w + prtN k) + 1 by omega, ← nI_1, Int32.add_assoc, show (1 : Int32) + -1 = 0 by decide, Int32.add_zero]
        rw [e1, nI_1, va_up_ne (j := 29) (k := 28) _ _ (by decide), va_up_ne (j := 30) (k := 29) _ _ (by decide), va_up_ne (j := 30) (k := 28) _ _ (by decide), va_up_ne (j := 31) (k := 30) _ _ (by decide), va_up_ne (j := 31) (k := 29) _ _ (by decide), va_up_ne (j := 31) (k := 28) _ _ (by decide), va_up_ne (j := 33) (k := 31) _ _ (by decide), va_up_ne (j := 33) (k := 30) _ _ (by decide), va_up_ne (j := 33) (k := 29) _ _ (by decide), va_up_ne (j := 33) (k := 28) _ _ (by decide), hd 28 (by decide), hd 29 (by decide), hd 30 (by decide), hd 31 (by decide)]
    by_cases c8 : k = 8
    · rw [xif_t c8, m_call, M_parentOf_eq]
      dsimp only
      by_cases c : parI a = top
      · rw [xif_t c, if_neg (fun q => q.elim (fun q => by omega) (fun q => q.2 c)), B46]
      · rw [xif_f c, if_pos (Or.inr ⟨c8, c⟩)]
    · rw [xif_f c8, if_neg (fun q => q.elim (fun q => by omega) (fun q => c8 q.1)), B46]
end QM
