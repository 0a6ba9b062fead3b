/-! THE QUERY: token, clear -/
theorem nI_m1 (j : Nat) : nI (j + 1) - 1 = nI j := nI_pred j
theorem nI_a1 (j : Nat) : nI j + (-1) = nI j - 1 := (Int32.sub_eq_add_neg _ _).symm
theorem nI_z : nI 0 - 1 < 0 := by decide
theorem cl_nI {j : Nat} (h : j < 2 ^ 31) : (nI j).toNatClampNeg = j := nI_clamp h
/-- is it a token: 1 or 0 -/
def tokV (k a b : Int32) : Int32 :=
  if k = 0 then (if inR a 0 3 = 0 then 0 else inR b 0 25) else if k = 1 ∨ k = 2 then (if inR a 0 3 = 0 then 0 else inR b (-1000) 1000) else if k = 3 then inR a 0 3
  else if k = 8 then (if inR a 0 3 = 0 then 0 else inR b 0 4) else inR k 4 7
theorem inR_cases (v : Int32) (lo hi : Int) : inR v lo hi = 0 ∨ inR v lo hi = 1 := by
  unfold inR
  split
  · exact Or.inl rfl
  · exact Or.inr rfl
theorem two_rng {a b : Int32} {l1 h1 l2 h2 : Int} {K : Int32 → xS → Prop} {G : xS} {P : Int32 → (Int32 → xS → Prop) → xS → Prop} (hP : ∀ K' G', P b K' G' ↔ K' (inR b l2 h2) G') {m o : xM} {nx cb sb : Nat} (hG : G = (m, o, nx, cb, sb)) (hK : ∀ v, K v (m, o, nx, cb, sb) ↔ K v G) :
    xif (inR a l1 h1 = 0) (xrz 0 K) (xcall 0 0 (P b) fun v2 => xif (v2 = 0) (xrz 0 K) (xrz 1 K)) G ↔ K (if inR a l1 h1 = 0 then 0 else inR b l2 h2) G := by
  subst hG
  by_cases c1 : inR a l1 h1 = 0
  · rw [xif_t c1, xrz_0, if_pos c1]
  · rw [xif_f c1, m_call, hP, if_neg c1]
    dsimp only
    rcases inR_cases b l2 h2 with e | e
    · rw [xif_t e, xrz_0, e]
    · rw [xif_f (by rw [e]; decide), xrz_1, e]
theorem B_isToken_eq {k a b : Int32} {K : Int32 → xS → Prop} {m o : xM} {nx cb sb : Nat} : p_B_isToken k a b K (m, o, nx, cb, sb) ↔ K (tokV k a b) (m, o, nx, cb, sb) := by
  unfold p_B_isToken tokV
  by_cases c0 : k = 0
  · rw [xif_t c0, if_pos c0, m_call, B_isField_eq]
    dsimp only
    exact two_rng (P := p_B_isWord) (fun _ _ => B_isWord_eq) rfl (fun _ => Iff.rfl)
  rw [xif_f c0, if_neg c0]
  by_cases c1 : k = 1
  · rw [xif_t c1, if_pos (Or.inl c1), m_call, B_isField_eq]
    dsimp only
    exact two_rng (P := p_B_isNumber) (fun _ _ => B_isNumber_eq) rfl (fun _ => Iff.rfl)
  rw [xif_f c1]
  by_cases c2 : k = 2
  · rw [xif_t c2, if_pos (Or.inr c2), m_call, B_isField_eq]
    dsimp only
    exact two_rng (P := p_B_isNumber) (fun _ _ => B_isNumber_eq) rfl (fun _ => Iff.rfl)
  rw [xif_f c2, if_neg (by rintro (q | q) <;> contradiction)]
  by_cases c3 : k = 3
  · rw [xif_t c3, if_pos c3, m_call, B_isField_eq]
    dsimp only
    rcases inR_cases a 0 3 with e | e <;> rw [e]
    · exact xrz_0
    · exact xrz_1
  rw [xif_f c3, if_neg c3]
  by_cases c4 : k = 4
  · subst c4; rw [xif_t rfl, xrz_1]; exact Iff.rfl
  rw [xif_f c4]
  by_cases c5 : k = 5
  · subst c5; rw [xif_t rfl, xrz_1]; exact Iff.rfl
  rw [xif_f c5]
  by_cases c6 : k = 6
  · subst c6; rw [xif_t rfl, xrz_1]; exact Iff.rfl
  rw [xif_f c6]
  by_cases c7 : k = 7
  · subst c7; rw [xif_t rfl, xrz_1]; exact Iff.rfl
  rw [xif_f c7]
  by_cases c8 : k = 8
  · rw [xif_t c8, if_pos c8, m_call, B_isPath_eq]
    dsimp only
    by_cases d1 : inR a 0 3 = 0
    · rw [xif_t d1, xrz_0, if_pos d1]
    · rw [xif_f d1, if_neg d1]
      by_cases d2 : b.toInt < 0
      · rw [xif_t (i_lt.mpr d2), xrz_0, show inR b 0 4 = 0 from inR_0.mpr (Or.inl d2)]
      · rw [xif_f (fun q => d2 (i_lt.mp q))]
        by_cases d3 : 4 < b.toInt
        · rw [xif_t (show (4 : Int32) < b from i_lt.mpr d3), xrz_0, show inR b 0 4 = 0 from inR_0.mpr (Or.inr d3)]
        · rw [xif_f (show ¬ (4 : Int32) < b from fun q => d3 (i_lt.mp q)), xrz_1, show inR b 0 4 = 1 from by unfold inR; rw [if_neg (by omega)]]
  rw [xif_f c8, if_neg c8, xrz_0]
  have e : inR k 4 7 = 0 := by
    refine inR_0.mpr ?_
    have a4 := lv_neT (a := 4) c4 (by decide); have a5 := lv_neT (a := 5) c5 (by decide); have a6 := lv_neT (a := 6) c6 (by decide); have a7 := lv_neT (a := 7) c7 (by decide)
    omega
  rw [e]
theorem M_isToken_eq {k a b : Int32} {K : Int32 → xS → Prop} {m o : xM} {nx cb sb : Nat} : p_M_isToken k a b K (m, o, nx, cb, sb) ↔ K (tokV k a b) (m, o, nx, cb, sb) := by
  have last : ∀ K' : Int32 → xS → Prop, (xcall 0 0 (p_M_in k 4 7) fun v => xrz v K') (m, o, nx, cb, sb) ↔ K' (inR k 4 7) (m, o, nx, cb, sb) := by
    intro K'
    rw [m_call, M_in47]
    dsimp only
    rcases inR_cases k 4 7 with e | e <;> rw [e]
    · exact xrz_0
    · exact xrz_1
  unfold p_M_isToken tokV
  by_cases c0 : k = 0
  · rw [xif_t c0, if_pos c0, m_call, M_in03]
    dsimp only
    exact two_rng (P := fun b => p_M_in b 0 25) (fun _ _ => M_in025) rfl (fun _ => Iff.rfl)
  rw [xif_f c0, if_neg c0]
  by_cases c1 : k = 1
  · rw [xif_t c1, if_pos (Or.inl c1), m_call, M_in03]
    dsimp only
    exact two_rng (P := fun b => p_M_in b (-1000) 1000) (fun _ _ => M_in1000) rfl (fun _ => Iff.rfl)
  rw [xif_f c1]
  by_cases c2 : k = 2
  · rw [xif_t c2, if_pos (Or.inr c2), m_call, M_in03]
    dsimp only
    exact two_rng (P := fun b => p_M_in b (-1000) 1000) (fun _ _ => M_in1000) rfl (fun _ => Iff.rfl)
  rw [xif_f c2, if_neg (by rintro (q | q) <;> contradiction)]
  by_cases c3 : k = 3
  · rw [xif_t c3, if_pos c3, m_call, M_in03]
    dsimp only
    rcases inR_cases a 0 3 with e | e <;> rw [e]
    · exact xrz_0
    · exact xrz_1
  rw [xif_f c3, if_neg c3]
  by_cases c4 : k = 4
  · rw [xif_t c4, last, if_neg (by rw [c4]; decide)]
  rw [xif_f c4]
  by_cases c5 : k = 5
  · rw [xif_t c5, last, if_neg (by rw [c5]; decide)]
  rw [xif_f c5]
  by_cases c6 : k = 6
  · rw [xif_t c6, last, if_neg (by rw [c6]; decide)]
  rw [xif_f c6]
  by_cases c7 : k = 7
  · rw [xif_t c7, last, if_neg (by rw [c7]; decide)]
  rw [xif_f c7]
  by_cases c8 : k = 8
  · rw [xif_t c8, if_pos c8, m_call, M_in03]
    dsimp only
    exact two_rng (P := fun b => p_M_in b 0 4) (fun _ _ => M_in04) rfl (fun _ => Iff.rfl)
  rw [xif_f c8, if_neg c8, last]
/-- how many parts a kind of token has -/
def prtN (k : Int32) : Nat := if k = 5 ∨ k = 6 then 2 else if k = 7 ∨ k = 8 then 1 else 0
theorem tok_kind {k a b : Int32} (h : tokV k a b = 1) : 0 ≤ k.toInt ∧ k.toInt ≤ 8 := by
  unfold tokV at h
  by_cases c0 : k = 0
  · subst c0; decide
  rw [if_neg c0] at h
  by_cases c1 : k = 1 ∨ k = 2
  · rcases c1 with rfl | rfl <;> decide
  rw [if_neg c1] at h
  by_cases c3 : k = 3
  · subst c3; decide
  rw [if_neg c3] at h
  by_cases c8 : k = 8
  · subst c8; decide
  rw [if_neg c8] at h
  unfold inR at h
  split at h
  · exact absurd h (by decide)
  · omega
theorem M_parts_eq {k : Int32} {K : Int32 → xS → Prop} {G : xS} (h : k.toInt ≤ 8) : p_M_parts k K G ↔ K (nI (prtN k)) G := by
  unfold p_M_parts prtN
  by_cases c5 : k = 5
  · rw [xif_t c5, if_pos (Or.inl c5)]; exact Iff.rfl
  rw [xif_f c5]
  by_cases c6 : k = 6
  · rw [xif_t c6, if_pos (Or.inr c6)]; exact Iff.rfl
  rw [xif_f c6, if_neg (by rintro (q | q) <;> contradiction)]
  by_cases c7 : k ≤ 6
  · rw [xif_t c7, if_neg (by rintro (rfl | rfl) <;> exact absurd c7 (by decide))]; exact Iff.rfl
  · rw [xif_f c7]
    have : k = 7 ∨ k = 8 := by
      rw [i_le, show (6 : Int32).toInt = 6 from rfl] at c7
      rcases (show k.toInt = 7 ∨ k.toInt = 8 by omega) with q | q
      · exact Or.inl (i_eq.mpr q)
      · exact Or.inr (i_eq.mpr q)
    rw [if_pos this]; exact Iff.rfl
theorem Qu_parts_eq {k : Int32} {K : Int32 → xS → Prop} {G : xS} : p_Qu_partsOf k K G ↔ K (nI (prtN k)) G := by
  unfold p_Qu_partsOf prtN
  by_cases c5 : k = 5
  · rw [xif_t c5, if_pos (Or.inl c5)]; exact Iff.rfl
  rw [xif_f c5]
  by_cases c6 : k = 6
  · rw [xif_t c6, if_pos (Or.inr c6)]; exact Iff.rfl
  rw [xif_f c6, if_neg (by rintro (q | q) <;> contradiction)]
  by_cases c7 : k = 7
  · rw [xif_t c7, if_pos (Or.inl c7)]; exact Iff.rfl
  rw [xif_f c7]
  by_cases c8 : k = 8
  · rw [xif_t c8, if_pos (Or.inr c8)]; exact Iff.rfl
  rw [xif_f c8, if_neg (by rintro (q | q) <;> contradiction)]; exact Iff.rfl
/-- the path at which a token's parts stand -/
def cpI (A : Nat → Nat → Int32) (k : Nat) : Int32 := if A 28 k = 8 then A 29 k else A 31 k
/-- the paths of the parts to come, the next one last -/
def pnd (op : Nat → Nat) (cp : Nat → Int32) : Nat → List Int32
  | 0 => []
  | k + 1 => pnd op cp k ++ List.replicate (op k) (cp k)
theorem M_path_L {M : Nat} {A : Nat → Nat → Int32} {B : Nat → Nat → Int64} {S : Nat → Int32} {r : xM × Nat × Nat × Nat} {op : Nat → Nat} {K : Int32 → xS → Prop} {Kx : xS → Prop} : ∀ (j n : Nat), j < n → j ≤ 12 → (∀ k, k < j → A 33 k = nI (op k) ∧ op k ≤ 2) →
    (p_M_pathOfNext_L7 M K Kx n (nI j - 1) (mheap M A B S, r) ↔ match (pnd op (cpI A) j).getLast? with | none => Kx (mheap M A B S, r) | some v => K v (mheap M A B S, r))
  | 0, n + 1, _, _, _ => by
    unfold p_M_pathOfNext_L7
    rw [xif_t nI_z]
    exact Iff.rfl
  | j + 1, n + 1, hn, hj, h => by
    unfold p_M_pathOfNext_L7
    have hin : vp_in (nI j) 12 := vp_in_nI (by omega) (by decide)
    have hcl : (nI j).toNatClampNeg = j := cl_nI (by omega)
    rw [nI_m1, xif_f (nI_pos (by omega)), m_g33, m_r33, hcl, (h j (by omega)).1]
    simp only [hin, true_and]
    have ih := M_path_L (M := M) (B := B) (S := S) (r := r) (K := K) (Kx := Kx) j n (by omega) (by omega) (fun k hk => h k (by omega))
    cases ho : op j with
    | zero =>
      rw [xif_t (by decide), nI_a1, ih]
      simp [pnd, ho]
    | succ q =>
      have hq := (h j (by omega)).2
      rw [xif_f (nI_nle (by omega) (by omega)), m_g28, m_r28, hcl]
      simp only [hin, true_and]
      have e : (pnd op (cpI A) (j + 1)).getLast? = some (cpI A j) := by
        show (pnd op (cpI A) j ++ List.replicate (op j) (cpI A j)).getLast? = _
        rw [ho, List.getLast?_append, List.getLast?_replicate]
        simp
      rw [e]
      dsimp only
      unfold cpI
      by_cases c8 : A 28 j = 8
      · rw [xif_t c8, m_g29, m_r29, hcl, if_pos c8]
        simp only [hin, true_and]
      · rw [xif_f c8, m_g31, m_r31, hcl, if_neg c8]
        simp only [hin, true_and]
theorem va_up_id {α : Type} {f : Nat → α} {k : Nat} {v : α} (h : f k = v) : va_up f k v = f := by
  funext j
  by_cases e : j = k
  · subst e; rw [va_up_self, h]
  · rw [va_up_ne _ _ e]
theorem va_up_sw {α : Type} {f : Nat → α} {k j : Nat} {v w : α} (h : k ≠ j) : va_up (va_up f k v) j w = va_up (va_up f j w) k v := by
  funext i
  by_cases e1 : i = j
  · subst e1; rw [va_up_self, va_up_ne _ _ (Ne.symm h), va_up_self]
  · rw [va_up_ne _ _ e1]
    by_cases e2 : i = k
    · subst e2; rw [va_up_self, va_up_self]
    · rw [va_up_ne _ _ e2, va_up_ne _ _ e2, va_up_ne _ _ e1]
/-- d places from w on are v -/
def fillA (f : Nat → Int32) (w d : Nat) (v : Int32) : Nat → Int32 := fun j => if w ≤ j ∧ j < w + d then v else f j
theorem fillA_0 (f : Nat → Int32) (w : Nat) (v : Int32) : fillA f w 0 v = f := by
  funext j
  unfold fillA
  rw [if_neg (by omega)]
theorem fillA_s (f : Nat → Int32) (w d : Nat) (v : Int32) : fillA (va_up f w v) (w + 1) d v = fillA f w (d + 1) v := by
  funext j
  unfold fillA
  by_cases e : j = w
  · subst e; rw [if_neg (by omega), va_up_self, if_pos (by omega)]
  · rw [va_up_ne _ _ e]
    by_cases c : w + 1 ≤ j ∧ j < w + 1 + d
    · rw [if_pos c, if_pos (by omega)]
    · rw [if_neg c, if_neg (by omega)]
section QC
variable {X : Nat} {cr : Nat → Nat → Option Nat} {cu : Option Nat} {dyn : xM} {r : xM × Nat × Nat × Nat}
theorem Qu_L76 {k a path : Int32} {pn : Nat} {K : Unit → xS → Prop} {Kx : xS → Prop} : ∀ (d n i w : Nat) (cs : Nat → Int32) (ca : Nat → Nat → Int32), d < n → i + d = pn → pn ≤ 2 → w + d ≤ 13 → cs 2206 = nI w →
    (p_Qu_append_L76 (X + 22) k a path (nI pn) K Kx n (nI i) (cheap X cs ca cr cu dyn, r) ↔ Kx (cheap X (va_up cs 2206 (nI (w + d))) (va_up ca 27 (fillA (ca 27) w d (if k = 8 then a else path))) cr cu dyn, r))
  | 0, n + 1, i, w, cs, ca, hn, hi, hp, hw, hc => by
    unfold p_Qu_append_L76
    rw [xif_t (nI_le (by omega) (by omega)), fillA_0, va_up_id (f := ca) rfl, va_up_id (f := cs) (by rw [hc]; rfl)]
  | d + 1, n + 1, i, w, cs, ca, hn, hi, hp, hw, hc => by
    unfold p_Qu_append_L76
    have hin : vp_in (nI w) 13 := vp_in_nI (by omega) (by decide)
    rw [xif_f (nI_ge (by omega) (by omega)), c_g22_5, c_g22_6, hc]
    have ih := Qu_L76 (k := k) (a := a) (path := path) (pn := pn) (K := K) (Kx := Kx) d n (i + 1) (w + 1) (va_up cs 2206 (nI (w + 1))) (va_up ca 27 (va_up (ca 27) w (if k = 8 then a else path))) (by omega) (by omega) hp (by omega) (va_up_self _ _ _)
    rw [va_up_self, fillA_s, bx_uu, bx_uu, show w + 1 + d = w + (d + 1) by omega] at ih
    by_cases c8 : k = 8
    · rw [xif_t c8, c_w27, cl_nI (by omega), c_g22_6, hc, c_p22_6, nI_1, nI_1]
      rw [if_pos c8] at ih ⊢
      simp only [hin, true_and]
      exact ih
    · rw [xif_f c8, c_w27, cl_nI (by omega), c_g22_6, hc, c_p22_6, nI_1, nI_1]
      rw [if_neg c8] at ih ⊢
      simp only [hin, true_and]
      exact ih
variable {cs : Nat → Int32} {ca : Nat → Nat → Int32}
theorem Qu_L76z {k a path : Int32} {d w : Nat} {K : Unit → xS → Prop} {Kx : xS → Prop} (hd : d ≤ 2) (hw : w + d ≤ 13) (hc : cs 2206 = nI w) : p_Qu_append_L76 (X + 22) k a path (nI d) K Kx 1000 0 (cheap X cs ca cr cu dyn, r) ↔ Kx (cheap X (va_up cs 2206 (nI (w + d))) (va_up ca 27 (fillA (ca 27) w d (if k = 8 then a else path))) cr cu dyn, r) := Qu_L76 d 1000 0 w cs ca (by omega) (by omega) hd hw hc
theorem Qu_nextPath_eq {W : Nat} {K : Int32 → xS → Prop} (hW : W ≤ 13) (hc : cs 2206 = nI W) : p_Qu_nextPath (X + 22) K (cheap X cs ca cr cu dyn, r) ↔ K (if W = 0 then 0 else ca 27 (W - 1)) (cheap X cs ca cr cu dyn, r) := by
  unfold p_Qu_nextPath
  rw [c_g22_6, hc]
  cases W with
  | zero => rw [xif_t (by decide), if_pos rfl]
  | succ w =>
    have hin : vp_in (nI w) 13 := vp_in_nI (by omega) (by decide)
    rw [xif_f (nI_nle (by omega) (by omega)), c_g22_5, c_g22_6, hc, nI_m1, c_r27, cl_nI (by omega), if_neg (by omega), show w + 1 - 1 = w by omega]
    simp only [hin, true_and]
theorem Qu_append_eq {T W : Nat} {k a b : Int32} {K : Unit → xS → Prop} (hT : T < 12) (hW : W + 1 ≤ 12) (h1 : cs 2204 = nI T) (h2 : cs 2206 = nI (W + 1)) :
    p_Qu_append (X + 22) k a b K (cheap X cs ca cr cu dyn, r) ↔ K () (cheap X (va_up (va_up cs 2204 (nI (T + 1))) 2206 (nI (W + prtN k)))
      (va_up (va_up (va_up (va_up (va_up ca 23 (va_up (ca 23) T k)) 24 (va_up (ca 24) T a)) 25 (va_up (ca 25) T b)) 26 (va_up (ca 26) T (ca 27 W))) 27 (fillA (ca 27) W (prtN k) (if k = 8 then a else ca 27 W))) cr cu dyn, r) := by
  have hin : vp_in (nI T) 12 := vp_in_nI hT (by decide)
  have hp : prtN k ≤ 2 := by unfold prtN; split <;> (try split) <;> omega
  have hcl : (nI T).toNatClampNeg = T := cl_nI (by omega)
  obtain ⟨m1, m2, m3, m4⟩ := r
  unfold p_Qu_append
  rw [c_ob22, m_call, Qu_nextPath_eq (W := W + 1) (by omega) h2, if_neg (by omega), show W + 1 - 1 = W from rfl]
  dsimp only
  rw [c_g22_0, c_g22_4, h1, c_w23, hcl, c_g22_1, c_g22_4, h1, c_w24, hcl, c_g22_2, c_g22_4, h1, c_w25, hcl, c_g22_3, c_g22_4, h1, c_w26, hcl, c_g22_4, h1, c_p22_4, c_g22_6, va_up_ne _ _ (by decide), h2, nI_m1, c_p22_6, m_call, Qu_parts_eq]
  dsimp only
  rw [Qu_L76z (w := W) hp (by omega) (va_up_self _ _ _)]
  simp only [hin, true_and]
  rw [bx_uu, nI_1, va_up_ne (j := 24) (k := 23) _ _ (by decide), va_up_ne (j := 25) (k := 24) _ _ (by decide), va_up_ne (j := 25) (k := 23) _ _ (by decide), va_up_ne (j := 26) (k := 25) _ _ (by decide), va_up_ne (j := 26) (k := 24) _ _ (by decide), va_up_ne (j := 26) (k := 23) _ _ (by decide), va_up_ne (j := 27) (k := 26) _ _ (by decide), va_up_ne (j := 27) (k := 25) _ _ (by decide), va_up_ne (j := 27) (k := 24) _ _ (by decide), va_up_ne (j := 27) (k := 23) _ _ (by decide)]
end QC
