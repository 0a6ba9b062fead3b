/-! THE TABLES, of both -/
theorem nI_m1_ne {v : Nat} (h : v < 2 ^ 31) : ¬ nI v = -1 := fun q => by
  have := congrArg Int32.toInt q
  rw [nI_toInt h, show (-1 : Int32).toInt = -1 from rfl] at this
  omega
def rl (τ h s : Int32) (b : Nat) : Prop := (τ = -1 ∧ h = 0 ∧ s = 0) ∨ ∃ v, v ≤ b ∧ τ = nI v ∧ h = 1 ∧ s = nI v
def dpw (p : Int32) : Nat := if p = 0 then 100 else if p = 2 then 1 else 10
def bdF (A : Nat → Nat → Int32) (T t : Nat) : Nat := 15000 * ((Ef (ptA A) T t - t) * dpw (A 31 t))
theorem dpw_c (p : Int32) : dpw p = 100 ∨ dpw p = 1 ∨ dpw p = 10 := by
  unfold dpw
  by_cases c : p = 0
  · rw [if_pos c]; exact Or.inl rfl
  · rw [if_neg c]
    by_cases c : p = 2
    · rw [if_pos c]; exact Or.inr (Or.inl rfl)
    · rw [if_neg c]; exact Or.inr (Or.inr rfl)
theorem bd_lt {A : Nat → Nat → Int32} {T t : Nat} (hT : T ≤ 12) (ht : t < T) : bdF A T t ≤ 18000000 ∧ 15000 ≤ bdF A T t := by
  unfold bdF
  have := Ef_lt (pt := ptA A) ht
  rcases dpw_c (A 31 t) with e | e | e <;> rw [e] <;> omega
theorem rl_mono {τ h s : Int32} {b c : Nat} (hr : rl τ h s b) (hb : b ≤ c) : rl τ h s c := by
  rcases hr with q | ⟨v, h1, h2⟩
  · exact Or.inl q
  · exact Or.inr ⟨v, by omega, h2⟩
theorem i10 (t n : Nat) : (10 : Int32) * nI t + nI n = nI (10 * t + n) := by rw [show (10 : Int32) = nI 10 from rfl, pk_mul, nI_add]
def mst (A : Nat → Nat → Int32) (t n : Nat) (h s : Int32) : Nat → Nat → Int32 := va_up (va_up A 38 (va_up (A 38) (10 * t + n) h)) 39 (va_up (A 39) (10 * t + n) s)
theorem M_set_eq {M : Nat} {A : Nat → Nat → Int32} {B : Nat → Nat → Int64} {S : Nat → Int32} {r : xM × Nat × Nat × Nat} {t n : Nat} (ht : t < 12) (hn : n < 10) {h s : Int32} (h01 : h = 0 ∨ h = 1) {K : Unit → xS → Prop} : p_M_set M (nI t) (nI n) h s K (mheap M A B S, r) ↔ K () (mheap M (mst A t n h (if h = 0 then 0 else s)) B S, r) := by
  have hin : vp_in (nI (10 * t + n)) 120 := vp_in_nI (by omega) (by decide)
  unfold p_M_set mst
  rw [i10, m_g38, m_w38, cl_nI (by omega), m_g39]
  rcases h01 with rfl | rfl
  · rw [xif_t rfl, m_w39, cl_nI (by omega), va_up_ne (j := 39) (k := 38) _ _ (by decide), if_pos rfl]
    exact ⟨fun q => q.2.2.2, fun q => ⟨hin, Or.inl rfl, hin, q⟩⟩
  · rw [xif_f (by decide), m_w39, cl_nI (by omega), va_up_ne (j := 39) (k := 38) _ _ (by decide), if_neg (by decide)]
    exact ⟨fun q => q.2.2.2, fun q => ⟨hin, Or.inr rfl, hin, q⟩⟩
def tbs : List Nat := [32, 33, 34, 35, 36, 37, 38, 39, 40, 41, 42, 43]
theorem mem_tbs {t : Nat} (h : t < 12) : 32 + t ∈ tbs := by
  unfold tbs
  rcases (show t = 0 ∨ t = 1 ∨ t = 2 ∨ t = 3 ∨ t = 4 ∨ t = 5 ∨ t = 6 ∨ t = 7 ∨ t = 8 ∨ t = 9 ∨ t = 10 ∨ t = 11 by omega) with rfl | rfl | rfl | rfl | rfl | rfl | rfl | rfl | rfl | rfl | rfl | rfl <;> decide
section PT
variable {X M nx db : Nat} {bs : Nat → Nat} {dyn : xM} {A : Nat → Nat → Int32} {B : Nat → Nat → Int64} {S : Nat → Int32} {D O T : Nat} {fr sz da na le : Nat → Nat} {tm : Nat → Nat → Nat → Nat} {cs : Nat → Int32} {ca : Nat → Nat → Int32} {cr : Nat → Nat → Option Nat} {cu : Option Nat} {L : List Nat} {d t n : Nat} {ca1 A1 : Nat → Nat → Int32}
/-- what look and pointsAt make: the same -/
def ptOk (X M : Nat) (dyn : xM) (B : Nat → Nat → Int64) (S : Nat → Int32) (cs : Nat → Int32) (cr : Nat → Nat → Option Nat) (cu : Option Nat) (da : Nat → Nat) (d t n : Nat) (ca1 A1 : Nat → Nat → Int32) (b : Nat) : Prop :=
  ∃ τ h s, rl τ h s b ∧ (∀ (K : Int32 → xS → Prop) (o : xM) (n1 cb sb : Nat), K τ (cheap X cs ca1 cr cu dyn, o, n1, cb, sb) → p_Sc_pointsAt (X + 28) (some (X + 22)) (nI t) (some (da d + 1)) (nI n) K (cheap X cs ca1 cr cu dyn, o, n1, cb, sb)) ∧
    (∀ (K : Unit → xS → Prop) (r : xM × Nat × Nat × Nat), K () (mheap M (mst A1 t n h s) B S, r) → p_M_look M (nI d) (nI t) (nI n) K (mheap M A1 B S, r))
/-- the table holds of both where t, n stand behind -/
def tbOk (A : Nat → Nat → Int32) (fr sz : Nat → Nat) (T d : Nat) (ca1 A1 : Nat → Nat → Int32) (t : Nat) : Prop :=
  ∀ m, m < sz d → A 22 (fr d + m) = A 31 t → rl (ca1 (32 + t) m) (A1 38 (10 * t + m)) (A1 39 (10 * t + m)) (bdF A T t)
theorem M_look_eq (hk : Rk (X + 66) nx db bs dyn A B D O fr sz da na le) (hD : D ≤ 180) (hq : Qc A T) (hpm : ∀ x, x < T → doM A A T fr sz tm L x) (hA : agr [38, 39] A1 A) (hd : d < D) (ht : t < T) {K : Unit → xS → Prop} {o : xM} {n1 cb sb : Nat} : p_M_look M (nI d) (nI t) (nI n) K (mheap M A1 B S, o, n1, cb, sb) ↔ p_M_look_B60 M (nI d) (nI t) (nI n) (nI (fr d + n)) (4 * nI (fr d + n) + A 29 t) (nI (10 * (t + 1) + n)) (if prtN (A 28 t) = 2 then nI (Ef (ptA A) T (t + 1)) else 0) 10 K (mheap M A1 B S, o, n1, cb, sb) := by
  have hT := hq.2.1
  have hin : vp_in (nI t) 12 := vp_in_nI (by omega) (by decide)
  have hind : vp_in (nI d) 180 := vp_in_nI (by omega) (by decide)
  have e11 := (hk.1 d hd).1.1
  obtain ⟨i, i8, hi⟩ := tok_k (hq.2.2.2.1 t ht).1
  have hpp : ∀ K G, p_M_parts (A 28 t) K G ↔ K (nI (prtN (A 28 t))) G := fun K G => M_parts_eq (by rw [hi, nI_toInt (by omega)]; omega)
  have hp : prtN (A 28 t) ≤ 2 := by unfold prtN; split <;> (try split) <;> omega
  unfold p_M_look
  rw [m_g11, m_r11, cl_nI (by omega), hA 11 (by decide), e11, m_g29, m_r29, cl_nI (by omega), hA 29 (by decide), m_g28, m_r28, cl_nI (by omega), hA 28 (by decide), m_call, hpp]
  dsimp only
  rw [nI_add, nI_1, i10]
  simp only [hin, hind, true_and]
  by_cases e : prtN (A 28 t) = 2
  · obtain ⟨t1, -⟩ := hq.2.2.2.2.1 t ht (by omega)
    have hin3 : vp_in (nI (t + 1)) 12 := vp_in_nI (by omega) (by decide)
    rw [xif_t (by rw [e]; rfl), if_pos e, m_g32, m_r32, cl_nI (by omega), hA 32 (by decide), (hpm (t + 1) t1).1]
    simp only [hin3, true_and]
  · rw [xif_f (show ¬ nI (prtN (A 28 t)) = 2 from fun q => e ((nI_eq (b := 2) (by omega) (by decide)).mp q)), if_neg e]
/-- ANY -/
theorem pt_any (hk : Rk (X + 66) nx db bs dyn A B D O fr sz da na le) (hD : D ≤ 180) (hq : Qc A T) (hrow : ∀ t, t < T → ca 23 t = A 28 t ∧ ca 24 t = A 29 t ∧ ca 25 t = A 30 t ∧ ca 26 t = A 31 t) (hpm : ∀ x, x < T → doM A A T fr sz tm L x) (hc : agr tbs ca1 ca) (hA : agr [38, 39] A1 A) (hd : d < D) (ht : t < T) (hn : n < sz d) (hkd : A 28 t = 4) : ptOk X M dyn B S cs cr cu da d t n ca1 A1 (bdF A T t) := by
  have hsz := (hk.1 d hd).1.2.2.2.1
  have hT := hq.2.1
  have hin : vp_in (nI t) 12 := vp_in_nI (by omega) (by decide)
  have hinn : vp_in (nI n) (sz d) := vp_in_nI hn (by omega)
  have hinn10 : vp_in (nI n) 10 := vp_in_nI (by omega) (by decide)
  refine ⟨1, 1, 1, Or.inr ⟨1, by have := (bd_lt (A := A) hT ht).2; omega, rfl, rfl, rfl⟩, fun K o n1 cb sb h => ?_, fun K r h => ?_⟩
  · unfold p_Sc_pointsAt
    rw [c_g22_1, c_r24, cl_nI (by omega), hc 24 (by decide), (hrow t ht).2.1, c_g22_2, c_r25, cl_nI (by omega), hc 25 (by decide), (hrow t ht).2.2.1, c_g22_0, c_r23, cl_nI (by omega), hc 23 (by decide), (hrow t ht).1]
    refine ⟨hin, hin, hin, ?_⟩
    rw [hkd, xif_f (by decide), xif_f (by decide), xif_f (by decide), xif_f (by decide), xif_t rfl]
    exact h
  · obtain ⟨o, n1, cb, sb⟩ := r
    rw [M_look_eq hk hD hq hpm hA hd ht]
    unfold p_M_look_B60
    rw [m_g28, m_r28, cl_nI (by omega), hA 28 (by decide), hkd]
    refine ⟨hin, ?_⟩
    rw [xif_f (by decide), xif_f (by decide), xif_f (by decide), xif_f (by decide), xif_t rfl, m_ob, m_call, M_set_eq (by omega) (by omega) (Or.inr rfl)]
    exact h
/-- a field of a node -/
theorem pt_nd (hk : Rk (X + 66) nx db bs dyn A B D O fr sz da na le) (hd : d < D) (hn : n < sz d) {f : Nat} (hf : f < 4) : ∃ nodes ty va, docAt bs (X + 66) nx dyn (da d) (A 13 d) (sz d) nodes (A 16 d) ∧ nodes n = some (na (fr d + n)) ∧ X + 66 ≤ na (fr d + n) ∧ (∃ fs, dyn (na (fr d + n)) = some (.inr (2, fs)) ∧ fs[4]? = some (va_rf (some (na (fr d + n) + 1))) ∧ fs[5]? = some (va_rf (some (na (fr d + n) + 2)))) ∧ dyn (na (fr d + n) + 1) = some (.inl (0, 4, .inl ty)) ∧ dyn (na (fr d + n) + 2) = some (.inl (0, 4, .inl va)) ∧ ty f = A 24 (4 * (fr d + n) + f) ∧ va f = A 25 (4 * (fr d + n) + f) ∧ (A 24 (4 * (fr d + n) + f) = 0 ∨ (A 24 (4 * (fr d + n) + f) = 1 ∧ inR (A 25 (4 * (fr d + n) + f)) (-1000) 1000 = 1) ∨ A 24 (4 * (fr d + n) + f) = 2) := by
  obtain ⟨nodes, hnn⟩ := docs_of hk
  obtain ⟨d1, d2⟩ := hnn d hd
  obtain ⟨-, -, -, par, ty, va, wd, a4, a5, -⟩ := hk.2.2.1 d n hd hn
  obtain ⟨e1, e2, e3⟩ := a5 f hf
  refine ⟨_, ty, va, d1, d2 n hn, a4.1.1, ⟨_, a4.2.1, rfl, rfl⟩, a4.2.2.1, a4.2.2.2.1, e1, e2, ?_⟩
  rcases e3 with ⟨q, -⟩ | q | ⟨q, -⟩
  · exact Or.inl q
  · exact Or.inr (Or.inl q)
  · exact Or.inr (Or.inr q)
/-- NOT -/
theorem pt_not (hk : Rk (X + 66) nx db bs dyn A B D O fr sz da na le) (hD : D ≤ 180) (hq : Qc A T) (hrow : ∀ t, t < T → ca 23 t = A 28 t ∧ ca 24 t = A 29 t ∧ ca 25 t = A 30 t ∧ ca 26 t = A 31 t) (hpm : ∀ x, x < T → doM A A T fr sz tm L x) (hc : agr tbs ca1 ca) (hA : agr [38, 39] A1 A) (hd : d < D) (ht : t < T) (hn : n < sz d) (hp : A 22 (fr d + n) = A 31 t) (hkd : A 28 t = 7) (htb : ∀ x, t < x → x < T → tbOk A fr sz T d ca1 A1 x) : ptOk X M dyn B S cs cr cu da d t n ca1 A1 (bdF A T t) := by
  have hsz := (hk.1 d hd).1.2.2.2.1
  have hT := hq.2.1
  have hin : vp_in (nI t) 12 := vp_in_nI (by omega) (by decide)
  have hinn : vp_in (nI n) (sz d) := vp_in_nI hn (by omega)
  have hinn10 : vp_in (nI n) 10 := vp_in_nI (by omega) (by decide)
  obtain ⟨t1, t2⟩ := hq.2.2.2.2.1 t ht (by rw [hkd]; decide)
  have t3 : A 31 (t + 1) = A 31 t := by rw [t2]; unfold cpI; rw [if_neg (by rw [hkd]; decide)]
  have hin3 : vp_in (nI (t + 1)) 12 := vp_in_nI (by omega) (by decide)
  have hin4 : vp_in (nI (10 * (t + 1) + n)) 120 := vp_in_nI (by omega) (by decide)
  have R := htb (t + 1) (by omega) t1 n hn (by rw [t3]; exact hp)
  have hC : ∀ (K : Int32 → xS → Prop) (o : xM) (n1 cb sb : Nat), (xif (ca1 (32 + (t + 1)) n = (-1)) (K 0) (K (-1))) (cheap X cs ca1 cr cu dyn, o, n1, cb, sb) → p_Sc_pointsAt (X + 28) (some (X + 22)) (nI t) (some (da d + 1)) (nI n) K (cheap X cs ca1 cr cu dyn, o, n1, cb, sb) := fun K o n1 cb sb h => by
    unfold p_Sc_pointsAt
    rw [c_g22_1, c_r24, cl_nI (by omega), hc 24 (by decide), (hrow t ht).2.1, c_g22_2, c_r25, cl_nI (by omega), hc 25 (by decide), (hrow t ht).2.2.1, c_g22_0, c_r23, cl_nI (by omega), hc 23 (by decide), (hrow t ht).1]
    refine ⟨hin, hin, hin, ?_⟩
    rw [hkd, xif_f (by decide), xif_f (by decide), xif_f (by decide), xif_f (by decide), xif_f (by decide), xif_f (by decide), xif_f (by decide), xif_t rfl, c_g28_2, nI_1, c_r31, cl_nI (by omega), if_pos (by omega), cr_tab (by omega), cl_nI (by omega)]
    exact ⟨hin3, hinn10, h⟩
  have hM : ∀ (K : Unit → xS → Prop) (o : xM) (n1 cb sb : Nat), (xif (A1 38 (10 * (t + 1) + n) = 0) (fun G => K () (mheap M (mst A1 t n 1 0) B S, o, n1, cb, sb)) (fun G => K () (mheap M (mst A1 t n 0 0) B S, o, n1, cb, sb))) (mheap M A1 B S, o, n1, cb, sb) → p_M_look M (nI d) (nI t) (nI n) K (mheap M A1 B S, o, n1, cb, sb) := fun K o n1 cb sb h => by
    rw [M_look_eq hk hD hq hpm hA hd ht]
    unfold p_M_look_B60
    rw [m_g28, m_r28, cl_nI (by omega), hA 28 (by decide), hkd]
    refine ⟨hin, ?_⟩
    rw [xif_f (by decide), xif_f (by decide), xif_f (by decide), xif_f (by decide), xif_f (by decide), xif_f (by decide), xif_f (by decide), xif_t rfl, m_g38, m_r38, cl_nI (by omega)]
    refine ⟨hin4, ?_⟩
    by_cases c : A1 38 (10 * (t + 1) + n) = 0
    · rw [xif_t c] at h ⊢
      rw [m_ob, m_call, M_set_eq (by omega) (by omega) (Or.inr rfl)]
      exact h
    · rw [xif_f c] at h ⊢
      rw [m_ob, m_call, M_set_eq (by omega) (by omega) (Or.inl rfl)]
      exact h
  rcases R with ⟨r1, r2, r3⟩ | ⟨v, v1, r1, r2, r3⟩
  · refine ⟨0, 1, 0, Or.inr ⟨0, by omega, rfl, rfl, rfl⟩, fun K o n1 cb sb h => hC K o n1 cb sb ?_, fun K r h => hM K _ _ _ _ ?_⟩
    · rw [xif_t r1]; exact h
    · rw [xif_t r2]; exact h
  · have := (bd_lt (A := A) hT t1).1
    refine ⟨-1, 0, 0, Or.inl ⟨rfl, rfl, rfl⟩, fun K o n1 cb sb h => hC K o n1 cb sb ?_, fun K r h => hM K _ _ _ _ ?_⟩
    · rw [xif_f (by rw [r1]; exact nI_m1_ne (by omega))]; exact h
    · rw [xif_f (by rw [r2]; decide)]; exact h
end PT
