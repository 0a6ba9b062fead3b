/-! the tables: nest -/
def nst : Option Nat → Nat × Nat × Nat × Nat → Nat × Nat × Nat × Nat
  | none, s => s
  | some v, s => (s.1 + 1, s.2.1 + v, (if s.1 = 0 then v else if v < s.2.2.1 then v else s.2.2.1), (if s.1 = 0 then v else if s.2.2.2 < v then v else s.2.2.2))
def nf (ch : Nat → Option Nat) : Nat → Nat → Nat × Nat × Nat × Nat → Nat × Nat × Nat × Nat
  | _, 0, s => s
  | c, m + 1, s => nf ch (c + 1) m (nst (ch c) s)
theorem nf_none {ch : Nat → Option Nat} : ∀ (m c : Nat) (s : Nat × Nat × Nat × Nat), (∀ x, c ≤ x → x < c + m → ch x = none) → nf ch c m s = s
  | 0, _, _, _ => rfl
  | m + 1, c, s, h => by
    show nf ch (c + 1) m (nst (ch c) s) = s
    rw [h c (Nat.le_refl _) (by omega)]
    exact nf_none m (c + 1) s (fun x h1 h2 => h x (by omega) (by omega))
theorem nf_app {ch : Nat → Option Nat} : ∀ (m k c : Nat) (s : Nat × Nat × Nat × Nat), nf ch c (m + k) s = nf ch (c + m) k (nf ch c m s)
  | 0, k, c, s => by rw [Nat.zero_add]; rfl
  | m + 1, k, c, s => by
    rw [show m + 1 + k = (m + k) + 1 by omega]
    show nf ch (c + 1) (m + k) (nst (ch c) s) = nf ch (c + (m + 1)) k (nf ch (c + 1) m (nst (ch c) s))
    rw [nf_app m k (c + 1), show c + 1 + m = c + (m + 1) by omega]
def nInv (b c : Nat) (s : Nat × Nat × Nat × Nat) : Prop := (s.1 = 0 → s.2.2.2 = 0) ∧ s.2.1 ≤ s.1 * b ∧ s.2.2.1 ≤ b ∧ s.2.2.2 ≤ b ∧ s.1 ≤ c
theorem nst_inv {b c : Nat} {s : Nat × Nat × Nat × Nat} {o : Option Nat} (h : nInv b c s) (ho : ∀ v, o = some v → v ≤ b) : nInv b (c + 1) (nst o s) := by
  obtain ⟨h1, h2, h3, h4, h5⟩ := h
  cases o with
  | none => exact ⟨h1, h2, h3, h4, by show s.1 ≤ c + 1; omega⟩
  | some v =>
    have hv := ho v rfl
    refine ⟨fun q => absurd q (Nat.succ_ne_zero _), ?_, ?_, ?_, ?_⟩
    · show s.2.1 + v ≤ (s.1 + 1) * b
      rw [Nat.add_mul]
      omega
    · show (if s.1 = 0 then v else if v < s.2.2.1 then v else s.2.2.1) ≤ b
      split
      · exact hv
      · split <;> assumption
    · show (if s.1 = 0 then v else if s.2.2.2 < v then v else s.2.2.2) ≤ b
      split
      · exact hv
      · split <;> assumption
    · show s.1 + 1 ≤ c + 1; omega
theorem nf_inv {ch : Nat → Option Nat} {b : Nat} : ∀ (m c k : Nat) (s : Nat × Nat × Nat × Nat), nInv b k s → (∀ x v, ch x = some v → c ≤ x → x < c + m → v ≤ b) → nInv b (k + m) (nf ch c m s)
  | 0, _, _, _, h, _ => h
  | m + 1, c, k, s, h, hv => by
    have := nf_inv m (c + 1) (k + 1) (nst (ch c) s) (nst_inv h (fun v e => hv c v e (Nat.le_refl _) (by omega))) (fun x v e h1 h2 => hv x v e (by omega) (by omega))
    rw [show k + 1 + m = k + (m + 1) by omega] at this
    exact this
theorem nI_min {a b : Nat} (ha : a < 2 ^ 31) (hb : b < 2 ^ 31) : (if nI a < nI b then nI a else nI b) = nI (if a < b then a else b) := by
  by_cases c : a < b
  · rw [if_pos c, if_pos (nI_lt c hb)]
  · rw [if_neg c, if_neg (fun q => c ((nI_ltI ha hb).mp q))]
theorem nI_max {a b : Nat} (ha : a < 2 ^ 31) (hb : b < 2 ^ 31) : (if nI a < nI b then nI b else nI a) = nI (if a < b then b else a) := by
  by_cases c : a < b
  · rw [if_pos c, if_pos (nI_lt c hb)]
  · rw [if_neg c, if_neg (fun q => c ((nI_ltI ha hb).mp q))]
/-- what a child brings -/
def chF (A A1 : Nat → Nat → Int32) (fr : Nat → Nat) (d t n c : Nat) : Option Nat :=
  if A 23 (fr d + c) = nI n ∧ A 22 (fr d + c) = A 29 t then (if A1 38 (10 * (t + 1) + c) = 0 then none else some (A1 39 (10 * (t + 1) + c)).toNatClampNeg) else none
section NE
variable {X M nx db : Nat} {bs : Nat → Nat} {dyn : xM} {A : Nat → Nat → Int32} {B : Nat → Nat → Int64} {S : Nat → Int32} {D O T : Nat} {fr sz da na le : Nat → Nat} {tm : Nat → Nat → Nat → Nat} {cs : Nat → Int32} {ca : Nat → Nat → Int32} {cr : Nat → Nat → Option Nat} {cu : Option Nat} {L : List Nat} {d t n : Nat} {ca1 A1 : Nat → Nat → Int32}
theorem ch_cases (ht1 : A 31 (t + 1) = A 29 t) (htb : tbOk A fr sz T d ca1 A1 (t + 1)) {c : Nat} (hb : bdF A T (t + 1) ≤ 18000000) (hc : c < sz d) : (chF A A1 fr d t n c = none ∧ (¬ (A 23 (fr d + c) = nI n ∧ A 22 (fr d + c) = A 29 t) ∨ ((A 23 (fr d + c) = nI n ∧ A 22 (fr d + c) = A 29 t) ∧ ca1 (32 + (t + 1)) c = -1 ∧ A1 38 (10 * (t + 1) + c) = 0))) ∨ ∃ v, v ≤ bdF A T (t + 1) ∧ chF A A1 fr d t n c = some v ∧ (A 23 (fr d + c) = nI n ∧ A 22 (fr d + c) = A 29 t) ∧ ca1 (32 + (t + 1)) c = nI v ∧ A1 38 (10 * (t + 1) + c) = 1 ∧ A1 39 (10 * (t + 1) + c) = nI v := by
  by_cases e : A 23 (fr d + c) = nI n ∧ A 22 (fr d + c) = A 29 t
  · rcases htb c hc (by rw [ht1]; exact e.2) with ⟨r1, r2, r3⟩ | ⟨v, v1, r1, r2, r3⟩
    · refine Or.inl ⟨?_, Or.inr ⟨e, r1, r2⟩⟩
      unfold chF
      rw [if_pos e, if_pos r2]
    · refine Or.inr ⟨v, v1, ?_, e, r1, r2, r3⟩
      unfold chF
      rw [if_pos e, if_neg (by rw [r2]; decide), r3, cl_nI (by omega)]
  · refine Or.inl ⟨?_, Or.inl e⟩
    unfold chF
    rw [if_neg e]
theorem C_nest_L {K : Int32 → xS → Prop} {Kx : Int32 → Int32 → Int32 → Int32 → xS → Prop} {o : xM} {n1 cb sb : Nat} (hk : Rk (X + 66) nx db bs dyn A B D O fr sz da na le) (hq : Qc A T) (hrow : ∀ t, t < T → ca 23 t = A 28 t ∧ ca 24 t = A 29 t ∧ ca 25 t = A 30 t ∧ ca 26 t = A 31 t) (hc : agr tbs ca1 ca) (hd : d < D) (ht : t + 1 < T) (hn : n < sz d) (ht1 : A 31 (t + 1) = A 29 t) (htb : tbOk A fr sz T d ca1 A1 (t + 1)) :
    ∀ (m fu c k : Nat) (s : Nat × Nat × Nat × Nat), m < fu → c + m = n → k ≤ c → nInv (bdF A T (t + 1)) k s → (p_Sc_nested_L21 (X + 28) (some (X + 22)) (nI t) (some (da d + 1)) (nI n) K Kx fu (nI s.1) (nI s.2.1) (nI s.2.2.1) (nI s.2.2.2) (nI c) (cheap X cs ca1 cr cu dyn, o, n1, cb, sb) ↔ Kx (nI (nf (chF A A1 fr d t n) c m s).1) (nI (nf (chF A A1 fr d t n) c m s).2.1) (nI (nf (chF A A1 fr d t n) c m s).2.2.1) (nI (nf (chF A A1 fr d t n) c m s).2.2.2) (cheap X cs ca1 cr cu dyn, o, n1, cb, sb))
  | 0, fu + 1, c, k, s, hf, hcm, hkc, hi => by
    have hsz := (hk.1 d hd).1.2.2.2.1
    unfold p_Sc_nested_L21
    rw [xif_t (nI_le (by omega) (by omega))]
    exact Iff.rfl
  | m + 1, fu + 1, c, k, s, hf, hcm, hkc, hi => by
    have hT := hq.2.1
    have hsz := (hk.1 d hd).1.2.2.2.1
    have hb := (bd_lt (A := A) hT ht).1
    have hin : vp_in (nI t) 12 := vp_in_nI (by omega) (by decide)
    have hin3 : vp_in (nI (t + 1)) 12 := vp_in_nI (by omega) (by decide)
    have hinc : vp_in (nI c) (sz d) := vp_in_nI (by omega) (by omega)
    have hinn : vp_in (nI n) (sz d) := vp_in_nI (by omega) (by omega)
    have hinc10 : vp_in (nI c) 10 := vp_in_nI (by omega) (by decide)
    obtain ⟨nodes, hnn⟩ := docs_of hk
    obtain ⟨d1, d2⟩ := hnn d hd
    have hb1 := d1.1.1
    obtain ⟨-, -, -, par, ty, va, wd, a4, -, a6⟩ := hk.2.2.1 d c hd (by omega)
    have na0 := a4.1.1
    have hpar : par = some (na (fr d + n)) ↔ A 23 (fr d + c) = nI n := by
      rcases a6 with ⟨q1, q2, q3, -⟩ | ⟨p, q1, q2, q3, q4⟩
      · rw [q2, q3]
        exact ⟨fun z => (by cases z), fun z => absurd z.symm (nI_m1_ne (by omega))⟩
      · rw [q3, q4]
        constructor
        · intro z
          injection z with z
          rw [(hk.2.2.2 d hd).2.2 p n q2 hn z]
        · intro z
          rw [(nI_eq (by omega) (by omega)).mp z]
    have ih := fun k s => C_nest_L (K := K) (Kx := Kx) (o := o) (n1 := n1) (cb := cb) (sb := sb) hk hq hrow hc hd ht hn ht1 htb m fu (c + 1) k s (by omega) (by omega)
    have iv := nst_inv (o := chF A A1 fr d t n c) hi (fun v e => by
      rcases ch_cases (n := n) ht1 htb hb (show c < sz d by omega) with ⟨q, -⟩ | ⟨w, w1, q, -⟩
      · rw [q] at e; cases e
      · rw [q] at e; cases e; exact w1)
    obtain ⟨i1, i2, i3, i4, i5⟩ := id hi
    have i2' : s.2.1 ≤ 10 * 18000000 := Nat.le_trans i2 (Nat.mul_le_mul (by omega) hb)
    show _ ↔ Kx (nI (nf (chF A A1 fr d t n) (c + 1) m (nst (chF A A1 fr d t n c) s)).1) (nI (nf (chF A A1 fr d t n) (c + 1) m (nst (chF A A1 fr d t n c) s)).2.1) (nI (nf (chF A A1 fr d t n) (c + 1) m (nst (chF A A1 fr d t n c) s)).2.2.1) (nI (nf (chF A A1 fr d t n) (c + 1) m (nst (chF A A1 fr d t n c) s)).2.2.2) _
    unfold p_Sc_nested_L21
    rw [xif_f (nI_ge (by omega) (by omega)), y_alR (by omega) d1.2.2, cl_nI (by omega), d2 c (by omega), y_gR (v := par) na0 a4.2.1 rfl, y_alR (by omega) d1.2.2, cl_nI (by omega), d2 n (by omega)]
    simp only [hinc, hinn, true_and]
    rw [← ih (k + 1) _ (by omega) iv]
    have none_ : chF A A1 fr d t n c = none → (p_Sc_nested_L21 (X + 28) (some (X + 22)) (nI t) (some (da d + 1)) (nI n) K Kx fu (nI s.1) (nI s.2.1) (nI s.2.2.1) (nI s.2.2.2) (nI c + 1) (cheap X cs ca1 cr cu dyn, o, n1, cb, sb) ↔ p_Sc_nested_L21 (X + 28) (some (X + 22)) (nI t) (some (da d + 1)) (nI n) K Kx fu (nI (nst (chF A A1 fr d t n c) s).1) (nI (nst (chF A A1 fr d t n c) s).2.1) (nI (nst (chF A A1 fr d t n c) s).2.2.1) (nI (nst (chF A A1 fr d t n c) s).2.2.2) (nI (c + 1)) (cheap X cs ca1 cr cu dyn, o, n1, cb, sb)) := fun e => by
      rw [e, nI_1]
      exact Iff.rfl
    rcases ch_cases (n := n) ht1 htb hb (show c < sz d by omega) with ⟨e0, q⟩ | ⟨v, v1, e0, ⟨q1, q2⟩, q3, q4, q5⟩
    · rw [← none_ e0]
      by_cases p1 : A 23 (fr d + c) = nI n
      · rw [xif_t (hpar.mpr p1), y_alR (by omega) d1.2.2, cl_nI (by omega), d2 c (by omega), y_gI na0 a4.2.1 rfl, c_g22_1, c_r24, cl_nI (by omega), hc 24 (by decide), (hrow t (by omega)).2.1]
        simp only [hinc, hin, true_and]
        rcases q with q | ⟨⟨-, p2⟩, q3, q4⟩
        · rw [xif_f (fun z => q ⟨p1, z⟩)]
          unfold p_Sc_nested_B62 p_Sc_nested_B63
          rw [xif_t rfl]
          unfold p_Sc_nested_B85
          rw [xif_t rfl]
        · rw [xif_t p2]
          unfold p_Sc_nested_B63
          rw [xif_f (by decide), c_g28_2, nI_1, c_r31, cl_nI (by omega), if_pos (by omega), cr_tab (by omega), cl_nI (by omega), q3]
          simp only [hin3, hinc10, true_and]
          unfold p_Sc_nested_B85
          rw [xif_t rfl]
      · rw [xif_f (fun z => p1 (hpar.mp z))]
        unfold p_Sc_nested_B62 p_Sc_nested_B63
        rw [xif_t rfl]
        unfold p_Sc_nested_B85
        rw [xif_t rfl]
    · rw [xif_t (hpar.mpr q1), y_alR (by omega) d1.2.2, cl_nI (by omega), d2 c (by omega), y_gI na0 a4.2.1 rfl, c_g22_1, c_r24, cl_nI (by omega), hc 24 (by decide), (hrow t (by omega)).2.1, xif_t q2]
      unfold p_Sc_nested_B63
      rw [xif_f (by decide), c_g28_2, nI_1, c_r31, cl_nI (by omega), if_pos (by omega), cr_tab (by omega), cl_nI (by omega), q3]
      simp only [hinc, hin, hin3, hinc10, true_and]
      unfold p_Sc_nested_B85 p_Sc_nested_B110
      rw [xif_f (nI_m1_ne (by omega)), e0, nI_1, nI_1, nI_add, nI_min (by omega) (by omega), nI_max (by omega) (by omega)]
      by_cases z : s.1 = 0
      · rw [xif_t (by rw [z]; rfl)]
        have z2 := i1 z
        have z3 : (if s.2.2.2 < v then v else s.2.2.2) = v := by
          rw [z2]
          by_cases y : 0 < v
          · rw [if_pos y]
          · rw [if_neg y]; omega
        rw [z3]
        show _ ↔ p_Sc_nested_L21 (X + 28) (some (X + 22)) (nI t) (some (da d + 1)) (nI n) K Kx fu (nI (s.1 + 1)) (nI (s.2.1 + v)) (nI (if s.1 = 0 then v else if v < s.2.2.1 then v else s.2.2.1)) (nI (if s.1 = 0 then v else if s.2.2.2 < v then v else s.2.2.2)) (nI (c + 1)) (cheap X cs ca1 cr cu dyn, o, n1, cb, sb)
        rw [if_pos z, if_pos z]
      · rw [xif_f (show ¬ nI s.1 = 0 from fun y => z ((nI_eq (b := 0) (by omega) (by decide)).mp y))]
        show _ ↔ p_Sc_nested_L21 (X + 28) (some (X + 22)) (nI t) (some (da d + 1)) (nI n) K Kx fu (nI (s.1 + 1)) (nI (s.2.1 + v)) (nI (if s.1 = 0 then v else if v < s.2.2.1 then v else s.2.2.1)) (nI (if s.1 = 0 then v else if s.2.2.2 < v then v else s.2.2.2)) (nI (c + 1)) (cheap X cs ca1 cr cu dyn, o, n1, cb, sb)
        rw [if_neg z, if_neg z]
theorem M_nest_L {K : Unit → xS → Prop} {Kx : Int32 → Int32 → Int32 → Int32 → xS → Prop} {r : xM × Nat × Nat × Nat} (hk : Rk (X + 66) nx db bs dyn A B D O fr sz da na le) (hO : O ≤ 260) (hD : D ≤ 180) (hq : Qc A T) (hA : agr [38, 39] A1 A) (hd : d < D) (ht : t + 1 < T) (ht1 : A 31 (t + 1) = A 29 t) (htb : tbOk A fr sz T d ca1 A1 (t + 1)) :
    ∀ (m fu c k : Nat) (s : Nat × Nat × Nat × Nat), m < fu → c + m = sz d → k ≤ c → nInv (bdF A T (t + 1)) k s → (p_M_nest_L15 M (nI d) (nI t) (nI n) K Kx fu (nI s.1) (nI s.2.1) (nI s.2.2.1) (nI s.2.2.2) (nI c) (mheap M A1 B S, r) ↔ Kx (nI (nf (chF A A1 fr d t n) c m s).1) (nI (nf (chF A A1 fr d t n) c m s).2.1) (nI (nf (chF A A1 fr d t n) c m s).2.2.1) (nI (nf (chF A A1 fr d t n) c m s).2.2.2) (mheap M A1 B S, r))
  | 0, fu + 1, c, k, s, hf, hcm, hkc, hi => by
    obtain ⟨⟨e11, e12, e1, e10, eO⟩, -⟩ := hk.1 d hd
    have hind : vp_in (nI d) 180 := vp_in_nI (by omega) (by decide)
    unfold p_M_nest_L15
    rw [m_g12, m_r12, cl_nI (by omega), hA 12 (by decide), e12, xif_t (nI_le (by omega) (by omega))]
    simp only [hind, true_and]
    exact Iff.rfl
  | m + 1, fu + 1, c, k, s, hf, hcm, hkc, hi => by
    obtain ⟨⟨e11, e12, e1, e10, eO⟩, -⟩ := hk.1 d hd
    have hT := hq.2.1
    have hb := (bd_lt (A := A) hT ht).1
    have hind : vp_in (nI d) 180 := vp_in_nI (by omega) (by decide)
    have hin : vp_in (nI t) 12 := vp_in_nI (by omega) (by decide)
    have hinc : vp_in (nI (fr d + c)) 260 := vp_in_nI (by omega) (by decide)
    have hint : vp_in (nI (10 * (t + 1) + c)) 120 := vp_in_nI (by omega) (by decide)
    have ih := fun k s => M_nest_L (K := K) (Kx := Kx) (r := r) hk hO hD hq hA hd ht ht1 htb m fu (c + 1) k s (by omega) (by omega)
    have iv := nst_inv (o := chF A A1 fr d t n c) hi (fun v e => by
      rcases ch_cases (n := n) ht1 htb hb (show c < sz d by omega) with ⟨q, -⟩ | ⟨w, w1, q, -⟩
      · rw [q] at e; cases e
      · rw [q] at e; cases e; exact w1)
    obtain ⟨i1, i2, i3, i4, i5⟩ := id hi
    have i2' : s.2.1 ≤ 10 * 18000000 := Nat.le_trans i2 (Nat.mul_le_mul (by omega) hb)
    show _ ↔ Kx (nI (nf (chF A A1 fr d t n) (c + 1) m (nst (chF A A1 fr d t n c) s)).1) (nI (nf (chF A A1 fr d t n) (c + 1) m (nst (chF A A1 fr d t n c) s)).2.1) (nI (nf (chF A A1 fr d t n) (c + 1) m (nst (chF A A1 fr d t n c) s)).2.2.1) (nI (nf (chF A A1 fr d t n) (c + 1) m (nst (chF A A1 fr d t n c) s)).2.2.2) _
    unfold p_M_nest_L15
    rw [m_g12, m_r12, cl_nI (by omega), hA 12 (by decide), e12, xif_f (nI_ge (by omega) (by omega)), m_g23, m_g11, m_r11, cl_nI (by omega), hA 11 (by decide), e11, nI_add, m_r23, cl_nI (by omega), hA 23 (by decide)]
    simp only [hind, hinc, true_and]
    rw [← ih (k + 1) _ (by omega) iv]
    have none_ : chF A A1 fr d t n c = none → (p_M_nest_L15 M (nI d) (nI t) (nI n) K Kx fu (nI s.1) (nI s.2.1) (nI s.2.2.1) (nI s.2.2.2) (nI c + 1) (mheap M A1 B S, r) ↔ p_M_nest_L15 M (nI d) (nI t) (nI n) K Kx fu (nI (nst (chF A A1 fr d t n c) s).1) (nI (nst (chF A A1 fr d t n c) s).2.1) (nI (nst (chF A A1 fr d t n c) s).2.2.1) (nI (nst (chF A A1 fr d t n c) s).2.2.2) (nI (c + 1)) (mheap M A1 B S, r)) := fun e => by
      rw [e, nI_1]
      exact Iff.rfl
    rcases ch_cases (n := n) ht1 htb hb (show c < sz d by omega) with ⟨e0, q⟩ | ⟨v, v1, e0, ⟨q1, q2⟩, q3, q4, q5⟩
    · rw [← none_ e0]
      by_cases p1 : A 23 (fr d + c) = nI n
      · rw [xif_t p1, m_g22, m_g11, m_r11, cl_nI (by omega), hA 11 (by decide), e11, nI_add, m_r22, cl_nI (by omega), hA 22 (by decide), m_g29, m_r29, cl_nI (by omega), hA 29 (by decide)]
        simp only [hind, hinc, hin, true_and]
        rcases q with q | ⟨⟨-, p2⟩, q3, q4⟩
        · rw [xif_f (fun z => q ⟨p1, z⟩)]
        · rw [xif_t p2, m_g38, nI_1, i10, m_r38, cl_nI (by omega), xif_t q4]
          simp only [hint, true_and]
      · rw [xif_f p1]
    · rw [xif_t q1, m_g22, m_g11, m_r11, cl_nI (by omega), hA 11 (by decide), e11, nI_add, m_r22, cl_nI (by omega), hA 22 (by decide), m_g29, m_r29, cl_nI (by omega), hA 29 (by decide), xif_t q2, m_g38, nI_1, i10, m_r38, cl_nI (by omega), xif_f (by rw [q4]; decide), m_g39, m_r39, cl_nI (by omega), q5]
      simp only [hind, hinc, hin, hint, true_and]
      rw [e0]
      show _ ↔ p_M_nest_L15 M (nI d) (nI t) (nI n) K Kx fu (nI (s.1 + 1)) (nI (s.2.1 + v)) (nI (if s.1 = 0 then v else if v < s.2.2.1 then v else s.2.2.1)) (nI (if s.1 = 0 then v else if s.2.2.2 < v then v else s.2.2.2)) (nI (c + 1)) (mheap M A1 B S, r)
      unfold p_M_nest_B115 p_M_nest_B119
      rw [nI_1, nI_1, nI_add]
      by_cases z : s.1 = 0
      · have z' : nI s.1 = 0 := by rw [z]; rfl
        rw [xif_t z', xif_t z', if_pos z, if_pos z]
      · have z' : ¬ nI s.1 = 0 := fun y => z ((nI_eq (b := 0) (by omega) (by decide)).mp y)
        rw [xif_f z', if_neg z, if_neg z]
        have fin : ∀ l : Nat, (xif (nI s.1 = 0) (p_M_nest_L15 M (nI d) (nI t) (nI n) K Kx fu (nI (s.1 + 1)) (nI (s.2.1 + v)) (nI l) (nI v) (nI (c + 1))) (xif (nI v ≤ nI s.2.2.2) (p_M_nest_L15 M (nI d) (nI t) (nI n) K Kx fu (nI (s.1 + 1)) (nI (s.2.1 + v)) (nI l) (nI s.2.2.2) (nI (c + 1))) (p_M_nest_L15 M (nI d) (nI t) (nI n) K Kx fu (nI (s.1 + 1)) (nI (s.2.1 + v)) (nI l) (nI v) (nI (c + 1)))) (mheap M A1 B S, r) ↔ p_M_nest_L15 M (nI d) (nI t) (nI n) K Kx fu (nI (s.1 + 1)) (nI (s.2.1 + v)) (nI l) (nI (if s.2.2.2 < v then v else s.2.2.2)) (nI (c + 1)) (mheap M A1 B S, r)) := fun l => by
          rw [xif_f z']
          by_cases y : s.2.2.2 < v
          · rw [xif_f (nI_ge y (by omega)), if_pos y]
          · rw [xif_t (nI_le (by omega) (by omega)), if_neg y]
        by_cases y : v < s.2.2.1
        · rw [xif_f (nI_ge y (by omega)), if_pos y]
          exact fin v
        · rw [xif_t (nI_le (by omega) (by omega)), if_neg y]
          exact fin s.2.2.1
end NE
