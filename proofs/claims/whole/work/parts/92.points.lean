/-! the tables: all -/
def nres (b : Int32) (s : Nat × Nat × Nat × Nat) : Nat := if b = 1 then s.2.1 else if b = 2 then s.2.1 / s.1 else if b = 3 then s.2.2.1 else if b = 4 then s.2.2.2 else 0
theorem nres_le {b : Int32} {s : Nat × Nat × Nat × Nat} {c k : Nat} (h : nInv c k s) (hk : k ≤ 10) : nres b s ≤ 10 * c := by
  obtain ⟨h1, h2, h3, h4, h5⟩ := h
  have h6 : s.1 * c ≤ 10 * c := Nat.mul_le_mul_right c (by omega)
  have h7 : s.2.1 / s.1 ≤ s.2.1 := Nat.div_le_self _ _
  unfold nres
  repeat' split
  all_goals omega
section PA
variable {X M nx db : Nat} {bs : Nat → Nat} {dyn : xM} {A : Nat → Nat → Int32} {B : Nat → Nat → Int64} {S : Nat → Int32} {D O T : Nat} {fr sz da na le : Nat → Nat} {tm : Nat → Nat → Nat → Nat} {cs : Nat → Int32} {ca : Nat → Nat → Int32} {cr : Nat → Nat → Option Nat} {cu : Option Nat} {L : List Nat} {d t n : Nat} {ca1 A1 : Nat → Nat → Int32}
theorem M_B212 {k s : Nat} (ht : t < 12) (hn : n < 10) (hk : k < 2 ^ 31) {K : Unit → xS → Prop} {o : xM} {n1 cb sb : Nat} : p_M_nest_B212 M (nI t) (nI n) (nI k) (nI s) K (mheap M A1 B S, o, n1, cb, sb) ↔ K () (mheap M (mst A1 t n (if k = 0 then 0 else 1) (if k = 0 then 0 else nI s)) B S, o, n1, cb, sb) := by
  unfold p_M_nest_B212
  by_cases e : k = 0
  · rw [xif_t (by rw [e]; decide), m_ob, m_call, M_set_eq ht hn (Or.inl rfl), if_pos rfl, if_pos e, if_pos e]
  · rw [xif_f (show ¬ nI k ≤ 0 from nI_ge (a := 0) (by omega) hk), m_ob, m_call, M_set_eq ht hn (Or.inr rfl), if_neg (by decide), if_neg e, if_neg e]
theorem pt_nest (hk : Rk (X + 66) nx db bs dyn A B D O fr sz da na le) (hO : O ≤ 260) (hD : D ≤ 180) (hq : Qc A T) (hrow : ∀ t, t < T → ca 23 t = A 28 t ∧ ca 24 t = A 29 t ∧ ca 25 t = A 30 t ∧ ca 26 t = A 31 t) (hpm : ∀ x, x < T → doM A A T fr sz tm L x) (hc : agr tbs ca1 ca) (hA : agr [38, 39] A1 A) (hd : d < D) (ht : t < T) (hn : n < sz d) (hp : A 22 (fr d + n) = A 31 t) (hkd : A 28 t = 8) (htb : ∀ x, t < x → x < T → tbOk A fr sz T d ca1 A1 x) : ptOk X M dyn B S cs cr cu da d t n ca1 A1 (bdF A T t) := by
  have hsz := (hk.1 d hd).1.2.2.2.1
  have hT := hq.2.1
  have hin : vp_in (nI t) 12 := vp_in_nI (by omega) (by decide)
  have hinn : vp_in (nI n) (sz d) := vp_in_nI hn (by omega)
  have hinn10 : vp_in (nI n) 10 := vp_in_nI (by omega) (by decide)
  obtain ⟨t1, t2⟩ := hq.2.2.2.2.1 t ht (by rw [hkd]; decide)
  have cp : cpI A t = A 29 t := by unfold cpI; rw [if_pos hkd]
  rw [cp] at t2
  have R := htb (t + 1) (by omega) t1
  have hb := (bd_lt (A := A) hT t1).1
  obtain ⟨⟨p, p4, hp22⟩, -, hle, par, ty, va, wd, a4, -, -⟩ := hk.2.2.1 d n hd hn
  have na0 := a4.1.1
  obtain ⟨nodes, hnn⟩ := docs_of hk
  obtain ⟨d1, d2⟩ := hnn d hd
  have hb1 := d1.1.1
  have hbd : 10 * bdF A T (t + 1) ≤ bdF A T t := by
    have e1 := Ef_1 (pt := ptA A) ht (by show prtN (A 28 t) = 1; rw [hkd]; decide)
    have l1 := (Ef_lt (pt := ptA A) t1).1
    have hpar := (hq.2.2.2.1 t ht).2 hkd
    have hw : 10 * dpw (A 29 t) = dpw (A 31 t) := by
      have htk := (hq.2.2.2.1 t ht).1
      rw [hkd] at htk
      have ha := tok_a (fun z => by rw [z] at htk; exact absurd htk (by decide))
      obtain ⟨i, i3, hi⟩ := inR_n (n := 3) ha
      rw [← hp, hp22] at hpar
      rw [← hp, hp22]
      rw [hi] at hpar ⊢
      rcases (show i = 0 ∨ i = 1 ∨ i = 2 ∨ i = 3 by omega) with rfl | rfl | rfl | rfl
      · exact absurd (show nI p = -1 from hpar.symm) (nI_m1_ne (by omega))
      · rw [← hpar]; decide
      · rw [← hpar]; decide
      · rw [← hpar]; decide
    unfold bdF
    rw [t2, e1, ← hw]
    rcases dpw_c (A 29 t) with e | e | e <;> rw [e] <;> omega
  have hI0 : nInv (bdF A T (t + 1)) 0 (0, 0, 0, 0) := ⟨fun _ => rfl, Nat.zero_le _, Nat.zero_le _, Nat.zero_le _, Nat.le_refl _⟩
  have hv : ∀ x v, chF A A1 fr d t n x = some v → 0 ≤ x → x < 0 + sz d → v ≤ bdF A T (t + 1) := fun x v e _ hx => by
    rcases ch_cases (n := n) t2 R hb (show x < sz d by omega) with ⟨q, -⟩ | ⟨w, w1, q, -⟩
    · rw [q] at e; cases e
    · rw [q] at e; cases e; exact w1
  have hI := nf_inv (ch := chF A A1 fr d t n) (sz d) 0 0 (0, 0, 0, 0) hI0 hv
  rw [Nat.zero_add] at hI
  have hsame : nf (chF A A1 fr d t n) 0 (sz d) (0, 0, 0, 0) = nf (chF A A1 fr d t n) (le (fr d + n)) (n - le (fr d + n)) (0, 0, 0, 0) := by
    have no : ∀ x, x < sz d → (x < le (fr d + n) ∨ n ≤ x) → chF A A1 fr d t n x = none := fun x hx hxx => by
      unfold chF
      refine if_neg (fun q => ?_)
      obtain ⟨-, -, -, par', ty', va', wd', -, -, b6⟩ := hk.2.2.1 d x hd hx
      rcases b6 with ⟨-, q2, -, -⟩ | ⟨p', q1, q2, q3, -⟩
      · rw [q2] at q; exact nI_m1_ne (v := n) (by omega) q.1.symm
      · have e : p' = n := (nI_eq (by omega) (by omega)).mp (q3.symm.trans q.1)
        subst e
        rcases hxx with h1 | h1
        · rcases (hk.2.2.2 d hd).2.1 x p' p' hn hn h1 q3 with z | z <;> omega
        · omega
    rw [show sz d = le (fr d + n) + ((n - le (fr d + n)) + (sz d - n)) by omega, nf_app, nf_app, Nat.zero_add, nf_none (le (fr d + n)) 0 _ (fun x _ h => no x (by omega) (Or.inl (by omega))), nf_none (sz d - n) _ _ (fun x h1 h2 => no x (by omega) (Or.inr (by omega)))]
  obtain ⟨s, hs⟩ : ∃ s, nf (chF A A1 fr d t n) 0 (sz d) (0, 0, 0, 0) = s := ⟨_, rfl⟩
  rw [hs] at hI
  have hs2 := hsame.symm.trans hs
  obtain ⟨i1, i2, i3, i4, i5⟩ := id hI
  have i6 : s.2.1 ≤ 10 * 18000000 := Nat.le_trans i2 (Nat.mul_le_mul (by omega) hb)
  have i7 : s.2.1 / s.1 ≤ s.2.1 := Nat.div_le_self _ _
  have WC := fun (K : Int32 → xS → Prop) (Kx : Int32 → Int32 → Int32 → Int32 → xS → Prop) (o : xM) (n1 cb sb : Nat) => C_nest_L (K := K) (Kx := Kx) (o := o) (n1 := n1) (cb := cb) (sb := sb) (cs := cs) (cr := cr) (cu := cu) (A1 := A1) hk hq hrow hc hd t1 hn t2 R (n - le (fr d + n)) 1000 (le (fr d + n)) 0 (0, 0, 0, 0) (by omega) (by omega) (by omega) hI0
  rw [hs2] at WC
  have WM := fun (K : Unit → xS → Prop) (Kx : Int32 → Int32 → Int32 → Int32 → xS → Prop) (r : xM × Nat × Nat × Nat) => M_nest_L (M := M) (S := S) (n := n) (K := K) (Kx := Kx) (r := r) hk hO hD hq hA hd t1 t2 R (sz d) 1000 0 0 (0, 0, 0, 0) (by omega) (by omega) (by omega) hI0
  rw [hs] at WM
  simp only [show nI 0 = 0 from rfl] at WC WM
  have hC : ∀ (K : Int32 → xS → Prop) (o : xM) (n1 cb sb : Nat), K (if s.1 = 0 then -1 else nI (nres (A 30 t) s)) (cheap X cs ca1 cr cu dyn, o, n1, cb, sb) → p_Sc_pointsAt (X + 28) (some (X + 22)) (nI t) (some (da d + 1)) (nI n) K (cheap X cs ca1 cr cu dyn, o, n1, cb, sb) := fun K o n1 cb sb h => by
    unfold p_Sc_pointsAt
    rw [c_g22_1, c_r24, cl_nI (by omega), hc 24 (by decide), (hrow t ht).2.1, c_g22_2, c_r25, cl_nI (by omega), hc 25 (by decide), (hrow t ht).2.2.1, c_g22_0, c_r23, cl_nI (by omega), hc 23 (by decide), (hrow t ht).1]
    refine ⟨hin, hin, hin, ?_⟩
    rw [hkd, xif_f (by decide), xif_f (by decide), xif_f (by decide), xif_f (by decide), xif_f (by decide), xif_f (by decide), xif_f (by decide), xif_f (by decide), c_ob28, m_call]
    unfold p_Sc_nested
    rw [y_alR (by omega) d1.2.2, cl_nI (by omega), d2 n (by omega), y_gI na0 a4.2.1 rfl, WC]
    refine ⟨hinn, ?_⟩
    by_cases e : s.1 = 0
    · rw [if_pos e] at h
      rw [xif_t (by rw [e]; rfl)]
      exact h
    · rw [if_neg e] at h
      have e' : ¬ nI s.1 = 0 := fun y => e ((nI_eq (b := 0) (by omega) (by decide)).mp y)
      rw [xif_f e', c_g22_2, c_r25, cl_nI (by omega), hc 25 (by decide), (hrow t ht).2.2.1]
      refine ⟨hin, ?_⟩
      unfold nres at h
      by_cases b1 : A 30 t = 1
      · rw [if_pos b1] at h; rw [xif_t b1]; exact h
      rw [if_neg b1] at h; rw [xif_f b1]
      by_cases b2 : A 30 t = 2
      · rw [if_pos b2] at h
        rw [xif_t b2]
        refine ⟨e', ?_⟩
        dsimp only
        rw [pk_div (by omega) (by omega) (by omega)]
        exact h
      rw [if_neg b2] at h; rw [xif_f b2]
      by_cases b3 : A 30 t = 3
      · rw [if_pos b3] at h; rw [xif_t b3]; exact h
      rw [if_neg b3] at h; rw [xif_f b3]
      by_cases b4 : A 30 t = 4
      · rw [if_pos b4] at h; rw [xif_t b4]; exact h
      rw [if_neg b4] at h; rw [xif_f b4]; exact h
  have hM : ∀ (K : Unit → xS → Prop) (o : xM) (n1 cb sb : Nat), K () (mheap M (mst A1 t n (if s.1 = 0 then 0 else 1) (if s.1 = 0 then 0 else nI (nres (A 30 t) s))) B S, o, n1, cb, sb) → p_M_look M (nI d) (nI t) (nI n) K (mheap M A1 B S, o, n1, cb, sb) := fun K o n1 cb sb h => by
    have B212 : ∀ (v : Nat) (K : Unit → xS → Prop) (cb sb : Nat), p_M_nest_B212 M (nI t) (nI n) (nI s.1) (nI v) K (mheap M A1 B S, o, n1, cb, sb) ↔ K () (mheap M (mst A1 t n (if s.1 = 0 then 0 else 1) (if s.1 = 0 then 0 else nI v)) B S, o, n1, cb, sb) := fun v K cb sb => M_B212 (by omega) (by omega) (by omega)
    rw [M_look_eq hk hD hq hpm hA hd ht]
    unfold p_M_look_B60
    rw [m_g28, m_r28, cl_nI (by omega), hA 28 (by decide), hkd]
    refine ⟨hin, ?_⟩
    rw [xif_f (by decide), xif_f (by decide), xif_f (by decide), xif_f (by decide), xif_f (by decide), xif_f (by decide), xif_f (by decide), xif_f (by decide), m_ob, m_call]
    unfold p_M_nest
    rw [WM, m_g30, m_r30, cl_nI (by omega), hA 30 (by decide)]
    refine ⟨hin, ?_⟩
    have B189 : ¬ A 30 t = 1 → ¬ A 30 t = 2 ∨ s.1 = 0 → p_M_nest_B189 M (nI t) (nI n) (nI s.1) (nI s.2.2.1) (nI s.2.2.2) (A 30 t) (fun x G' => K () (G'.1, G'.2.1, G'.2.2.1, cb, sb)) (mheap M A1 B S, o, n1, 0, 0) := fun b1 b2 => by
      unfold p_M_nest_B189
      rcases b2 with b2 | b2
      · unfold nres at h
        rw [if_neg b1, if_neg b2] at h
        by_cases b3 : A 30 t = 3
        · rw [if_pos b3] at h; rw [xif_t b3, B212]; exact h
        rw [if_neg b3] at h; rw [xif_f b3]
        by_cases b4 : A 30 t = 4
        · rw [if_pos b4] at h; rw [xif_t b4, B212]; exact h
        rw [if_neg b4] at h; rw [xif_f b4, show (0 : Int32) = nI 0 from rfl, B212]; exact h
      · rw [if_pos b2, if_pos b2] at h
        by_cases b3 : A 30 t = 3
        · rw [xif_t b3, B212, if_pos b2, if_pos b2]; exact h
        rw [xif_f b3]
        by_cases b4 : A 30 t = 4
        · rw [xif_t b4, B212, if_pos b2, if_pos b2]; exact h
        rw [xif_f b4, show (0 : Int32) = nI 0 from rfl, B212, if_pos b2, if_pos b2]; exact h
    by_cases b1 : A 30 t = 1
    · unfold nres at h
      rw [if_pos b1] at h; rw [xif_t b1, B212]; exact h
    rw [xif_f b1]
    by_cases b2 : A 30 t = 2
    · rw [xif_t b2]
      by_cases e : s.1 = 0
      · rw [xif_t (by rw [e]; decide)]
        exact B189 b1 (Or.inr e)
      · have e' : ¬ nI s.1 = 0 := fun y => e ((nI_eq (b := 0) (by omega) (by decide)).mp y)
        rw [xif_f (show ¬ nI s.1 ≤ 0 from nI_ge (a := 0) (by omega) (by omega))]
        refine ⟨e', ?_⟩
        dsimp only
        rw [pk_div (by omega) (by omega) (by omega), B212]
        unfold nres at h
        rw [if_neg b1, if_pos b2] at h
        exact h
    · rw [xif_f b2]
      exact B189 b1 (Or.inl b2)
  refine ⟨_, _, _, ?_, hC, fun K r h => hM K _ _ _ _ h⟩
  by_cases e : s.1 = 0
  · rw [if_pos e, if_pos e, if_pos e]; exact Or.inl ⟨rfl, rfl, rfl⟩
  · rw [if_neg e, if_neg e, if_neg e]
    exact Or.inr ⟨_, Nat.le_trans (nres_le hI (by omega)) hbd, rfl, rfl, rfl⟩
/-- every kind -/
theorem pt_step (hk : Rk (X + 66) nx db bs dyn A B D O fr sz da na le) (hO : O ≤ 260) (hD : D ≤ 180) (hq : Qc A T) (hrow : ∀ t, t < T → ca 23 t = A 28 t ∧ ca 24 t = A 29 t ∧ ca 25 t = A 30 t ∧ ca 26 t = A 31 t) (hpm : ∀ x, x < T → doM A A T fr sz tm L x) (hpc : ∀ x, x < T → doC A ca T fr sz tm L x) (htm : Tm X M dyn A B D fr sz na T tm) (hL : ∀ e ∈ L, e < D) (hdL : d ∈ L) (hLl : L.length ≤ 120) (hd : d < D) (hc : agr tbs ca1 ca) (hA : agr [38, 39] A1 A) (ht : t < T) (hn : n < sz d) (hp : A 22 (fr d + n) = A 31 t) (htb : ∀ x, t < x → x < T → tbOk A fr sz T d ca1 A1 x) : ptOk X M dyn B S cs cr cu da d t n ca1 A1 (bdF A T t) := by
  obtain ⟨i, i8, hi⟩ := tok_k (hq.2.2.2.1 t ht).1
  rcases (show i = 0 ∨ i = 1 ∨ i = 2 ∨ i = 3 ∨ i = 4 ∨ i = 5 ∨ i = 6 ∨ i = 7 ∨ i = 8 by omega) with rfl | rfl | rfl | rfl | rfl | rfl | rfl | rfl | rfl
  · exact pt_has hk hO hD hq hrow hpm hc hA hd ht hn hpc htm hL hdL hLl hp hi
  · exact pt_from hk hO hD hq hrow hpm hc hA hd ht hn hi
  · exact pt_upto hk hO hD hq hrow hpm hc hA hd ht hn hi
  · exact pt_some hk hO hD hq hrow hpm hc hA hd ht hn hi
  · exact pt_any hk hD hq hrow hpm hc hA hd ht hn hi
  · exact pt_both hk hO hD hq hrow hpm hc hA hd ht hn hpc hp hi htb
  · exact pt_eith hk hO hD hq hrow hpm hc hA hd ht hn hpc hp hi htb
  · exact pt_not hk hD hq hrow hpm hc hA hd ht hn hp hi htb
  · exact pt_nest hk hO hD hq hrow hpm hc hA hd ht hn hp hi htb
def tbP (A : Nat → Nat → Int32) (fr sz : Nat → Nat) (T d : Nat) (ca1 A1 : Nat → Nat → Int32) (t k : Nat) : Prop :=
  ∀ m, m < sz d → m < k → A 22 (fr d + m) = A 31 t → rl (ca1 (32 + t) m) (A1 38 (10 * t + m)) (A1 39 (10 * t + m)) (bdF A T t)
theorem mst_38 {A : Nat → Nat → Int32} {t n : Nat} {h s : Int32} : mst A t n h s 38 = va_up (A 38) (10 * t + n) h := by unfold mst; rw [va_up_ne _ _ (by decide), va_up_self]
theorem mst_39 {A : Nat → Nat → Int32} {t n : Nat} {h s : Int32} : mst A t n h s 39 = va_up (A 39) (10 * t + n) s := by unfold mst; rw [va_up_self]
theorem mst_agr {A A' : Nat → Nat → Int32} {t n : Nat} {h s : Int32} (hA : agr [38, 39] A A') : agr [38, 39] (mst A t n h s) A' := by
  unfold mst
  exact (((agr.rf (ks := [38, 39])).up (by decide)).up (by decide)).tr hA
theorem pt_in (hk : Rk (X + 66) nx db bs dyn A B D O fr sz da na le) (hO : O ≤ 260) (hD : D ≤ 180) (hq : Qc A T) (hrow : ∀ t, t < T → ca 23 t = A 28 t ∧ ca 24 t = A 29 t ∧ ca 25 t = A 30 t ∧ ca 26 t = A 31 t) (hpm : ∀ x, x < T → doM A A T fr sz tm L x) (hpc : ∀ x, x < T → doC A ca T fr sz tm L x) (htm : Tm X M dyn A B D fr sz na T tm) (hL : ∀ e ∈ L, e < D) (hdL : d ∈ L) (hLl : L.length ≤ 120) (hd : d < D) (ht : t < T) : ∀ (m fu n : Nat) (ca1 A1 : Nat → Nat → Int32), m < fu → n + m = sz d → agr tbs ca1 ca → agr [38, 39] A1 A → (∀ x, t < x → x < T → tbOk A fr sz T d ca1 A1 x) → tbP A fr sz T d ca1 A1 t n →
    ∃ ca2 A2, agr tbs ca2 ca ∧ agr [38, 39] A2 A ∧ (∀ x, t < x → x < T → tbOk A fr sz T d ca2 A2 x) ∧ tbP A fr sz T d ca2 A2 t (sz d) ∧
      (∀ (K : Int32 → xS → Prop) (Kx : xS → Prop) (o : xM) (n1 cb sb : Nat), Kx (cheap X cs ca2 cr cu dyn, o, n1, cb, sb) → p_Sc_pointsOf_L21 (X + 28) (some (X + 22)) (some (da d + 1)) (nI t) K Kx fu (nI n) (cheap X cs ca1 cr cu dyn, o, n1, cb, sb)) ∧
      (∀ (K : Int32 → xS → Prop) (Kx : xS → Prop) (o : xM) (n1 cb sb : Nat), Kx (mheap M A2 B S, o, n1, cb, sb) → p_M_tried_L13 M (nI d) (nI t) K Kx fu (nI n) (mheap M A1 B S, o, n1, cb, sb))
  | 0, fu + 1, n, ca1, A1, hf, hnm, hc, hA, hb, hp => by
    obtain ⟨⟨e11, e12, e1, e10, eO⟩, -⟩ := hk.1 d hd
    have hind : vp_in (nI d) 180 := vp_in_nI (by omega) (by decide)
    obtain ⟨nodes, hnn⟩ := docs_of hk
    obtain ⟨d1, d2⟩ := hnn d hd
    have hb1 := d1.1.1
    refine ⟨ca1, A1, hc, hA, hb, fun m h1 _ => hp m h1 (by omega), fun K Kx o n1 cb sb h => ?_, fun K Kx o n1 cb sb h => ?_⟩
    · unfold p_Sc_pointsOf_L21
      rw [y_len (by omega) d1.2.2, xif_t (nI_le (by omega) (by omega))]
      exact h
    · unfold p_M_tried_L13
      rw [m_g12, m_r12, cl_nI (by omega), hA 12 (by decide), e12, xif_t (nI_le (by omega) (by omega))]
      exact ⟨hind, h⟩
  | m + 1, fu + 1, n, ca1, A1, hf, hnm, hc, hA, hb, hp => by
    obtain ⟨⟨e11, e12, e1, e10, eO⟩, -⟩ := hk.1 d hd
    have hT := hq.2.1
    have hin : vp_in (nI t) 12 := vp_in_nI (by omega) (by decide)
    have hind : vp_in (nI d) 180 := vp_in_nI (by omega) (by decide)
    have hinn : vp_in (nI n) (sz d) := vp_in_nI (by omega) (by omega)
    have hinn10 : vp_in (nI n) 10 := vp_in_nI (by omega) (by decide)
    have hino : vp_in (nI (fr d + n)) 260 := vp_in_nI (by omega) (by decide)
    obtain ⟨nodes, hnn⟩ := docs_of hk
    obtain ⟨d1, d2⟩ := hnn d hd
    have hb1 := d1.1.1
    obtain ⟨-, -, -, par, ty, va, wd, a4, -, -⟩ := hk.2.2.1 d n hd (by omega)
    by_cases c : A 22 (fr d + n) = A 31 t
    · obtain ⟨τ, h, s, hr, gC, gM⟩ := pt_step (M := M) (S := S) (cs := cs) (cr := cr) (cu := cu) (n := n) hk hO hD hq hrow hpm hpc htm hL hdL hLl hd hc hA ht (by omega) c hb
      have ne : ∀ x, x ≠ t → 32 + x ≠ 32 + t := fun x h => by omega
      obtain ⟨ca2, A2, k1, k2, k3, k4, k5, k6⟩ := pt_in hk hO hD hq hrow hpm hpc htm hL hdL hLl hd ht m fu (n + 1) (va_up ca1 (32 + t) (va_up (ca1 (32 + t)) n τ)) (mst A1 t n h s) (by omega) (by omega) (((agr.rf (ks := tbs)).up (mem_tbs (by omega))).tr hc) (mst_agr hA) (fun x h1 h2 y hy hpy => by
        rw [va_up_ne _ _ (ne x (by omega)), mst_38, mst_39, va_up_ne _ _ (by omega), va_up_ne _ _ (by omega)]
        exact hb x h1 h2 y hy hpy) (fun y hy h2 hpy => by
        rw [va_up_self, mst_38, mst_39]
        by_cases e : y = n
        · subst e; rw [va_up_self, va_up_self, va_up_self]; exact hr
        · rw [va_up_ne _ _ e, va_up_ne _ _ (by omega), va_up_ne _ _ (by omega)]; exact hp y hy (by omega) hpy)
      refine ⟨ca2, A2, k1, k2, k3, k4, fun K Kx o n1 cb sb hK => ?_, fun K Kx o n1 cb sb hK => ?_⟩
      · unfold p_Sc_pointsOf_L21
        rw [y_len (by omega) d1.2.2, xif_f (nI_ge (by omega) (by omega)), y_alR (by omega) d1.2.2, cl_nI (by omega), d2 n (by omega), y_gI a4.1.1 a4.2.1 rfl, c_g22_3, c_r26, cl_nI (by omega), hc 26 (by decide), (hrow t ht).2.2.2, xif_t c, c_g28_2, c_r31, cl_nI (by omega), if_pos (by omega), c_ob28, m_call]
        refine ⟨hinn, hin, hin, gC _ _ _ _ _ ?_⟩
        dsimp only
        rw [cw_tab (by omega), cl_nI (by omega), nI_1]
        exact ⟨hinn10, k5 K Kx o n1 cb sb hK⟩
      · unfold p_M_tried_L13
        rw [m_g12, m_r12, cl_nI (by omega), hA 12 (by decide), e12, xif_f (nI_ge (by omega) (by omega)), m_g22, m_g11, m_r11, cl_nI (by omega), hA 11 (by decide), e11, nI_add, m_r22, cl_nI (by omega), hA 22 (by decide), m_g31, m_r31, cl_nI (by omega), hA 31 (by decide), xif_t c, m_ob, m_call]
        refine ⟨hind, hind, hino, hin, gM _ _ ?_⟩
        dsimp only
        rw [nI_1]
        exact k6 K Kx o n1 cb sb hK
    · obtain ⟨ca2, A2, k1, k2, k3, k4, k5, k6⟩ := pt_in hk hO hD hq hrow hpm hpc htm hL hdL hLl hd ht m fu (n + 1) ca1 A1 (by omega) (by omega) hc hA hb (fun y hy h2 hpy => by
        by_cases e : y = n
        · subst e; exact absurd hpy c
        · exact hp y hy (by omega) hpy)
      refine ⟨ca2, A2, k1, k2, k3, k4, fun K Kx o n1 cb sb hK => ?_, fun K Kx o n1 cb sb hK => ?_⟩
      · unfold p_Sc_pointsOf_L21
        rw [y_len (by omega) d1.2.2, xif_f (nI_ge (by omega) (by omega)), y_alR (by omega) d1.2.2, cl_nI (by omega), d2 n (by omega), y_gI a4.1.1 a4.2.1 rfl, c_g22_3, c_r26, cl_nI (by omega), hc 26 (by decide), (hrow t ht).2.2.2, xif_f c, nI_1]
        exact ⟨hinn, hin, k5 K Kx o n1 cb sb hK⟩
      · unfold p_M_tried_L13
        rw [m_g12, m_r12, cl_nI (by omega), hA 12 (by decide), e12, xif_f (nI_ge (by omega) (by omega)), m_g22, m_g11, m_r11, cl_nI (by omega), hA 11 (by decide), e11, nI_add, m_r22, cl_nI (by omega), hA 22 (by decide), m_g31, m_r31, cl_nI (by omega), hA 31 (by decide), xif_f c, nI_1]
        exact ⟨hind, hind, hino, hin, k6 K Kx o n1 cb sb hK⟩
theorem pt_out (hk : Rk (X + 66) nx db bs dyn A B D O fr sz da na le) (hO : O ≤ 260) (hD : D ≤ 180) (hq : Qc A T) (hrow : ∀ t, t < T → ca 23 t = A 28 t ∧ ca 24 t = A 29 t ∧ ca 25 t = A 30 t ∧ ca 26 t = A 31 t) (hpm : ∀ x, x < T → doM A A T fr sz tm L x) (hpc : ∀ x, x < T → doC A ca T fr sz tm L x) (htm : Tm X M dyn A B D fr sz na T tm) (hL : ∀ e ∈ L, e < D) (hdL : d ∈ L) (hLl : L.length ≤ 120) (hd : d < D) : ∀ (t fu : Nat) (ca1 A1 : Nat → Nat → Int32), t < fu → t ≤ T → agr tbs ca1 ca → agr [38, 39] A1 A → (∀ x, t ≤ x → x < T → tbOk A fr sz T d ca1 A1 x) →
    ∃ ca2 A2, agr tbs ca2 ca ∧ agr [38, 39] A2 A ∧ (∀ x, x < T → tbOk A fr sz T d ca2 A2 x) ∧
      (∀ (K : Int32 → xS → Prop) (Kx : xS → Prop) (o : xM) (n1 cb sb : Nat), Kx (cheap X cs ca2 cr cu dyn, o, n1, cb, sb) → p_Sc_pointsOf_L13 (X + 28) (some (X + 22)) (some (da d + 1)) K Kx fu (nI t - 1) (cheap X cs ca1 cr cu dyn, o, n1, cb, sb)) ∧
      (∀ (K : Int32 → xS → Prop) (Kx : xS → Prop) (o : xM) (n1 cb sb : Nat), Kx (mheap M A2 B S, o, n1, cb, sb) → p_M_tried_L7 M (nI d) K Kx fu (nI t - 1) (mheap M A1 B S, o, n1, cb, sb))
  | 0, fu + 1, ca1, A1, hf, ht, hc, hA, hb => by
    refine ⟨ca1, A1, hc, hA, fun x hx => hb x (Nat.zero_le _) hx, fun K Kx o n1 cb sb h => ?_, fun K Kx o n1 cb sb h => ?_⟩
    · unfold p_Sc_pointsOf_L13
      rw [xif_t nI_z]
      exact h
    · unfold p_M_tried_L7
      rw [xif_t nI_z]
      exact h
  | t + 1, fu + 1, ca1, A1, hf, ht, hc, hA, hb => by
    have hT := hq.2.1
    have hsz := (hk.1 d hd).1.2.2.2.1
    obtain ⟨ca2, A2, k1, k2, k3, k4, k5, k6⟩ := pt_in (M := M) (S := S) (cs := cs) (cr := cr) (cu := cu) (t := t) hk hO hD hq hrow hpm hpc htm hL hdL hLl hd (by omega) (sz d) 1000 0 ca1 A1 (by omega) (by omega) hc hA (fun x h1 h2 => hb x (by omega) h2) (fun y _ h => by omega)
    obtain ⟨ca3, A3, j1, j2, j3, j4, j5⟩ := pt_out hk hO hD hq hrow hpm hpc htm hL hdL hLl hd t fu ca2 A2 (by omega) (by omega) k1 k2 (fun x h1 h2 => by
      by_cases e : x = t
      · subst e; exact fun y hy => k4 y hy hy
      · exact k3 x (by omega) h2)
    rw [show nI 0 = 0 from rfl] at k5 k6
    refine ⟨ca3, A3, j1, j2, j3, fun K Kx o n1 cb sb h => ?_, fun K Kx o n1 cb sb h => ?_⟩
    · unfold p_Sc_pointsOf_L13
      rw [nI_m1, xif_f (show ¬ nI t < 0 from nI_pos (by omega)), nI_a1]
      exact k5 K _ _ _ _ _ (j4 K Kx o n1 cb sb h)
    · unfold p_M_tried_L7
      rw [nI_m1, xif_f (show ¬ nI t < 0 from nI_pos (by omega)), nI_a1]
      exact k6 K _ _ _ _ _ (j5 K Kx o n1 cb sb h)
/-- the points of a document, of both -/
theorem points_both (hk : Rk (X + 66) nx db bs dyn A B D O fr sz da na le) (hO : O ≤ 260) (hD : D ≤ 180) (hq : Qc A T) (hrow : ∀ t, t < T → ca 23 t = A 28 t ∧ ca 24 t = A 29 t ∧ ca 25 t = A 30 t ∧ ca 26 t = A 31 t) (hpm : ∀ x, x < T → doM A A T fr sz tm L x) (hpc : ∀ x, x < T → doC A ca T fr sz tm L x) (htm : Tm X M dyn A B D fr sz na T tm) (hL : ∀ e ∈ L, e < D) (hdL : d ∈ L) (hLl : L.length ≤ 120) (hd : d < D) (hcs : cs 2204 = nI T) (h36 : S 36 = nI T) : ∃ τ h s ca2 A2, agr tbs ca2 ca ∧ agr [38, 39] A2 A ∧ rl τ h s 18000000 ∧ A2 39 (sz d - 1) = s ∧
      (∀ (K : Int32 → xS → Prop) (o : xM) (n1 cb sb : Nat), K τ (cheap X cs ca2 cr cu dyn, o, n1, cb, sb) → p_Sc_pointsOf (X + 28) (some (X + 22)) (some (da d)) K (cheap X cs ca cr cu dyn, o, n1, cb, sb)) ∧
      (∀ (K : Int32 → xS → Prop) (o : xM) (n1 cb sb : Nat), K h (mheap M A2 B S, o, n1, cb, sb) → p_M_tried M (nI d) K (mheap M A B S, o, n1, cb, sb)) := by
  obtain ⟨⟨e11, e12, e1, e10, eO⟩, -⟩ := hk.1 d hd
  have hT := hq.2.1
  have hT0 := hq.1
  have hind : vp_in (nI d) 180 := vp_in_nI (by omega) (by decide)
  have hins : vp_in (nI (sz d - 1)) 10 := vp_in_nI (by omega) (by decide)
  have hins2 : vp_in (nI (sz d - 1)) 120 := vp_in_nI (by omega) (by decide)
  have hin0 : vp_in (0 : Int32) 12 := vp_in_nI (n := 0) (by omega) (by decide)
  obtain ⟨nodes, hnn⟩ := docs_of hk
  obtain ⟨d1, d2⟩ := hnn d hd
  have hb1 := d1.1.1
  obtain ⟨ca2, A2, k1, k2, k3, k4, k5⟩ := pt_out (M := M) (S := S) (cs := cs) (cr := cr) (cu := cu) hk hO hD hq hrow hpm hpc htm hL hdL hLl hd T 1000 ca A (by omega) (Nat.le_refl _) agr.rf agr.rf (fun x h1 h2 => by omega)
  obtain ⟨-, -, -, par, ty, va, wd, a4, -, a6⟩ := hk.2.2.1 d (sz d - 1) hd (by omega)
  have hroot : A 22 (fr d + (sz d - 1)) = 0 := by
    rcases a6 with ⟨-, -, -, q⟩ | ⟨p, p1, p2, -⟩
    · exact q
    · omega
  have R := k3 0 hT0 (sz d - 1) (by omega) (by rw [hroot, hq.2.2.1])
  have esz : nI (sz d) - 1 = nI (sz d - 1) := pk_sub (b := 1) e1
  rw [Nat.mul_zero, Nat.zero_add, Nat.add_zero] at R
  refine ⟨ca2 32 (sz d - 1), A2 38 (sz d - 1), A2 39 (sz d - 1), ca2, A2, k1, k2, rl_mono R (bd_lt (A := A) hT hT0).1, rfl, fun K o n1 cb sb h => ?_, fun K o n1 cb sb h => ?_⟩
  · unfold p_Sc_pointsOf
    rw [y_gR (v := some (da d + 1)) hb1 d1.2.1 rfl, c_g22_4, hcs]
    refine k4 K _ _ _ _ _ ?_
    rw [c_g28_2, c_r31, show (0 : Int32).toNatClampNeg = 0 from rfl, if_pos (by omega), y_len (by omega) d1.2.2, esz, cr_tab (by omega), cl_nI (by omega)]
    exact ⟨hin0, hins, h⟩
  · unfold p_M_tried
    rw [m_g36, h36]
    refine k5 K _ _ _ _ _ ?_
    rw [m_g38, m_g12, m_r12, cl_nI (by omega), k2 12 (by decide), e12, esz, m_r38, cl_nI (by omega)]
    refine ⟨hind, hins2, ?_, h⟩
    rcases R with ⟨-, q, -⟩ | ⟨v, -, -, q, -⟩
    · exact Or.inl q
    · exact Or.inr q
end PA
