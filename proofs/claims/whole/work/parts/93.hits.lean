/-! THE HITS: a document comes in -/
section HW
variable {X : Nat} {cs : Nat → Int32} {ca : Nat → Nat → Int32} {cr : Nat → Nat → Option Nat} {cu : Option Nat} {dyn : xM} {r : xM × Nat × Nat × Nat}
theorem c_G45 {i : Int32} {j : Nat} (hj : j < 20) {K : xS → Prop} : xasG 2 0 (some (X + 45)) i (some (X + 46 + j)) K (cheap X cs ca cr cu dyn, r) ↔ vp_in i 20 ∧ K (cheap X cs ca (va_up cr 45 (va_up (cr 45) i.toNatClampNeg (some (X + 46 + j)))) cu dyn, r) := g_asG (cheap_f 45 (by decide)) (cf_hit hj) (cheap_w 45 (by decide) (lt66 rfl rfl rfl rfl rfl rfl rfl rfl rfl rfl rfl rfl rfl rfl rfl rfl rfl rfl rfl rfl rfl rfl rfl rfl rfl rfl rfl rfl rfl rfl rfl rfl rfl rfl rfl rfl rfl rfl rfl rfl rfl rfl rfl rfl rfl rfl rfl rfl rfl rfl rfl rfl rfl rfl rfl rfl rfl rfl rfl rfl rfl rfl rfl rfl rfl rfl))
end HW
def shf {α : Type} (f : Nat → α) (q H : Nat) : Nat → α := fun k => if q < k ∧ k ≤ H then f (k - 1) else f k
theorem shf_H {α : Type} (f : Nat → α) (H : Nat) : shf f H H = f := by
  funext k
  unfold shf
  rw [if_neg (by omega)]
theorem shf_lo {α : Type} (f : Nat → α) {q H k : Nat} (h : k ≤ q) : shf f q H k = f k := by
  unfold shf
  rw [if_neg (by omega)]
theorem shf_s {α : Type} (f : Nat → α) {q H : Nat} (h : q + 1 ≤ H) : va_up (shf f (q + 1) H) (q + 1) (f q) = shf f q H := by
  funext k
  by_cases e : k = q + 1
  · subst e
    rw [va_up_self]
    unfold shf
    rw [if_pos (by omega)]
    rfl
  · rw [va_up_ne _ _ e]
    unfold shf
    by_cases c : q + 1 < k ∧ k ≤ H
    · rw [if_pos c, if_pos (by omega)]
    · rw [if_neg c, if_neg (by omega)]
def sg (p H k : Nat) : Nat := if k = p then H else if p < k ∧ k ≤ H then k - 1 else k
theorem shf_sg {α : Type} (f : Nat → α) (p H k : Nat) : va_up (shf f p H) p (f H) k = f (sg p H k) := by
  unfold sg
  by_cases e : k = p
  · subst e; rw [va_up_self, if_pos rfl]
  · rw [va_up_ne _ _ e, if_neg e]
    unfold shf
    by_cases c : p < k ∧ k ≤ H
    · rw [if_pos c, if_pos c]
    · rw [if_neg c, if_neg c]
theorem sg_p (p H : Nat) : sg p H p = H := if_pos rfl
theorem sg_ne {p H k : Nat} (h : k ≠ p) : sg p H k = if p < k ∧ k ≤ H then k - 1 else k := if_neg h
theorem shf_ne {α : Type} (f : Nat → α) {p H k : Nat} (h : k ≠ p) : shf f p H k = f (sg p H k) := by
  rw [sg_ne h]
  unfold shf
  by_cases c : p < k ∧ k ≤ H
  · rw [if_pos c, if_pos c]
  · rw [if_neg c, if_neg c]
theorem sg_lt {p H k : Nat} (hp : p ≤ H) (h : k ≠ p) (hk : k ≤ H) : sg p H k < H := by
  rw [sg_ne h]
  split <;> omega
theorem sg_20 {p H k : Nat} (hH : H < 20) (hk : k < 20) : sg p H k < 20 := by
  unfold sg
  split <;> (try split) <;> omega
theorem sg_inj {p H i j : Nat} (hp : p ≤ H) (h : sg p H i = sg p H j) : i = j := by
  unfold sg at h
  by_cases e1 : i = p <;> by_cases e2 : j = p
  · omega
  · rw [if_pos e1, if_neg e2] at h
    split at h <;> omega
  · rw [if_neg e1, if_pos e2] at h
    split at h <;> omega
  · rw [if_neg e1, if_neg e2] at h
    split at h <;> split at h <;> omega
/-- where it goes -/
def pl (sc : Nat → Int32) (s : Int32) : Nat → Nat
  | 0 => 0
  | q + 1 => if sc q < s then pl sc s q else q + 1
theorem pl_le (sc : Nat → Int32) (s : Int32) : ∀ q, pl sc s q ≤ q
  | 0 => Nat.le_refl _
  | q + 1 => by
    have := pl_le sc s q
    show (if sc q < s then pl sc s q else q + 1) ≤ q + 1
    split <;> omega
theorem i_nle {a b : Int32} : ¬ a ≤ b ↔ b < a := by rw [i_le, i_lt]; omega
section HC
variable {X : Nat} {cs : Nat → Int32} {ca : Nat → Nat → Int32} {cr : Nat → Nat → Option Nat} {cu : Option Nat} {dyn : xM} {r : xM × Nat × Nat × Nat} {H : Nat} {pm : Nat → Nat} {sc : Nat → Int32} {s : Int32}
theorem C_ins_L {l1 : Option Nat} {l2 : Int32} {l4 : Option Nat} {K : Unit → xS → Prop} {Kx : Int32 → xS → Prop} (hH : H < 20) (hpm : ∀ k, k < 20 → cr 45 k = some (X + 46 + pm k) ∧ pm k < 20) (hsc : ∀ k, k < H → ca (46 + pm k) 1 = sc k) : ∀ (q fu : Nat), q < fu → q ≤ H → (p_Hi_insert_L30 (X + 44) l1 l2 s l4 K Kx fu (nI q) (cheap X cs ca (va_up cr 45 (shf (cr 45) q H)) cu dyn, r) ↔ Kx (nI (pl sc s q)) (cheap X cs ca (va_up cr 45 (shf (cr 45) (pl sc s q) H)) cu dyn, r))
  | 0, fu + 1, hf, hq => by
    unfold p_Hi_insert_L30
    rw [xif_t (by decide)]
    exact Iff.rfl
  | q + 1, fu + 1, hf, hq => by
    have ih := C_ins_L (l1 := l1) (l2 := l2) (l4 := l4) (K := K) (Kx := Kx) hH hpm hsc q fu (by omega) (by omega)
    have hin : vp_in (nI q) 20 := vp_in_nI (by omega) (by decide)
    have hin1 : vp_in (nI (q + 1)) 20 := vp_in_nI (by omega) (by decide)
    have hi1 : vp_in (1 : Int32) 5 := vp_in_nI (n := 1) (by decide) (by decide)
    obtain ⟨p1, p2⟩ := hpm q (by omega)
    unfold p_Hi_insert_L30
    show _ ↔ Kx (nI (if sc q < s then pl sc s q else q + 1)) (cheap X cs ca (va_up cr 45 (shf (cr 45) (if sc q < s then pl sc s q else q + 1) H)) cu dyn, r)
    rw [xif_f (show ¬ nI (q + 1) ≤ 0 from nI_ge (a := 0) (by omega) (by omega)), nI_m1, c_g44_0, c_r45, cl_nI (by omega), va_up_self, shf_lo _ (by omega), p1, cr_hit p2, show (1 : Int32).toNatClampNeg = 1 from rfl, hsc q (by omega)]
    simp only [hin, hi1, true_and]
    by_cases c : sc q < s
    · rw [xif_f (i_nle.mpr c), if_pos c, c_g44_0, c_g44_0, c_r45, cl_nI (by omega), va_up_self, shf_lo _ (by omega), p1, c_G45 p2, cl_nI (by omega), va_up_self, bx_uu, ← p1, shf_s _ hq, nI_a1, nI_m1, ih]
      simp only [hin, hin1, true_and]
    · rw [xif_t (show s ≤ sc q from Decidable.byContradiction (fun z => c (i_nle.mp z))), if_neg c]
end HC
def shA (A : Nat → Nat → Int32) (q H : Nat) : Nat → Nat → Int32 := va_up (va_up (va_up (va_up A 41 (shf (A 41) q H)) 40 (shf (A 40) q H)) 42 (shf (A 42) q H)) 43 (shf (A 43) q H)
theorem u4 {α : Type} {A : Nat → α} {a b c d a' b' c' d' : α} : va_up (va_up (va_up (va_up (va_up (va_up (va_up (va_up A 41 a) 40 b) 42 c) 43 d) 41 a') 40 b') 42 c') 43 d' = va_up (va_up (va_up (va_up A 41 a') 40 b') 42 c') 43 d' := by
  funext k
  unfold va_up
  by_cases e1 : k = 43
  · simp [e1]
  · by_cases e2 : k = 42
    · simp [e2]
    · by_cases e3 : k = 40
      · simp [e3]
      · by_cases e4 : k = 41
        · simp [e4]
        · simp [e1, e2, e3, e4]
theorem r4_41 {α : Type} {A : Nat → α} {a b c d : α} : va_up (va_up (va_up (va_up A 41 a) 40 b) 42 c) 43 d 41 = a := by rw [va_up_ne _ _ (by decide), va_up_ne _ _ (by decide), va_up_ne _ _ (by decide), va_up_self]
theorem r4_40 {α : Type} {A : Nat → α} {a b c d : α} : va_up (va_up (va_up (va_up A 41 a) 40 b) 42 c) 43 d 40 = b := by rw [va_up_ne _ _ (by decide), va_up_ne _ _ (by decide), va_up_self]
theorem r4_42 {α : Type} {A : Nat → α} {a b c d : α} : va_up (va_up (va_up (va_up A 41 a) 40 b) 42 c) 43 d 42 = c := by rw [va_up_ne _ _ (by decide), va_up_self]
theorem r4_43 {α : Type} {A : Nat → α} {a b c d : α} : va_up (va_up (va_up (va_up A 41 a) 40 b) 42 c) 43 d 43 = d := by rw [va_up_self]
section HM
variable {M : Nat} {A : Nat → Nat → Int32} {B : Nat → Nat → Int64} {S : Nat → Int32} {r : xM × Nat × Nat × Nat} {H : Nat} {s : Int32}
theorem M_ins_L {l2 : Int32} {K : Int32 → xS → Prop} {Kx : Int32 → xS → Prop} (hH : H < 20) : ∀ (q fu : Nat), q < fu → q ≤ H → (p_M_search_L84 M l2 s K Kx fu (nI q) (mheap M (shA A q H) B S, r) ↔ Kx (nI (pl (A 41) s q)) (mheap M (shA A (pl (A 41) s q) H) B S, r))
  | 0, fu + 1, hf, hq => by
    unfold p_M_search_L84
    rw [xif_t (by decide)]
    exact Iff.rfl
  | q + 1, fu + 1, hf, hq => by
    have ih := M_ins_L (l2 := l2) (K := K) (Kx := Kx) hH q fu (by omega) (by omega)
    have hin : vp_in (nI q) 180 := vp_in_nI (by omega) (by decide)
    have hin1 : vp_in (nI (q + 1)) 180 := vp_in_nI (by omega) (by decide)
    unfold p_M_search_L84
    show _ ↔ Kx (nI (if A 41 q < s then pl (A 41) s q else q + 1)) (mheap M (shA A (if A 41 q < s then pl (A 41) s q else q + 1) H) B S, r)
    have e41 : shA A (q + 1) H 41 = shf (A 41) (q + 1) H := r4_41
    have e40 : shA A (q + 1) H 40 = shf (A 40) (q + 1) H := r4_40
    have e42 : shA A (q + 1) H 42 = shf (A 42) (q + 1) H := r4_42
    have e43 : shA A (q + 1) H 43 = shf (A 43) (q + 1) H := r4_43
    rw [xif_f (show ¬ nI (q + 1) ≤ 0 from nI_ge (a := 0) (by omega) (by omega)), nI_m1, m_g41, m_r41, cl_nI (by omega), e41, shf_lo _ (by omega)]
    by_cases c : A 41 q < s
    · rw [xif_f (i_nle.mpr c), if_pos c, ← ih, m_g41, m_g41, m_r41, cl_nI (by omega), e41, shf_lo _ (by omega), m_w41, cl_nI (by omega), e41, shf_s _ hq,
        m_g40, m_g40, m_r40, cl_nI (by omega), va_up_ne (j := 40) (k := 41) _ _ (by decide), e40, shf_lo _ (by omega), m_w40, cl_nI (by omega), va_up_ne (j := 40) (k := 41) _ _ (by decide), e40, shf_s _ hq,
        m_g42, m_g42, m_r42, cl_nI (by omega), va_up_ne (j := 42) (k := 40) _ _ (by decide), va_up_ne (j := 42) (k := 41) _ _ (by decide), e42, shf_lo _ (by omega), m_w42, cl_nI (by omega), va_up_ne (j := 42) (k := 40) _ _ (by decide), va_up_ne (j := 42) (k := 41) _ _ (by decide), e42, shf_s _ hq,
        m_g43, m_g43, m_r43, cl_nI (by omega), va_up_ne (j := 43) (k := 42) _ _ (by decide), va_up_ne (j := 43) (k := 40) _ _ (by decide), va_up_ne (j := 43) (k := 41) _ _ (by decide), e43, shf_lo _ (by omega), m_w43, cl_nI (by omega), va_up_ne (j := 43) (k := 42) _ _ (by decide), va_up_ne (j := 43) (k := 40) _ _ (by decide), va_up_ne (j := 43) (k := 41) _ _ (by decide), e43, shf_s _ hq, nI_a1, nI_m1]
      simp only [hin, hin1, true_and]
      unfold shA
      rw [u4]
    · rw [xif_t (show s ≤ A 41 q from Decidable.byContradiction (fun z => c (i_nle.mp z))), if_neg c]
      simp only [hin, true_and]
end HM
