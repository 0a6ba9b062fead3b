/-! merge, the reference -/
def mgF (s lv : Nat → Int32) (a m d D : Nat) : Nat → Int32 := fun x => if d ≤ x ∧ x < D ∧ rgB s a m x = true then (if lv x = 0 then -2 else nI a) else s x
def dnF (s : Nat → Int32) (t w : Int32) (d D : Nat) : Nat → Int32 := fun x => if d ≤ x ∧ x < D ∧ ¬ s x < t then s x - w else s x
theorem mgF_0 (s lv : Nat → Int32) (a m D : Nat) : mgF s lv a m D D = s := by
  funext x
  unfold mgF
  rw [if_neg (by omega)]
theorem mgF_n {s lv : Nat → Int32} {a m d D : Nat} (h : rgB s a m d = false) : mgF s lv a m (d + 1) D = mgF s lv a m d D := by
  funext x
  unfold mgF
  by_cases e : x = d
  · subst e; rw [if_neg (by omega), if_neg (fun q => by rw [h] at q; cases q.2.2)]
  · by_cases c : d + 1 ≤ x ∧ x < D ∧ rgB s a m x = true
    · rw [if_pos c, if_pos (show d ≤ x ∧ x < D ∧ rgB s a m x = true from ⟨by omega, c.2⟩)]
    · rw [if_neg c, if_neg (fun q => c ⟨by omega, q.2⟩)]
theorem mgF_s {s lv : Nat → Int32} {a m d D : Nat} {w : Int32} (h : rgB s a m d = true) (hd : d < D) (hw : w = if lv d = 0 then -2 else nI a) : mgF (va_up s d w) lv a m (d + 1) D = mgF s lv a m d D := by
  funext x
  unfold mgF
  by_cases e : x = d
  · subst e; rw [if_neg (by omega), va_up_self, if_pos ⟨Nat.le_refl _, hd, h⟩, hw]
  · have e2 : rgB (va_up s d w) a m x = rgB s a m x := by unfold rgB; rw [va_up_ne _ _ e]
    rw [va_up_ne _ _ e, e2]
    by_cases c : d + 1 ≤ x ∧ x < D ∧ rgB s a m x = true
    · rw [if_pos c, if_pos (show d ≤ x ∧ x < D ∧ rgB s a m x = true from ⟨by omega, c.2⟩)]
    · rw [if_neg c, if_neg (fun q => c ⟨by omega, q.2⟩)]
theorem sel_up {s : Nat → Int32} {a m d : Nat} {w : Int32} {n : Nat} : sel (rgB (va_up s d w) a m) (d + 1) n = sel (rgB s a m) (d + 1) n := sel_congr _ _ (fun x hx _ => by unfold rgB; rw [va_up_ne _ _ (by omega)])
theorem dnF_0 (s : Nat → Int32) (t w : Int32) (D : Nat) : dnF s t w D D = s := by
  funext x
  unfold dnF
  rw [if_neg (by omega)]
theorem dnF_n {s : Nat → Int32} {t w : Int32} {d D : Nat} (h : s d < t) : dnF s t w (d + 1) D = dnF s t w d D := by
  funext x
  unfold dnF
  by_cases e : x = d
  · subst e; rw [if_neg (by omega), if_neg (fun q => q.2.2 h)]
  · by_cases c : d + 1 ≤ x ∧ x < D ∧ ¬ s x < t
    · rw [if_pos c, if_pos (show d ≤ x ∧ x < D ∧ ¬ s x < t from ⟨by omega, c.2⟩)]
    · rw [if_neg c, if_neg (fun q => c ⟨by omega, q.2⟩)]
theorem dnF_s {s : Nat → Int32} {t w : Int32} {d D : Nat} (h : ¬ s d < t) (hd : d < D) : dnF (va_up s d (s d - w)) t w (d + 1) D = dnF s t w d D := by
  funext x
  unfold dnF
  by_cases e : x = d
  · subst e; rw [if_neg (by omega), va_up_self, if_pos ⟨Nat.le_refl _, hd, h⟩]
  · rw [va_up_ne _ _ e]
    by_cases c : d + 1 ≤ x ∧ x < D ∧ ¬ s x < t
    · rw [if_pos c, if_pos (show d ≤ x ∧ x < D ∧ ¬ s x < t from ⟨by omega, c.2⟩)]
    · rw [if_neg c, if_neg (fun q => c ⟨by omega, q.2⟩)]
theorem inR_rg {s : Nat → Int32} {a m d : Nat} (hm : 1 ≤ m) (ham : a + m < 2 ^ 31) : inR (s d) (nI a).toInt (nI (a + m - 1)).toInt = if rgB s a m d = true then 1 else 0 := by
  rw [nI_toInt (by omega), nI_toInt (by omega)]
  cases h : rgB s a m d with
  | true =>
    have := rgB_t.mp h
    unfold inR
    rw [if_neg (by omega), if_pos rfl]
  | false =>
    have := rgB_f.mp h
    rw [if_neg (by decide)]
    exact inR_0.mpr (by omega)
section MM
variable {M : Nat} {B : Nat → Nat → Int64} {o : xM} {nx cb sb : Nat} {D a m : Nat}
theorem M_merge_L {K : Int32 → xS → Prop} {Kx : Int32 → xS → Prop} (h180 : D ≤ 180) (hm : 1 ≤ m) (ham : a + m ≤ 6) : ∀ (n f d : Nat) (l : Int32) (A : Nat → Nat → Int32) (S : Nat → Int32), S 18 = nI D → n < f → d + n = D → (p_M_merge_L31 M (nI a) (nI m) K Kx f l (nI d) (mheap M A B S, o, nx, cb, sb) ↔ Kx (if (sel (rgB (A 14) a m) d n).filter (lvB (A 16)) = [] then l else 1) (mheap M (va_up A 14 (mgF (A 14) (A 16) a m d D)) B (va_up S 20 (S 20 + nI ((sel (rgB (A 14) a m) d n).filter (fun x => !lvB (A 16) x)).length)), o, nx, cb, sb))
  | 0, f + 1, d, l, A, S, hD, hf, hd => by
    unfold p_M_merge_L31
    rw [m_g18, hD, xif_t (nI_le (by omega) (by omega)), show d = D by omega, mgF_0, va_up_id (f := A) rfl, show sel (rgB (A 14) a m) D 0 = [] from rfl, show ([] : List Nat).filter (lvB (A 16)) = [] from rfl, if_pos rfl, show ([] : List Nat).filter (fun x => !lvB (A 16) x) = [] from rfl, show S 20 + nI ([] : List Nat).length = S 20 from Int32.add_zero _, va_up_id (f := S) rfl]
  | n + 1, f + 1, d, l, A, S, hD, hf, hd => by
    unfold p_M_merge_L31
    have hin : vp_in (nI d) 180 := vp_in_nI (by omega) (by decide)
    rw [m_g18, hD, xif_f (nI_ge (by omega) (by omega)), m_g14, m_r14, cl_nI (by omega), m_call, nI_add, show nI (a + m) - 1 = nI (a + m - 1) from pk_sub (b := 1) (by omega), M_in_eq, inR_rg hm (by omega)]
    dsimp only
    cases h : rgB (A 14) a m d with
    | false =>
      rw [if_neg (by decide), xif_t rfl, nI_1, M_merge_L h180 hm ham n f (d + 1) l A S hD (by omega) (by omega), mgF_n h, sel_f h]
      simp only [hin, true_and]
    | true =>
      rw [if_pos rfl, xif_f (by decide), m_g16, m_r16, cl_nI (by omega), sel_t h]
      by_cases e : A 16 d = 0
      · rw [xif_t e, m_g14, m_w14, cl_nI (by omega), m_g20, m_p20, nI_1, M_merge_L h180 hm ham n f (d + 1) l _ _ ((va_up_ne _ _ (by decide)).trans hD) (by omega) (by omega), va_up_self, va_up_ne (j := 16) (k := 14) _ _ (by decide), bx_uu, sel_up, mgF_s h (by omega) (by rw [if_pos e]), va_up_self, bx_uu, List.filter_cons_of_neg (by rw [lvB_f.mpr e]; decide), List.filter_cons_of_pos (p := fun x => !lvB (A 16) x) (by rw [lvB_f.mpr e]; rfl), List.length_cons, Int32.add_assoc, show (1 : Int32) + nI ((sel (rgB (A 14) a m) (d + 1) n).filter (fun x => !lvB (A 16) x)).length = nI (((sel (rgB (A 14) a m) (d + 1) n).filter (fun x => !lvB (A 16) x)).length + 1) from by rw [Int32.add_comm, nI_1]]
        simp only [hin, true_and]
      · rw [xif_f e, m_g14, m_w14, cl_nI (by omega), nI_1, M_merge_L h180 hm ham n f (d + 1) 1 _ _ hD (by omega) (by omega), va_up_self, va_up_ne (j := 16) (k := 14) _ _ (by decide), bx_uu, sel_up, mgF_s h (by omega) (by rw [if_neg e]), List.filter_cons_of_pos (lvB_t.mpr e), List.filter_cons_of_neg (p := fun x => !lvB (A 16) x) (by rw [lvB_t.mpr e]; decide), ite_self, if_neg (List.cons_ne_nil _ _)]
        simp only [hin, true_and]
theorem M_down_L {K : Int32 → xS → Prop} {Kx : xS → Prop} {w : Int32} {S : Nat → Int32} {r : xM × Nat × Nat × Nat} (h180 : D ≤ 180) (hD : S 18 = nI D) : ∀ (n f d : Nat) (A : Nat → Nat → Int32), n < f → d + n = D → (p_M_merge_L126 M (nI a) (nI m) w K Kx f (nI d) (mheap M A B S, r) ↔ Kx (mheap M (va_up A 14 (dnF (A 14) (nI (a + m)) w d D)) B S, r))
  | 0, f + 1, d, A, hf, hd => by
    unfold p_M_merge_L126
    rw [m_g18, hD, xif_t (nI_le (by omega) (by omega)), show d = D by omega, dnF_0, va_up_id (f := A) rfl]
  | n + 1, f + 1, d, A, hf, hd => by
    unfold p_M_merge_L126
    have hin : vp_in (nI d) 180 := vp_in_nI (by omega) (by decide)
    rw [m_g18, hD, xif_f (nI_ge (by omega) (by omega)), m_g14, m_r14, cl_nI (by omega), nI_add]
    by_cases e : A 14 d < nI (a + m)
    · rw [xif_t e, nI_1, M_down_L h180 hD n f (d + 1) A (by omega) (by omega), dnF_n e]
      simp only [hin, true_and]
    · rw [xif_f e, m_g14, m_r14, cl_nI (by omega), m_w14, cl_nI (by omega), nI_1, M_down_L h180 hD n f (d + 1) _ (by omega) (by omega), va_up_self, bx_uu, dnF_s e (by omega)]
      simp only [hin, true_and]
end MM
/-- a number of a segment after merge -/
def phi (a m w k : Nat) : Nat := if k < a then k else if k < a + m then a else k - w
def mgA (A : Nat → Nat → Int32) (a m w D : Nat) : Nat → Nat → Int32 := va_up A 14 (dnF (mgF (A 14) (A 16) a m 0 D) (nI (a + m)) (nI w) 0 D)
theorem mg_val {A : Nat → Nat → Int32} {D K a m w : Nat} (hs : segs A D K) (h6 : K ≤ 6) (ham : a + m ≤ K) (hw : w ≤ m) {d : Nat} (hd : d < D) :
    ((A 14 d = -2 ∨ A 14 d = -1) ∧ mgA A a m w D 14 d = A 14 d) ∨ (∃ k, k < K ∧ A 14 d = nI k ∧ ((a ≤ k ∧ k < a + m ∧ A 16 d = 0 ∧ mgA A a m w D 14 d = -2) ∨ ((k < a ∨ a + m ≤ k ∨ A 16 d ≠ 0) ∧ mgA A a m w D 14 d = nI (phi a m w k)))) := by
  unfold mgA
  rw [va_up_self]
  have hneg : ∀ x : Int32, x = -2 ∨ x = -1 → mgF (A 14) (A 16) a m 0 D d = x → dnF (mgF (A 14) (A 16) a m 0 D) (nI (a + m)) (nI w) 0 D d = x := by
    intro x hx hv
    unfold dnF
    rw [hv, if_neg]
    intro q
    refine q.2.2 ?_
    rw [i_lt, nI_toInt (by omega)]
    rcases hx with rfl | rfl
    · show (-2 : Int) < _; omega
    · show (-1 : Int) < _; omega
  rcases hs.1 d hd with ⟨q, q2⟩ | q | ⟨k, k1, k2⟩
  · refine Or.inl ⟨Or.inl q, ?_⟩
    rw [q]
    refine hneg _ (Or.inl rfl) ?_
    unfold mgF
    rw [if_neg (fun z => by have := rgB_t.mp z.2.2; rw [q, show (-2 : Int32).toInt = -2 from rfl] at this; omega), q]
  · refine Or.inl ⟨Or.inr q, ?_⟩
    rw [q]
    refine hneg _ (Or.inr rfl) ?_
    unfold mgF
    rw [if_neg (fun z => by have := rgB_t.mp z.2.2; rw [q, show (-1 : Int32).toInt = -1 from rfl] at this; omega), q]
  · refine Or.inr ⟨k, k1, k2, ?_⟩
    by_cases c : a ≤ k ∧ k < a + m
    · have hrg : rgB (A 14) a m d = true := rgB_t.mpr (by rw [k2, nI_toInt (by omega)]; omega)
      by_cases e : A 16 d = 0
      · refine Or.inl ⟨c.1, c.2, e, hneg _ (Or.inl rfl) ?_⟩
        unfold mgF
        rw [if_pos ⟨Nat.zero_le _, hd, hrg⟩, if_pos e]
      · refine Or.inr ⟨Or.inr (Or.inr e), ?_⟩
        have hv : mgF (A 14) (A 16) a m 0 D d = nI a := by
          unfold mgF
          rw [if_pos ⟨Nat.zero_le _, hd, hrg⟩, if_neg e]
        unfold dnF phi
        rw [hv, if_neg (fun q => q.2.2 (nI_lt (by omega) (by omega))), if_neg (by omega), if_pos c.2]
    · have hrg : ¬ rgB (A 14) a m d = true := fun q => by
        have := rgB_t.mp q
        rw [k2, nI_toInt (by omega)] at this
        omega
      have hv : mgF (A 14) (A 16) a m 0 D d = nI k := by
        unfold mgF
        rw [if_neg (fun q => hrg q.2.2), k2]
      refine Or.inr ⟨by omega, ?_⟩
      unfold dnF phi
      rw [hv]
      by_cases c2 : k < a
      · rw [if_neg (fun q => q.2.2 (nI_lt (by omega) (by omega))), if_pos c2]
      · rw [if_pos ⟨Nat.zero_le _, hd, fun q => absurd (nI_le (show a + m ≤ k by omega) (by omega)) (by rw [i_le]; rw [i_lt] at q; omega)⟩, if_neg c2, if_neg (by omega), pk_sub (by omega)]
