/-! merge, of both -/
theorem mg_inv {A : Nat → Nat → Int32} {D K a m w : Nat} (hs : segs A D K) (h6 : K ≤ 6) (ham : a + m ≤ K) (hw : w ≤ m) {d k' : Nat} (hd : d < D) (hk' : k' < 2 ^ 31) (h : mgA A a m w D 14 d = nI k') : ∃ k, k < K ∧ A 14 d = nI k ∧ k' = phi a m w k ∧ (k < a ∨ a + m ≤ k ∨ A 16 d ≠ 0) := by
  rcases mg_val hs h6 ham hw hd with ⟨q, q2⟩ | ⟨k, k1, k2, k3⟩
  · rw [q2] at h
    rcases q with q | q
    · rw [q] at h; exact absurd h.symm (nI_ne_m2 hk')
    · rw [q] at h; exact absurd h.symm (nI_ne_m1 hk')
  · rcases k3 with ⟨-, -, -, k4⟩ | ⟨k4, k5⟩
    · rw [k4] at h; exact absurd h.symm (nI_ne_m2 hk')
    · have hb : phi a m w k < 2 ^ 31 := by unfold phi; split <;> (try split) <;> omega
      rw [k5] at h
      exact ⟨k, k1, k2, ((nI_eq hb hk').mp h).symm, k4⟩
theorem merge_segs {A : Nat → Nat → Int32} {D K a m w : Nat} (hs : segs A D K) (h6 : K ≤ 6) (ham : a + m ≤ K) (hm : 2 ≤ m) (h01 : ∀ d, d < D → A 16 d = 0 ∨ A 16 d = 1) (hw : w + 1 = m ∨ (w = m ∧ ∀ d k, d < D → a ≤ k → k < a + m → A 14 d = nI k → A 16 d = 0)) :
    segs (mgA A a m w D) D (K - w) ∧ bufL (mgA A a m w D) D = bufL A D ∧ (∀ k, k < a → segL (mgA A a m w D) D k = segL A D k) ∧ (w + 1 = m → segL (mgA A a m w D) D a = (catL A D a m).filter (lvB (A 16))) ∧ (∀ k, a + m ≤ k + w → k + w < K → segL (mgA A a m w D) D k = segL A D (k + w)) := by
  have hwm : w ≤ m := by omega
  have inv := fun d k' hd hk' h => mg_inv (w := w) hs h6 ham hwm (d := d) (k' := k') hd hk' h
  have val := fun d hd => mg_val (w := w) hs h6 ham hwm (d := d) hd
  have e13 : mgA A a m w D 13 = A 13 := va_up_ne _ _ (by decide)
  have e16 : mgA A a m w D 16 = A 16 := va_up_ne _ _ (by decide)
  have uniq : ∀ d k l, k < K → l < K → A 14 d = nI k → A 14 d = nI l → k = l := fun d k l hk hl h1 h2 => (nI_eq (by omega) (by omega)).mp (h1.symm.trans h2)
  have one : ∀ d, d < D → A 16 d ≠ 0 → A 16 d = 1 := fun d hd hne => by
    rcases h01 d hd with q | q
    · exact absurd q hne
    · exact q
  have lw : ∀ d k, d < D → a ≤ k → k < a + m → A 14 d = nI k → A 16 d ≠ 0 → w + 1 = m := fun d k hd h1 h2 h3 h4 => by
    rcases hw with q | q
    · exact q
    · exact absurd (q.2 d k hd h1 h2 h3) h4
  have fwd : ∀ d k, d < D → k < K → A 14 d = nI k → (k < a ∨ a + m ≤ k ∨ A 16 d ≠ 0) → mgA A a m w D 14 d = nI (phi a m w k) := by
    intro d k hd hk hA hor
    rcases val d hd with ⟨q, q2⟩ | ⟨l, k1, k2, k3⟩
    · rw [hA] at q
      rcases q with q | q
      · exact absurd q (nI_ne_m2 (by omega))
      · exact absurd q (nI_ne_m1 (by omega))
    · have := uniq d k l hk k1 hA k2
      subst this
      rcases k3 with ⟨t1, t2, t3, -⟩ | ⟨-, k5⟩
      · rcases hor with q | q | q
        · omega
        · omega
        · exact absurd t3 q
      · exact k5
  refine ⟨⟨fun d hd => ?_, fun d e k l hde he hk hl hdk hel => ?_, fun d e l hde he hl hd1 hel => ?_, ?_, fun d e k hd he hk hdk hek hid => ?_⟩, ?_, fun k hk => ?_, fun hw1 => ?_, fun k hk1 hk2 => ?_⟩
  · rw [e16]
    rcases val d hd with ⟨q, q2⟩ | ⟨k, k1, k2, k3⟩
    · rw [q2]
      rcases hs.1 d hd with t | t | ⟨l, l1, l2⟩
      · exact Or.inl t
      · exact Or.inr (Or.inl t)
      · rw [l2] at q
        rcases q with q | q
        · exact absurd q (nI_ne_m2 (by omega))
        · exact absurd q (nI_ne_m1 (by omega))
    · rcases k3 with ⟨-, -, k4, k5⟩ | ⟨k4, k5⟩
      · exact Or.inl ⟨k5, k4⟩
      · refine Or.inr (Or.inr ⟨_, ?_, k5⟩)
        have : a ≤ k → k < a + m → w + 1 = m := fun h1 h2 => by
          rcases k4 with q | q | q
          · omega
          · omega
          · exact lw d k hd h1 h2 k2 q
        unfold phi
        split
        · omega
        · split
          · have := this (by omega) (by omega); omega
          · omega
  · obtain ⟨k0, a1, a2, a3, a4⟩ := inv d k (by omega) (by omega) hdk
    obtain ⟨l0, b1, b2, b3, b4⟩ := inv e l he (by omega) hel
    have := hs.2.1 d e k0 l0 hde he a1 b1 a2 b2
    rw [a3, b3]
    unfold phi
    split <;> split <;> (try split) <;> (try split) <;> omega
  · obtain ⟨l0, b1, b2, b3, b4⟩ := inv e l he (by omega) hel
    refine hs.2.2.1 d e l0 hde he b1 ?_ b2
    rcases val d (by omega) with ⟨q, q2⟩ | ⟨k, k1, k2, k3⟩
    · exact q2.symm.trans hd1
    · rcases k3 with ⟨-, -, -, k5⟩ | ⟨-, k5⟩
      · rw [k5] at hd1; exact absurd hd1 (by decide)
      · rw [k5] at hd1
        exact absurd hd1 (nI_ne_m1 (by unfold phi; split <;> (try split) <;> omega))
  · rw [e13, e16]
    exact hs.2.2.2.1
  · rw [e13] at hid
    obtain ⟨k0, a1, a2, a3, a4⟩ := inv d k hd (by omega) hdk
    obtain ⟨l0, b1, b2, b3, b4⟩ := inv e k he (by omega) hek
    by_cases q : k0 = l0
    · subst q
      exact hs.2.2.2.2 d e k0 hd he a1 a2 b2 hid
    · by_cases r1 : a ≤ k0 ∧ k0 < a + m ∧ a ≤ l0 ∧ l0 < a + m
      · have l1 : A 16 d ≠ 0 := by
          rcases a4 with z | z | z
          · omega
          · omega
          · exact z
        have l2 : A 16 e ≠ 0 := by
          rcases b4 with z | z | z
          · omega
          · omega
          · exact z
        exact hs.2.2.2.1 d e hd he (one d hd l1) (one e he l2) hid
      · exfalso
        have m1 : a ≤ k0 → k0 < a + m → w + 1 = m := fun h1 h2 => by
          rcases a4 with z | z | z
          · omega
          · omega
          · exact lw d k0 hd h1 h2 a2 z
        have m2 : a ≤ l0 → l0 < a + m → w + 1 = m := fun h1 h2 => by
          rcases b4 with z | z | z
          · omega
          · omega
          · exact lw e l0 he h1 h2 b2 z
        rw [a3] at b3
        unfold phi at b3
        by_cases c1 : k0 < a
        · rw [if_pos c1] at b3
          by_cases c2 : l0 < a
          · rw [if_pos c2] at b3; omega
          · rw [if_neg c2] at b3
            by_cases c3 : l0 < a + m
            · rw [if_pos c3] at b3; omega
            · rw [if_neg c3] at b3; omega
        · rw [if_neg c1] at b3
          by_cases c4 : k0 < a + m
          · rw [if_pos c4] at b3
            have := m1 (by omega) c4
            by_cases c2 : l0 < a
            · rw [if_pos c2] at b3; omega
            · rw [if_neg c2] at b3
              by_cases c3 : l0 < a + m
              · omega
              · rw [if_neg c3] at b3; omega
          · rw [if_neg c4] at b3
            by_cases c2 : l0 < a
            · rw [if_pos c2] at b3; omega
            · rw [if_neg c2] at b3
              by_cases c3 : l0 < a + m
              · have := m2 (by omega) c3
                rw [if_pos c3] at b3; omega
              · rw [if_neg c3] at b3; omega
  · unfold bufL
    refine sel_congr _ _ (fun d _ hd => decide_eq_decide.mpr ?_)
    rcases val d (by omega) with ⟨q, q2⟩ | ⟨k, k1, k2, k3⟩
    · rw [q2]
    · have n1 : ¬ A 14 d = -1 := by rw [k2]; exact nI_ne_m1 (by omega)
      have n2 : ¬ mgA A a m w D 14 d = -1 := by
        rcases k3 with ⟨-, -, -, k5⟩ | ⟨-, k5⟩
        · rw [k5]; decide
        · rw [k5]; exact nI_ne_m1 (by unfold phi; split <;> (try split) <;> omega)
      exact ⟨fun h => absurd h n2, fun h => absurd h n1⟩
  · unfold segL
    refine sel_congr _ _ (fun d _ hd => decide_eq_decide.mpr ⟨fun h => ?_, fun h => ?_⟩)
    · obtain ⟨k0, a1, a2, a3, a4⟩ := inv d k (by omega) (by omega) h
      have : k0 = k := by
        unfold phi at a3
        by_cases c1 : k0 < a
        · rw [if_pos c1] at a3; omega
        · rw [if_neg c1] at a3
          by_cases c4 : k0 < a + m
          · rw [if_pos c4] at a3; omega
          · rw [if_neg c4] at a3; omega
      rw [this] at a2
      exact a2
    · rw [fwd d k (by omega) (by omega) h (Or.inl hk)]
      unfold phi
      rw [if_pos hk]
  · rw [cat_sel hs h6 m a ham, sel_filter]
    unfold segL
    refine sel_congr _ _ (fun d _ hd => ?_)
    by_cases h : mgA A a m w D 14 d = nI a
    · obtain ⟨k0, a1, a2, a3, a4⟩ := inv d a (by omega) (by omega) h
      have hr : a ≤ k0 ∧ k0 < a + m := by
        unfold phi at a3
        by_cases c1 : k0 < a
        · rw [if_pos c1] at a3; omega
        · rw [if_neg c1] at a3
          by_cases c4 : k0 < a + m
          · omega
          · rw [if_neg c4] at a3; omega
      have hl : A 16 d ≠ 0 := by
        rcases a4 with z | z | z
        · omega
        · omega
        · exact z
      rw [segB_t h, lvB_t.mpr hl, rgB_t.mpr (by rw [a2, nI_toInt (by omega)]; omega)]
      rfl
    · rw [segB_f h]
      cases hb : (rgB (A 14) a m d && lvB (A 16) d) with
      | false => rfl
      | true =>
        rw [Bool.and_eq_true] at hb
        have h1 := rgB_t.mp hb.1
        have h2 := lvB_t.mp hb.2
        exfalso
        rcases hs.1 d (by omega) with t | t | ⟨l, l1, l2⟩
        · exact h2 t.2
        · rw [t, show (-1 : Int32).toInt = -1 from rfl] at h1; omega
        · rw [l2, nI_toInt (by omega)] at h1
          refine h ?_
          rw [fwd d l (by omega) l1 l2 (Or.inr (Or.inr h2))]
          unfold phi
          rw [if_neg (by omega), if_pos (by omega)]
  · unfold segL
    refine sel_congr _ _ (fun d _ hd => decide_eq_decide.mpr ⟨fun h => ?_, fun h => ?_⟩)
    · obtain ⟨k0, a1, a2, a3, a4⟩ := inv d k (by omega) (by omega) h
      have m1 : a ≤ k0 → k0 < a + m → w + 1 = m := fun h1 h2 => by
        rcases a4 with z | z | z
        · omega
        · omega
        · exact lw d k0 (by omega) h1 h2 a2 z
      have : k0 = k + w := by
        unfold phi at a3
        by_cases c1 : k0 < a
        · rw [if_pos c1] at a3; omega
        · rw [if_neg c1] at a3
          by_cases c4 : k0 < a + m
          · have := m1 (by omega) c4
            rw [if_pos c4] at a3; omega
          · rw [if_neg c4] at a3; omega
      rw [this] at a2
      exact a2
    · rw [fwd d (k + w) (by omega) hk2 h (Or.inr (Or.inl hk1))]
      unfold phi
      rw [if_neg (by omega), if_neg (by omega), Nat.add_sub_cancel]
