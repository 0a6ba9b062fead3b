/-! remove -/
theorem fnd_s {lv id : Nat → Int32} {v : Int32} {L : List Nat} {d : Nat} (h : fnd lv id v L = some d) : d ∈ L ∧ lv d ≠ 0 ∧ id d = v := by
  have h1 := List.mem_of_find?_eq_some h
  have h2 := List.find?_some h
  rw [Bool.and_eq_true] at h2
  exact ⟨h1, lvB_t.mp h2.1, of_decide_eq_true h2.2⟩
theorem fnd_n {lv id : Nat → Int32} {v : Int32} {L : List Nat} (h : fnd lv id v L = none) : ∀ d ∈ L, lv d ≠ 0 → id d ≠ v := by
  intro d hd hl hi
  have h2 := List.find?_eq_none.mp h d hd
  rw [lvB_t.mpr hl, decide_eq_true hi] at h2
  exact h2 rfl
def fk (A : Nat → Nat → Int32) (D : Nat) (v : Int32) : Option Nat → Nat → Nat → Option Nat
  | some d, _, _ => some d
  | none, _, 0 => none
  | none, i, n + 1 => fk A D v (fnd (A 16) (A 13) v (segL A D i)) (i + 1) n
theorem fk_some {A : Nat → Nat → Int32} {D : Nat} {v : Int32} {d : Nat} : ∀ (n i : Nat), fk A D v (some d) i n = some d
  | 0, _ => rfl
  | _ + 1, _ => rfl
theorem fk_s {A : Nat → Nat → Int32} {D K : Nat} {v : Int32} {d : Nat} : ∀ (n i : Nat) (o : Option Nat), i + n = K → (∀ e, o = some e → e < D ∧ A 16 e ≠ 0 ∧ A 13 e = v) → fk A D v o i n = some d → d < D ∧ A 16 d ≠ 0 ∧ A 13 d = v
  | n, i, some e, _, h, hf => by
    rw [fk_some] at hf
    cases hf
    exact h _ rfl
  | 0, i, none, _, _, hf => by cases hf
  | n + 1, i, none, hi, h, hf => fk_s (K := K) n (i + 1) _ (by omega) (fun e he => by
      obtain ⟨a, b, c⟩ := fnd_s he
      exact ⟨(mem_seg.mp a).1, b, c⟩) hf
theorem fk_n {A : Nat → Nat → Int32} {D K : Nat} {v : Int32} : ∀ (n i : Nat) (o : Option Nat), i + n = K → fk A D v o i n = none → o = none ∧ ∀ k, i ≤ k → k < K → fnd (A 16) (A 13) v (segL A D k) = none
  | n, i, some e, _, hf => by
    rw [fk_some] at hf
    cases hf
  | 0, i, none, hi, _ => ⟨rfl, fun k a b => by omega⟩
  | n + 1, i, none, hi, hf => by
    obtain ⟨a, b⟩ := fk_n (K := K) n (i + 1) _ (by omega) hf
    refine ⟨rfl, fun k c d => ?_⟩
    by_cases e : k = i
    · subst e; exact a
    · exact b k (by omega) d
section DL
variable {X M nx db : Nat} {bs : Nat → Nat} {dyn : xM} {cs : Nat → Int32} {ca : Nat → Nat → Int32} {cr : Nat → Nat → Option Nat} {cu : Option Nat} {A : Nat → Nat → Int32} {B : Nat → Nat → Int64} {S : Nat → Int32} {D O K : Nat} {fr sz da na le : Nat → Nat}
theorem docs_of (hk : Rk (X + 66) nx db bs dyn A B D O fr sz da na le) : ∃ nodes : Nat → Nat → Option Nat, ∀ d, d < D → docAt bs (X + 66) nx dyn (da d) (A 13 d) (sz d) (nodes d) (A 16 d) ∧ ∀ k, k < sz d → nodes d k = some (na (fr d + k)) := by
  have h : ∀ d, ∃ nodes : Nat → Option Nat, d < D → docAt bs (X + 66) nx dyn (da d) (A 13 d) (sz d) nodes (A 16 d) ∧ ∀ k, k < sz d → nodes k = some (na (fr d + k)) := by
    intro d
    by_cases e : d < D
    · obtain ⟨-, -, -, nodes, a, b⟩ := hk.1 d e
      exact ⟨nodes, fun _ => ⟨a, b⟩⟩
    · exact ⟨fun _ => none, fun q => absurd q e⟩
  exact ⟨fun d => Classical.choose (h d), fun d hd => Classical.choose_spec (h d) hd⟩
theorem B_del_L {v : Int32} {KK : Int32 → xS → Prop} {Kx : Option Nat → xS → Prop} {o : xM} {cb sb : Nat} (hk : Rk (X + 66) nx db bs dyn A B D O fr sz da na le) (hr : Rr (X + 66) nx bs dyn cs cr A S D O K sz da) : ∀ (n f i : Nat) (x : Option Nat), n < f → i + n = K →
    (p_B_deleteLive_L11 X v KK Kx f (x.map da) (nI i) (cheap X cs ca cr cu dyn, o, nx, cb, sb) ↔ Kx ((fk A D v x i n).map da) (cheap X cs ca cr cu dyn, o, nx, cb, sb))
  | 0, f + 1, i, x, hf, hi => by
    have e : fk A D v x i 0 = x := by cases x <;> rfl
    unfold p_B_deleteLive_L11
    rw [c_g0_8, hr.1.2.2.2.2.1, xif_t (nI_le (by omega) (by have := hr.1.2.2.2.2.2.2; omega)), e]
  | n + 1, f + 1, i, some d, hf, hi => by
    unfold p_B_deleteLive_L11
    rw [c_g0_8, hr.1.2.2.2.2.1, xif_f (nI_ge (by omega) (by have := hr.1.2.2.2.2.2.2; omega)), show (some d).map da = some (da d) from rfl, xnn_s, fk_some]
    rfl
  | n + 1, f + 1, i, none, hf, hi => by
    unfold p_B_deleteLive_L11
    have h6 := hr.1.2.2.2.2.2.2.1
    obtain ⟨a, cap, docs, a1, a2, a3, a4, a5⟩ := hr.2.2.1 i (by omega)
    obtain ⟨nodes, hn⟩ := docs_of hk
    have hin : vp_in (nI i) 6 := vp_in_nI (by omega) (by decide)
    have hrow := rowM_of (cs := cs) (ca := ca) (cr := cr) (cu := cu) a2 a3 a4
    rw [c_g0_8, hr.1.2.2.2.2.1, xif_f (nI_ge (by omega) (by omega)), show (none : Option Nat).map da = none from rfl, xnn_n, c_g0_3, c_r16, cl_nI (by omega), a1, g_ob hrow.1, m_call, Rw_liveWith_eq (id := A 13) (lv := A 16) (sz := sz) (nodes := nodes) hrow a5 (fun d hd => docM_of (hn d (mem_seg.mp hd).1).1)]
    dsimp only
    rw [nI_1, B_del_L hk hr n f (i + 1) _ (by omega) (by omega)]
    simp only [hin, true_and]
    rfl
/-- a document is no longer live -/
theorem kill (hk : Rk (X + 66) nx db bs dyn A B D O fr sz da na le) (hr : Rr (X + 66) nx bs dyn cs cr A S D O K sz da) {d : Nat} (hd : d < D) :
    Rk (X + 66) nx db bs (va_up dyn (da d) (some (.inr (5, [.int (A 13 d), .ref (da d + 1), .int 0])))) (va_up A 16 (va_up (A 16) d 0)) B D O fr sz da na le ∧
    Rr (X + 66) nx bs (va_up dyn (da d) (some (.inr (5, [.int (A 13 d), .ref (da d + 1), .int 0])))) cs cr (va_up A 16 (va_up (A 16) d 0)) S D O K sz da ∧
    frm (fun q => q = da d) bs nx dyn bs nx (va_up dyn (da d) (some (.inr (5, [.int (A 13 d), .ref (da d + 1), .int 0])))) := by
  obtain ⟨⟨b1, b2, b3, b4, b5⟩, b6, b7, nodes, b8, b9⟩ := hk.1 d hd
  have hf : frm (fun q => q = da d) bs nx dyn bs nx (va_up dyn (da d) (some (.inr (5, [.int (A 13 d), .ref (da d + 1), .int 0])))) := frm.rf.up (Or.inr (b8.1.2.2 0 (by decide)))
  have e11 : va_up A 16 (va_up (A 16) d 0) 11 = A 11 := va_up_ne _ _ (by decide)
  have e12 : va_up A 16 (va_up (A 16) d 0) 12 = A 12 := va_up_ne _ _ (by decide)
  have e13 : va_up A 16 (va_up (A 16) d 0) 13 = A 13 := va_up_ne _ _ (by decide)
  have e14 : va_up A 16 (va_up (A 16) d 0) 14 = A 14 := va_up_ne _ _ (by decide)
  have e16 : va_up A 16 (va_up (A 16) d 0) 16 = va_up (A 16) d 0 := va_up_self _ _ _
  have e22 : va_up A 16 (va_up (A 16) d 0) 22 = A 22 := va_up_ne _ _ (by decide)
  have e23 : va_up A 16 (va_up (A 16) d 0) 23 = A 23 := va_up_ne _ _ (by decide)
  have e24 : va_up A 16 (va_up (A 16) d 0) 24 = A 24 := va_up_ne _ _ (by decide)
  have e25 : va_up A 16 (va_up (A 16) d 0) 25 = A 25 := va_up_ne _ _ (by decide)
  refine ⟨⟨fun e he => ?_, hk.2.1, fun e k he hk' => ?_, fun e he => ?_⟩, ⟨hr.1, ?_, fun k hk' => ?_, ?_⟩, hf⟩
  · by_cases q : e = d
    · subst q
      unfold dOk
      rw [e11, e12, e13, e16, va_up_self]
      exact ⟨⟨b1, b2, b3, b4, b5⟩, b6, Or.inl rfl, nodes, ⟨b8.1, va_up_self _ _ _, by rw [va_up_ne _ _ (by omega)]; exact b8.2.2⟩, b9⟩
    · refine (hk.1 e he).to hf (fun z => ?_) (Nat.le_refl _) (by rw [e11]) (by rw [e12]) (by rw [e13]) (by rw [e16, va_up_ne _ _ q])
      have z' : da e = da d := z
      rcases Nat.lt_or_gt_of_ne q with w | w
      · have := hk.2.1 e d w hd; omega
      · have := hk.2.1 d e w he; omega
  · refine (hk.2.2.1 e k he hk').to hf (fun z => ?_) (Nat.le_refl _) (by rw [e22]) (by rw [e23]) (fun g _ => by rw [e24, e25]; exact ⟨rfl, rfl, rfl⟩)
    obtain ⟨-, -, -, par, ty, va, wd, c1, -⟩ := hk.2.2.1 e k he hk'
    have c2 := c1.2.1
    have z' : na (fr e + k) = da d := z
    rw [z', b8.2.1] at c2
    injection c2 with c2
    injection c2 with c2
    injection c2 with c2 _
    exact absurd c2 (by decide)
  · have := hk.2.2.2 e he
    unfold tree at this ⊢
    rw [e23]
    exact this
  · have : bufL (va_up A 16 (va_up (A 16) d 0)) D = bufL A D := by unfold bufL; rw [e14]
    rw [this]
    exact hr.2.1
  · refine (hr.2.2.1 k hk').to hf (fun a fs q q2 => ?_) rfl (by unfold segL; rw [e14]) (fun _ _ => ⟨rfl, rfl⟩)
    have q' : a = da d := q
    rw [q', b8.2.1] at q2
    injection q2 with c2
    injection c2 with c2
    injection c2 with c2 _
    exact absurd c2 (by decide)
  · obtain ⟨s1, s2, s3, s4, s5⟩ := hr.2.2.2
    unfold segs
    rw [e14, e16, e13]
    refine ⟨fun e he => ?_, s2, s3, fun e1 e2 h1 h2 l1 l2 => ?_, s5⟩
    · rcases s1 e he with ⟨q1, q2⟩ | q
      · refine Or.inl ⟨q1, ?_⟩
        by_cases q : e = d
        · subst q; exact va_up_self _ _ _
        · rw [va_up_ne _ _ q]; exact q2
      · exact Or.inr q
    · have n1 : e1 ≠ d := fun q => by subst q; rw [va_up_self] at l1; exact absurd l1 (by decide)
      have n2 : e2 ≠ d := fun q => by subst q; rw [va_up_self] at l2; exact absurd l2 (by decide)
      rw [va_up_ne _ _ n1] at l1
      rw [va_up_ne _ _ n2] at l2
      exact s4 e1 e2 h1 h2 l1 l2
theorem st_del (hk : Rk (X + 66) nx db bs dyn A B D O fr sz da na le) (hr : Rr (X + 66) nx bs dyn cs cr A S D O K sz da) (v : Int32) :
    ∃ (od : Option Nat) (dyn' : xM) (A' : Nat → Nat → Int32), Rk (X + 66) nx db bs dyn' A' B D O fr sz da na le ∧ Rr (X + 66) nx bs dyn' cs cr A' S D O K sz da ∧ frm (fun q => ∃ d, d < D ∧ q = da d) bs nx dyn bs nx dyn' ∧ (∀ d, d < D → A' 16 d = 1 → A' 13 d ≠ v) ∧
      ((od = none ∧ A' = A) ∨ ∃ d, d < D ∧ od = some d ∧ A' = va_up A 16 (va_up (A 16) d 0)) ∧
      (∀ (KK : Int32 → xS → Prop) (o : xM) (cb sb : Nat), KK (if od = none then 0 else 1) (cheap X cs ca cr cu dyn', o, nx, cb, sb) → p_B_deleteLive X v KK (cheap X cs ca cr cu dyn, o, nx, cb, sb)) ∧
      (∀ (KK : Int32 → xS → Prop) (r : xM × Nat × Nat × Nat), KK (match od with | none => -1 | some d => nI d) (mheap M A B S, r) → p_M_find M v KK (mheap M A B S, r)) := by
  obtain ⟨nodes, hn⟩ := docs_of hk
  have hbl : (bufL A D).length ≤ 30 := buf_len (fun d hd => (hk.1 d hd).1.2.2.1) hr.2.1.2.2.1
  obtain ⟨s1, s2, s3, s4, s5⟩ := hr.2.2.2
  have hB : ∀ (KK : Int32 → xS → Prop) (o : xM) (cb sb : Nat), p_B_deleteLive X v KK (cheap X cs ca cr cu dyn, o, nx, cb, sb) ↔ (match fk A D v (fnd (A 16) (A 13) v (bufL A D)) 0 K with | none => KK 0 | some d => xpZ 5 2 (some (da d)) 0 (KK 1)) (cheap X cs ca cr cu dyn, o, nx, cb, sb) := by
    intro KK o cb sb
    unfold p_B_deleteLive
    rw [c_g0_2, c_ob14, m_call, Rw_liveWith_eq (id := A 13) (lv := A 16) (sz := sz) (nodes := nodes) (rowM_buf hr.2.1.1 hbl) hr.2.1.2.2.2 (fun d hd => docM_of (hn d (mem_buf.mp hd).1).1)]
    dsimp only
    rw [show (0 : Int32) = nI 0 from rfl, B_del_L hk hr K 1000 0 _ (by have := hr.1.2.2.2.2.2.2.1; omega) (by omega)]
    cases fk A D v (fnd (A 16) (A 13) v (bufL A D)) 0 K with
    | none => rw [show (none : Option Nat).map da = none from rfl, xnn_n]; exact xrz_0
    | some d =>
      rw [show (some d).map da = some (da d) from rfl, xnn_s]
      show xpZ 5 2 (some (da d)) 0 (xrz 1 KK) _ ↔ xpZ 5 2 (some (da d)) 0 (KK 1) _
      by_cases hd : d < D ∨ ¬ d < D
      · rw [show xrz 1 KK = KK 1 from funext (fun G => propext xrz_1)]
      · exact absurd hd (by omega)
  have key : fnd (A 16) (A 13) v (sel (ngB (A 14)) 0 D) = fk A D v (fnd (A 16) (A 13) v (bufL A D)) 0 K := by
    cases h1 : fk A D v (fnd (A 16) (A 13) v (bufL A D)) 0 K with
    | none =>
      obtain ⟨c1, c2⟩ := fk_n (K := K) K 0 _ (by omega) h1
      cases h2 : fnd (A 16) (A 13) v (sel (ngB (A 14)) 0 D) with
      | none => rfl
      | some d =>
        obtain ⟨a, b, c⟩ := fnd_s h2
        obtain ⟨-, a1, a2⟩ := (mem_sel _ _).mp a
        have a2' : ¬ A 14 d = -2 := of_decide_eq_true a2
        rcases s1 d (by omega) with q | q | ⟨k, q1, q2⟩
        · exact absurd q.1 a2'
        · exact absurd c (fnd_n c1 d (mem_buf.mpr ⟨by omega, q⟩) b)
        · exact absurd c (fnd_n (c2 k (Nat.zero_le _) q1) d (mem_seg.mpr ⟨by omega, q2⟩) b)
    | some e =>
      obtain ⟨d1, d2, d3⟩ := fk_s (K := K) K 0 _ (by omega) (fun e he => by
        obtain ⟨a, b, c⟩ := fnd_s he
        exact ⟨(mem_buf.mp a).1, b, c⟩) h1
      have d4 : ¬ A 14 e = -2 := fun q => by
        rcases s1 e d1 with q2 | q2 | ⟨k, q2, q3⟩
        · exact d2 q2.2
        · rw [q] at q2; exact absurd q2 (by decide)
        · rw [q] at q3
          have := congrArg Int32.toInt q3
          rw [nI_toInt (by have := hr.1.2.2.2.2.2.2.1; omega)] at this
          have e3 : (-2 : Int32).toInt = -2 := rfl
          omega
      cases h2 : fnd (A 16) (A 13) v (sel (ngB (A 14)) 0 D) with
      | none => exact absurd d3 (fnd_n h2 e ((mem_sel _ _).mpr ⟨Nat.zero_le _, by omega, decide_eq_true d4⟩) d2)
      | some d =>
        obtain ⟨a, b, c⟩ := fnd_s h2
        obtain ⟨-, a1, a2⟩ := (mem_sel _ _).mp a
        have l1 : ∀ x, x < D → A 16 x ≠ 0 → A 16 x = 1 := fun x hx hne => by
          rcases (hk.1 x hx).2.2.1 with q | q
          · exact absurd q hne
          · exact q
        rw [s4 d e (by omega) d1 (l1 d (by omega) b) (l1 e d1 d2) (c.trans d3.symm)]
  have hM : ∀ (KK : Int32 → xS → Prop) (r : xM × Nat × Nat × Nat), p_M_find M v KK (mheap M A B S, r) ↔ KK (match fk A D v (fnd (A 16) (A 13) v (bufL A D)) 0 K with | none => -1 | some d => nI d) (mheap M A B S, r) := by
    intro KK r
    rw [M_find_eq hr.1.1 hr.1.2.2.2.2.2.2.2, key]
    exact Iff.rfl
  cases h1 : fk A D v (fnd (A 16) (A 13) v (bufL A D)) 0 K with
  | none =>
    rw [h1] at hB hM key
    refine ⟨none, dyn, A, hk, hr, frm.rf, fun d hd hl hi => ?_, Or.inl ⟨rfl, rfl⟩, fun KK o cb sb hK => (hB KK o cb sb).mpr hK, fun KK r hK => (hM KK r).mpr hK⟩
    have d4 : ¬ A 14 d = -2 := fun q => by
      rcases s1 d hd with q2 | q2 | ⟨k, q2, q3⟩
      · rw [q2.2] at hl; exact absurd hl (by decide)
      · rw [q] at q2; exact absurd q2 (by decide)
      · rw [q] at q3
        have := congrArg Int32.toInt q3
        rw [nI_toInt (by have := hr.1.2.2.2.2.2.2.1; omega)] at this
        have e3 : (-2 : Int32).toInt = -2 := rfl
        omega
    exact fnd_n key d ((mem_sel _ _).mpr ⟨Nat.zero_le _, by omega, decide_eq_true d4⟩) (by rw [hl]; decide) hi
  | some d =>
    rw [h1] at hB hM key
    obtain ⟨d1, d2, d3⟩ := fk_s (K := K) K 0 _ (by omega) (fun e he => by
        obtain ⟨a, b, c⟩ := fnd_s he
        exact ⟨(mem_buf.mp a).1, b, c⟩) h1
    obtain ⟨k1, k2, k3⟩ := kill hk hr d1
    have hd := (hn d d1).1
    refine ⟨some d, _, _, k1, k2, ⟨k3.1, k3.2.1, fun q hq hP => k3.2.2 q hq (fun z => hP ⟨d, d1, z⟩)⟩, fun e he hl hi => ?_, Or.inr ⟨d, d1, rfl, rfl⟩, fun KK o cb sb hK => (hB KK o cb sb).mpr ?_, fun KK r hK => (hM KK r).mpr hK⟩
    · rw [va_up_self] at hl
      rw [va_up_ne _ _ (by decide)] at hi
      have hne : e ≠ d := fun q => by subst q; rw [va_up_self] at hl; exact absurd hl (by decide)
      rw [va_up_ne _ _ hne] at hl
      rcases (hk.1 d d1).2.2.1 with q | q
      · exact d2 q
      · exact hne (s4 e d he d1 hl q (hi.trans d3.symm))
    · show xpZ 5 2 (some (da d)) 0 (KK 1) _
      rw [y_pZ hd.1.1 hd.2.1 (Nat.le_of_ble_eq_true rfl)]
      exact ⟨Or.inl rfl, hK⟩
theorem st_remove (hk : Rk (X + 66) nx db bs dyn A B D O fr sz da na le) (hr : Rr (X + 66) nx bs dyn cs cr A S D O K sz da) (v : Int32) :
    ∃ (x : Int32) (dyn' : xM) (A' : Nat → Nat → Int32), (x = 0 ∨ x = 1) ∧ Rk (X + 66) nx db bs dyn' A' B D O fr sz da na le ∧ Rr (X + 66) nx bs dyn' cs cr A' S D O K sz da ∧ agr [16] A' A ∧ frm (fun q => ∃ d, d < D ∧ q = da d) bs nx dyn bs nx dyn' ∧
      (∀ (KK : Int32 → xS → Prop) (o : xM) (cb sb : Nat), KK x (cheap X cs ca cr cu dyn', o, nx, cb, sb) → p_B_remove X v KK (cheap X cs ca cr cu dyn, o, nx, cb, sb)) ∧
      (∀ (KK : Int32 → xS → Prop) (r : xM × Nat × Nat × Nat), KK x (mheap M A' B S, r) → p_M_remove M v KK (mheap M A B S, r)) := by
  obtain ⟨od, dyn', A', h1, h2, h3, h4, h5, h6, h7⟩ := st_del (M := M) (ca := ca) (cu := cu) hk hr v
  rcases h5 with ⟨rfl, rfl⟩ | ⟨d, hd, rfl, rfl⟩
  · refine ⟨0, dyn', A', Or.inl rfl, h1, h2, agr.rf, h3, fun KK o cb sb hK => ?_, fun KK r hK => ?_⟩
    · unfold p_B_remove
      rw [c_ob0, m_call]
      refine h6 _ _ _ _ ?_
      dsimp only
      rw [if_pos rfl, xrz_0]
      exact hK
    · obtain ⟨r1, r2, r3, r4⟩ := r
      unfold p_M_remove
      rw [m_ob, m_call]
      refine h7 _ _ ?_
      dsimp only
      rw [xif_t (by decide), xif_t (by decide), xrz_0]
      exact hK
  · have h180 := hr.1.2.2.2.2.2.2.2
    refine ⟨1, dyn', va_up A 16 (va_up (A 16) d 0), Or.inr rfl, h1, h2, agr.rf.up (by decide), h3, fun KK o cb sb hK => ?_, fun KK r hK => ?_⟩
    · unfold p_B_remove
      rw [c_ob0, m_call]
      refine h6 _ _ _ _ ?_
      dsimp only
      rw [if_neg (by intro q; cases q), xrz_1]
      exact hK
    · obtain ⟨r1, r2, r3, r4⟩ := r
      unfold p_M_remove
      rw [m_ob, m_call]
      refine h7 _ _ ?_
      dsimp only
      rw [xif_f (nI_pos (by omega)), m_g16, m_w16, cl_nI (by omega), xif_f (nI_pos (by omega)), xrz_1]
      exact ⟨vp_in_nI (by omega) (by decide), Or.inl rfl, hK⟩
end DL
