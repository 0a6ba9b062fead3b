/-! add: what holds afterwards -/
theorem Rd.to {P : Nat → Prop} {lo nx nx' db : Nat} {bs bs' : Nat → Nat} {dyn dyn' : xM} {cs cs' : Nat → Int32} {cr cr' : Nat → Nat → Option Nat} {cu : Option Nat} {A A' : Nat → Nat → Int32} {B B' : Nat → Nat → Int64} {S S' : Nat → Int32} {N C : Nat} {st : List Nat} {dn ls num cl : Nat → Nat} (h : Rd lo nx db bs dyn cs cr cu A B S N C st dn ls num cl) (f : frm P bs nx dyn bs' nx' dyn') (hP : ∀ a fs, P a → dyn a ≠ some (.inr (2, fs)))
    (hA : ∀ k, k ∈ [0, 1, 2, 3, 4] → A' k = A k) (hB : B' 5 = B 5) (hS : ∀ k, k ∈ [6, 7, 8] → S' k = S k) (hcs : ∀ k, k ∈ [101, 102] → cs' k = cs k) (hcr : cr' 2 = cr 2) : Rd lo nx' db bs' dyn' cs' cr' cu A' B' S' N C st dn ls num cl := by
  obtain ⟨g1, g2, g3, g4, g5, g6, g7⟩ := h
  unfold Rd
  rw [hA 0 (by decide), hA 1 (by decide), hA 2 (by decide), hA 3 (by decide), hA 4 (by decide), hB, hS 6 (by decide), hS 7 (by decide), hS 8 (by decide), hcs 101 (by decide), hcs 102 (by decide), hcr]
  refine ⟨g1, g2, fun i hi => ?_, g4, g5, g6, g7⟩
  obtain ⟨d1, ty, va, wd, pl, d2, d3⟩ := g3 i hi
  exact ⟨d1, ty, va, wd, pl, d2.to f (fun q => hP _ _ q d2.2.1), d3⟩
theorem docD_frm {P : Nat → Prop} {bs : Nat → Nat} {nx n : Nat} {dyn : xM} {id : Int32} {nodes : Nat → Option Nat} : frm P bs nx dyn (fun q => if nx ≤ q then nx else bs q) (nx + 2) (docD dyn nx id n nodes) := ⟨by omega, fun q hq => if_neg (by omega), fun q hq _ => docD_d (by omega) (by omega)⟩
def naF (na dn cl : Nat → Nat) (O : Nat) : Nat → Nat := fun x => if x < O then na x else dn (cl (x - O))
theorem naF_o {na dn cl : Nat → Nat} {O x : Nat} (h : x < O) : naF na dn cl O x = na x := if_pos h
theorem naF_n {na dn cl : Nat → Nat} {O c : Nat} : naF na dn cl O (O + c) = dn (cl c) := by
  unfold naF
  rw [if_neg (by omega), Nat.add_sub_cancel_left]
section AR
variable {lo nx db : Nat} {bs : Nat → Nat} {dyn : xM} {cs : Nat → Int32} {cr : Nat → Nat → Option Nat} {A A3 : Nat → Nat → Int32} {B B3 : Nat → Nat → Int64} {S : Nat → Int32} {N D O K : Nat} {dn ls num cl fr sz da na le : Nat → Nat} {v : Int32} {pv : Nat → Int32}
/-- the new document -/
theorem add_new (hd : Rd lo nx db bs dyn cs cr none A B S N N [] dn ls num cl) (hN : 1 ≤ N) (hlo : lo ≤ nx) (hdb : db ≤ nx) (hv : ∃ i, i < 20 ∧ v = nI i)
    (e11 : A3 11 D = nI O) (e12 : A3 12 D = nI N) (e13 : A3 13 D = v) (e16 : A3 16 D = 1) (hl : ∀ q, q < N → laidQ A A3 B B3 (O + num q) q (pv q)) (hpv : ∀ q, q < N → pvQ A num N q (pv q)) :
    dOk lo (nx + 2) (fun q => if nx ≤ q then nx else bs q) (docD dyn nx v N (ndF (cr 2) N)) A3 (O + N) (va_up fr D O) (va_up sz D N) (va_up da D nx) (naF na dn cl O) D ∧
    (∀ k, k < N → oOk lo (nx + 2) (nx + 2) (fun q => if nx ≤ q then nx else bs q) (docD dyn nx v N (ndF (cr 2) N)) A3 B3 (va_up fr D O) (va_up sz D N) (naF na dn cl O) (naF le ls cl O) D k) ∧
    tree A3 (va_up fr D O) (va_up sz D N) (naF na dn cl O) (naF le ls cl O) D := by
  obtain ⟨⟨h1, h2, h3, h4, h5, h6, h7, h8⟩, -, hnode, hgap, hpar, ⟨hn1, hn2⟩, hI, hJ, hP, hm1, hm2, hm3⟩ := hd
  have nin : ∀ i : Nat, i ∉ ([] : List Nat) := fun i q => by cases q
  have cln : ∀ c, c < N → cl c < N ∧ num (cl c) = c ∧ cr 2 c = some (dn (cl c)) := fun c hc => ⟨(hn2 c hc).1, (hn2 c hc).2.2.1, (hn2 c hc).2.2.2⟩
  have ncl : ∀ i, i < N → num i < N ∧ cl (num i) = i := fun i hi => ⟨(hn1 i hi (nin i)).1, (hn1 i hi (nin i)).2.1⟩
  have inj : ∀ i j, i < N → j < N → dn i = dn j → i = j := fun i j hi hj q => by
    rcases Nat.lt_trichotomy i j with w | w | w
    · have := hgap i j w hj; omega
    · exact w
    · have := hgap j i w hi; omega
  have I' : ∀ c w, c < N → w < N → w ≠ cl c → c < num w → (ls w ≤ c ↔ w < cl c) := fun c w hc hw hne hlt => hI c w hc hw hne (Or.inr hlt)
  have par : ∀ c, c < N → (A 1 (cl c) = -1 ∧ A3 23 (O + c) = -1 ∧ cl c = 0 ∧ A 0 (cl c) = 0) ∨ ∃ j, j < cl c ∧ A 1 (cl c) = nI j ∧ A3 23 (O + c) = nI (num j) ∧ c < num j := by
    intro c hc
    obtain ⟨c1, c2, c3⟩ := cln c hc
    have hL := hl (cl c) c1
    rw [c2] at hL
    have hp := hpv (cl c) c1
    rcases (hpar (cl c) c1).2 with ⟨q1, q2, q3⟩ | ⟨j, q1, q2⟩
    · refine Or.inl ⟨q2, ?_, q1, q3⟩
      rcases hp with ⟨-, p2⟩ | ⟨j, p1, p2, -⟩
      · rw [hL.2.1, p2]
      · rw [q2] at p2; exact absurd p2 (m1_ne (by omega))
    · refine Or.inr ⟨j, q1, q2, ?_, ?_⟩
      · rcases hp with ⟨p1, -⟩ | ⟨j', p1, p2, p3, p4⟩
        · rw [q2] at p1; exact absurd p1.symm (m1_ne (by omega))
        · have := (nI_eq (by omega) (by omega)).mp (p2.symm.trans q2)
          subst this
          rw [hL.2.1, p4]
      · rcases hP c j hc (by omega) q2 with z | z
        · exact absurd z (nin j)
        · exact z
  have numinj : ∀ i j, i < N → j < N → num i = num j → i = j := fun i j hi hj q => by rw [← (ncl i hi).2, ← (ncl j hj).2, q]
  have fD : va_up fr D O D = O := va_up_self _ _ _
  have zD : va_up sz D N D = N := va_up_self _ _ _
  refine ⟨?_, fun k hk => ?_, ?_⟩
  · unfold dOk
    rw [fD, zD, va_up_self, e11, e12, e13, e16]
    refine ⟨⟨rfl, rfl, hN, h1, Nat.le_refl _⟩, hv, Or.inr rfl, ndF (cr 2) N, ⟨⟨hlo, Nat.le_refl _, fun i hi => if_pos (by omega)⟩, docD_0, docD_1⟩, fun k hk => ?_⟩
    unfold ndF
    rw [if_pos hk, naF_n, (cln k hk).2.2]
  · obtain ⟨c1, c2, c3⟩ := cln k hk
    obtain ⟨d1, ty, va, wd, pl, d2, d3, d4⟩ := hnode (cl k) c1
    have hL := hl (cl k) c1
    rw [c2] at hL
    have hb := d2.1.2.1
    unfold oOk
    rw [fD, zD, naF_n, naF_n, hL.1]
    refine ⟨(hpar (cl k) c1).1, by omega, hm3 k hk, parA dn (A 1 (cl k)), ty, va, wd, ?_, fun g hg => ?_, ?_⟩
    · have e := d4 (nin _)
      rw [c2] at e
      subst e
      exact d2.to (P := fun _ => False) docD_frm (fun q => q)
    · obtain ⟨g1, g2, g3⟩ := hL.2.2 g hg
      rw [g1, g2, g3]
      exact d3 g hg
    · rcases par k hk with ⟨p1, p2, p3, p4⟩ | ⟨j, p1, p2, p3, p4⟩
      · refine Or.inl ⟨?_, p2, by rw [p1]; rfl, p4⟩
        by_cases e : k + 1 = N
        · exact e
        · exfalso
          rcases par (N - 1) (by omega) with ⟨q1, q2, q3, q4⟩ | ⟨j, q1, q2, q3, q4⟩
          · have a1 := (cln (N - 1) (by omega)).2.1
            rw [q3] at a1
            rw [p3] at c2
            omega
          · have := (ncl j (by have := (cln (N - 1) (by omega)).1; omega)).1
            omega
      · refine Or.inr ⟨num j, p4, (ncl j (by omega)).1, p3, ?_⟩
        rw [p2, parA_s _ (by omega), naF_n, (ncl j (by omega)).2]
  · unfold tree
    rw [fD, zD]
    refine ⟨fun k o p ho hp hlk hko hA => ?_, fun k o p ho hp hlk hA => ?_, fun k o hk ho hq => ?_⟩
    · rw [naF_n] at hlk
      obtain ⟨o1, o2, o3⟩ := cln o ho
      obtain ⟨k1, k2, k3⟩ := cln k (by omega)
      rcases par k (by omega) with ⟨p1, p2, p3, p4⟩ | ⟨j, p1, p2, p3, p4⟩
      · rw [p2] at hA; exact absurd hA (m1_ne (by omega))
      · have hjN : j < N := by omega
        have ep : num j = p := (nI_eq (by have := (ncl j hjN).1; omega) (by omega)).mp (p3.symm.trans hA)
        subst ep
        have hne : cl o ≠ cl k := fun q => by rw [q, k2] at o2; omega
        have hwk : cl o < cl k := (I' k (cl o) (by omega) o1 hne (by rw [o2]; exact hko)).mp hlk
        have hwj : cl o ≤ j := hJ k (cl o) j (by omega) hwk (Or.inr (by rw [o2]; exact hko)) p2
        by_cases e : j = cl o
        · rw [e, o2]; exact Nat.le_refl _
        · by_cases c : num j ≤ o
          · exact c
          · exfalso
            have z1 : ls j ≤ k := (I' k j (by omega) hjN (by omega) p4).mpr p1
            have z2 := I' o j ho hjN e (by omega)
            have z3 : ¬ j < cl o := by omega
            exact z3 (z2.mp (by omega))
    · rw [naF_n] at hlk ⊢
      obtain ⟨o1, o2, o3⟩ := cln o ho
      have hlo' := hm3 o ho
      obtain ⟨k1, k2, k3⟩ := cln k (by omega)
      rcases par k (by omega) with ⟨p1, p2, p3, p4⟩ | ⟨j, p1, p2, p3, p4⟩
      · rw [p2] at hA; exact absurd hA (m1_ne (by omega))
      · have hjN : j < N := by omega
        have ep : num j = p := (nI_eq (by have := (ncl j hjN).1; omega) (by omega)).mp (p3.symm.trans hA)
        subst ep
        by_cases c1 : num j < ls (cl o)
        · exact Or.inl c1
        · by_cases c2 : o < num j
          · exact Or.inr c2
          · exfalso
            have hne : cl o ≠ cl k := fun q => by rw [q, k2] at o2; omega
            have z1 : ¬ cl o < cl k := fun q => by have := (I' k (cl o) (by omega) o1 hne (by omega)).mpr q; omega
            have hjo : j ≠ cl o := by omega
            have hnj : num j ≠ o := fun q => hjo (by rw [← (ncl j hjN).2, q])
            have z2 := I' (num j) (cl o) (ncl j hjN).1 o1 (by rw [(ncl j hjN).2]; exact Ne.symm hjo) (by omega)
            rw [(ncl j hjN).2] at z2
            have := z2.mp (by omega)
            omega
    · rw [naF_n, naF_n] at hq
      have := inj _ _ (cln k hk).1 (cln o ho).1 hq
      rw [← (cln k hk).2.1, ← (cln o ho).2.1, this]
theorem add_Rk (hd : Rd lo nx db bs dyn cs cr none A B S N N [] dn ls num cl) (hN : 1 ≤ N) (hlo : lo ≤ nx) (hdb : db ≤ nx) (hv : ∃ i, i < 20 ∧ v = nI i) (hk : Rk lo nx db bs dyn A B D O fr sz da na le)
    (e11 : A3 11 = va_up (A 11) D (nI O)) (e12 : A3 12 = va_up (A 12) D (nI N)) (e13 : A3 13 = va_up (A 13) D v) (e16 : A3 16 = va_up (A 16) D 1) (hl : ∀ q, q < N → laidQ A A3 B B3 (O + num q) q (pv q)) (hpv : ∀ q, q < N → pvQ A num N q (pv q)) (hkp : ∀ x, x < O → keepQ A A3 B B3 x) :
    Rk lo (nx + 2) (nx + 2) (fun q => if nx ≤ q then nx else bs q) (docD dyn nx v N (ndF (cr 2) N)) A3 B3 (D + 1) (O + N) (va_up fr D O) (va_up sz D N) (va_up da D nx) (naF na dn cl O) (naF le ls cl O) := by
  obtain ⟨n1, n2, n3⟩ := add_new (fr := fr) (sz := sz) (da := da) (na := na) (le := le) hd hN hlo hdb hv (by rw [e11, va_up_self]) (by rw [e12, va_up_self]) (by rw [e13, va_up_self]) (by rw [e16, va_up_self]) hl hpv
  have bd : ∀ d, d < D → fr d + sz d ≤ O := fun d hd' => (hk.1 d hd').1.2.2.2.2
  refine ⟨fun d hd' => ?_, fun d e hde he => ?_, fun d k hd' hkk => ?_, fun d hd' => ?_⟩
  · by_cases e : d = D
    · subst e; exact n1
    · have hdD : d < D := by omega
      obtain ⟨⟨b1, b2, b3, b4, b5⟩, b6, b7, nodes, b8, b9⟩ := hk.1 d hdD
      unfold dOk
      rw [e11, e12, e13, e16, va_up_ne _ _ e, va_up_ne _ _ e, va_up_ne _ _ e, va_up_ne _ _ e, va_up_ne _ _ e, va_up_ne _ _ e, va_up_ne _ _ e]
      exact ⟨⟨b1, b2, b3, b4, by omega⟩, b6, b7, nodes, b8.to (P := fun _ => False) docD_frm (fun q => q), fun k hk' => by rw [naF_o (by omega)]; exact b9 k hk'⟩
  · by_cases q : e = D
    · subst q
      rw [va_up_self, va_up_ne _ _ (by omega)]
      obtain ⟨-, -, -, nodes, b8, -⟩ := hk.1 d hde
      exact b8.1.2.1
    · rw [va_up_ne _ _ q, va_up_ne _ _ (by omega)]
      exact hk.2.1 d e hde (by omega)
  · by_cases e : d = D
    · subst e
      rw [va_up_self] at hkk
      exact n2 k hkk
    · have hdD : d < D := by omega
      rw [va_up_ne _ _ e] at hkk
      have hb := bd d hdD
      obtain ⟨a1, a2, a3, par, ty, va, wd, a4, a5, a6⟩ := hk.2.2.1 d k hdD hkk
      obtain ⟨k1, k2, k3⟩ := hkp (fr d + k) (by omega)
      unfold oOk
      rw [va_up_ne _ _ e, va_up_ne _ _ e, naF_o (by omega), naF_o (by omega), k1, k2]
      refine ⟨a1, by omega, a3, par, ty, va, wd, a4.to (P := fun _ => False) docD_frm (fun q => q), fun g hg => ?_, ?_⟩
      · obtain ⟨g1, g2, g3⟩ := k3 g hg
        rw [g1, g2, g3]
        exact a5 g hg
      · rcases a6 with q | ⟨p, p1, p2, p3, p4⟩
        · exact Or.inl q
        · exact Or.inr ⟨p, p1, p2, p3, by rw [naF_o (by omega)]; exact p4⟩
  · by_cases e : d = D
    · subst e; exact n3
    · have hdD : d < D := by omega
      have hb := bd d hdD
      obtain ⟨t1, t2, t3⟩ := hk.2.2.2 d hdD
      unfold tree
      rw [va_up_ne _ _ e, va_up_ne _ _ e]
      refine ⟨fun k o p ho hp h1 h2 h3 => ?_, fun k o p ho hp h1 h3 => ?_, fun k o hk' ho hq => ?_⟩
      · rw [naF_o (by omega)] at h1
        rw [(hkp (fr d + k) (by omega)).2.1] at h3
        exact t1 k o p ho hp h1 h2 h3
      · rw [naF_o (by omega)] at h1 ⊢
        have := (hk.2.2.1 d o hdD ho).2.2.1
        rw [(hkp (fr d + k) (by omega)).2.1] at h3
        exact t2 k o p ho hp h1 h3
      · rw [naF_o (by omega), naF_o (by omega)] at hq
        exact t3 k o hk' ho hq
theorem add_Rr {cs' : Nat → Int32} {cr' : Nat → Nat → Option Nat} {S' : Nat → Int32} (hr : Rr lo nx bs dyn cs cr A S D O K sz da) (hD : D < 180) (hb : szs sz (bufL A D) + N ≤ 30) (hu : ∀ d, d < D → A 16 d = 1 → A 13 d ≠ v)
    (e13 : A3 13 = va_up (A 13) D v) (e14 : A3 14 = va_up (A 14) D (-1)) (e16 : A3 16 = va_up (A 16) D 1) (s18 : S' 18 = nI (D + 1)) (s27 : S' 27 = nI (O + N)) (s19 : S' 19 = S 19) (s20 : S' 20 = S 20) (c8 : cs' 8 = cs 8) (c9 : cs' 9 = nI (D + 1)) (c10 : cs' 10 = cs 10) (c1 : cs' 1401 = nI ((bufL A D).length + 1)) (c2 : cs' 1402 = nI (szs sz (bufL A D) + N)) (r15 : cr' 15 = va_up (cr 15) (bufL A D).length (some nx)) (r16 : cr' 16 = cr 16) {nodes : Nat → Option Nat} :
    Rr lo (nx + 2) (fun q => if nx ≤ q then nx else bs q) (docD dyn nx v N nodes) cs' cr' A3 S' (D + 1) (O + N) K (va_up sz D N) (va_up da D nx) := by
  obtain ⟨⟨g1, g2, g3, g4, g5, g6, g7, g8⟩, ⟨b1, b2, b3, b4⟩, hsg, s1, s2, s3, s4, s5⟩ := hr
  have o14 : ∀ d, d < D → A3 14 d = A 14 d := fun d hd => by rw [e14, va_up_ne _ _ (by omega)]
  have o13 : ∀ d, d < D → A3 13 d = A 13 d := fun d hd => by rw [e13, va_up_ne _ _ (by omega)]
  have o16 : ∀ d, d < D → A3 16 d = A 16 d := fun d hd => by rw [e16, va_up_ne _ _ (by omega)]
  have n14 : A3 14 D = -1 := by rw [e14, va_up_self]
  have n13 : A3 13 D = v := by rw [e13, va_up_self]
  have hbuf : bufL A3 (D + 1) = bufL A D ++ [D] := by
    unfold bufL
    rw [sel_snoc, Nat.zero_add, segB_t n14, if_pos rfl, sel_congr D 0 (p := segB (A3 14) (-1)) (q := segB (A 14) (-1)) (fun x _ hx => by unfold segB; rw [o14 x (by omega)])]
  have hseg : ∀ k, k < K → segL A3 (D + 1) k = segL A D k := fun k hk => by
    unfold segL
    rw [sel_snoc, Nat.zero_add, segB_f (by rw [n14]; exact m1_ne (by omega)), if_neg (by decide), List.append_nil, sel_congr D 0 (p := segB (A3 14) (nI k)) (q := segB (A 14) (nI k)) (fun x _ hx => by unfold segB; rw [o14 x (by omega)])]
  have hz : szs (va_up sz D N) (bufL A D) = szs sz (bufL A D) := szs_congr _ (fun d hd => va_up_ne _ _ (by have := (mem_buf.mp hd).1; omega))
  refine ⟨⟨s18, c9, s27, by rw [s20, c10, g4], by rw [c8, g5], by rw [s19, g6], g7, by omega⟩, ?_, fun k hk => ?_, ?_⟩
  · rw [hbuf, szs_app, hz, show szs (va_up sz D N) [D] = N from by show va_up sz D N D + 0 = N; rw [va_up_self]; rfl, List.length_append, List.length_singleton, r15]
    refine ⟨c1, c2, hb, (lst_app _ _ _).mpr ⟨lst_congr _ _ (fun i _ hi => va_up_ne _ _ (by omega)) (fun d hd => va_up_ne _ _ (by have := (mem_buf.mp hd).1; omega)) b4, ?_, trivial⟩⟩
    rw [Nat.zero_add, va_up_self, va_up_self]
  · exact (hsg k hk).to (P := fun _ => False) docD_frm (fun _ _ q => q.elim) (by rw [r16]) (hseg k hk) (fun d hd => by have := (mem_seg.mp hd).1; exact ⟨va_up_ne _ _ (by omega), va_up_ne _ _ (by omega)⟩)
  · refine ⟨fun d hd => ?_, fun d e k l hde he hk hl h1 h2 => ?_, fun d e l hde he hl h1 => ?_, fun d e hd he h1 h2 h3 => ?_, fun d e k hd he hk h1 h2 h3 => ?_⟩
    · by_cases q : d = D
      · subst q; exact Or.inr (Or.inl n14)
      · rw [o14 d (by omega), o16 d (by omega)]; exact s1 d (by omega)
    · by_cases q : e = D
      · subst q; rw [n14] at h2; exact absurd h2 (m1_ne (by omega))
      · rw [o14 d (by omega)] at h1; rw [o14 e (by omega)] at h2
        exact s2 d e k l hde (by omega) hk hl h1 h2
    · by_cases q : e = D
      · subst q; rw [n14]; exact m1_ne (by omega)
      · rw [o14 d (by omega)] at h1; rw [o14 e (by omega)]
        exact s3 d e l hde (by omega) hl h1
    · by_cases q : d = D
      · by_cases q2 : e = D
        · omega
        · subst q
          rw [o16 e (by omega)] at h2
          rw [n13, o13 e (by omega)] at h3
          exact absurd h3.symm (hu e (by omega) h2)
      · by_cases q2 : e = D
        · subst q2
          rw [o16 d (by omega)] at h1
          rw [n13, o13 d (by omega)] at h3
          exact absurd h3 (hu d (by omega) h1)
        · rw [o16 d (by omega)] at h1
          rw [o16 e (by omega)] at h2
          rw [o13 d (by omega), o13 e (by omega)] at h3
          exact s4 d e (by omega) (by omega) h1 h2 h3
    · have q : d ≠ D := fun q => by subst q; rw [n14] at h1; exact absurd h1 (m1_ne (by omega))
      have q2 : e ≠ D := fun q => by subst q; rw [n14] at h2; exact absurd h2 (m1_ne (by omega))
      rw [o14 d (by omega)] at h1
      rw [o14 e (by omega)] at h2
      rw [o13 d (by omega), o13 e (by omega)] at h3
      exact s5 d e k (by omega) (by omega) hk h1 h2 h3
theorem add_Rs {cs' : Nat → Int32} {ca ca' : Nat → Nat → Int32} {cr' : Nat → Nat → Option Nat} {S' : Nat → Int32} (hs : Rs cs ca cr A S D sz da) (e13 : A3 13 = va_up (A 13) D v) (e15 : A3 15 = va_up (A 15) D (-2)) (e17 : A3 17 = A 17) (hcs : ∀ k, k ∈ [1700, 1701] → cs' k = cs k) (hca : ∀ k, k ∈ [19, 20, 21] → ca' k = ca k) (hcr : cr' 18 = cr 18) (hS : S' 21 = S 21) : Rs cs' ca' cr' A3 S' (D + 1) (va_up sz D N) (va_up da D nx) := by
  obtain ⟨g1, ⟨c1, c2, c3, c4, c5, c6⟩, g3, g4, g5⟩ := hs
  have o15 : ∀ d, d < D → A3 15 d = A 15 d := fun d hd => by rw [e15, va_up_ne _ _ (by omega)]
  have n15 : A3 15 D = -2 := by rw [e15, va_up_self]
  have o13 : ∀ d, d < D → A3 13 d = A 13 d := fun d hd => by rw [e13, va_up_ne _ _ (by omega)]
  have hL : snapL A3 (D + 1) = snapL A D := by
    unfold snapL
    rw [sel_snoc, Nat.zero_add, nnB_f (by rw [n15]; decide), if_neg (by decide), List.append_nil, sel_congr D 0 (p := nnB (A3 15)) (q := nnB (A 15)) (fun x _ hx => by unfold nnB; rw [o15 x (by omega)])]
  have l17 : ∀ d, d < D + 1 → A 17 d = 1 → d < D := fun d hd h => by
    by_cases q : d = D
    · subst q; rw [g4 d (Nat.le_refl _)] at h; exact absurd h (by decide)
    · omega
  refine ⟨by rw [hS, hcs 1700 (by decide)]; exact g1, ?_, fun d hd => ?_, fun d hd => ?_, fun d e hd he h1 h2 h3 => ?_⟩
  · rw [hL, hcs 1701 (by decide), hca 19 (by decide), hca 20 (by decide), hca 21 (by decide), hcr, e17]
    refine ⟨c1, c2, lstV_congr _ _ (fun d hd => ?_) c3, c4, lstV_congr _ _ (fun d hd => (o15 d (mem_snap.mp hd).1).symm) c5, lstV_congr _ _ (fun d hd => ?_) c6⟩
    · rw [va_up_ne _ _ (by have := (mem_snap.mp hd).1; omega)]
    · have hd' := (mem_snap.mp hd).1
      unfold rootI
      rw [o15 d hd', va_up_ne _ _ (by omega), sel_congr d 0 (p := segB (A3 15) (A 15 d)) (q := segB (A 15) (A 15 d)) (fun x _ hx => by unfold segB; rw [o15 x (by omega)]), szs_congr _ (f := va_up sz D N) (g := sz) (fun x hx => va_up_ne _ _ (by have := ((mem_sel _ _).mp hx).2.1; omega))]
  · by_cases q : d = D
    · subst q; rw [e17]; exact Or.inl ⟨n15, g4 d (Nat.le_refl _)⟩
    · rw [o15 d (by omega), e17]; exact g3 d (by omega)
  · rw [e17]; exact g4 d (by omega)
  · rw [e17] at h1 h2
    have a := l17 d hd h1
    have b := l17 e he h2
    rw [o13 d a, o13 e b] at h3
    exact g5 d e a b h1 h2 h3
end AR
