/-! a document comes in, of both -/
def hrs : List Nat := [46, 47, 48, 49, 50, 51, 52, 53, 54, 55, 56, 57, 58, 59, 60, 61, 62, 63, 64, 65]
theorem mem_hrs {t : Nat} (h : t < 20) : 46 + t ∈ hrs := by
  unfold hrs
  rcases (show t = 0 ∨ t = 1 ∨ t = 2 ∨ t = 3 ∨ t = 4 ∨ t = 5 ∨ t = 6 ∨ t = 7 ∨ t = 8 ∨ t = 9 ∨ t = 10 ∨ t = 11 ∨ t = 12 ∨ t = 13 ∨ t = 14 ∨ t = 15 ∨ t = 16 ∨ t = 17 ∨ t = 18 ∨ t = 19 by omega) with rfl | rfl | rfl | rfl | rfl | rfl | rfl | rfl | rfl | rfl | rfl | rfl | rfl | rfl | rfl | rfl | rfl | rfl | rfl | rfl <;> decide
theorem shA_H (A : Nat → Nat → Int32) (H : Nat) : shA A H H = A := by
  unfold shA
  rw [shf_H, shf_H, shf_H, shf_H, va_up_id (f := A) rfl, va_up_id (f := A) rfl, va_up_id (f := A) rfl, va_up_id (f := A) rfl]
section IB
variable {X M nx db : Nat} {bs : Nat → Nat} {dyn : xM} {A : Nat → Nat → Int32} {B : Nat → Nat → Int64} {S : Nat → Int32} {D O : Nat} {fr sz da na le : Nat → Nat} {cs : Nat → Int32} {ca : Nat → Nat → Int32} {cr : Nat → Nat → Option Nat} {cu : Option Nat} {d j v H : Nat} {hd pm : Nat → Nat}
theorem ins_both (hk : Rk (X + 66) nx db bs dyn A B D O fr sz da na le) (hD : D ≤ 180) (hh : Rh X cs ca cr A S D H hd pm) (hH : H < 20) (hdD : d < D) (hj : j < 120) (h18 : cr 18 j = some (da d)) (h20 : ca 20 j = A 15 d) (h21 : ca 21 j = rootI (A 15) sz d) :
    ∃ cs' ca' cr' A' S' hd' pm', Rh X cs' ca' cr' A' S' D (H + 1) hd' pm' ∧ agr [4401] cs' cs ∧ agr hrs ca' ca ∧ agr [45] cr' cr ∧ agr [40, 41, 42, 43] A' A ∧ agr [44] S' S ∧
      (∀ (K : Unit → xS → Prop) (o : xM) (n1 cb sb : Nat), K () (cheap X cs' ca' cr' cu dyn, o, n1, cb, sb) → p_Hi_insert (X + 44) (some (X + 17)) (nI j) (nI v) K (cheap X cs ca cr cu dyn, o, n1, cb, sb)) ∧
      (∀ (K : Int32 → xS → Prop) (Kb : Int32 → xS → Prop) (Kx : xS → Prop) (o : xM) (n1 cb sb : Nat), Kb (nI (d + 1)) (mheap M A' B S', o, n1, cb, sb) → p_M_search_L84 M (nI d) (nI v) K (fun m26 => p_M_search_B173 M (nI d) (nI v) m26 K Kb Kx) 1000 (S 44) (mheap M A B S, o, n1, cb, sb)) := by
  obtain ⟨⟨g1, g2, g3⟩, g4, g5, g6⟩ := hh
  obtain ⟨⟨e11, e12, e1, e10, eO⟩, -⟩ := hk.1 d hdD
  obtain ⟨nodes, hnn⟩ := docs_of hk
  obtain ⟨d1, d2⟩ := hnn d hdD
  have hb1 := d1.1.1
  obtain ⟨q1, q2⟩ := g4 H hH
  have hp := pl_le (A 41) (nI v) H
  obtain ⟨p, hpe⟩ : ∃ p, pl (A 41) (nI v) H = p := ⟨_, rfl⟩
  rw [hpe] at hp
  have hinH : vp_in (nI H) 20 := vp_in_nI hH (by decide)
  have hinp : vp_in (nI p) 20 := vp_in_nI (by omega) (by decide)
  have hinp2 : vp_in (nI p) 180 := vp_in_nI (by omega) (by decide)
  have hinj : vp_in (nI j) 120 := vp_in_nI hj (by decide)
  have hind : vp_in (nI d) 180 := vp_in_nI (by omega) (by decide)
  have hi0 : vp_in (0 : Int32) 5 := vp_in_nI (n := 0) (by decide) (by decide)
  have hi1 : vp_in (1 : Int32) 5 := vp_in_nI (n := 1) (by decide) (by decide)
  have hi2 : vp_in (2 : Int32) 5 := vp_in_nI (n := 2) (by decide) (by decide)
  have hi3 : vp_in (3 : Int32) 5 := vp_in_nI (n := 3) (by decide) (by decide)
  have hi4 : vp_in (4 : Int32) 5 := vp_in_nI (n := 4) (by decide) (by decide)
  refine ⟨va_up cs 4401 (nI (H + 1)), va_up ca (46 + pm H) (va_up (va_up (va_up (va_up (va_up (ca (46 + pm H)) 0 (A 13 d)) 1 (nI v)) 2 (A 15 d)) 3 (rootI (A 15) sz d)) 4 (nI (sz d))), va_up cr 45 (va_up (shf (cr 45) p H) p (some (X + 46 + pm H))),
    va_up (va_up (va_up (va_up A 41 (va_up (shf (A 41) p H) p (nI v))) 40 (va_up (shf (A 40) p H) p (nI d))) 42 (va_up (shf (A 42) p H) p (A 15 d))) 43 (va_up (shf (A 43) p H) p (rootI (A 15) sz d)), va_up S 44 (nI (H + 1)), fun k => if k = p then d else hd (sg p H k), fun k => pm (sg p H k), ⟨⟨by omega, va_up_self _ _ _, va_up_self _ _ _⟩, fun k hk20 => ?_, fun a b ha hb h => ?_, fun k hkH => ?_⟩, agr.rf.up (by decide), agr.rf.up (mem_hrs q2), agr.rf.up (by decide), (((agr.rf.up (by decide)).up (by decide)).up (by decide)).up (by decide), agr.rf.up (by decide), fun K o n1 cb sb h => ?_, fun K Kb Kx o n1 cb sb h => ?_⟩
  · rw [va_up_self, ← q1, shf_sg]
    exact g4 _ (sg_20 hH hk20)
  · exact sg_inj hp (g5 _ _ (sg_20 hH ha) (sg_20 hH hb) h)
  · rw [r4_40, r4_41, r4_42, r4_43, show va_up (va_up (va_up (va_up A 41 (va_up (shf (A 41) p H) p (nI v))) 40 (va_up (shf (A 40) p H) p (nI d))) 42 (va_up (shf (A 42) p H) p (A 15 d))) 43 (va_up (shf (A 43) p H) p (rootI (A 15) sz d)) 13 = A 13 from ((((agr.rf (ks := [40, 41, 42, 43])).up (by decide)).up (by decide)).up (by decide)).up (by decide) 13 (by decide), show va_up (va_up (va_up (va_up A 41 (va_up (shf (A 41) p H) p (nI v))) 40 (va_up (shf (A 40) p H) p (nI d))) 42 (va_up (shf (A 42) p H) p (A 15 d))) 43 (va_up (shf (A 43) p H) p (rootI (A 15) sz d)) 12 = A 12 from ((((agr.rf (ks := [40, 41, 42, 43])).up (by decide)).up (by decide)).up (by decide)).up (by decide) 12 (by decide)]
    dsimp only
    by_cases e : k = p
    · subst e
      rw [if_pos rfl, sg_p, va_up_self, va_up_self, va_up_self, va_up_self, va_up_self]
      refine ⟨hdD, rfl, ?_, ?_, ?_, ?_, ?_⟩
      · rw [va_up_ne _ _ (by decide), va_up_ne _ _ (by decide), va_up_ne _ _ (by decide), va_up_ne _ _ (by decide), va_up_self]
      · rw [va_up_ne _ _ (by decide), va_up_ne _ _ (by decide), va_up_ne _ _ (by decide), va_up_self]
      · rw [va_up_ne _ _ (by decide), va_up_ne _ _ (by decide), va_up_self]
      · rw [va_up_ne _ _ (by decide), va_up_self]
      · rw [va_up_self, e12]
    · have hs := sg_lt hp e (show k ≤ H by omega)
      have hne : pm (sg p H k) ≠ pm H := fun z => by have := g5 _ _ (by omega) hH z; omega
      rw [if_neg e, va_up_ne _ _ (show 46 + pm (sg p H k) ≠ 46 + pm H by omega), va_up_ne _ _ e, va_up_ne _ _ e, va_up_ne _ _ e, va_up_ne _ _ e, shf_ne _ e, shf_ne _ e, shf_ne _ e, shf_ne _ e]
      exact g6 _ hs
  · have L := fun K Kx => C_ins_L (X := X) (cs := cs) (ca := ca) (cr := cr) (cu := cu) (dyn := dyn) (r := (o, n1, cb, sb)) (sc := A 41) (s := nI v) (l1 := some (X + 17)) (l2 := nI j) (l4 := some (X + 46 + pm H)) (K := K) (Kx := Kx) hH g4 (fun k hk => (g6 k hk).2.2.2.1) H 1000 (by omega) (Nat.le_refl _)
    rw [shf_H, va_up_id (f := cr) rfl, hpe] at L
    unfold p_Hi_insert
    rw [c_g44_1, g2, c_g44_0, c_l45, xif_t (nI_lt hH (by decide)), c_g44_0, c_g44_1, g2, c_r45, cl_nI (by omega), q1, c_g44_1, g2, L]
    refine ⟨hinH, ?_⟩
    unfold p_Hi_insert_B72
    rw [c_g44_0, c_G45 q2, cl_nI (by omega), va_up_self, bx_uu, c_g17_2, c_r18, cl_nI (by omega), va_up_ne (j := 18) (k := 45) _ _ (by decide), h18, y_gI hb1 d1.2.1 rfl, cw_hit q2, show (0 : Int32).toNatClampNeg = 0 from rfl, cw_hit q2, show (1 : Int32).toNatClampNeg = 1 from rfl, va_up_self, bx_uu, c_g17_4, c_r20, cl_nI (by omega), va_up_ne (j := 20) (k := 46 + pm H) _ _ (by omega), h20, cw_hit q2, show (2 : Int32).toNatClampNeg = 2 from rfl, va_up_self, bx_uu, c_g17_5, c_r21, cl_nI (by omega), va_up_ne (j := 21) (k := 46 + pm H) _ _ (by omega), h21, cw_hit q2, show (3 : Int32).toNatClampNeg = 3 from rfl, va_up_self, bx_uu, c_g17_2, c_r18, cl_nI (by omega), va_up_ne (j := 18) (k := 45) _ _ (by decide), h18, y_gR (v := some (da d + 1)) hb1 d1.2.1 rfl, y_len (by omega) d1.2.2, cw_hit q2, show (4 : Int32).toNatClampNeg = 4 from rfl, va_up_self, bx_uu, c_g44_1, g2, c_p44_1, nI_1]
    exact ⟨hinp, hinj, hi0, hi1, hinj, hi2, hinj, hi3, hinj, hi4, h⟩
  · have L := fun K Kx => M_ins_L (M := M) (A := A) (B := B) (S := S) (r := (o, n1, cb, sb)) (s := nI v) (l2 := nI d) (K := K) (Kx := Kx) hH H 1000 (by omega) (Nat.le_refl _)
    rw [shA_H, hpe] at L
    rw [g3, L]
    unfold p_M_search_B173
    have ag0 : agr [40, 41, 42, 43] (shA A p H) A := by
      unfold shA
      exact (((agr.rf.up (by decide)).up (by decide)).up (by decide)).up (by decide)
    have ag1 : ∀ f g : Nat → Int32, agr [40, 41, 42, 43] (va_up (va_up (shA A p H) 41 f) 40 g) A := fun f g => (((agr.rf (ks := [40, 41, 42, 43])).up (by decide)).up (by decide)).tr ag0
    have ag2 : ∀ f g h : Nat → Int32, agr [40, 41, 42, 43] (va_up (va_up (va_up (shA A p H) 41 f) 40 g) 42 h) A := fun f g h => ((((agr.rf (ks := [40, 41, 42, 43])).up (by decide)).up (by decide)).up (by decide)).tr ag0
    rw [m_g41, m_w41, cl_nI (by omega), m_g40, m_w40, cl_nI (by omega), m_g42, m_g15, m_r15, cl_nI (by omega), ag1 _ _ 15 (by decide), m_w42, cl_nI (by omega), m_g43, m_ob, m_call, M_root_eq (sz := sz) (by omega) (fun e he => by rw [ag2 _ _ _ 12 (by decide)]; exact (hk.1 e (by omega)).1.2.1) e1, ag2 _ _ _ 15 (by decide)]
    dsimp only
    rw [m_w43, cl_nI (by omega), m_g44, g3, m_p44, nI_1, nI_1, show nI (sz d - 1 + szs sz (sel (segB (A 15) (A 15 d)) 0 d)) = rootI (A 15) sz d from by unfold rootI; congr 1; omega]
    refine ⟨hinp2, hinp2, hind, hinp2, hinp2, ?_⟩
    have e41 : shA A p H 41 = shf (A 41) p H := r4_41
    have e40 : shA A p H 40 = shf (A 40) p H := r4_40
    have e42 : shA A p H 42 = shf (A 42) p H := r4_42
    have e43 : shA A p H 43 = shf (A 43) p H := r4_43
    rw [va_up_ne (j := 43) (k := 42) _ _ (by decide), va_up_ne (j := 43) (k := 40) _ _ (by decide), va_up_ne (j := 43) (k := 41) _ _ (by decide), va_up_ne (j := 42) (k := 40) _ _ (by decide), va_up_ne (j := 42) (k := 41) _ _ (by decide), va_up_ne (j := 40) (k := 41) _ _ (by decide), e41, e40, e42, e43]
    unfold shA
    rw [u4]
    exact h
end IB
