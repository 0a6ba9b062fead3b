/-! open -/
theorem i4 (N f : Nat) : (4 : Int32) * nI N + nI f = nI (4 * N + f) := by rw [show (4 : Int32) = nI 4 from rfl, pk_mul, nI_add]
def fillB (f : Nat → Int64) (w d : Nat) (v : Int64) : Nat → Int64 := fun j => if w ≤ j ∧ j < w + d then v else f j
theorem fillB_0 (f : Nat → Int64) (w : Nat) (v : Int64) : fillB f w 0 v = f := by
  funext j
  unfold fillB
  rw [if_neg (by omega)]
theorem fillB_s (f : Nat → Int64) (w d : Nat) (v : Int64) : fillB (va_up f w v) (w + 1) d v = fillB f w (d + 1) v := by
  funext j
  unfold fillB
  by_cases e : j = w
  · subst e; rw [if_neg (by omega), va_up_self, if_pos (by omega)]
  · rw [va_up_ne _ _ e]
    by_cases c : w + 1 ≤ j ∧ j < w + 1 + d
    · rw [if_pos c, if_pos (by omega)]
    · rw [if_neg c, if_neg (by omega)]
section OP
variable {M : Nat} {r : xM × Nat × Nat × Nat} {S : Nat → Int32}
theorem M_open_L {N : Nat} {K : Int32 → xS → Prop} {Kx : xS → Prop} (hN : N < 10) (hS : S 6 = nI N) : ∀ (d n i : Nat) (A : Nat → Nat → Int32) (B : Nat → Nat → Int64), d < n → i + d = 4 →
    (p_M_open_L98 M K Kx n (nI i) (mheap M A B S, r) ↔ Kx (mheap M (va_up (va_up A 3 (fillA (A 3) (4 * N + i) d 0)) 4 (fillA (A 4) (4 * N + i) d 0)) (va_up B 5 (fillB (B 5) (4 * N + i) d 0)) S, r))
  | 0, n + 1, i, A, B, hn, hi => by
    unfold p_M_open_L98
    rw [xif_t (show (4 : Int32) ≤ nI i from nI_le (a := 4) (by omega) (by omega)), fillA_0, fillA_0, fillB_0, va_up_id (f := A) rfl, va_up_id (f := A) rfl, va_up_id (f := B) rfl]
  | d + 1, n + 1, i, A, B, hn, hi => by
    unfold p_M_open_L98
    have hin : vp_in (nI (4 * N + i)) 40 := vp_in_nI (by omega) (by decide)
    have hcl : (nI (4 * N + i)).toNatClampNeg = 4 * N + i := cl_nI (by omega)
    rw [xif_f (show ¬ (4 : Int32) ≤ nI i from nI_ge (b := 4) (by omega) (by omega)), m_g3, m_g6, hS, i4, m_w3, hcl, m_g4, m_g6, hS, i4, m_w4, hcl, m_g5, m_g6, hS, i4, m_w5, hcl, nI_1]
    simp only [hin, true_and]
    have ih := M_open_L (K := K) (Kx := Kx) hN hS d n (i + 1) (va_up (va_up A 3 (va_up (A 3) (4 * N + i) 0)) 4 (va_up (A 4) (4 * N + i) 0)) (va_up B 5 (va_up (B 5) (4 * N + i) 0)) (by omega) (by omega)
    rw [va_up_self, va_up_ne (j := 3) (k := 4) _ _ (by decide), va_up_self, va_up_self, show 4 * N + (i + 1) = 4 * N + i + 1 by omega, fillA_s, fillA_s, fillB_s, va_up_sw (k := 4) (j := 3) (by decide), bx_uu, bx_uu, bx_uu] at ih
    rw [va_up_ne (j := 4) (k := 3) _ _ (by decide), ih]
theorem M_open_B {N : Nat} {path : Int32} {A : Nat → Nat → Int32} {B : Nat → Nat → Int64} {K : Int32 → xS → Prop} (hN : N < 10) (hS : S 6 = nI N) :
    p_M_open_B51 M path K (mheap M A B S, r) ↔ K (nI (N + 1)) (mheap M (va_up (va_up (va_up (va_up (va_up A 0 (va_up (A 0) N path)) 1 (va_up (A 1) N (S 8))) 2 (va_up (A 2) N (-1))) 3 (fillA (A 3) (4 * N) 4 0)) 4 (fillA (A 4) (4 * N) 4 0)) (va_up B 5 (fillB (B 5) (4 * N) 4 0)) (va_up (va_up S 8 (nI N)) 6 (nI (N + 1))), r) := by
  unfold p_M_open_B51
  have hin : vp_in (nI N) 10 := vp_in_nI (by omega) (by decide)
  have hcl : (nI N).toNatClampNeg = N := cl_nI (by omega)
  rw [m_g6, hS, xif_f (show ¬ nI N = 10 from fun q => by rw [show (10 : Int32) = nI 10 from rfl, nI_eq (by omega) (by omega)] at q; omega), m_g0, m_g6, hS, m_w0, hcl, m_g1, m_g6, hS, m_g8, m_w1, hcl, m_g2, m_g6, hS, m_w2, hcl]
  have L := fun K' Kx' A' => M_open_L (M := M) (r := r) (S := S) (K := K') (Kx := Kx') hN hS 4 1000 0 A' B (by omega) (by omega)
  simp only [show nI 0 = 0 from rfl, Nat.add_zero] at L
  rw [L, m_g6, hS, m_p8, m_g6, va_up_ne _ _ (by decide), hS, m_p6, nI_1, m_g6, va_up_self]
  simp only [hin, true_and]
  rw [va_up_ne (j := 1) (k := 0) _ _ (by decide), va_up_ne (j := 2) (k := 1) _ _ (by decide), va_up_ne (j := 2) (k := 0) _ _ (by decide), va_up_ne (j := 3) (k := 2) _ _ (by decide), va_up_ne (j := 3) (k := 1) _ _ (by decide), va_up_ne (j := 3) (k := 0) _ _ (by decide), va_up_ne (j := 4) (k := 2) _ _ (by decide), va_up_ne (j := 4) (k := 1) _ _ (by decide), va_up_ne (j := 4) (k := 0) _ _ (by decide)]
end OP
section OC
variable {X : Nat} {cs : Nat → Int32} {ca : Nat → Nat → Int32} {cr : Nat → Nat → Option Nat} {cu : Option Nat} {dyn : xM} {o : xM} {nx cb sb : Nat}
theorem Dr_begin_eq {path : Int32} {K : Unit → xS → Prop} (hn : X + 66 ≤ nx) : p_Dr_begin (X + 1) path K (cheap X cs ca cr cu dyn, o, nx, 4, 47) ↔ K () (cheap X (va_up cs 102 (cs 102 + 1)) ca cr (some nx) (nodeD dyn nx path cu (cs 101)), o, nx + 4, 0, 0) := by
  unfold p_Dr_begin
  rw [y_new hn, c_g1_3, c_g1_1, y_call, Nd_init_eq hn]
  dsimp only
  rw [c_p1_3, c_g1_2, c_p1_2]
  constructor
  · exact fun h => h.2.2.2.2
  · exact fun h => ⟨by omega, by omega, by omega, by omega, h⟩
theorem B_open_ok {path : Int32} {N : Nat} {K : Int32 → xS → Prop} (hn : X + 66 ≤ nx) (hcb : 4 ≤ cb) (hsb : 47 ≤ sb) (hp : inR path 0 3 = 1) (hN : N < 10) (hc : cs 102 = nI N) (htk : ∀ K' : Int32 → xS → Prop, p_Dr_takesPath (X + 1) path K' (cheap X cs ca cr cu dyn, o, nx, 0, 0) ↔ K' 1 (cheap X cs ca cr cu dyn, o, nx, 0, 0))
    (hK : K (nI (N + 1)) (cheap X (va_up cs 102 (nI (N + 1))) ca cr (some nx) (nodeD dyn nx path cu (cs 101)), o, nx + 4, cb - 4, sb - 47)) : p_B_open X path K (cheap X cs ca cr cu dyn, o, nx, cb, sb) := by
  unfold p_B_open
  rw [m_call, B_isPath_eq, hp]
  dsimp only
  rw [xif_f (by decide), c_g0_0, c_ob1, m_call, htk]
  dsimp only
  rw [xif_f (by decide), c_g0_0, c_g1_2, hc, xif_t (show nI N < 10 from nI_lt (b := 10) hN (by decide)), c_g0_0, c_ob1, y_call, Dr_begin_eq hn]
  dsimp only
  rw [c_g0_0, c_g1_2, va_up_self, hc, nI_1]
  exact ⟨hcb, hsb, hK⟩
theorem B_open_no {path v : Int32} {K : Int32 → xS → Prop} (hp : inR path 0 3 = 1) (htk : ∀ K' : Int32 → xS → Prop, p_Dr_takesPath (X + 1) path K' (cheap X cs ca cr cu dyn, o, nx, 0, 0) ↔ K' v (cheap X cs ca cr cu dyn, o, nx, 0, 0)) (hv : v = 0)
    (hK : K (-2) (cheap X cs ca cr cu dyn, o, nx, cb, sb)) : p_B_open X path K (cheap X cs ca cr cu dyn, o, nx, cb, sb) := by
  unfold p_B_open
  rw [m_call, B_isPath_eq, hp]
  dsimp only
  rw [xif_f (by decide), c_g0_0, c_ob1, m_call, htk]
  dsimp only
  rw [xif_t hv]
  exact hK
theorem B_open_full {path : Int32} {K : Int32 → xS → Prop} (hp : inR path 0 3 = 1) (hc : cs 102 = nI 10) (htk : ∀ K' : Int32 → xS → Prop, p_Dr_takesPath (X + 1) path K' (cheap X cs ca cr cu dyn, o, nx, 0, 0) ↔ K' 1 (cheap X cs ca cr cu dyn, o, nx, 0, 0))
    (hK : K (-3) (cheap X cs ca cr cu dyn, o, nx, cb, sb)) : p_B_open X path K (cheap X cs ca cr cu dyn, o, nx, cb, sb) := by
  unfold p_B_open
  rw [m_call, B_isPath_eq, hp]
  dsimp only
  rw [xif_f (by decide), c_g0_0, c_ob1, m_call, htk]
  dsimp only
  rw [xif_f (by decide), c_g0_0, c_g1_2, hc, xif_f (by decide)]
  exact hK
end OC
theorem nodeD_at {bs : Nat → Nat} {lo nx : Nat} {dyn : xM} {path : Int32} {par : Option Nat} {ls : Int32} (hn : lo ≤ nx) : nodeAt (fun q => if nx ≤ q then nx else bs q) lo (nx + 4) (nodeD dyn nx path par ls) nx path par ls 0 (fun _ => 0) (fun _ => 0) (fun _ => 0) := by
  refine ⟨⟨hn, by omega, fun i hi => if_pos (by omega)⟩, if_pos rfl, ?_, ?_, ?_⟩
  · unfold nodeD; rw [if_neg (by omega), if_pos rfl]
  · unfold nodeD; rw [if_neg (by omega), if_neg (by omega), if_pos rfl]
  · unfold nodeD; rw [if_neg (by omega), if_neg (by omega), if_neg (by omega), if_pos rfl]
theorem nodeD_frm {P : Nat → Prop} {bs : Nat → Nat} {nx : Nat} {dyn : xM} {path : Int32} {par : Option Nat} {ls : Int32} : frm P bs nx dyn (fun q => if nx ≤ q then nx else bs q) (nx + 4) (nodeD dyn nx path par ls) :=
  ⟨by omega, fun q hq => if_neg (by omega), fun q hq _ => by unfold nodeD; rw [if_neg (by omega), if_neg (by omega), if_neg (by omega), if_neg (by omega)]⟩
theorem stk_congr {f g : Nat → Int32} : ∀ {st : List Nat}, (∀ i ∈ st, f i = g i) → stk f st → stk g st
  | [], _, _ => trivial
  | i :: r, h, hs => ⟨(h i List.mem_cons_self).symm.trans hs.1, hs.2.1, stk_congr (fun j hj => h j (List.mem_cons_of_mem _ hj)) hs.2.2⟩
theorem Rd_open {lo nx db : Nat} {bs : Nat → Nat} {dyn : xM} {cs : Nat → Int32} {cr : Nat → Nat → Option Nat} {cu : Option Nat} {A : Nat → Nat → Int32} {B : Nat → Nat → Int64} {S : Nat → Int32} {N C : Nat} {st : List Nat} {dn ls num cl : Nat → Nat} (h : Rd lo nx db bs dyn cs cr cu A B S N C st dn ls num cl) {path : Int32} (hN : N < 10) (hlo : lo ≤ nx) (hdb : db ≤ nx)
    (hpath : ∃ p, p < 4 ∧ path = nI p) (hroot : N = 0 → path = 0) (hst : st = [] → N = 0) :
    Rd lo (nx + 4) db (fun q => if nx ≤ q then nx else bs q) (nodeD dyn nx path cu (cs 101)) (va_up cs 102 (nI (N + 1))) cr (some nx)
      (va_up (va_up (va_up (va_up (va_up A 0 (va_up (A 0) N path)) 1 (va_up (A 1) N (S 8))) 2 (va_up (A 2) N (-1))) 3 (fillA (A 3) (4 * N) 4 0)) 4 (fillA (A 4) (4 * N) 4 0)) (va_up B 5 (fillB (B 5) (4 * N) 4 0)) (va_up (va_up S 8 (nI N)) 6 (nI (N + 1))) (N + 1) C (N :: st) (va_up dn N nx) (va_up ls N C) num cl := by
  obtain ⟨⟨h1, h2, h3, h4, h5, h6, h7, h8⟩, ⟨hs1, hs2⟩, hnode, hgap, hpar, ⟨hn1, hn2⟩, hI, hJ, hP, hm1, hm2, hm3⟩ := h
  generalize hA' : (va_up (va_up (va_up (va_up (va_up A 0 (va_up (A 0) N path)) 1 (va_up (A 1) N (S 8))) 2 (va_up (A 2) N (-1))) 3 (fillA (A 3) (4 * N) 4 0)) 4 (fillA (A 4) (4 * N) 4 0)) = A'
  have a0 : A' 0 = va_up (A 0) N path := by rw [← hA', va_up_ne _ _ (by decide), va_up_ne _ _ (by decide), va_up_ne _ _ (by decide), va_up_ne _ _ (by decide), va_up_self]
  have a1 : A' 1 = va_up (A 1) N (S 8) := by rw [← hA', va_up_ne _ _ (by decide), va_up_ne _ _ (by decide), va_up_ne _ _ (by decide), va_up_self]
  have a2 : A' 2 = va_up (A 2) N (-1) := by rw [← hA', va_up_ne _ _ (by decide), va_up_ne _ _ (by decide), va_up_self]
  have a3 : A' 3 = fillA (A 3) (4 * N) 4 0 := by rw [← hA', va_up_ne _ _ (by decide), va_up_self]
  have a4 : A' 4 = fillA (A 4) (4 * N) 4 0 := by rw [← hA', va_up_self]
  have hNst : N ∉ st := fun q => absurd (hs2 N q) (Nat.lt_irrefl N)
  have hcN : ∀ c, c < C → cl c ≠ N := fun c hc => Nat.ne_of_lt (hn2 c hc).1
  have hop : (opI st = -1 ∧ st = []) ∨ ∃ j, j < N ∧ opI st = nI j := by
    cases st with
    | nil => exact Or.inl ⟨rfl, rfl⟩
    | cons j r => exact Or.inr ⟨j, hs2 j List.mem_cons_self, rfl⟩
  have hpa : ∀ i, i < N → parA (va_up dn N nx) (A 1 i) = parA dn (A 1 i) := by
    intro i hi
    rcases (hpar i hi).2 with ⟨-, q, -⟩ | ⟨j, hj, q⟩
    · rw [q]; rfl
    · rw [q, parA_s _ (by omega), parA_s _ (by omega), va_up_ne _ _ (by omega)]
  refine ⟨⟨by omega, by simp; omega, va_up_self _ _ _, va_up_self _ _ _, (va_up_ne _ _ (by decide)).trans h5, ?_, ?_, ?_⟩, ⟨⟨?_, hs2, ?_⟩, ?_⟩, ?_, ?_, ?_, ⟨?_, ?_⟩, ?_, ?_, ?_, ?_, ?_, ?_⟩
  · rw [va_up_ne _ _ (by decide), va_up_ne _ _ (by decide)]; exact h6
  · show some nx = some (va_up dn N nx N); rw [va_up_self]
  · rw [va_up_ne _ _ (by decide), va_up_self]; rfl
  · rw [a1, va_up_self, h8]
  · rw [a1]; exact stk_congr (fun i hi => (va_up_ne _ _ (Nat.ne_of_lt (hs2 i hi))).symm) hs1
  · intro i hi
    rcases List.mem_cons.mp hi with rfl | hi
    · omega
    · have := hs2 i hi; omega
  · intro i hi
    rw [a0, a1, a3, a4, va_up_self]
    by_cases e : i = N
    · subst e
      refine ⟨by rw [va_up_self]; exact hdb, fun _ => 0, fun _ => 0, fun _ => 0, 0, ?_, ?_, fun q => absurd List.mem_cons_self q⟩
      · rw [va_up_self, va_up_self, va_up_self, va_up_self]
        have e2 : parA (va_up dn i nx) (S 8) = cu := by
          rw [h8, h7]
          rcases hop with ⟨q, q2⟩ | ⟨j, hj, q⟩
          · subst q2; rfl
          · rw [q, parA_s _ (by omega), va_up_ne _ _ (by omega)]
            cases st with
            | nil => exact absurd q (by rw [show opI [] = -1 from rfl]; exact fun q => by have := congrArg Int32.toInt q; rw [nI_toInt (by omega)] at this; have e3 : (-1 : Int32).toInt = -1 := rfl; omega)
            | cons j' r =>
              have : j' = j := (nI_eq (by have := hs2 j' List.mem_cons_self; omega) (by omega)).mp q
              subst this
              rfl
        rw [e2, h5]
        exact nodeD_at hlo
      · intro f hf
        unfold fillA fillB
        rw [if_pos (by omega), if_pos (by omega), if_pos (by omega)]
        exact ⟨rfl, rfl, Or.inl ⟨rfl, rfl⟩⟩
    · have hi' : i < N := by omega
      obtain ⟨d1, ty, va, wd, pl, d2, d3, d4⟩ := hnode i hi'
      refine ⟨by rw [va_up_ne _ _ e]; exact d1, ty, va, wd, pl, ?_, ?_, ?_⟩
      · rw [va_up_ne _ _ e, va_up_ne _ _ e, va_up_ne _ _ e, va_up_ne _ _ e, hpa i hi']
        exact d2.to (P := fun _ => False) nodeD_frm (fun q => q)
      · intro f hf
        have := d3 f hf
        unfold fillA fillB
        rw [if_neg (by omega), if_neg (by omega), if_neg (by omega)]
        exact this
      · intro q
        exact d4 (fun z => q (List.mem_cons_of_mem _ z))
  · intro i j hij hj
    by_cases e : j = N
    · subst e
      rw [va_up_self, va_up_ne _ _ (by omega)]
      obtain ⟨-, ty, va, wd, pl, d2, -⟩ := hnode i hij
      exact d2.1.2.1
    · rw [va_up_ne _ _ e, va_up_ne _ _ (by omega)]
      exact hgap i j hij (by omega)
  · intro i hi
    rw [a0, a1]
    by_cases e : i = N
    · subst e
      rw [va_up_self, va_up_self]
      refine ⟨hpath, ?_⟩
      rcases hop with ⟨q, q2⟩ | ⟨j, hj, q⟩
      · exact Or.inl ⟨hst q2, h8.trans q, hroot (hst q2)⟩
      · exact Or.inr ⟨j, hj, h8.trans q⟩
    · rw [va_up_ne _ _ e, va_up_ne _ _ e]
      exact hpar i (by omega)
  · intro i hi hni
    have e : i ≠ N := fun q => hni (by rw [q]; exact List.mem_cons_self)
    have := hn1 i (by omega) (fun q => hni (List.mem_cons_of_mem _ q))
    rw [a2, va_up_ne _ _ e]
    exact this
  · intro c hc
    obtain ⟨q1, q2, q3, q4⟩ := hn2 c hc
    refine ⟨by omega, ?_, q3, ?_⟩
    · intro q
      rcases List.mem_cons.mp q with q | q
      · omega
      · exact q2 q
    · rw [va_up_ne _ _ (by omega)]; exact q4
  · intro c w hc hw hne hor
    by_cases e : w = N
    · subst e
      rw [va_up_self]
      have := (hn2 c hc).1
      constructor <;> intro q <;> omega
    · rw [va_up_ne _ _ e]
      refine hI c w hc (by omega) hne ?_
      rcases hor with q | q
      · rcases List.mem_cons.mp q with q | q
        · exact absurd q e
        · exact Or.inl q
      · exact Or.inr q
  · intro c z j hc hz hor hA
    rw [a1, va_up_ne _ _ (hcN c hc)] at hA
    have hzN : z ≠ N := by have := (hn2 c hc).1; omega
    refine hJ c z j hc hz ?_ hA
    rcases hor with q | q
    · rcases List.mem_cons.mp q with q | q
      · exact absurd q hzN
      · exact Or.inl q
    · exact Or.inr q
  · intro c j hc hj hA
    rw [a1, va_up_ne _ _ (hcN c hc)] at hA
    have hjN : j < N := by
      have := (hn2 c hc).1
      rcases (hpar _ this).2 with ⟨-, q, -⟩ | ⟨j', hj', q⟩
      · rw [q] at hA
        have := congrArg Int32.toInt hA
        rw [nI_toInt (by omega)] at this
        have e3 : (-1 : Int32).toInt = -1 := rfl
        omega
      · rw [q] at hA
        have := (nI_eq (by omega) (by omega)).mp hA
        omega
    rcases hP c j hc hjN hA with q | q
    · exact Or.inl (List.mem_cons_of_mem _ q)
    · exact Or.inr q
  · intro i j hij hj
    by_cases e : j = N
    · subst e
      rw [va_up_self, va_up_ne _ _ (by omega)]
      exact hm2 i hij
    · rw [va_up_ne _ _ e, va_up_ne _ _ (by omega)]
      exact hm1 i j hij (by omega)
  · intro i hi
    by_cases e : i = N
    · subst e; rw [va_up_self]; exact Nat.le_refl _
    · rw [va_up_ne _ _ e]; exact hm2 i (by omega)
  · intro c hc
    rw [va_up_ne _ _ (hcN c hc)]
    exact hm3 c hc
