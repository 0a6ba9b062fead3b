/-! open, number, close, wipe, of both -/
section TK
variable {X : Nat} {cs : Nat → Int32} {ca : Nat → Nat → Int32} {cr : Nat → Nat → Option Nat} {dyn : xM} {r : xM × Nat × Nat × Nat}
theorem xnn_s {a : Nat} {A : Nat → xS → Prop} {B : xS → Prop} {G : xS} : xnn (some a) A B G ↔ A a G := ⟨fun h => h.1 a rfl, fun h => ⟨fun b q => by cases q; exact h, fun q => by cases q⟩⟩
theorem xnn_n {A : Nat → xS → Prop} {B : xS → Prop} {G : xS} : xnn none A B G ↔ B G := ⟨fun h => h.2 rfl, fun h => ⟨fun b q => (by cases q), fun _ => h⟩⟩
theorem takes_none {path : Int32} {N : Nat} {K : Int32 → xS → Prop} (hN : N ≤ 10) (hc : cs 102 = nI N) : p_Dr_takesPath (X + 1) path K (cheap X cs ca cr none dyn, r) ↔ K (if N = 0 ∧ path = 0 then 1 else 0) (cheap X cs ca cr none dyn, r) := by
  unfold p_Dr_takesPath
  rw [c_g1_3, xnn_n, c_g1_2, hc]
  by_cases c1 : N = 0
  · rw [xif_t (by rw [c1]; rfl)]
    by_cases c2 : path = 0
    · rw [xif_t c2, xrz_1, if_pos ⟨c1, c2⟩]
    · rw [xif_f c2, xrz_0, if_neg (fun q => c2 q.2)]
  · rw [xif_f (nI_ne0 (by omega) (by omega)), xrz_0, if_neg (fun q => c1 q.1)]
theorem takes_some {path pp : Int32} {a : Nat} {fs : List Value} {K : Int32 → xS → Prop} (hp : inR path 0 3 = 1) (ha : X + 66 ≤ a) (hd : dyn a = some (.inr (2, fs))) (hf : fs[0]? = some (.int pp)) : p_Dr_takesPath (X + 1) path K (cheap X cs ca cr (some a) dyn, r) ↔ K (if parI path = pp then 1 else 0) (cheap X cs ca cr (some a) dyn, r) := by
  unfold p_Dr_takesPath
  rw [c_g1_3, xnn_s, par_tab hp, c_g1_3, y_gI ha hd hf]
  by_cases c : parI path = pp
  · rw [xif_t c, xrz_1, if_pos c]
  · rw [xif_f c, xrz_0, if_neg c]
end TK
theorem m1_ne {j : Nat} (h : j < 2 ^ 31) : ¬ (-1 : Int32) = nI j := fun q => by
  have := congrArg Int32.toInt q
  rw [nI_toInt h] at this
  have e3 : (-1 : Int32).toInt = -1 := rfl
  omega
theorem in03_of {v : Int32} (h : inR v 0 3 = 1) : ∃ p, p < 4 ∧ v = nI p := by
  have hv : ¬ (v.toInt < 0 ∨ 3 < v.toInt) := fun q => by rw [inR_0.mpr q] at h; exact absurd h (by decide)
  exact vp_in_of (n := 4) (vp_in_iff.mpr ⟨by omega, by omega⟩) (by decide)
theorem st_open {X M : Nat} {ca : Nat → Nat → Int32} {nx db : Nat} {bs : Nat → Nat} {dyn : xM} {cs : Nat → Int32} {cr : Nat → Nat → Option Nat} {cu : Option Nat} {A : Nat → Nat → Int32} {B : Nat → Nat → Int64} {S : Nat → Int32} {N C : Nat} {st : List Nat} {dn ls num cl : Nat → Nat} (h : Rd (X + 66) nx db bs dyn cs cr cu A B S N C st dn ls num cl) (hlo : X + 66 ≤ nx) (hdb : db ≤ nx) (path : Int32) :
    ∃ (v : Int32) (cs' : Nat → Int32) (cu' : Option Nat) (dyn' : xM) (nx' : Nat) (bs' : Nat → Nat) (A' : Nat → Nat → Int32) (B' : Nat → Nat → Int64) (S' : Nat → Int32) (N' : Nat) (st' : List Nat) (dn' ls' : Nat → Nat),
      Rd (X + 66) nx' db bs' dyn' cs' cr cu' A' B' S' N' C st' dn' ls' num cl ∧ N ≤ N' ∧ N' ≤ N + 1 ∧ agr [102] cs' cs ∧ agr [0, 1, 2, 3, 4] A' A ∧ agr [5] B' B ∧ agr [6, 8] S' S ∧ frm (fun _ => False) bs nx dyn bs' nx' dyn' ∧
      (∀ (K : Int32 → xS → Prop) (o : xM), (∀ cb sb, K v (cheap X cs' ca cr cu' dyn', o, nx', cb, sb)) → p_B_open X path K (cheap X cs ca cr cu dyn, o, nx, 4, 47)) ∧
      (∀ (K : Int32 → xS → Prop) (r : xM × Nat × Nat × Nat), K v (mheap M A' B' S', r) → p_M_open M path K (mheap M A B S, r)) := by
  obtain ⟨⟨h1, h2, h3, h4, h5, h6, h7, h8⟩, ⟨hs1, hs2⟩, hnode, hgap, hpar, -⟩ := id h
  have same : ∀ v : Int32, (∀ (K : Int32 → xS → Prop) (o : xM), (∀ cb sb, K v (cheap X cs ca cr cu dyn, o, nx, cb, sb)) → p_B_open X path K (cheap X cs ca cr cu dyn, o, nx, 4, 47)) → (∀ (K : Int32 → xS → Prop) (r : xM × Nat × Nat × Nat), K v (mheap M A B S, r) → p_M_open M path K (mheap M A B S, r)) → (∃ (v : Int32) (cs' : Nat → Int32) (cu' : Option Nat) (dyn' : xM) (nx' : Nat) (bs' : Nat → Nat) (A' : Nat → Nat → Int32) (B' : Nat → Nat → Int64) (S' : Nat → Int32) (N' : Nat) (st' : List Nat) (dn' ls' : Nat → Nat),
      Rd (X + 66) nx' db bs' dyn' cs' cr cu' A' B' S' N' C st' dn' ls' num cl ∧ N ≤ N' ∧ N' ≤ N + 1 ∧ agr [102] cs' cs ∧ agr [0, 1, 2, 3, 4] A' A ∧ agr [5] B' B ∧ agr [6, 8] S' S ∧ frm (fun _ => False) bs nx dyn bs' nx' dyn' ∧
      (∀ (K : Int32 → xS → Prop) (o : xM), (∀ cb sb, K v (cheap X cs' ca cr cu' dyn', o, nx', cb, sb)) → p_B_open X path K (cheap X cs ca cr cu dyn, o, nx, 4, 47)) ∧
      (∀ (K : Int32 → xS → Prop) (r : xM × Nat × Nat × Nat), K v (mheap M A' B' S', r) → p_M_open M path K (mheap M A B S, r))) := fun v hB hM =>
    ⟨v, cs, cu, dyn, nx, bs, A, B, S, N, st, dn, ls, h, Nat.le_refl _, Nat.le_succ _, agr.rf, agr.rf, agr.rf, agr.rf, frm.rf, hB, hM⟩
  rcases inR_cases path 0 3 with hp | hp
  · refine same (-1) (fun K o hK => ?_) (fun K r hK => ?_)
    · unfold p_B_open
      rw [m_call, B_isPath_eq, hp]
      dsimp only
      rw [xif_t rfl]
      exact hK _ _
    · obtain ⟨r1, r2, r3, r4⟩ := r
      unfold p_M_open
      rw [m_call, M_in03, hp]
      dsimp only
      rw [xif_t rfl]
      exact hK
  have good : N < 10 → (N = 0 → path = 0) → (st = [] → N = 0) → (∀ (K' : Int32 → xS → Prop) (o : xM), p_Dr_takesPath (X + 1) path K' (cheap X cs ca cr cu dyn, o, nx, 0, 0) ↔ K' 1 (cheap X cs ca cr cu dyn, o, nx, 0, 0)) → (∀ (K : Int32 → xS → Prop) (r : xM × Nat × Nat × Nat), p_M_open_B51 M path K (mheap M A B S, r) → p_M_open M path K (mheap M A B S, r)) → (∃ (v : Int32) (cs' : Nat → Int32) (cu' : Option Nat) (dyn' : xM) (nx' : Nat) (bs' : Nat → Nat) (A' : Nat → Nat → Int32) (B' : Nat → Nat → Int64) (S' : Nat → Int32) (N' : Nat) (st' : List Nat) (dn' ls' : Nat → Nat),
      Rd (X + 66) nx' db bs' dyn' cs' cr cu' A' B' S' N' C st' dn' ls' num cl ∧ N ≤ N' ∧ N' ≤ N + 1 ∧ agr [102] cs' cs ∧ agr [0, 1, 2, 3, 4] A' A ∧ agr [5] B' B ∧ agr [6, 8] S' S ∧ frm (fun _ => False) bs nx dyn bs' nx' dyn' ∧
      (∀ (K : Int32 → xS → Prop) (o : xM), (∀ cb sb, K v (cheap X cs' ca cr cu' dyn', o, nx', cb, sb)) → p_B_open X path K (cheap X cs ca cr cu dyn, o, nx, 4, 47)) ∧
      (∀ (K : Int32 → xS → Prop) (r : xM × Nat × Nat × Nat), K v (mheap M A' B' S', r) → p_M_open M path K (mheap M A B S, r))) := fun hN hr hst htk hM =>
    ⟨nI (N + 1), _, _, _, _, _, _, _, _, _, _, _, _, Rd_open h hN hlo hdb (in03_of hp) hr hst, Nat.le_succ _, Nat.le_refl _, agr.rf.up (by decide), ((((agr.rf.up (by decide)).up (by decide)).up (by decide)).up (by decide)).up (by decide), agr.rf.up (by decide), (agr.rf.up (by decide)).up (by decide), nodeD_frm,
      fun K o hK => B_open_ok hlo (Nat.le_refl _) (Nat.le_refl _) hp hN h3 (fun K' => htk K' o) (hK _ _), fun K r hK => hM K r ((M_open_B hN h4).mpr hK)⟩
  cases st with
  | nil =>
    have hcu : cu = none := h7
    subst hcu
    have hS8 : S 8 = -1 := h8
    by_cases c0 : N = 0
    · by_cases cp : path = 0
      · refine good (by omega) (fun _ => cp) (fun _ => c0) (fun K' o => ?_) (fun K r hK => ?_)
        · rw [takes_none h1 h3, if_pos ⟨c0, cp⟩]
        · obtain ⟨r1, r2, r3, r4⟩ := r
          unfold p_M_open
          rw [m_call, M_in03, hp]
          dsimp only
          rw [xif_f (by decide), m_g6, h4, xif_t (by rw [c0]; rfl), xif_t cp]
          exact hK
      · refine same (-2) (fun K o hK => ?_) (fun K r hK => ?_)
        · exact B_open_no (v := if N = 0 ∧ path = 0 then 1 else 0) hp (fun K' => takes_none h1 h3) (if_neg (fun q => cp q.2)) (hK _ _)
        · obtain ⟨r1, r2, r3, r4⟩ := r
          unfold p_M_open
          rw [m_call, M_in03, hp]
          dsimp only
          rw [xif_f (by decide), m_g6, h4, xif_t (by rw [c0]; rfl), xif_f cp]
          exact hK
    · refine same (-2) (fun K o hK => ?_) (fun K r hK => ?_)
      · exact B_open_no (v := if N = 0 ∧ path = 0 then 1 else 0) hp (fun K' => takes_none h1 h3) (if_neg (fun q => c0 q.1)) (hK _ _)
      · obtain ⟨r1, r2, r3, r4⟩ := r
        unfold p_M_open
        rw [m_call, M_in03, hp]
        dsimp only
        rw [xif_f (by decide), m_g6, h4, xif_f (nI_ne0 (by omega) (by omega)), m_g8, hS8, xif_t (by decide)]
        exact hK
  | cons i rest =>
    have hi : i < N := hs2 i List.mem_cons_self
    have hcu : cu = some (dn i) := h7
    subst hcu
    have hS8 : S 8 = nI i := h8
    obtain ⟨-, ty, va, wd, pl, d2, -⟩ := hnode i hi
    have htk : ∀ (K' : Int32 → xS → Prop) (o : xM), p_Dr_takesPath (X + 1) path K' (cheap X cs ca cr (some (dn i)) dyn, o, nx, 0, 0) ↔ K' (if parI path = A 0 i then 1 else 0) (cheap X cs ca cr (some (dn i)) dyn, o, nx, 0, 0) := fun K' o => takes_some hp d2.1.1 d2.2.1 rfl
    have hMo : ∀ (K : Int32 → xS → Prop) (r : xM × Nat × Nat × Nat), p_M_open M path K (mheap M A B S, r) ↔ (xif (A 0 i = parI path) (p_M_open_B51 M path K) (K (-2))) (mheap M A B S, r) := by
      intro K r
      obtain ⟨r1, r2, r3, r4⟩ := r
      have hin : vp_in (nI i) 10 := vp_in_nI (by omega) (by decide)
      unfold p_M_open
      rw [m_call, M_in03, hp]
      dsimp only
      rw [xif_f (by decide), m_g6, h4, xif_f (nI_ne0 (by omega) (by omega)), m_g8, hS8, xif_f (nI_pos (by omega)), m_g0, m_g8, hS8, m_r0, cl_nI (by omega), m_call, M_parentOf_eq]
      simp only [hin, true_and]
    by_cases ce : parI path = A 0 i
    · by_cases c10 : N = 10
      · subst c10
        refine same (-3) (fun K o hK => ?_) (fun K r hK => ?_)
        · exact B_open_full hp h3 (fun K' => by rw [htk, if_pos ce]) (hK _ _)
        · rw [hMo, xif_t ce.symm]
          unfold p_M_open_B51
          rw [m_g6, h4, xif_t (show nI 10 = 10 from rfl)]
          exact hK
      · refine good (by omega) (fun q => by omega) (fun q => by cases q) (fun K' o => by rw [htk, if_pos ce]) (fun K r hK => ?_)
        rw [hMo, xif_t ce.symm]
        exact hK
    · refine same (-2) (fun K o hK => ?_) (fun K r hK => ?_)
      · exact B_open_no (v := if parI path = A 0 i then 1 else 0) hp (fun K' => htk K' o) (if_neg ce) (hK _ _)
      · rw [hMo, xif_f (fun q => ce q.symm)]
        exact hK
