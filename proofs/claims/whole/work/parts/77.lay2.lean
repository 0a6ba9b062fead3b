/-! lay all objects; a new document -/
def laidQ (Ab A : Nat → Nat → Int32) (Bb B : Nat → Nat → Int64) (w o : Nat) (pv : Int32) : Prop := A 22 w = Ab 0 o ∧ A 23 w = pv ∧ ∀ g, g < 4 → A 24 (4 * w + g) = Ab 3 (4 * o + g) ∧ A 25 (4 * w + g) = Ab 4 (4 * o + g) ∧ B 26 (4 * w + g) = Bb 5 (4 * o + g)
def keepQ (A A' : Nat → Nat → Int32) (B B' : Nat → Nat → Int64) (x : Nat) : Prop := A' 22 x = A 22 x ∧ A' 23 x = A 23 x ∧ ∀ g, g < 4 → A' 24 (4 * x + g) = A 24 (4 * x + g) ∧ A' 25 (4 * x + g) = A 25 (4 * x + g) ∧ B' 26 (4 * x + g) = B 26 (4 * x + g)
theorem keepQ.rf {A : Nat → Nat → Int32} {B : Nat → Nat → Int64} {x : Nat} : keepQ A A B B x := ⟨rfl, rfl, fun _ _ => ⟨rfl, rfl, rfl⟩⟩
theorem keepQ.tr {A A1 A2 : Nat → Nat → Int32} {B B1 B2 : Nat → Nat → Int64} {x : Nat} (h : keepQ A A1 B B1 x) (h2 : keepQ A1 A2 B1 B2 x) : keepQ A A2 B B2 x := ⟨h2.1.trans h.1, h2.2.1.trans h.2.1, fun g hg => ⟨(h2.2.2 g hg).1.trans (h.2.2 g hg).1, (h2.2.2 g hg).2.1.trans (h.2.2 g hg).2.1, (h2.2.2 g hg).2.2.trans (h.2.2 g hg).2.2⟩⟩
section LO
variable {M : Nat} {N O : Nat} {pa num : Nat → Nat} {t : Nat → Nat → Int32} {m0 : Nat → Int32}
def pvQ (A : Nat → Nat → Int32) (num : Nat → Nat) (N o : Nat) (pv : Int32) : Prop := (A 1 o = -1 ∧ pv = -1) ∨ ∃ j, j < N ∧ A 1 o = nI j ∧ A 2 j = nI (num j) ∧ pv = nI (num j)
theorem lay_one {o : Nat} {pv : Int32} {K : Unit → xS → Prop} {r : xM × Nat × Nat × Nat} {A : Nat → Nat → Int32} {B : Nat → Nat → Int64} {S : Nat → Int32} (ho : o < N) (hN : N ≤ 10) (hO : O + N ≤ 260) (hno : num o < N) (hpa : ∀ o, o < N → pa o < 4) (hc : mCons m0 N (fun o f => 4 * pa o + f) t) (hS : S 27 = nI O) (h0 : A 0 o = nI (pa o)) (h2 : A 2 o = nI (num o)) (hpv : pvQ A num N o pv) (ht : ∀ f, f < 4 → A 3 (4 * o + f) = t o f ∧ (t o f = 0 ∨ t o f = 1 ∨ t o f = 2)) (hI : mInv m0 (A 9) N (fun o f => 4 * pa o + f) t (fun a _ => a < o)) (hz : S 10 = nI (nz (A 9) 16))
    (h1 : ∀ A' B' S', agr [9, 22, 23, 24, 25] A' A → agr [26] B' B → agr [10] S' S → laidQ A A' B B' (O + num o) o pv → (∀ x, x ≠ O + num o → keepQ A A' B B' x) → mInv m0 (A' 9) N (fun o f => 4 * pa o + f) t (fun a _ => a < o + 1) → S' 10 = nI (nz (A' 9) 16) → K () (mheap M A' B' S', r)) : p_M_lay M (nI o) K (mheap M A B S, r) := by
  have hin : vp_in (nI o) 10 := vp_in_nI (by omega) (by decide)
  have hin2 : vp_in (nI (O + num o)) 260 := vp_in_nI (by omega) (by decide)
  have key : p_M_lay_L56 M (nI o) (nI (O + num o)) K (K ()) 1000 0 (mheap M (va_up (va_up A 22 (va_up (A 22) (O + num o) (A 0 o))) 23 (va_up (A 23) (O + num o) pv)) B S, r) := by
    refine lay_f (Q := fun a _ => a < o) ho hN (show O + num o < 260 by omega) hpa hc 4 1000 0 _ _ _ (by omega) (by omega) ?_ ?_ ?_ ?_ (fun A' B' S' hA hB hS' hl hk hI' hz' => h1 A' B' S' ?_ hB hS' ⟨?_, ?_, fun g hg => ?_⟩ (fun x hx => ⟨?_, ?_, fun g hg => ?_⟩) (mInv_P hI' (fun x y _ hy => ?_)) hz')
    · rw [va_up_ne _ _ (by decide), va_up_ne _ _ (by decide)]; exact h0
    · intro g hg
      rw [va_up_ne _ _ (by decide), va_up_ne _ _ (by decide)]; exact ht g hg
    · rw [va_up_ne _ _ (by decide), va_up_ne _ _ (by decide)]
      exact mInv_P hI (fun x y _ _ => ⟨Or.inl, fun q => by rcases q with q | q; exact q; omega⟩)
    · rw [va_up_ne _ _ (by decide), va_up_ne _ _ (by decide)]; exact hz
    · intro k hk
      rw [hA k (fun q => hk (by revert q; simp; omega)), va_up_ne _ _ (fun q => hk (by rw [q]; decide)), va_up_ne _ _ (fun q => hk (by rw [q]; decide))]
    · rw [hA 22 (by decide), va_up_ne _ _ (by decide), va_up_self, va_up_self]
    · rw [hA 23 (by decide), va_up_self, va_up_self]
    · obtain ⟨k1, k2, k3⟩ := hl g (Nat.zero_le _) hg
      rw [k1, k2, k3, va_up_ne _ _ (by decide), va_up_ne _ _ (by decide), va_up_ne _ _ (by decide), va_up_ne _ _ (by decide)]
      exact ⟨rfl, rfl, rfl⟩
    · rw [hA 22 (by decide), va_up_ne _ _ (by decide), va_up_self, va_up_ne _ _ hx]
    · rw [hA 23 (by decide), va_up_self, va_up_ne _ _ hx]
    · obtain ⟨k1, k2, k3⟩ := hk (4 * x + g) (fun g' _ _ => by omega)
      rw [k1, k2, k3, va_up_ne _ _ (by decide), va_up_ne _ _ (by decide), va_up_ne _ _ (by decide), va_up_ne _ _ (by decide)]
      exact ⟨rfl, rfl, rfl⟩
    · constructor
      · rintro (q | q)
        · omega
        · omega
      · intro q
        by_cases e : x = o
        · exact Or.inr ⟨e, hy⟩
        · exact Or.inl (by omega)
  unfold p_M_lay
  rw [m_g27, hS, m_g2, m_r2, cl_nI (by omega), h2, m_g22, m_g0, m_r0, cl_nI (by omega), nI_add, m_w22, cl_nI (by omega), m_g23, m_g1, m_r1, cl_nI (by omega), va_up_ne (j := 1) (k := 22) _ _ (by decide)]
  refine ⟨hin, hin, hin2, hin, ?_⟩
  rcases hpv with ⟨q1, q2⟩ | ⟨j, j1, j2, j3, j4⟩
  · rw [q1, xif_f (by decide), m_w23, cl_nI (by omega), va_up_ne (j := 23) (k := 22) _ _ (by decide)]
    rw [q2] at key
    exact ⟨hin2, key⟩
  · have hin3 : vp_in (nI j) 10 := vp_in_nI (by omega) (by decide)
    rw [j2, xif_t (nI_pos' (by omega)), m_g2, m_g1, m_r1, cl_nI (by omega), va_up_ne (j := 1) (k := 22) _ _ (by decide), j2, m_r2, cl_nI (by omega), va_up_ne (j := 2) (k := 22) _ _ (by decide), j3, m_w23, cl_nI (by omega), va_up_ne (j := 23) (k := 22) _ _ (by decide)]
    rw [j4] at key
    exact ⟨hin, hin3, hin2, key⟩
theorem lay_all {v : Int32} {pv : Nat → Int32} {K : Int32 → xS → Prop} {Kx : xS → Prop} {ob : xM} {nx cb sb : Nat} {Ab : Nat → Nat → Int32} {Bb : Nat → Nat → Int64} {Sb : Nat → Int32} (hN : N ≤ 10) (hO : O + N ≤ 260) (hno : ∀ o, o < N → num o < N) (hinj : ∀ o q, o < N → q < N → num o = num q → o = q) (hpa : ∀ o, o < N → pa o < 4) (hc : mCons m0 N (fun o f => 4 * pa o + f) t) (hS : Sb 27 = nI O) (hS6 : Sb 6 = nI N) (h0 : ∀ o, o < N → Ab 0 o = nI (pa o) ∧ Ab 2 o = nI (num o) ∧ pvQ Ab num N o (pv o)) (ht : ∀ o f, o < N → f < 4 → Ab 3 (4 * o + f) = t o f ∧ (t o f = 0 ∨ t o f = 1 ∨ t o f = 2)) :
    ∀ (n fu o : Nat) (A : Nat → Nat → Int32) (B : Nat → Nat → Int64) (S : Nat → Int32), n < fu → o + n = N → agr [9, 22, 23, 24, 25] A Ab → agr [26] B Bb → agr [10] S Sb → (∀ q, q < o → laidQ Ab A Bb B (O + num q) q (pv q)) → (∀ x, x < O → keepQ Ab A Bb B x) → mInv m0 (A 9) N (fun o f => 4 * pa o + f) t (fun a _ => a < o) → S 10 = nI (nz (A 9) 16) →
    (∀ A' B' S', agr [9, 22, 23, 24, 25] A' Ab → agr [26] B' Bb → agr [10] S' Sb → (∀ q, q < N → laidQ Ab A' Bb B' (O + num q) q (pv q)) → (∀ x, x < O → keepQ Ab A' Bb B' x) → mInv m0 (A' 9) N (fun o f => 4 * pa o + f) t (fun a _ => a < N) → S' 10 = nI (nz (A' 9) 16) → Kx (mheap M A' B' S', ob, nx, cb, sb)) → p_M_add_L89 M v K Kx fu (nI o) (mheap M A B S, ob, nx, cb, sb)
  | 0, fu + 1, o, A, B, S, hfu, ho, hA, hB, hSS, hl, hk, hI, hz, h1 => by
    have e : o = N := by omega
    subst e
    unfold p_M_add_L89
    rw [m_g6, hSS 6 (by decide), hS6, xif_t (nI_le (Nat.le_refl _) (by omega))]
    exact h1 A B S hA hB hSS hl hk hI hz
  | n + 1, fu + 1, o, A, B, S, hfu, ho, hA, hB, hSS, hl, hk, hI, hz, h1 => by
    have hoN : o < N := by omega
    obtain ⟨a0, a2, apv⟩ := h0 o hoN
    have e0 : A 0 = Ab 0 := hA 0 (by decide)
    have e1 : A 1 = Ab 1 := hA 1 (by decide)
    have e2 : A 2 = Ab 2 := hA 2 (by decide)
    have e3 : A 3 = Ab 3 := hA 3 (by decide)
    have e4 : A 4 = Ab 4 := hA 4 (by decide)
    have e5 : B 5 = Bb 5 := hB 5 (by decide)
    unfold p_M_add_L89
    rw [m_g6, hSS 6 (by decide), hS6, xif_f (nI_ge hoN (by omega)), m_ob, m_call]
    refine lay_one (pv := pv o) hoN hN hO (hno o hoN) hpa hc ((hSS 27 (by decide)).trans hS) (by rw [e0]; exact a0) (by rw [e2]; exact a2) (by unfold pvQ; rw [e1, e2]; exact apv) (by rw [e3]; exact fun f hf => ht o f hoN hf) hI hz (fun A' B' S' hA' hB' hS' hl' hk' hI' hz' => ?_)
    dsimp only
    rw [nI_1]
    refine lay_all hN hO hno hinj hpa hc hS hS6 h0 ht n fu (o + 1) A' B' S' (by omega) (by omega) (hA'.tr hA) (hB'.tr hB) (hS'.tr hSS) (fun q hq => ?_) (fun x hx => ?_) hI' hz' h1
    · by_cases e : q = o
      · subst e
        unfold laidQ at hl' ⊢
        rw [e0, e3, e4, e5] at hl'
        exact hl'
      · have hne : O + num q ≠ O + num o := fun z => e (hinj q o (by omega) hoN (by omega))
        obtain ⟨k1, k2, k3⟩ := hk' _ hne
        obtain ⟨l1, l2, l3⟩ := hl q (by omega)
        refine ⟨k1.trans l1, k2.trans l2, fun g hg => ⟨(k3 g hg).1.trans (l3 g hg).1, (k3 g hg).2.1.trans (l3 g hg).2.1, (k3 g hg).2.2.trans (l3 g hg).2.2⟩⟩
    · exact (hk x hx).tr (hk' x (by omega))
end LO
/-- a new document -/
def docD (dyn : xM) (a : Nat) (id : Int32) (n : Nat) (nodes : Nat → Option Nat) : xM := fun q => if q = a then some (.inr (5, [.int id, .ref (a + 1), .int 1])) else if q = a + 1 then some (.inl (3, n, .inr (.inl nodes))) else dyn q
theorem docD_0 {dyn : xM} {a n : Nat} {id : Int32} {nodes : Nat → Option Nat} : docD dyn a id n nodes a = some (.inr (5, [.int id, .ref (a + 1), .int 1])) := if_pos rfl
theorem docD_1 {dyn : xM} {a n : Nat} {id : Int32} {nodes : Nat → Option Nat} : docD dyn a id n nodes (a + 1) = some (.inl (3, n, .inr (.inl nodes))) := by
  unfold docD
  rw [if_neg (by omega), if_pos rfl]
theorem docD_d {dyn : xM} {a n q : Nat} {id : Int32} {nodes : Nat → Option Nat} (h : q ≠ a) (h1 : q ≠ a + 1) : docD dyn a id n nodes q = dyn q := by
  unfold docD
  rw [if_neg h, if_neg h1]
theorem docD_u {dyn : xM} {a n : Nat} {id : Int32} {nodes nodes' : Nat → Option Nat} : va_up (docD dyn a id n nodes) (a + 1) (some (.inl (3, n, .inr (.inl nodes')))) = docD dyn a id n nodes' := by
  funext q
  by_cases e : q = a + 1
  · subst e; rw [va_up_self, docD_1]
  · rw [va_up_ne _ _ e]
    unfold docD
    rw [if_neg e, if_neg e]
def ndF (c : Nat → Option Nat) (i : Nat) : Nat → Option Nat := fun x => if x < i then c x else none
section DI
variable {X : Nat} {cs : Nat → Int32} {ca : Nat → Nat → Int32} {cr : Nat → Nat → Option Nat} {cu : Option Nat} {dyn o : xM} {a N : Nat} {id : Int32}
theorem Do_init_L {K : Unit → xS → Prop} {Kx : xS → Prop} {r : xM × Nat × Nat × Nat} (ha : X + 66 ≤ a) (hN : N ≤ 10) (hn : ∀ i, i < N → ∃ b fs, cr 2 i = some b ∧ X + 66 ≤ b ∧ b < a ∧ dyn b = some (.inr (2, fs))) : ∀ (n f i : Nat), n < f → i + n = N → (p_Do_init_L27 a (some (X + 1)) K Kx f (nI i) (cheap X cs ca cr cu (docD dyn a id N (ndF (cr 2) i)), r) ↔ Kx (cheap X cs ca cr cu (docD dyn a id N (ndF (cr 2) N)), r))
  | 0, f + 1, i, hf, hi => by
    unfold p_Do_init_L27
    rw [y_gR (v := some (a + 1)) ha docD_0 rfl, y_len (by omega) docD_1, xif_t (nI_le (by omega) (by omega)), show i = N by omega]
  | n + 1, f + 1, i, hf, hi => by
    obtain ⟨b, fs, b1, b2, b3, b4⟩ := hn i (by omega)
    have hin : vp_in (nI i) N := vp_in_nI (by omega) (by omega)
    have hin2 : vp_in (nI i) 10 := vp_in_nI (by omega) (by omega)
    unfold p_Do_init_L27
    rw [y_gR (v := some (a + 1)) ha docD_0 rfl, y_len (by omega) docD_1, xif_f (nI_ge (by omega) (by omega)), y_gR (v := some (a + 1)) ha docD_0 rfl, c_g1_0, c_r2, cl_nI (by omega), y_asR (by omega) docD_1, cl_nI (by omega), docD_u, nI_1]
    have e : va_up (ndF (cr 2) i) i (cr 2 i) = ndF (cr 2) (i + 1) := by
      funext x
      unfold ndF
      by_cases e : x = i
      · subst e; rw [va_up_self, if_pos (by omega)]
      · rw [va_up_ne _ _ e]
        by_cases c : x < i
        · rw [if_pos c, if_pos (by omega)]
        · rw [if_neg c, if_neg (by omega)]
    rw [e, Do_init_L ha hN hn n f (i + 1) (by omega) (by omega)]
    constructor
    · exact fun h => h.2.2.2
    · exact fun h => ⟨hin2, hin, fun b' q => by rw [b1] at q; cases q; exact ⟨fs, (cheap_d b2).trans ((docD_d (by omega) (by omega)).trans b4)⟩, h⟩
theorem Do_init_eq {K : Unit → xS → Prop} (ha : X + 66 ≤ a) (hN : N ≤ 10) (hcs : cs 101 = nI N) (hn : ∀ i, i < N → ∃ b fs, cr 2 i = some b ∧ X + 66 ≤ b ∧ b < a ∧ dyn b = some (.inr (2, fs))) : p_Do_init a id (some (X + 1)) K (cheap X cs ca cr cu (va_up dyn a (some (.inr (5, z_Do)))), o, a + 1, 1, 10) ↔ K () (cheap X cs ca cr cu (docD dyn a id N (ndF (cr 2) N)), o, a + 2, 0, 10 - N) := by
  unfold p_Do_init
  rw [y_pZ ha (va_up_self _ _ _) (Nat.le_of_ble_eq_true rfl), up_same, y_pI ha (va_up_self _ _ _) (Nat.le_of_ble_eq_true rfl), up_same, c_g1_1, hcs, y_newR (n := N) (by omega) rfl (by omega), y_pR (fs := (z_Do.set 2 (.int 1)).set 0 (.int id)) ha (by rw [va_up_ne _ _ (by omega), va_up_self]) (Nat.le_of_ble_eq_true rfl)]
  have e : (va_up (va_up (va_up dyn a (some (.inr (5, (z_Do.set 2 (.int 1)).set 0 (.int id))))) (a + 1) (some (.inl (3, N, .inr (.inl fun _ => none))))) a (some (.inr (5, ((z_Do.set 2 (.int 1)).set 0 (.int id)).set 1 (va_rf (some (a + 1))))))) = docD dyn a id N (ndF (cr 2) 0) := by
    funext q
    unfold docD
    by_cases e0 : q = a
    · subst e0; rw [va_up_self, if_pos rfl]; rfl
    · rw [va_up_ne _ _ e0, if_neg e0]
      by_cases e1 : q = a + 1
      · subst e1; rw [va_up_self, if_pos rfl]; rfl
      · rw [va_up_ne _ _ e1, va_up_ne _ _ e0, if_neg e1]
  rw [e]
  have L := fun K Kx r => Do_init_L (X := X) (cs := cs) (ca := ca) (cr := cr) (cu := cu) (dyn := dyn) (id := id) (K := K) (Kx := Kx) (r := r) ha hN hn N 1000 0 (by omega) (by omega)
  simp only [show nI 0 = 0 from rfl] at L
  rw [L]
  constructor
  · exact fun h => h.2.2.2
  · exact fun h => ⟨Or.inr rfl, by omega, hN, h⟩
theorem buf_append {n obj s x : Nat} {nodes : Nat → Option Nat} {K : Unit → xS → Prop} {r : xM × Nat × Nat × Nat} {live : Int32} (hx : X + 66 ≤ x) (h1 : dyn x = some (.inr (5, [.int id, .ref (x + 1), .int live]))) (h2 : dyn (x + 1) = some (.inl (3, s, .inr (.inl nodes)))) (hn : n < 30) (hc1 : cs 1401 = nI n) (hc2 : cs 1402 = nI obj) :
    p_Rw_append (X + 14) (some x) K (cheap X cs ca cr cu dyn, r) ↔ K () (cheap X (va_up (va_up cs 1401 (nI (n + 1))) 1402 (nI (obj + s))) ca (va_up cr 15 (va_up (cr 15) n (some x))) cu dyn, r) := by
  have hin : vp_in (nI n) 30 := vp_in_nI hn (by decide)
  unfold p_Rw_append
  rw [c_g14_1, hc1, c_g14_0, c_l15, xif_f (nI_ge hn (by decide)), c_g14_0, c_g14_1, hc1, c_w15, cl_nI (by omega), c_g14_1, hc1, c_p14_1, nI_1, c_g14_2, va_up_ne _ _ (by decide), hc2, y_gR (v := some (x + 1)) hx h1 rfl, y_len (by omega) h2, c_p14_2, nI_add]
  constructor
  · exact fun h => h.2.2
  · exact fun h => ⟨hin, fun b q => by cases q; exact ⟨_, (cheap_d hx).trans h1⟩, h⟩
end DI
