/-! merge -/
def rgB (s : Nat → Int32) (a n : Nat) (d : Nat) : Bool := decide ((a : Int) ≤ (s d).toInt ∧ (s d).toInt < ((a + n : Nat) : Int))
theorem rgB_t {s : Nat → Int32} {a n d : Nat} : rgB s a n d = true ↔ ((a : Int) ≤ (s d).toInt ∧ (s d).toInt < ((a + n : Nat) : Int)) := ⟨fun h => of_decide_eq_true h, fun h => decide_eq_true h⟩
theorem rgB_f {s : Nat → Int32} {a n d : Nat} : rgB s a n d = false ↔ ¬ ((a : Int) ≤ (s d).toInt ∧ (s d).toInt < ((a + n : Nat) : Int)) := ⟨fun h => of_decide_eq_false h, fun h => decide_eq_false h⟩
def catL (A : Nat → Nat → Int32) (D : Nat) : Nat → Nat → List Nat
  | _, 0 => []
  | a, n + 1 => segL A D a ++ catL A D (a + 1) n
theorem seg_inj {A : Nat → Nat → Int32} {d k l : Nat} (hk : k < 2 ^ 31) (hl : l < 2 ^ 31) (h1 : A 14 d = nI k) (h2 : A 14 d = nI l) : k = l := (nI_eq hk hl).mp (h1.symm.trans h2)
theorem cat_sel {A : Nat → Nat → Int32} {D K : Nat} (hs : segs A D K) (h6 : K ≤ 6) : ∀ (n a : Nat), a + n ≤ K → catL A D a n = sel (rgB (A 14) a n) 0 D
  | 0, a, h => (sel_none _ _ (fun x _ _ => rgB_f.mpr (by omega))).symm
  | n + 1, a, h => by
    show segL A D a ++ catL A D (a + 1) n = _
    rw [cat_sel hs h6 n (a + 1) (by omega)]
    have val : ∀ x, 0 ≤ (A 14 x).toInt → ∃ k : Nat, A 14 x = nI k ∧ (A 14 x).toInt = (k : Int) ∧ k < 2 ^ 31 := by
      intro x hx
      have hi := Int32.toInt_lt (A 14 x)
      refine ⟨(A 14 x).toInt.toNat, ?_, by omega, by omega⟩
      rw [i_eq, nI_toInt (by omega)]
      omega
    refine (sel_two _ _ (fun x _ hx => ?_) (fun x y _ hy hp hq => ?_)).symm
    · by_cases e : A 14 x = nI a
      · rw [segB_t e, Bool.true_or, rgB_t, e, nI_toInt (by omega)]
        omega
      · rw [segB_f e, Bool.false_or]
        have : (A 14 x).toInt ≠ (a : Int) := fun q => e (by rw [i_eq, nI_toInt (by omega)]; exact q)
        cases hb : rgB (A 14) (a + 1) n x with
        | true => have := rgB_t.mp hb; rw [rgB_t]; omega
        | false => have := rgB_f.mp hb; rw [rgB_f]; omega
    · have hq' := rgB_t.mp hq
      have hp' : A 14 y = nI a := of_decide_eq_true hp
      obtain ⟨k, k1, k2, k3⟩ := val x (by omega)
      by_cases c : y < x
      · exact c
      · by_cases e : x = y
        · subst e
          have := seg_inj (k := k) (l := a) (by omega) (by omega) k1 hp'
          omega
        · have := hs.2.1 x y k a (by omega) (by omega) (by omega) (by omega) k1 hp'
          omega
section MC
variable {X nx db : Nat} {bs : Nat → Nat} {dyn : xM} {cs : Nat → Int32} {ca : Nat → Nat → Int32} {cr : Nat → Nat → Option Nat} {cu : Option Nat} {A : Nat → Nat → Int32} {B : Nat → Nat → Int64} {S : Nat → Int32} {D O K : Nat} {fr sz da na le : Nat → Nat} {o : xM} {cb sb : Nat}
theorem len_filter_not {q : Nat → Bool} : ∀ L : List Nat, L.length - (L.filter q).length = (L.filter (fun x => !q x)).length ∧ (L.filter q).length ≤ L.length
  | [] => ⟨rfl, Nat.le_refl _⟩
  | d :: L => by
    obtain ⟨h1, h2⟩ := len_filter_not (q := q) L
    cases hq : q d with
    | true => rw [List.filter_cons_of_pos hq, List.filter_cons_of_neg (p := fun x => !q x) (by rw [hq]; decide), List.length_cons, List.length_cons]; omega
    | false => rw [List.filter_cons_of_neg (by rw [hq]; decide), List.filter_cons_of_pos (p := fun x => !q x) (by rw [hq]; rfl), List.length_cons, List.length_cons]; omega
theorem B_merge_L {KK : Int32 → xS → Prop} {Kx : Int32 → Int32 → xS → Prop} {a m : Nat} (hk : Rk (X + 66) nx db bs dyn A B D O fr sz da na le) (hr : Rr (X + 66) nx bs dyn cs cr A S D O K sz da) (ham : a + m ≤ K) : ∀ (n f i c e : Nat), n < f → i + n = a + m →
    (p_B_merge_L35 X (nI a) (nI m) KK Kx f (nI c) (nI e) (nI i) (cheap X cs ca cr cu dyn, o, nx, cb, sb) ↔ Kx (nI (c + ((catL A D i n).filter (lvB (A 16))).length)) (nI (e + ((catL A D i n).filter (fun x => !lvB (A 16) x)).length)) (cheap X cs ca cr cu dyn, o, nx, cb, sb))
  | 0, f + 1, i, c, e, hf, hi => by
    have h6 := hr.1.2.2.2.2.2.2.1
    unfold p_B_merge_L35
    rw [nI_add, xif_t (nI_le (by omega) (by omega))]
    exact Iff.rfl
  | n + 1, f + 1, i, c, e, hf, hi => by
    have h6 := hr.1.2.2.2.2.2.2.1
    obtain ⟨ad, cap, docs, a1, a2, a3, a4, a5⟩ := hr.2.2.1 i (by omega)
    obtain ⟨nodes, hn⟩ := docs_of hk
    have hin : vp_in (nI i) 6 := vp_in_nI (by omega) (by decide)
    have hrow := rowM_of (cs := cs) (ca := ca) (cr := cr) (cu := cu) a2 a3 a4
    have hd : ∀ d ∈ segL A D i, docM (cheap X cs ca cr cu dyn) (da d) (A 13 d) (A 16 d) (sz d) (nodes d) := fun d hd => docM_of (hn d (mem_seg.mp hd).1).1
    unfold p_B_merge_L35
    rw [nI_add, xif_f (nI_ge (by omega) (by omega)), c_g0_3, c_r16, cl_nI (by omega), a1, g_ob hrow.1, m_call, Rw_liveCount_eq hrow a5 hd]
    dsimp only
    rw [c_g0_3, c_r16, cl_nI (by omega), a1, g_ob hrow.1, m_call, Rw_deletedCount_eq hrow a5 hd]
    dsimp only
    rw [nI_add, nI_add, nI_1, B_merge_L hk hr ham n f (i + 1) _ _ (by omega) (by omega), show catL A D i (n + 1) = segL A D i ++ catL A D (i + 1) n from rfl, List.filter_append, List.filter_append, List.length_append, List.length_append, (len_filter_not _).1, Nat.add_assoc, Nat.add_assoc]
    simp only [hin, true_and]
theorem B_merged_L {K' : Option Nat → xS → Prop} {Kx : xS → Prop} {a m t cap : Nat} {n0 : Nat} (hk : Rk (X + 66) n0 db bs dyn A B D O fr sz da na le) (hr : Rr (X + 66) n0 bs dyn cs cr A S D O K sz da) (ham : a + m ≤ K) (hlo : X + 66 ≤ t) (h0 : n0 ≤ t) (hcap : cap ≤ 180) : ∀ (n f i w obj : Nat) (docs : Nat → Option Nat), n < f → i + n = a + m → w + ((catL A D i n).filter (lvB (A 16))).length ≤ cap →
    (p_B_mergedRow_L13 X (nI a) (nI m) (some t) K' Kx f (nI i) (cheap X cs ca cr cu (rowS dyn t cap w obj docs), o, nx, cb, sb) ↔ Kx (cheap X cs ca cr cu (rowS dyn t cap (w + ((catL A D i n).filter (lvB (A 16))).length) (obj + szs sz ((catL A D i n).filter (lvB (A 16)))) (putL da docs w ((catL A D i n).filter (lvB (A 16))))), o, nx, cb, sb))
  | 0, f + 1, i, w, obj, docs, hf, hi, _ => by
    have h6 := hr.1.2.2.2.2.2.2.1
    unfold p_B_mergedRow_L13
    rw [nI_add, xif_t (nI_le (by omega) (by omega))]
    exact Iff.rfl
  | n + 1, f + 1, i, w, obj, docs, hf, hi, hw => by
    have h6 := hr.1.2.2.2.2.2.2.1
    obtain ⟨ad, scap, sdocs, a1, a2, a3, a4, a5⟩ := hr.2.2.1 i (by omega)
    obtain ⟨nodes, hn⟩ := docs_of hk
    have hin : vp_in (nI i) 6 := vp_in_nI (by omega) (by decide)
    have hrow := rowM_of (cs := cs) (ca := ca) (cr := cr) (cu := cu) a2 a3 a4
    have hb := a2.1.2.1
    rw [show catL A D i (n + 1) = segL A D i ++ catL A D (i + 1) n from rfl, List.filter_append, List.length_append] at hw
    unfold p_B_mergedRow_L13
    rw [nI_add, xif_f (nI_ge (by omega) (by omega)), c_g0_3, c_r16, cl_nI (by omega), a1, y_ob hlo rowS_0, m_call]
    unfold p_Rw_appendLive
    have hL := fun K Kx => Rw_appendLive_L (X := X) (nx := nx) (dyn := dyn) (cs := cs) (ca := ca) (cr := cr) (cu := cu) (o := o) (cb := 0) (sb := 0) (a := t) (cap := cap) (K := K) (Kx := Kx) (id := A 13) (nodes := nodes) hlo hcap hrow ⟨by omega, by omega, by omega, by omega⟩ h0 (segL A D i) 0 1000 w obj docs (by omega) (by omega) a5 (fun d hd => (hn d (mem_seg.mp hd).1).1) (by omega)
    simp only [show nI 0 = 0 from rfl] at hL
    rw [hL]
    dsimp only
    rw [nI_1, B_merged_L hk hr ham hlo h0 hcap n f (i + 1) _ _ _ (by omega) (by omega) (by omega), show catL A D i (n + 1) = segL A D i ++ catL A D (i + 1) n from rfl, List.filter_append, List.length_append, szs_app, putL_app, Nat.add_assoc, Nat.add_assoc]
    simp only [hin, true_and]
/-- rows that are moved down -/
def mvF (c : Nat → Option Nat) (i by' K : Nat) : Nat → Option Nat := fun x => if i ≤ x + by' ∧ x + by' < K then c (x + by') else c x
theorem B_move_L {KK : Unit → xS → Prop} {Kx : xS → Prop} {b : Nat} (hK : cs 8 = nI K) (h6 : K ≤ 6) (hb : 1 ≤ b) (hrow : ∀ k, k < K → ∃ a fs, cr 16 k = some a ∧ X + 66 ≤ a ∧ dyn a = some (.inr (8, fs))) : ∀ (n f i : Nat) (cr' : Nat → Nat → Option Nat), n < f → i + n = K → b ≤ i → (∀ k, k ≥ i → cr' 16 k = cr 16 k) →
    (p_B_moveDown_L2 X (nI b) KK Kx f (nI i) (cheap X cs ca cr' cu dyn, o, nx, cb, sb) ↔ Kx (cheap X cs ca (va_up cr' 16 (mvF (cr' 16) i b K)) cu dyn, o, nx, cb, sb))
  | 0, f + 1, i, cr', hf, hi, hbi, hc => by
    unfold p_B_moveDown_L2
    rw [c_g0_8, hK, xif_t (nI_le (by omega) (by omega)), va_up_id (f := cr') (by
      funext x
      unfold mvF
      rw [if_neg (by omega)])]
  | n + 1, f + 1, i, cr', hf, hi, hbi, hc => by
    obtain ⟨a, fs, r1, r2, r3⟩ := hrow i (by omega)
    have hin : vp_in (nI i) 6 := vp_in_nI (by omega) (by decide)
    have hin2 : vp_in (nI (i - b)) 6 := vp_in_nI (by omega) (by decide)
    unfold p_B_moveDown_L2
    rw [c_g0_8, hK, xif_f (nI_ge (by omega) (by omega)), c_g0_3, c_g0_3, c_r16, cl_nI (by omega), hc i (Nat.le_refl _), r1, pk_sub hbi, c_w16, cl_nI (by omega), nI_1, B_move_L hK h6 hb hrow n f (i + 1) _ (by omega) (by omega) (by omega) (fun k hk => by rw [va_up_self, va_up_ne _ _ (by omega)]; exact hc k (by omega)), va_up_self, bx_uu]
    have e : mvF (va_up (cr' 16) (i - b) (some a)) (i + 1) b K = mvF (cr' 16) i b K := by
      funext x
      unfold mvF
      by_cases e : x = i - b
      · subst e
        rw [if_neg (by omega), va_up_self, if_pos (by omega), show i - b + b = i by omega, hc i (Nat.le_refl _), r1]
      · by_cases c : i + 1 ≤ x + b ∧ x + b < K
        · rw [if_pos c, if_pos (by omega), va_up_ne _ _ (by omega)]
        · rw [if_neg c, if_neg (by omega), va_up_ne _ _ e]
    rw [e]
    constructor
    · exact fun h => h.2.2.2
    · exact fun h => ⟨hin, hin2, fun b q => by cases q; exact ⟨fs, (cheap_d r2).trans r3⟩, h⟩
end MC
