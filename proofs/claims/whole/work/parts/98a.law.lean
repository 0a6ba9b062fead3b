/-! THE LAW: the loop, and the whole -/
theorem RR_0 (X nx : Nat) (h : X + 66 ≤ nx) : RR X nx 0 (fun _ => none) cs0 ca0 (cr0 X) none A0 B0 S0 := by
  refine ⟨fun _ => 0, 0, 0, 0, [], fun _ => 0, fun _ => 0, fun _ => 0, fun _ => 0, 0, 0, 0, fun _ => 0, fun _ => 0, fun _ => 0, fun _ => 0, fun _ => 0, 0, fun _ => 0, fun k => k, ⟨h, by omega, by omega, by omega⟩, ?_, ?_, ?_, ?_, ?_, ?_, ?_⟩
  · exact ⟨⟨by omega, rfl, rfl, rfl, rfl, rfl, rfl, rfl⟩, ⟨trivial, fun i hi => by cases hi⟩, fun i hi => by omega, fun i j _ hj => by omega, fun i hi => by omega, ⟨fun i hi => by omega, fun c hc => by omega⟩, fun c w hc => by omega, fun c z j hc => by omega, fun c j hc => by omega, fun i j _ hj => by omega, fun i hi => by omega, fun c hc => by omega⟩
  · exact ⟨fun d hd => by omega, fun d e _ he => by omega, fun d k hd => by omega, fun d hd => by omega⟩
  · exact ⟨⟨rfl, rfl, rfl, rfl, rfl, rfl, by omega, by omega⟩, ⟨rfl, rfl, Nat.zero_le _, trivial⟩, fun k hk => by omega, fun d hd => by omega, fun d e k l _ he => by omega, fun d e l _ he => by omega, fun d e hd => by omega, fun d e k hd => by omega⟩
  · exact ⟨fun p f _ _ => rfl, fun k _ => Or.inl rfl, by decide, by decide⟩
  · exact ⟨⟨rfl, Or.inl rfl⟩, ⟨rfl, Nat.zero_le _, trivial, trivial, trivial, trivial⟩, fun d hd => by omega, fun d _ => rfl, fun d e hd => by omega⟩
  · refine ⟨0, fun _ => [0], fun _ => 0, by omega, rfl, rfl, rfl, rfl, fun t ht => by omega, rfl, fun t ht => by omega, fun i hi => ?_, fun z => by omega, fun t ht => ?_, fun t ht => by omega⟩
    · have : i = 0 := by simpa using hi
      subst this
      rfl
    · show 1 ≤ t + 1
      omega
  · refine ⟨⟨by omega, rfl, rfl⟩, fun k hk => ⟨?_, hk⟩, fun i j _ _ z => z, fun k hk => by omega⟩
    show (if k < 20 then some (X + 45 + 1 + k) else none) = some (X + 46 + k)
    rw [if_pos hk]
theorem xscr_eq {xs : Nat → Int32} {L : Nat} {i : Int32} (h : vp_in i L) : xscr xs L i = fun K => K (xs i.toNatClampNeg) := by
  funext K G
  exact propext ⟨fun q => q.2, fun q => ⟨h, q⟩⟩
theorem law_L (xs : Nat → Int32) (L : Nat) (hL : L ≤ 2048) (th X M : Nat) (K : Unit → xS → Prop) : ∀ (n p q nx cb sb : Nat) (dyn : xM) (cs : Nat → Int32) (ca : Nat → Nat → Int32) (cr : Nat → Nat → Option Nat) (cu : Option Nat) (A : Nat → Nat → Int32) (B : Nat → Nat → Int64) (S : Nat → Int32), L < p + 4 * n → p ≤ L → 4 * q ≤ p → 4 * n ≤ cb → 183 * n ≤ sb → RR X nx q dyn cs ca cr cu A B S → p_L_law_L18 xs L th (some X) (some M) K xyes n (nI p) (cheap X cs ca cr cu dyn, mheap M A B S, nx, cb, sb)
  | 0, p, q, nx, cb, sb, dyn, cs, ca, cr, cu, A, B, S, h1, h2, h3, h4, h5, hRR => by omega
  | n + 1, p, q, nx, cb, sb, dyn, cs, ca, cr, cu, A, B, S, h1, h2, h3, h4, h5, hRR => by
    unfold p_L_law_L18
    by_cases c : p + 4 ≤ L
    · have hq : q ≤ 511 := by omega
      rw [xif_f (show ¬ nI L - 4 < nI p from by
        rw [show nI L - 4 = nI (L - 4) from pk_sub (b := 4) (by omega), nI_ltI (by omega) (by omega)]
        omega)]
      have hr : ∀ cb' sb', 4 * n ≤ cb' → 183 * n ≤ sb' → RS X M q (p_L_law_L18 xs L th (some X) (some M) K xyes n (nI p + 4)) cb' sb' := fun cb' sb' b1 b2 nx' dyn' cs' ca' cr' cu' A' B' S' hR => by
        rw [show nI p + 4 = nI (p + 4) from nI_add p 4]
        exact law_L xs L hL th X M K n (p + 4) (q + 1) nx' cb' sb' dyn' cs' ca' cr' cu' A' B' S' (by omega) c (by omega) b1 b2 hR
      obtain ⟨v0, e0⟩ : ∃ v, xscr xs L (nI p) = fun K => K v := ⟨_, xscr_eq (vp_in_nI (by omega) (by omega))⟩
      obtain ⟨v1, e1⟩ : ∃ v, xscr xs L (nI p + 1) = fun K => K v := ⟨_, xscr_eq (by rw [nI_1]; exact vp_in_nI (by omega) (by omega))⟩
      obtain ⟨v2, e2⟩ : ∃ v, xscr xs L (nI p + 2) = fun K => K v := ⟨_, xscr_eq (by rw [show nI p + 2 = nI (p + 2) from nI_add p 2]; exact vp_in_nI (by omega) (by omega))⟩
      obtain ⟨v3, e3⟩ : ∃ v, xscr xs L (nI p + 3) = fun K => K v := ⟨_, xscr_eq (by rw [show nI p + 3 = nI (p + 3) from nI_add p 3]; exact vp_in_nI (by omega) (by omega))⟩
      simp only [e0, e1, e2, e3]
      by_cases c0 : (v0 &&& 31) = 0
      · rw [xif_t c0, c_ob0]
        refine n_call (by omega) (by omega) ?_
        exact lw_open hRR hq (hr _ _ (by omega) (by omega)) v1
      rw [xif_f c0]
      by_cases c1 : (v0 &&& 31) = 1
      · rw [xif_t c1, c_ob0]
        refine n_call (by omega) (by omega) ?_
        exact lw_number hRR hq (hr _ _ (by omega) (by omega)) v1 v2
      rw [xif_f c1]
      by_cases c2 : (v0 &&& 31) = 2
      · rw [xif_t c2, c_ob0]
        refine n_call (by omega) (by omega) ?_
        exact lw_word hRR hq (hr _ _ (by omega) (by omega)) v1 v2
      rw [xif_f c2]
      by_cases c3 : (v0 &&& 31) = 3
      · rw [xif_t c3, c_ob0]
        refine n_call (by omega) (by omega) ?_
        exact lw_close hRR hq (hr _ _ (by omega) (by omega))
      rw [xif_f c3]
      by_cases c4 : (v0 &&& 31) = 4
      · rw [xif_t c4, c_ob0]
        refine n_call (by omega) (by omega) ?_
        exact lw_wipe hRR hq (hr _ _ (by omega) (by omega))
      rw [xif_f c4]
      by_cases c5 : (v0 &&& 31) = 5
      · rw [xif_t c5, c_ob0]
        refine n_call (by omega) (by omega) ?_
        exact lw_add hRR hq (hr _ _ (by omega) (by omega)) v1
      rw [xif_f c5]
      by_cases c6 : (v0 &&& 31) = 6
      · rw [xif_t c6, c_ob0]
        refine n_call (by omega) (by omega) ?_
        exact lw_remove hRR hq (hr _ _ (by omega) (by omega)) v1
      rw [xif_f c6]
      by_cases c7 : (v0 &&& 31) = 7
      · rw [xif_t c7, c_ob0]
        refine n_call (by omega) (by omega) ?_
        exact lw_flush hRR hq (hr _ _ (by omega) (by omega))
      rw [xif_f c7]
      by_cases c8 : (v0 &&& 31) = 8
      · rw [xif_t c8, c_ob0]
        refine n_call (by omega) (by omega) ?_
        exact lw_merge hRR hq (hr _ _ (by omega) (by omega)) v1 v2
      rw [xif_f c8]
      by_cases c9 : (v0 &&& 31) = 9
      · rw [xif_t c9, c_ob0]
        refine n_call (by omega) (by omega) ?_
        exact lw_refresh hRR hq (hr _ _ (by omega) (by omega))
      rw [xif_f c9]
      by_cases c10 : (v0 &&& 31) = 10
      · rw [xif_t c10, c_ob0]
        refine n_call (by omega) (by omega) ?_
        exact lw_token hRR hq (hr _ _ (by omega) (by omega)) v1 v2 v3
      rw [xif_f c10]
      by_cases c11 : (v0 &&& 31) = 11
      · rw [xif_t c11, c_ob0]
        refine n_call (by omega) (by omega) ?_
        exact lw_clear hRR hq (hr _ _ (by omega) (by omega))
      rw [xif_f c11]
      by_cases c12 : (v0 &&& 31) = 12
      · rw [xif_t c12, c_ob0]
        refine n_call (by omega) (by omega) ?_
        exact lw_search hRR hq (hr _ _ (by omega) (by omega))
      rw [xif_f c12]
      by_cases c13 : (v0 &&& 31) = 13
      · rw [xif_t c13, c_ob0]
        refine n_call (by omega) (by omega) ?_
        exact lw_hit hRR hq (hr _ _ (by omega) (by omega)) v1 v2
      rw [xif_f c13]
      by_cases c14 : (v0 &&& 31) = 14
      · rw [xif_t c14, c_ob0]
        refine n_call (by omega) (by omega) ?_
        exact lw_score hRR hq (hr _ _ (by omega) (by omega)) v1
      rw [xif_f c14]
      by_cases c15 : (v0 &&& 31) = 15
      · rw [xif_t c15, c_ob0]
        refine n_call (by omega) (by omega) ?_
        exact lw_object hRR hq (hr _ _ (by omega) (by omega)) v1 v2 v3
      rw [xif_f c15]
      by_cases c16 : (v0 &&& 31) = 16
      · rw [xif_t c16, c_ob0]
        refine n_call (by omega) (by omega) ?_
        exact lw_type hRR hq (hr _ _ (by omega) (by omega)) v1 v2
      rw [xif_f c16]
      by_cases c17 : (v0 &&& 31) = 17
      · rw [xif_t c17, c_ob0]
        refine n_call (by omega) (by omega) ?_
        exact lw_count hRR hq (hr _ _ (by omega) (by omega)) v1
      rw [xif_f c17]
      rw [show nI p + 4 = nI (p + 4) from nI_add p 4]
      exact law_L xs L hL th X M K n (p + 4) q nx cb sb dyn cs ca cr cu A B S (by omega) c (by omega) (by omega) (by omega) hRR
    · rw [xif_t (show nI L - 4 < nI p from by
        rw [i_lt, show nI L - 4 = nI L - nI 4 from rfl, pk_sub_toInt (by omega) (by omega), nI_toInt (by omega)]
        omega)]
      trivial
theorem n_new0 {ci N X : Nat} {fs : List Value} {K : Nat → xS → Prop} {o : xM} {cb sb : Nat} (h1 : 1 ≤ cb) (h2 : N ≤ sb) (h : K X (lm X [.inr (ci, fs)], o, X + 1, cb - 1, sb - N)) : xnew ci N fs K (fun _ => none, o, X, cb, sb) := by
  refine ⟨h1, h2, ?_⟩
  dsimp only
  have e : va_up (fun _ => none) X (some (.inr (ci, fs))) = lm X [.inr (ci, fs)] := by
    rw [← lm_nil (X := X)]
    exact lm_new (n := 0) rfl
  rw [e]
  exact h
theorem pl_1 (xs : Nat → Int32) (L : Nat) (hL : L ≤ 2048) (b nx cb sb : Nat) (h1 : 4000 ≤ cb) (h2 : 183000 ≤ sb) : xsw (p_L_law_L18 xs L b (some nx) (some (nx + 66)) (fun _ _ => True) xyes 1000 0) (mheap (nx + 66) A0 B0 S0, cheap nx cs0 ca0 (cr0 nx) none (fun _ => none), nx + 66 + 34, cb, sb) := by
  unfold xsw
  rw [show (0 : Int32) = nI 0 from rfl]
  exact law_L xs L hL b nx (nx + 66) _ 1000 0 0 _ _ _ _ _ _ _ _ _ _ _ (by omega) (by omega) (by omega) (by omega) (by omega) (RR_0 nx (nx + 66 + 34) (by omega))
theorem pl_2 (xs : Nat → Int32) (L : Nat) (hL : L ≤ 2048) (b nx cb sb : Nat) (h1 : 4041 ≤ cb) (h2 : 203045 ≤ sb) : xsw (xnew 10 45 z_M fun a2 => xcall 40 20000 (p_M_init a2) fun _ => xsw (p_L_law_L18 xs L b (some nx) (some a2) (fun _ _ => True) xyes 1000 0)) (cheap nx cs0 ca0 (cr0 nx) none (fun _ => none), fun _ => none, nx + 66, cb, sb) := by
  unfold xsw
  refine n_new0 (by omega) (by omega) ?_
  refine n_call (by omega) (by omega) ?_
  refine start_M (M := nx + 66) (fun _ _ => ?_)
  exact pl_1 xs L hL b nx _ _ (by omega) (by omega)
theorem pure_law (xs : Nat → Int32) (L : Nat) (hL : L ≤ 2048) (b nx : Nat) : p_law xs L b (fun _ _ => True) (fun _ => none, fun _ => none, nx, 600000, 7302250) := by
  unfold p_law
  generalize hc : (600000 : Nat) = cb
  generalize hs : (7302250 : Nat) = sb
  refine n_new0 (by omega) (by omega) ?_
  refine n_call (by omega) (by omega) ?_
  refine start_B (X := nx) (fun _ _ => ?_)
  exact pl_2 xs L hL b nx _ _ (by omega) (by omega)
