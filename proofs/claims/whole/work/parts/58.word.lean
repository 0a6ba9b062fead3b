/-! word -/
theorem wb_tb (n : Nat) : (lN n).toBitVec = BitVec.ofNat 64 n := rfl
theorem wb_inj {a b : Int64} (h : a.toBitVec = b.toBitVec) : a = b := Int64.toBitVec_inj.mp h
theorem wb_tn {n : Nat} (h : n < 2 ^ 64) : (lN n).toBitVec.toNat = n := by rw [wb_tb, BitVec.toNat_ofNat, Nat.mod_eq_of_lt h]
theorem wb_of (x : Int64) : ∃ n, n < 2 ^ 64 ∧ x = lN n := ⟨x.toBitVec.toNat, x.toBitVec.isLt, wb_inj (by rw [wb_tb]; simp)⟩
theorem wb_of32 (x : Int32) : ∃ n, n < 2 ^ 32 ∧ x = nI n := ⟨x.toBitVec.toNat, x.toBitVec.isLt, Int32.toBitVec_inj.mp (by show _ = BitVec.ofNat 32 _; simp)⟩
theorem wb_c : ∀ k, k < 64 → ((nI k).toInt64 &&& 63) = lN k := by decide +kernel
theorem wb_cu : ∀ k, k < 64 → ((nI k).toInt64.toUInt64 &&& Int64.toUInt64 63) = UInt64.ofNat k := by decide +kernel
theorem wb_sm : ∀ k, k < 64 → (BitVec.ofNat 64 k).smod 64 = BitVec.ofNat 64 k := by decide +kernel
theorem wb_pw {a b : Nat} (h : a ≤ b) : 2 ^ b = 2 ^ a * 2 ^ (b - a) := by rw [← Nat.pow_add]; congr 1; omega
theorem wb_lt2 {a b : Nat} (h : a < b) : 2 ^ a < 2 ^ b := Nat.pow_lt_pow_right (by decide) h
theorem wb_mod (n : Nat) : lN n = lN (n % 2 ^ 64) := wb_inj (by rw [wb_tb, wb_tb]; apply BitVec.eq_of_toNat_eq; rw [BitVec.toNat_ofNat, BitVec.toNat_ofNat, Nat.mod_mod])
theorem wb_shl (n : Nat) {k : Nat} (hk : k < 64) : lN n <<< ((nI k).toInt64 &&& 63) = lN (n * 2 ^ k) := by
  rw [wb_c k hk]
  apply wb_inj
  rw [Int64.toBitVec_shiftLeft, wb_tb, wb_tb, wb_tb, wb_sm k hk]
  apply BitVec.eq_of_toNat_eq
  rw [BitVec.shiftLeft_eq', BitVec.toNat_shiftLeft, BitVec.toNat_ofNat, BitVec.toNat_ofNat, BitVec.toNat_ofNat, Nat.mod_eq_of_lt (show k < 2 ^ 64 by omega), Nat.shiftLeft_eq, Nat.mul_mod, Nat.mod_mod, ← Nat.mul_mod]
theorem wb_and {a b : Nat} (ha : a < 2 ^ 64) (hb : b < 2 ^ 64) : lN a &&& lN b = lN (a &&& b) := by
  apply wb_inj
  rw [Int64.toBitVec_and, wb_tb, wb_tb, wb_tb]
  apply BitVec.eq_of_toNat_eq
  rw [BitVec.toNat_and, BitVec.toNat_ofNat, BitVec.toNat_ofNat, BitVec.toNat_ofNat, Nat.mod_eq_of_lt ha, Nat.mod_eq_of_lt hb, Nat.mod_eq_of_lt (Nat.and_lt_two_pow _ hb)]
theorem wb_or {a b : Nat} (ha : a < 2 ^ 64) (hb : b < 2 ^ 64) : lN a ||| lN b = lN (a ||| b) := by
  apply wb_inj
  rw [Int64.toBitVec_or, wb_tb, wb_tb, wb_tb]
  apply BitVec.eq_of_toNat_eq
  rw [BitVec.toNat_or, BitVec.toNat_ofNat, BitVec.toNat_ofNat, BitVec.toNat_ofNat, Nat.mod_eq_of_lt ha, Nat.mod_eq_of_lt hb, Nat.mod_eq_of_lt (Nat.or_lt_two_pow ha hb)]
theorem wb_mask {n k : Nat} (hn : n < 2 ^ 64) (hk : k < 64) : lN n &&& lN (2 ^ k - 1) = lN (n % 2 ^ k) := by
  rw [wb_and hn (by have := wb_lt2 hk; omega), Nat.and_two_pow_sub_one_eq_mod]
theorem u_tn {n : Nat} (h : n < 2 ^ 64) : (UInt64.ofNat n).toNat = n := Nat.mod_eq_of_lt h
theorem g_or {k p a b : Nat} (hp : 2 ^ k = p) (ha : a < p) (h : b * p + a < 2 ^ 64) : lN (b * p) ||| lN a = lN (b * p + a) := by
  subst hp
  have h1 : b * 2 ^ k ||| a = b * 2 ^ k + a := by rw [← Nat.shiftLeft_eq, Nat.shiftLeft_add_eq_or_of_lt ha]
  have h3 : UInt64.ofNat (b * 2 ^ k) ||| UInt64.ofNat a = UInt64.ofNat (b * 2 ^ k + a) := UInt64.toNat_inj.mp (by rw [UInt64.toNat_or, u_tn (by omega), u_tn (by omega), u_tn h, h1])
  have h2 := congrArg UInt64.toInt64 h3
  exact h2
theorem g_or' {k p a b : Nat} (hp : 2 ^ k = p) (ha : a < p) (h : a + b * p < 2 ^ 64) : lN a ||| lN (b * p) = lN (a + b * p) := by
  rw [Int64.or_comm, g_or hp ha (by omega), Nat.add_comm]
theorem enc_lt {ws : Nat → Nat} : ∀ (n : Nat), (∀ k, k < n → ws k < 32) → enc ws n < 32 ^ n
  | 0, _ => Nat.one_pos
  | n + 1, h => by
    have a := enc_lt n (fun k hk => h k (by omega))
    have b := h n (by omega)
    show enc ws n + ws n * 32 ^ n < 32 ^ (n + 1)
    rw [Nat.pow_succ]
    have : ws n * 32 ^ n ≤ 31 * 32 ^ n := Nat.mul_le_mul_right _ (by omega)
    omega
theorem p32 (n : Nat) : 2 ^ (5 * n) = 32 ^ n := by rw [Nat.pow_mul]
theorem m5 (n : Nat) : (5 : Int32) * nI n = nI (5 * n) := by rw [show (5 : Int32) = nI 5 from rfl, pk_mul]
theorem wd_or {e w n : Nat} (he : e < 32 ^ n) (hn : n ≤ 8) (hw : w < 32) : lN e ||| ((nI w).toInt64 <<< ((5 * nI n).toInt64 &&& 63)) = lN (e + w * 32 ^ n) := by
  rw [nI_l (by omega), m5, wb_shl _ (show 5 * n < 64 by omega), p32]
  refine g_or' (p32 n) he ?_
  have h1 : 32 ^ n ≤ 32 ^ 8 := Nat.pow_le_pow_right (by decide) hn
  have h2 : w * 32 ^ n ≤ 31 * 32 ^ 8 := Nat.mul_le_mul (by omega) h1
  have h3 : (32 : Nat) ^ 8 = 1099511627776 := by decide
  omega
theorem wd_get {e k : Nat} (he : e < 2 ^ 62) (hk : k < 12) : ((lN e >>> ((5 * nI k).toInt64 &&& 63)) &&& 31) = lN (e / 32 ^ k % 32) := by
  have h1 : lN e >>> ((5 * nI k).toInt64 &&& 63) = lN (e / 32 ^ k) := by
    rw [m5, wb_c _ (show 5 * k < 64 by omega), ← p32]
    apply wb_inj
    rw [Int64.toBitVec_shiftRight, wb_tb, wb_tb, wb_tb, wb_sm _ (show 5 * k < 64 by omega)]
    apply BitVec.eq_of_toNat_eq
    rw [BitVec.sshiftRight_eq', BitVec.sshiftRight_eq_of_msb_false, BitVec.toNat_ushiftRight, BitVec.toNat_ofNat, BitVec.toNat_ofNat, BitVec.toNat_ofNat, Nat.mod_eq_of_lt (show 5 * k < 2 ^ 64 by omega), Nat.mod_eq_of_lt (show e < 2 ^ 64 by omega), Nat.shiftRight_eq_div_pow, Nat.mod_eq_of_lt (Nat.lt_of_le_of_lt (Nat.div_le_self _ _) (show e < 2 ^ 64 by omega))]
    rw [BitVec.msb_eq_false_iff_two_mul_lt, BitVec.toNat_ofNat, Nat.mod_eq_of_lt (show e < 2 ^ 64 by omega)]
    omega
  rw [h1]
  exact wb_mask (k := 5) (Nat.lt_of_le_of_lt (Nat.div_le_self _ _) (show e < 2 ^ 64 by omega)) (by decide)
theorem enc_split {ws : Nat → Nat} {k : Nat} : ∀ (n : Nat), k ≤ n → ∃ q, enc ws n = enc ws k + q * 32 ^ k
  | 0, h => ⟨0, by rw [show k = 0 by omega]; rfl⟩
  | n + 1, h => by
    by_cases e : k = n + 1
    · subst e; exact ⟨0, by omega⟩
    · obtain ⟨q, hq⟩ := enc_split n (show k ≤ n by omega)
      refine ⟨q + ws n * 32 ^ (n - k), ?_⟩
      show enc ws n + ws n * 32 ^ n = _
      rw [hq, Nat.add_mul, Nat.mul_assoc, ← Nat.pow_add, show n - k + k = n by omega]
      omega
theorem enc_get {ws : Nat → Nat} {n k : Nat} (h : ∀ i, i < n → ws i < 32) (hk : k < n) : enc ws n / 32 ^ k % 32 = ws k := by
  obtain ⟨q, hq⟩ := enc_split (ws := ws) (k := k + 1) n (by omega)
  have h1 := enc_lt (ws := ws) k (fun i hi => h i (by omega))
  have e : enc ws n = enc ws k + 32 ^ k * (ws k + q * 32) := by
    rw [hq]
    show enc ws k + ws k * 32 ^ k + q * 32 ^ (k + 1) = _
    rw [Nat.pow_succ, Nat.mul_add, Nat.mul_comm (ws k)]
    have : q * (32 ^ k * 32) = 32 ^ k * (q * 32) := by rw [← Nat.mul_assoc, Nat.mul_comm q, Nat.mul_assoc]
    omega
  rw [e, Nat.add_mul_div_left _ _ (Nat.pow_pos (by decide)), Nat.div_eq_of_lt h1]
  have := h k hk
  omega
theorem M_word_B {M : Nat} {r : xM × Nat × Nat × Nat} {S : Nat → Int32} {A : Nat → Nat → Int32} {B : Nat → Nat → Int64} {k n w : Nat} {ws : Nat → Nat} {K : Int32 → xS → Prop} (hk : k < 40) (hn : n < 8) (hw : w < 26) (hA : A 4 k = nI n) (hB : B 5 k = lN (enc ws n)) (hws : ∀ j, j < n → ws j < 26) :
    p_M_word_B107 M (nI w) (nI k) K (mheap M A B S, r) ↔ K (nI (n + 1)) (mheap M (va_up A 4 (va_up (A 4) k (nI (n + 1)))) (va_up B 5 (va_up (B 5) k (lN (enc ws n + w * 32 ^ n)))) S, r) := by
  have hin : vp_in (nI k) 40 := vp_in_nI hk (by decide)
  have hcl : (nI k).toNatClampNeg = k := cl_nI (by omega)
  unfold p_M_word_B107
  rw [m_g5, m_r5, m_g4, m_r4, m_w5, m_g4, m_r4, m_w4, m_g4, m_r4, hcl, hA, hB, wd_or (enc_lt n (fun j hj => by have := hws j hj; omega)) (by omega) (by omega), nI_1, va_up_self, va_up_self]
  simp only [hin, true_and]
theorem st_word {X M : Nat} {ca : Nat → Nat → Int32} {nx db : Nat} {bs : Nat → Nat} {dyn : xM} {cs : Nat → Int32} {cr : Nat → Nat → Option Nat} {cu : Option Nat} {A : Nat → Nat → Int32} {B : Nat → Nat → Int64} {S : Nat → Int32} {N C : Nat} {st : List Nat} {dn ls num cl : Nat → Nat} (h : Rd (X + 66) nx db bs dyn cs cr cu A B S N C st dn ls num cl) (f w : Int32) :
    ∃ (x : Int32) (dyn' : xM) (A' : Nat → Nat → Int32) (B' : Nat → Nat → Int64), Rd (X + 66) nx db bs dyn' cs cr cu A' B' S N C st dn ls num cl ∧ agr [3, 4] A' A ∧ agr [5] B' B ∧ frm (fun q => ∃ i, i < N ∧ q = dn i) bs nx dyn bs nx dyn' ∧
      (∀ (K : Int32 → xS → Prop) (o : xM) (cb sb : Nat), K x (cheap X cs ca cr cu dyn', o, nx, cb, sb) → p_B_word X f w K (cheap X cs ca cr cu dyn, o, nx, cb, sb)) ∧
      (∀ (K : Int32 → xS → Prop) (r : xM × Nat × Nat × Nat), K x (mheap M A' B' S, r) → p_M_word M f w K (mheap M A B S, r)) := by
  obtain ⟨⟨h1, h2, h3, h4, h5, h6, h7, h8⟩, ⟨hs1, hs2⟩, hnode, hgap, hpar, -⟩ := id h
  have bad : ∀ x : Int32, (∀ (K : Int32 → xS → Prop) (o : xM) (cb sb : Nat), p_B_word X f w K (cheap X cs ca cr cu dyn, o, nx, cb, sb) ↔ K x (cheap X cs ca cr cu dyn, o, nx, cb, sb)) → (∀ (K : Int32 → xS → Prop) (r : xM × Nat × Nat × Nat), p_M_word M f w K (mheap M A B S, r) ↔ K x (mheap M A B S, r)) →
      ∃ (x : Int32) (dyn' : xM) (A' : Nat → Nat → Int32) (B' : Nat → Nat → Int64), Rd (X + 66) nx db bs dyn' cs cr cu A' B' S N C st dn ls num cl ∧ agr [3, 4] A' A ∧ agr [5] B' B ∧ frm (fun q => ∃ i, i < N ∧ q = dn i) bs nx dyn bs nx dyn' ∧
      (∀ (K : Int32 → xS → Prop) (o : xM) (cb sb : Nat), K x (cheap X cs ca cr cu dyn', o, nx, cb, sb) → p_B_word X f w K (cheap X cs ca cr cu dyn, o, nx, cb, sb)) ∧
      (∀ (K : Int32 → xS → Prop) (r : xM × Nat × Nat × Nat), K x (mheap M A' B' S, r) → p_M_word M f w K (mheap M A B S, r)) := fun x q1 q2 => ⟨x, dyn, A, B, h, agr.rf, agr.rf, frm.rf, fun K o cb sb hK => (q1 K o cb sb).mpr hK, fun K r hK => (q2 K r).mpr hK⟩
  rcases inR_cases f 0 3 with hf | hf
  · refine bad (-1) (fun K o cb sb => ?_) (fun K r => ?_)
    · unfold p_B_word; rw [m_call, B_isField_eq, hf]; dsimp only; rw [xif_t rfl]
    · obtain ⟨r1, r2, r3, r4⟩ := r
      unfold p_M_word; rw [m_call, M_in03, hf]; dsimp only; rw [xif_t rfl]
  rcases inR_cases w 0 25 with hv | hv
  · refine bad (-1) (fun K o cb sb => ?_) (fun K r => ?_)
    · unfold p_B_word; rw [m_call, B_isField_eq, hf]; dsimp only; rw [xif_f (by decide), m_call, B_isWord_eq, hv]; dsimp only; rw [xif_t rfl]
    · obtain ⟨r1, r2, r3, r4⟩ := r
      unfold p_M_word; rw [m_call, M_in03, hf]; dsimp only; rw [xif_f (by decide), m_call, M_in025, hv]; dsimp only; rw [xif_t rfl]
  cases st with
  | nil =>
    have hcu : cu = none := h7
    subst hcu
    refine bad (-2) (fun K o cb sb => ?_) (fun K r => ?_)
    · unfold p_B_word; rw [m_call, B_isField_eq, hf]; dsimp only; rw [xif_f (by decide), m_call, B_isWord_eq, hv]; dsimp only; rw [xif_f (by decide), c_g0_0, c_g1_3, xnn_n]
    · obtain ⟨r1, r2, r3, r4⟩ := r
      unfold p_M_word; rw [m_call, M_in03, hf]; dsimp only; rw [xif_f (by decide), m_call, M_in025, hv]; dsimp only; rw [xif_f (by decide), m_g8, h8, xif_f (by decide)]
  | cons i rest =>
    have hi : i < N := hs2 i List.mem_cons_self
    have hcu : cu = some (dn i) := h7
    have hS8 : S 8 = nI i := h8
    subst hcu
    obtain ⟨p, hp, rfl⟩ := in03_of hf
    obtain ⟨q, hq, rfl⟩ := in_of (n := 25) hv (by decide)
    obtain ⟨-, ty, va, wd, pl, d2, d3, d4⟩ := hnode i hi
    have hin : vp_in (nI p) 4 := vp_in_nI hp (by decide)
    have hcl : (nI p).toNatClampNeg = p := cl_nI (by omega)
    have hin2 : vp_in (nI (4 * i + p)) 40 := vp_in_nI (by omega) (by decide)
    have hcl2 : (nI (4 * i + p)).toNatClampNeg = 4 * i + p := cl_nI (by omega)
    have hlo : X + 66 ≤ dn i := d2.1.1
    have b0 := d2.1.2.2 0 (by decide); have b1 := d2.1.2.2 1 (by decide); have b2 := d2.1.2.2 2 (by decide); have b3 := d2.1.2.2 3 (by decide)
    obtain ⟨t1, t2, t3⟩ := d3 p hp
    have hB : ∀ (K : Int32 → xS → Prop) (o : xM) (cb sb : Nat), p_B_word X (nI p) (nI q) K (cheap X cs ca cr (some (dn i)) dyn, o, nx, cb, sb) ↔ (xif (A 3 (4 * i + p) = 1) (K (-4)) (xif (A 4 (4 * i + p) < 8) (xob 2 (some (dn i)) fun b => xcall 0 0 (p_Nd_putWord b (nI p) (nI q)) fun _ => xgR 2 5 (some (dn i)) fun v9 => xal 0 v9 (nI p) fun v10 => K v10) (K (-3)))) (cheap X cs ca cr (some (dn i)) dyn, o, nx, cb, sb) := by
      intro K o cb sb
      unfold p_B_word
      rw [m_call, B_isField_eq, hf]
      dsimp only
      rw [xif_f (by decide), m_call, B_isWord_eq, hv]
      dsimp only
      rw [xif_f (by decide), c_g0_0, c_g1_3, xnn_s, y_gR (v := some (dn i + 1)) hlo d2.2.1 rfl, y_al (by omega) d2.2.2.1, hcl, t1]
      by_cases c1 : A 3 (4 * i + p) = 1
      · rw [xif_t c1, xif_t c1]; simp only [hin, true_and]
      · rw [xif_f c1, xif_f c1, y_gR (v := some (dn i + 2)) hlo d2.2.1 rfl, y_al (by omega) d2.2.2.2.1, hcl, t2]; simp only [hin, true_and]
    have hM : ∀ (K : Int32 → xS → Prop) (r : xM × Nat × Nat × Nat), p_M_word M (nI p) (nI q) K (mheap M A B S, r) ↔ (xif (A 3 (4 * i + p) = 1) (K (-4)) (xif (A 3 (4 * i + p) = 2) (xif (A 4 (4 * i + p) = 8) (K (-3)) (p_M_word_B77 M (nI q) (nI (4 * i + p)) K)) (p_M_word_B77 M (nI q) (nI (4 * i + p)) K))) (mheap M A B S, r) := by
      intro K r
      obtain ⟨r1, r2, r3, r4⟩ := r
      unfold p_M_word
      rw [m_call, M_in03, hf]
      dsimp only
      rw [xif_f (by decide), m_call, M_in025, hv]
      dsimp only
      rw [xif_f (by decide), m_g8, hS8, xif_t (nI_pos' (by omega)), m_g8, hS8, m_g3, i4, m_r3, hcl2]
      by_cases c1 : A 3 (4 * i + p) = 1
      · rw [xif_t c1, xif_t c1]; simp only [hin2, true_and]
      · rw [xif_f c1, xif_f c1, m_g3, m_r3, hcl2]
        by_cases c2 : A 3 (4 * i + p) = 2
        · rw [xif_t c2, xif_t c2, m_g4, m_r4, hcl2]; simp only [hin2, true_and]
        · rw [xif_f c2, xif_f c2]; simp only [hin2, true_and]
    have put : ∀ (n : Nat) (ws : Nat → Nat), n < 8 → A 3 (4 * i + p) ≠ 1 → A 4 (4 * i + p) = nI n → (∀ k, k < n → ws k < 26 ∧ wd (8 * p + k) = nI (ws k)) → (A 3 (4 * i + p) = 0 ∧ n = 0 ∨ A 3 (4 * i + p) = 2 ∧ B 5 (4 * i + p) = lN (enc ws n)) →
        ∃ (x : Int32) (dyn' : xM) (A' : Nat → Nat → Int32) (B' : Nat → Nat → Int64), Rd (X + 66) nx db bs dyn' cs cr (some (dn i)) A' B' S N C (i :: rest) dn ls num cl ∧ agr [3, 4] A' A ∧ agr [5] B' B ∧ frm (fun q => ∃ i, i < N ∧ q = dn i) bs nx dyn bs nx dyn' ∧
      (∀ (K : Int32 → xS → Prop) (o : xM) (cb sb : Nat), K x (cheap X cs ca cr (some (dn i)) dyn', o, nx, cb, sb) → p_B_word X (nI p) (nI q) K (cheap X cs ca cr (some (dn i)) dyn, o, nx, cb, sb)) ∧
      (∀ (K : Int32 → xS → Prop) (r : xM × Nat × Nat × Nat), K x (mheap M A' B' S, r) → p_M_word M (nI p) (nI q) K (mheap M A B S, r)) := by
      intro n ws hn c1 hv2 hw hor
      have hin3 : vp_in (nI (8 * p + n)) 32 := vp_in_nI (by omega) (by decide)
      have hcl3 : (nI (8 * p + n)).toNatClampNeg = 8 * p + n := cl_nI (by omega)
      refine ⟨nI (n + 1), va_up (va_up (va_up dyn (dn i + 1) (some (.inl (0, 4, .inl (va_up ty p 2))))) (dn i + 3) (some (.inl (0, 32, .inl (va_up wd (8 * p + n) (nI q)))))) (dn i + 2) (some (.inl (0, 4, .inl (va_up va p (nI (n + 1)))))), va_up (va_up A 3 (va_up (A 3) (4 * i + p) 2)) 4 (va_up (A 4) (4 * i + p) (nI (n + 1))), va_up B 5 (va_up (B 5) (4 * i + p) (lN (enc ws n + q * 32 ^ n))), ?_, (agr.rf.up (by decide)).up (by decide), agr.rf.up (by decide), ?_, fun K o cb sb hK => ?_, fun K r hK => ?_⟩
      · refine Rd_upd h (i := i) (ty' := va_up ty p 2) (va' := va_up va p (nI (n + 1))) (wd' := va_up wd (8 * p + n) (nI q)) (pl := pl) ?_ d4 (((frm.rf.up (a := dn i + 1) (Or.inr b1)).up (a := dn i + 3) (Or.inr b3)).up (a := dn i + 2) (Or.inr b2)) ?_ ?_ ?_ ?_ ?_ hi
        · refine ⟨d2.1, ?_, ?_, va_up_self _ _ _, ?_⟩
          · rw [va_up_ne _ _ (by omega), va_up_ne _ _ (by omega), va_up_ne _ _ (by omega)]; exact d2.2.1
          · rw [va_up_ne _ _ (by omega), va_up_ne _ _ (by omega), va_up_self]
          · rw [va_up_ne _ _ (by omega), va_up_self]
        · intro g hg
          rw [va_up_ne (j := 3) (k := 4) _ _ (by decide), va_up_self, va_up_self, va_up_self]
          by_cases e : g = p
          · subst e
            rw [va_up_self, va_up_self, va_up_self, va_up_self, va_up_self]
            refine ⟨rfl, rfl, Or.inr (Or.inr ⟨rfl, n + 1, va_up ws n q, by omega, by omega, rfl, fun k hk => ?_, ?_⟩)⟩
            · dsimp only
              by_cases e : k = n
              · subst e; rw [va_up_self, va_up_self]; exact ⟨by omega, rfl⟩
              · rw [va_up_ne _ _ e, va_up_ne _ _ (by omega)]; exact hw k (by omega)
            · show lN _ = lN (enc (va_up ws n q) n + va_up ws n q n * 32 ^ n)
              rw [va_up_self, enc_congr n (ws := va_up ws n q) (ws' := ws) (fun k hk => va_up_ne _ _ (by omega))]
          · rw [va_up_ne _ _ e, va_up_ne _ _ e, va_up_ne _ _ (by omega), va_up_ne _ _ (by omega), va_up_ne _ _ (by omega)]
            obtain ⟨u1, u2, u3⟩ := d3 g hg
            refine ⟨u1, u2, ?_⟩
            rcases u3 with u3 | u3 | ⟨u3, n', ws', v1, v2, v3, v4, v5⟩
            · exact Or.inl u3
            · exact Or.inr (Or.inl u3)
            · refine Or.inr (Or.inr ⟨u3, n', ws', v1, v2, v3, fun k hk => ?_, v5⟩)
              dsimp only
              rw [va_up_ne _ _ (by omega)]
              exact v4 k hk
        · intro j g hj hg
          rw [va_up_ne (j := 3) (k := 4) _ _ (by decide), va_up_self, va_up_self, va_up_self, va_up_ne _ _ (by omega), va_up_ne _ _ (by omega), va_up_ne _ _ (by omega)]
          exact ⟨rfl, rfl, rfl⟩
        · rw [va_up_ne _ _ (by decide), va_up_ne _ _ (by decide)]
        · rw [va_up_ne _ _ (by decide), va_up_ne _ _ (by decide)]
        · rw [va_up_ne _ _ (by decide), va_up_ne _ _ (by decide)]
      · exact ((frm.rf.up (a := dn i + 1) (Or.inr ⟨i, hi, b1⟩)).up (a := dn i + 3) (Or.inr ⟨i, hi, b3⟩)).up (a := dn i + 2) (Or.inr ⟨i, hi, b2⟩)
      · rw [hB, xif_f c1, hv2, xif_t (show nI n < 8 from nI_lt (b := 8) hn (by decide)), y_ob hlo d2.2.1, m_call]
        unfold p_Nd_putWord
        rw [y_gR (v := some (dn i + 1)) hlo d2.2.1 rfl, y_as (by omega) d2.2.2.1, hcl, y_gR (v := some (dn i + 3)) hlo (by rw [va_up_ne _ _ (by omega)]; exact d2.2.1) rfl, y_gR (v := some (dn i + 2)) hlo (by rw [va_up_ne _ _ (by omega)]; exact d2.2.1) rfl, y_al (by omega) (by rw [va_up_ne _ _ (by omega)]; exact d2.2.2.2.1), hcl, t2, hv2, show nI p * 8 + nI n = nI (8 * p + n) by rw [show (8 : Int32) = nI 8 from rfl, pk_mul, nI_add, Nat.mul_comm], y_as (by omega) (by rw [va_up_ne _ _ (by omega)]; exact d2.2.2.2.2), hcl3, y_gR (v := some (dn i + 2)) hlo (by rw [va_up_ne _ _ (by omega), va_up_ne _ _ (by omega)]; exact d2.2.1) rfl, y_al (by omega) (by rw [va_up_ne _ _ (by omega), va_up_ne _ _ (by omega)]; exact d2.2.2.2.1), hcl, t2, hv2, nI_1, y_as (by omega) (by rw [va_up_ne _ _ (by omega), va_up_ne _ _ (by omega)]; exact d2.2.2.2.1), hcl]
        dsimp only
        rw [y_gR (v := some (dn i + 2)) hlo (by rw [va_up_ne _ _ (by omega), va_up_ne _ _ (by omega), va_up_ne _ _ (by omega)]; exact d2.2.1) rfl, y_al (by omega) (va_up_self _ _ _), hcl, va_up_self]
        exact ⟨hin, hin, hin3, hin, hin, hin, hK⟩
      · rw [hM, xif_f c1]
        rcases hor with ⟨c0, rfl⟩ | ⟨c2, hb⟩
        · rw [xif_f (by rw [c0]; decide)]
          unfold p_M_word_B77
          rw [m_g3, m_r3, hcl2, xif_t c0, m_g3, m_w3, hcl2, m_g4, m_w4, hcl2, m_g5, m_w5, hcl2, M_word_B (ws := ws) (n := 0) (by omega) (by omega) (by omega) (by rw [va_up_self, va_up_self]; rfl) (by rw [va_up_self, va_up_self]; rfl) (fun j hj => by omega), bx_uu, va_up_self, va_up_ne (j := 4) (k := 3) _ _ (by decide), bx_uu, bx_uu, va_up_self, bx_uu]
          exact ⟨hin2, hin2, hin2, hin2, hK⟩
        · rw [xif_t c2, xif_f (by rw [hv2]; exact fun q => by rw [show (8 : Int32) = nI 8 from rfl, nI_eq (by omega) (by omega)] at q; omega)]
          unfold p_M_word_B77
          rw [m_g3, m_r3, hcl2, xif_f (by rw [c2]; decide), M_word_B (ws := ws) (n := n) (by omega) (by omega) (by omega) hv2 hb (fun j hj => (hw j hj).1)]
          rw [va_up_id (f := A) (k := 3) (by rw [va_up_id (f := A 3) c2])] at hK
          exact ⟨hin2, hK⟩
    rcases t3 with ⟨c0, v0⟩ | ⟨c1, v1⟩ | ⟨c2, n, ws, n1, n8, vn, hw, hb⟩
    · exact put 0 (fun _ => 0) (by omega) (by rw [c0]; decide) v0 (fun k hk => by omega) (Or.inl ⟨c0, rfl⟩)
    · exact bad (-4) (fun K o cb sb => by rw [hB, xif_t c1]) (fun K r => by rw [hM, xif_t c1])
    · by_cases e8 : n = 8
      · subst e8
        exact bad (-3) (fun K o cb sb => by rw [hB, xif_f (by rw [c2]; decide), vn, xif_f (by decide)]) (fun K r => by rw [hM, xif_f (by rw [c2]; decide), xif_t c2, vn, xif_t (show nI 8 = 8 from rfl)])
      · exact put n ws (by omega) (by rw [c2]; decide) vn hw (Or.inr ⟨c2, hb⟩)
