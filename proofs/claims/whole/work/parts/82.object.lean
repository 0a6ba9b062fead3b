/-! hit, object -/
section HI
variable {X M nx : Nat} {dyn : xM} {cs : Nat → Int32} {ca : Nat → Nat → Int32} {cr : Nat → Nat → Option Nat} {cu : Option Nat} {A : Nat → Nat → Int32} {B : Nat → Nat → Int64} {S : Nat → Int32} {D H : Nat} {hdd pm : Nat → Nat}
theorem st_hit (hh : Rh X cs ca cr A S D H hdd pm) (hD : D ≤ 180) (k w : Int32) :
    ∃ x : Int32, (∀ (KK : Int32 → xS → Prop) (o : xM) (cb sb : Nat), KK x (cheap X cs ca cr cu dyn, o, nx, cb, sb) → p_B_hit X k w KK (cheap X cs ca cr cu dyn, o, nx, cb, sb)) ∧ (∀ (KK : Int32 → xS → Prop) (r : xM × Nat × Nat × Nat), KK x (mheap M A B S, r) → p_M_hit M k w KK (mheap M A B S, r)) := by
  obtain ⟨⟨h1, h2, h3⟩, hp, hinj, hv⟩ := hh
  rcases inR_cases w 0 4 with q | q
  · refine ⟨-1, fun KK o cb sb hK => ?_, fun KK r hK => ?_⟩
    · unfold p_B_hit
      rcases inR_0.mp q with z | z
      · rw [xif_t (by rw [i_lt]; exact z)]; exact hK
      · rw [xif_f (by rw [i_lt, show (0 : Int32).toInt = 0 from rfl]; omega), xif_f (by rw [i_lt, show (5 : Int32).toInt = 5 from rfl]; omega)]; exact hK
    · obtain ⟨r1, r2, r3, r4⟩ := r
      unfold p_M_hit
      rw [m_call, M_in04, q]
      dsimp only
      rw [xif_t rfl]
      exact hK
  obtain ⟨w, hw, rfl⟩ := in_of (n := 4) q (by decide)
  have w1 : ¬ nI w < 0 := nI_pos (by omega)
  have w2 : nI w < 5 := nI_lt (b := 5) (by omega) (by decide)
  have hsub : (nI H - 1).toInt = (H : Int) - 1 := pk_sub_toInt (b := 1) (by omega) (by decide)
  by_cases c1 : k.toInt < 0
  · refine ⟨-2, fun KK o cb sb hK => ?_, fun KK r hK => ?_⟩
    · unfold p_B_hit
      rw [xif_f w1, xif_t w2, xif_t (by rw [i_lt]; exact c1)]; exact hK
    · obtain ⟨r1, r2, r3, r4⟩ := r
      unfold p_M_hit
      rw [m_call, M_in04, q]
      dsimp only
      rw [xif_f (by decide), m_g44, m_call, M_in_eq, show inR k (0 : Int32).toInt (S 44 - 1).toInt = 0 from inR_0.mpr (Or.inl c1)]
      dsimp only
      rw [xif_t rfl]
      exact hK
  have k1 : ¬ k < 0 := by rw [i_lt]; exact c1
  by_cases c2 : (H : Int) ≤ k.toInt
  · refine ⟨-2, fun KK o cb sb hK => ?_, fun KK r hK => ?_⟩
    · unfold p_B_hit
      rw [xif_f w1, xif_t w2, xif_f k1, c_g0_7, c_g44_1, h2, xif_f (by rw [i_lt, nI_toInt (by omega)]; omega)]; exact hK
    · obtain ⟨r1, r2, r3, r4⟩ := r
      unfold p_M_hit
      rw [m_call, M_in04, q]
      dsimp only
      rw [xif_f (by decide), m_g44, m_call, M_in_eq, h3, show inR k (0 : Int32).toInt (nI H - 1).toInt = 0 from inR_0.mpr (Or.inr (by rw [hsub]; omega))]
      dsimp only
      rw [xif_t rfl]
      exact hK
  obtain ⟨k, hk, rfl⟩ := vp_in_of (x := k) (n := H) (vp_in_iff.mpr ⟨by omega, by omega⟩) (by omega)
  obtain ⟨a1, a2, a3, a4, a5, a6, a7⟩ := hv k hk
  obtain ⟨p1, p2⟩ := hp k (by omega)
  have hin : vp_in (nI k) 20 := vp_in_nI (by omega) (by decide)
  have hin2 : vp_in (nI w) 5 := vp_in_nI (by omega) (by decide)
  have hin3 : vp_in (nI k) 180 := vp_in_nI (by omega) (by decide)
  have hin4 : vp_in (nI (hdd k)) 180 := vp_in_nI (by omega) (by decide)
  have hi : inR (nI k) (0 : Int32).toInt (nI H - 1).toInt = 1 := by
    unfold inR
    rw [hsub, nI_toInt (by omega), show (0 : Int32).toInt = 0 from rfl, if_neg (by omega)]
  have cB : ∀ (KK : Int32 → xS → Prop) (o : xM) (cb sb : Nat), KK (ca (46 + pm k) w) (cheap X cs ca cr cu dyn, o, nx, cb, sb) → p_B_hit X (nI k) (nI w) KK (cheap X cs ca cr cu dyn, o, nx, cb, sb) := by
    intro KK o cb sb hK
    unfold p_B_hit
    rw [xif_f w1, xif_t w2, xif_f k1, c_g0_7, c_g44_1, h2, xif_t (nI_lt hk (by omega)), c_g0_7, c_g44_0, c_r45, cl_nI (by omega), p1, cr_hit p2, cl_nI (by omega)]
    exact ⟨hin, hin2, hK⟩
  have cM : ∀ (KK : Int32 → xS → Prop) (r1 : xM) (r2 r3 r4 : Nat), p_M_hit M (nI k) (nI w) KK (mheap M A B S, r1, r2, r3, r4) ↔ (xif (nI w = 0) (xgR 10 13 (some M) fun v4 => xgR 10 40 (some M) fun v5 => xal 0 v5 (nI k) fun v6 => xal 0 v4 v6 fun v7 => KK v7) (xif (nI w = 1) (xgR 10 41 (some M) fun v8 => xal 0 v8 (nI k) fun v9 => KK v9) (xif (nI w = 2) (xgR 10 42 (some M) fun v10 => xal 0 v10 (nI k) fun v11 => KK v11) (xif (nI w = 3) (xgR 10 43 (some M) fun v12 => xal 0 v12 (nI k) fun v13 => KK v13) (xgR 10 12 (some M) fun v14 => xgR 10 40 (some M) fun v15 => xal 0 v15 (nI k) fun v16 => xal 0 v14 v16 fun v17 => KK v17))))) (mheap M A B S, r1, r2, r3, r4) := by
    intro KK r1 r2 r3 r4
    unfold p_M_hit
    rw [m_call, M_in04, q]
    dsimp only
    rw [xif_f (by decide), m_g44, m_call, M_in_eq, h3, hi]
    dsimp only
    rw [xif_f (by decide)]
  refine ⟨ca (46 + pm k) w, cB, fun KK r hK => ?_⟩
  obtain ⟨r1, r2, r3, r4⟩ := r
  rw [cM]
  rcases (show w = 0 ∨ w = 1 ∨ w = 2 ∨ w = 3 ∨ w = 4 by omega) with rfl | rfl | rfl | rfl | rfl
  · rw [xif_t (by decide), m_g13, m_g40, m_r40, cl_nI (by omega), a2, m_r13, cl_nI (by omega), ← a3]; exact ⟨hin3, hin4, hK⟩
  · rw [xif_f (by decide), xif_t (by decide), m_g41, m_r41, cl_nI (by omega), ← a4]; exact ⟨hin3, hK⟩
  · rw [xif_f (by decide), xif_f (by decide), xif_t (by decide), m_g42, m_r42, cl_nI (by omega), ← a5]; exact ⟨hin3, hK⟩
  · rw [xif_f (by decide), xif_f (by decide), xif_f (by decide), xif_t (by decide), m_g43, m_r43, cl_nI (by omega), ← a6]; exact ⟨hin3, hK⟩
  · rw [xif_f (by decide), xif_f (by decide), xif_f (by decide), xif_f (by decide), m_g12, m_g40, m_r40, cl_nI (by omega), a2, m_r12, cl_nI (by omega), ← a7]; exact ⟨hin3, hin4, hK⟩
end HI
section LC
variable {m : xM} {th ta cap N : Nat} {obj : Int32} {docs : Nat → Option Nat} {da sz : Nat → Nat} {id lv : Nat → Int32} {nodes : Nat → Nat → Option Nat}
theorem Rw_fact_L {K : Int32 → xS → Prop} {Kx : xS → Prop} {v w : Int32} {r : xM × Nat × Nat × Nat} (hr : rowM m th ta cap N obj docs) : ∀ (L : List Nat) (j c n : Nat), j + L.length = N → L.length < n → lst docs da j L → (∀ d ∈ L, docM m (da d) (id d) (lv d) (sz d) (nodes d)) → (p_Rw_factOf_L5 th v w K Kx n (nI c) (nI j) (m, r) ↔ (match loc sz v c L with | none => Kx | some (d, c) => xcall 0 0 (p_Do_factOf (da d) (v - nI c) (nI c) w) fun x => K x) (m, r))
  | [], j, c, n + 1, hj, hn, _, _ => by
    unfold p_Rw_factOf_L5
    have h2 := hr.2.2
    rw [g_gI hr.1 rfl, xif_t (nI_le (by simp at hj; omega) (by omega))]
    exact Iff.rfl
  | d :: L, j, c, n + 1, hj, hn, hl, hd => by
    rw [List.length_cons] at hj hn
    unfold p_Rw_factOf_L5
    have h2 := hr.2.2
    obtain ⟨t, d1, d2⟩ := hd d List.mem_cons_self
    have hin : vp_in (nI j) cap := vp_in_nI (by omega) (by omega)
    rw [g_gI hr.1 rfl, xif_f (nI_ge (by omega) (by omega)), g_gR (v := some ta) hr.1 rfl, g_alR hr.2.1, cl_nI (by omega), hl.1, g_gR (v := some t) d1 rfl, g_len d2, nI_add]
    by_cases e : nI (c + sz d) ≤ v
    · rw [xif_t e, nI_1, Rw_fact_L hr L (j + 1) (c + sz d) n (by omega) (by omega) hl.2 (fun x hx => hd x (List.mem_cons_of_mem _ hx)), show loc sz v c (d :: L) = loc sz v (c + sz d) L from if_pos e]
      simp only [hin, true_and]
    · rw [xif_f e, g_gR (v := some ta) hr.1 rfl, g_alR hr.2.1, cl_nI (by omega), hl.1, g_ob d1, show loc sz v c (d :: L) = some (d, c) from if_neg e]
      simp only [hin, true_and]
theorem loc_s {sz : Nat → Nat} {v : Int32} : ∀ (L : List Nat) (c d e : Nat), c + szs sz L < 2 ^ 31 → (c : Int) ≤ v.toInt → loc sz v c L = some (d, e) → d ∈ L ∧ ∃ n, v = nI n ∧ e ≤ n ∧ n < e + sz d ∧ e + sz d < 2 ^ 31
  | [], _, _, _, _, _, h => by cases h
  | x :: L, c, d, e, hb, hv, h => by
    have hb' : c + (sz x + szs sz L) < 2 ^ 31 := hb
    by_cases q : nI (c + sz x) ≤ v
    · rw [show loc sz v c (x :: L) = loc sz v (c + sz x) L from if_pos q] at h
      rw [i_le, nI_toInt (by omega)] at q
      obtain ⟨a, b⟩ := loc_s L (c + sz x) d e (by omega) q h
      exact ⟨List.mem_cons_of_mem _ a, b⟩
    · rw [show loc sz v c (x :: L) = some (x, c) from if_neg q] at h
      injection h with h
      injection h with h1 h2
      subst h1 h2
      rw [i_le, nI_toInt (by omega)] at q
      refine ⟨List.mem_cons_self, v.toInt.toNat, ?_, by omega, by omega, by omega⟩
      rw [i_eq, nI_toInt (by omega)]
      omega
end LC
