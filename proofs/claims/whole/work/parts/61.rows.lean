/-! ROWS OF DOCUMENTS, read -/
def rowM (m : xM) (th ta cap : Nat) (n : Nat) (obj : Int32) (docs : Nat → Option Nat) : Prop := m th = some (.inr (8, [.ref ta, .int (nI n), .int obj])) ∧ m ta = some (.inl (4, cap, .inr (.inl docs))) ∧ n ≤ cap ∧ cap ≤ 180
def docM (m : xM) (a : Nat) (id live : Int32) (n : Nat) (nodes : Nat → Option Nat) : Prop := ∃ t, m a = some (.inr (5, [.int id, .ref t, .int live])) ∧ m t = some (.inl (3, n, .inr (.inl nodes)))
section RW
variable {m : xM} {r : xM × Nat × Nat × Nat} {th ta cap N : Nat} {obj : Int32} {docs : Nat → Option Nat} {da sz : Nat → Nat} {id lv : Nat → Int32} {nodes : Nat → Nat → Option Nat}
def lvB (lv : Nat → Int32) (d : Nat) : Bool := decide (lv d ≠ 0)
theorem lvB_t {lv : Nat → Int32} {d : Nat} : lvB lv d = true ↔ lv d ≠ 0 := ⟨fun h => of_decide_eq_true h, fun h => decide_eq_true h⟩
theorem lvB_f {lv : Nat → Int32} {d : Nat} : lvB lv d = false ↔ lv d = 0 := by
  constructor
  · intro h
    by_cases e : lv d = 0
    · exact e
    · rw [lvB_t.mpr e] at h; cases h
  · intro h
    unfold lvB
    exact decide_eq_false (fun q => q h)
theorem Rw_liveCount_L {K Kx : Int32 → xS → Prop} (hr : rowM m th ta cap N obj docs) : ∀ (L : List Nat) (j c n : Nat), j + L.length = N → L.length < n → lst docs da j L → (∀ d ∈ L, docM m (da d) (id d) (lv d) (sz d) (nodes d)) → (p_Rw_liveCount_L4 th K Kx n (nI c) (nI j) (m, r) ↔ Kx (nI (c + (L.filter (lvB lv)).length)) (m, r))
  | [], j, c, n + 1, hj, hn, _, _ => by
    unfold p_Rw_liveCount_L4
    have h2 := hr.2.2
    rw [g_gI hr.1 rfl, xif_t (nI_le (by simp at hj; omega) (by omega))]
    rfl
  | d :: L, j, c, n + 1, hj, hn, hl, hd => by
    rw [List.length_cons] at hj hn
    unfold p_Rw_liveCount_L4
    have h2 := hr.2.2
    obtain ⟨t, d1, d2⟩ := hd d List.mem_cons_self
    have hin : vp_in (nI j) cap := vp_in_nI (by omega) (by omega)
    rw [g_gI hr.1 rfl, xif_f (nI_ge (by omega) (by omega)), g_gR (v := some ta) hr.1 rfl, g_alR hr.2.1, cl_nI (by omega), hl.1, g_gI d1 rfl]
    by_cases e : lv d = 0
    · rw [xif_t e, nI_1, Rw_liveCount_L hr L (j + 1) c n (by omega) (by omega) hl.2 (fun x hx => hd x (List.mem_cons_of_mem _ hx)), List.filter_cons_of_neg (by rw [lvB_f.mpr e]; decide)]
      simp only [hin, true_and]
    · rw [xif_f e, nI_1, nI_1, Rw_liveCount_L hr L (j + 1) (c + 1) n (by omega) (by omega) hl.2 (fun x hx => hd x (List.mem_cons_of_mem _ hx)), List.filter_cons_of_pos (lvB_t.mpr e), List.length_cons]
      simp only [hin, true_and]
      rw [show c + 1 + (L.filter (lvB lv)).length = c + ((L.filter (lvB lv)).length + 1) by omega]
theorem Rw_liveCount_eq {K : Int32 → xS → Prop} {L : List Nat} (hr : rowM m th ta cap L.length obj docs) (hl : lst docs da 0 L) (hd : ∀ d ∈ L, docM m (da d) (id d) (lv d) (sz d) (nodes d)) : p_Rw_liveCount th K (m, r) ↔ K (nI (L.filter (lvB lv)).length) (m, r) := by
  unfold p_Rw_liveCount
  have h2 := hr.2.2
  rw [show (0 : Int32) = nI 0 from rfl, Rw_liveCount_L hr L 0 0 1000 (by omega) (by omega) hl hd, Nat.zero_add]
theorem Rw_deletedCount_eq {K : Int32 → xS → Prop} {L : List Nat} {o : xM} {nx cb sb : Nat} (hr : rowM m th ta cap L.length obj docs) (hl : lst docs da 0 L) (hd : ∀ d ∈ L, docM m (da d) (id d) (lv d) (sz d) (nodes d)) : p_Rw_deletedCount th K (m, o, nx, cb, sb) ↔ K (nI (L.length - (L.filter (lvB lv)).length)) (m, o, nx, cb, sb) := by
  unfold p_Rw_deletedCount
  rw [g_gI hr.1 rfl, g_ob hr.1, m_call, Rw_liveCount_eq hr hl hd]
  dsimp only
  rw [pk_sub (List.length_filter_le _ _)]
/-- the first live one with an id -/
def fnd (lv id : Nat → Int32) (v : Int32) (L : List Nat) : Option Nat := L.find? (fun d => lvB lv d && decide (id d = v))
theorem Rw_liveWith_L {K : Option Nat → xS → Prop} {Kx : xS → Prop} {v : Int32} (hr : rowM m th ta cap N obj docs) : ∀ (L : List Nat) (j n : Nat), j + L.length = N → L.length < n → lst docs da j L → (∀ d ∈ L, docM m (da d) (id d) (lv d) (sz d) (nodes d)) → (p_Rw_liveWith_L2 th v K Kx n (nI j) (m, r) ↔ (match fnd lv id v L with | none => Kx | some d => K (some (da d))) (m, r))
  | [], j, n + 1, hj, hn, _, _ => by
    unfold p_Rw_liveWith_L2
    have h2 := hr.2.2
    rw [g_gI hr.1 rfl, xif_t (nI_le (by simp at hj; omega) (by omega))]
    rfl
  | d :: L, j, n + 1, hj, hn, hl, hd => by
    rw [List.length_cons] at hj hn
    unfold p_Rw_liveWith_L2
    have h2 := hr.2.2
    obtain ⟨t, d1, d2⟩ := hd d List.mem_cons_self
    have hin : vp_in (nI j) cap := vp_in_nI (by omega) (by omega)
    have ih := Rw_liveWith_L (K := K) (Kx := Kx) (v := v) hr L (j + 1) n (by omega) (by omega) hl.2 (fun x hx => hd x (List.mem_cons_of_mem _ hx))
    rw [g_gI hr.1 rfl, xif_f (nI_ge (by omega) (by omega)), g_gR (v := some ta) hr.1 rfl, g_alR hr.2.1, cl_nI (by omega), hl.1, g_gI d1 rfl]
    by_cases e : lv d = 0
    · rw [xif_t e, nI_1, ih, show fnd lv id v (d :: L) = fnd lv id v L from List.find?_cons_of_neg (by rw [lvB_f.mpr e, Bool.false_and]; decide)]
      simp only [hin, true_and]
    · rw [xif_f e, g_gR (v := some ta) hr.1 rfl, g_alR hr.2.1, cl_nI (by omega), hl.1, g_gI d1 rfl]
      by_cases e2 : id d = v
      · rw [xif_t e2, g_gR (v := some ta) hr.1 rfl, g_alR hr.2.1, cl_nI (by omega), hl.1, show fnd lv id v (d :: L) = some d from List.find?_cons_of_pos (by rw [lvB_t.mpr e, decide_eq_true e2]; rfl)]
        simp only [hin, true_and]
      · rw [xif_f e2, nI_1, ih, show fnd lv id v (d :: L) = fnd lv id v L from List.find?_cons_of_neg (by rw [lvB_t.mpr e, decide_eq_false e2]; decide)]
        simp only [hin, true_and]
theorem Rw_liveWith_eq {K : Option Nat → xS → Prop} {v : Int32} {L : List Nat} (hr : rowM m th ta cap L.length obj docs) (hl : lst docs da 0 L) (hd : ∀ d ∈ L, docM m (da d) (id d) (lv d) (sz d) (nodes d)) : p_Rw_liveWith th v K (m, r) ↔ K ((fnd lv id v L).map da) (m, r) := by
  unfold p_Rw_liveWith
  have h2 := hr.2.2
  rw [show (0 : Int32) = nI 0 from rfl, Rw_liveWith_L hr L 0 1000 (by omega) (by omega) hl hd]
  cases fnd lv id v L <;> rfl
end RW
