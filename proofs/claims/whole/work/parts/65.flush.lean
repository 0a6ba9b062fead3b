/-! rows that are made; flush -/
def rowS (dyn : xM) (a cap n obj : Nat) (docs : Nat → Option Nat) : xM := fun q => if q = a then some (.inr (8, [.ref (a + 1), .int (nI n), .int (nI obj)])) else if q = a + 1 then some (.inl (4, cap, .inr (.inl docs))) else dyn q
theorem rowS_0 {dyn : xM} {a cap n obj : Nat} {docs : Nat → Option Nat} : rowS dyn a cap n obj docs a = some (.inr (8, [.ref (a + 1), .int (nI n), .int (nI obj)])) := if_pos rfl
theorem rowS_1 {dyn : xM} {a cap n obj : Nat} {docs : Nat → Option Nat} : rowS dyn a cap n obj docs (a + 1) = some (.inl (4, cap, .inr (.inl docs))) := by
  unfold rowS
  rw [if_neg (by omega), if_pos rfl]
theorem rowS_d {dyn : xM} {a cap n obj q : Nat} {docs : Nat → Option Nat} (h : q ≠ a) (h1 : q ≠ a + 1) : rowS dyn a cap n obj docs q = dyn q := by
  unfold rowS
  rw [if_neg h, if_neg h1]
theorem rowS_u0 {dyn : xM} {a cap n obj n' obj' : Nat} {docs : Nat → Option Nat} : va_up (rowS dyn a cap n obj docs) a (some (.inr (8, [.ref (a + 1), .int (nI n'), .int (nI obj')]))) = rowS dyn a cap n' obj' docs := by
  funext q
  by_cases e : q = a
  · subst e; rw [va_up_self, rowS_0]
  · rw [va_up_ne _ _ e]
    unfold rowS
    rw [if_neg e, if_neg e]
theorem rowS_u1 {dyn : xM} {a cap n obj : Nat} {docs docs' : Nat → Option Nat} : va_up (rowS dyn a cap n obj docs) (a + 1) (some (.inl (4, cap, .inr (.inl docs')))) = rowS dyn a cap n obj docs' := by
  funext q
  by_cases e : q = a + 1
  · subst e; rw [va_up_self, rowS_1]
  · rw [va_up_ne _ _ e]
    unfold rowS
    rw [if_neg e, if_neg e]
def putL (da : Nat → Nat) : (Nat → Option Nat) → Nat → List Nat → Nat → Option Nat
  | docs, _, [] => docs
  | docs, n, d :: L => putL da (va_up docs n (some (da d))) (n + 1) L
theorem putL_lt {da : Nat → Nat} {i : Nat} : ∀ (L : List Nat) (docs : Nat → Option Nat) (n : Nat), i < n → putL da docs n L i = docs i
  | [], _, _, _ => rfl
  | d :: L, docs, n, h => by
    show putL da _ (n + 1) L i = _
    rw [putL_lt L _ (n + 1) (by omega), va_up_ne _ _ (by omega)]
theorem putL_lst {da : Nat → Nat} : ∀ (L : List Nat) (docs : Nat → Option Nat) (n : Nat), lst (putL da docs n L) da n L
  | [], _, _ => trivial
  | d :: L, docs, n => ⟨by
    show putL da _ (n + 1) L n = _
    rw [putL_lt L _ (n + 1) (by omega), va_up_self], putL_lst L _ (n + 1)⟩
theorem putL_app {da : Nat → Nat} : ∀ (L M : List Nat) (docs : Nat → Option Nat) (n : Nat), putL da docs n (L ++ M) = putL da (putL da docs n L) (n + L.length) M
  | [], M, docs, n => rfl
  | d :: L, M, docs, n => by
    show putL da _ (n + 1) (L ++ M) = putL da (putL da _ (n + 1) L) (n + (L.length + 1)) M
    rw [putL_app L M, show n + 1 + L.length = n + (L.length + 1) by omega]
section AP
variable {X nx : Nat} {dyn : xM} {cs : Nat → Int32} {ca : Nat → Nat → Int32} {cr : Nat → Nat → Option Nat} {cu : Option Nat} {o : xM} {cb sb a cap : Nat} {docs : Nat → Option Nat}
theorem Rw_append_eq {n obj x s : Nat} {id live : Int32} {nodes : Nat → Option Nat} {K : Unit → xS → Prop} {r : xM × Nat × Nat × Nat} (ha : X + 66 ≤ a) (hn : n < cap) (hc : cap ≤ 180) {bs : Nat → Nat} {n0 : Nat} (hx : docAt bs (X + 66) n0 dyn x id s nodes live) (h0 : n0 ≤ a) :
    p_Rw_append a (some x) K (cheap X cs ca cr cu (rowS dyn a cap n obj docs), r) ↔ K () (cheap X cs ca cr cu (rowS dyn a cap (n + 1) (obj + s) (va_up docs n (some x))), r) := by
  have hin : vp_in (nI n) cap := vp_in_nI hn (by omega)
  have same : ∀ (q n obj : Nat) (docs : Nat → Option Nat), q ≠ a ∧ q ≠ a + 1 → cheap X cs ca cr cu (rowS dyn a cap n obj docs) q = cheap X cs ca cr cu dyn q := by
    intro q n obj docs h
    unfold cheap
    rw [rowS_d h.1 h.2]
  have hb := hx.1.2.1
  have hb1 := hx.1.1
  have x1 : cheap X cs ca cr cu dyn x = _ := (cheap_d hb1).trans hx.2.1
  have x2 : cheap X cs ca cr cu dyn (x + 1) = _ := (cheap_d (by omega)).trans hx.2.2
  have y1 : x ≠ a ∧ x ≠ a + 1 := ⟨by omega, by omega⟩
  have y2 : x + 1 ≠ a ∧ x + 1 ≠ a + 1 := ⟨by omega, by omega⟩
  unfold p_Rw_append
  rw [y_gI ha rowS_0 rfl, y_gR (v := some (a + 1)) ha rowS_0 rfl, y_len (by omega) rowS_1, xif_f (nI_ge hn (by omega)), y_gR (v := some (a + 1)) ha rowS_0 rfl, y_gI ha rowS_0 rfl, y_asR (by omega) rowS_1, cl_nI (by omega), rowS_u1, y_gI ha rowS_0 rfl, y_pI ha rowS_0 (Nat.le_of_ble_eq_true rfl), nI_1, show ([.ref (a + 1), .int (nI n), .int (nI obj)] : List Value).set 1 (.int (nI (n + 1))) = [.ref (a + 1), .int (nI (n + 1)), .int (nI obj)] from rfl, rowS_u0, y_gI ha rowS_0 rfl, g_gR (v := some (x + 1)) ((same x _ _ _ y1).trans x1) rfl, g_len ((same (x + 1) _ _ _ y2).trans x2), y_pI ha rowS_0 (Nat.le_of_ble_eq_true rfl), nI_add, show ([.ref (a + 1), .int (nI (n + 1)), .int (nI obj)] : List Value).set 2 (.int (nI (obj + s))) = [.ref (a + 1), .int (nI (n + 1)), .int (nI (obj + s))] from rfl, rowS_u0]
  constructor
  · exact fun h => h.2.2
  · exact fun h => ⟨hin, fun b q => by cases q; exact ⟨_, (same x _ _ _ y1).trans x1⟩, h⟩
theorem Rw_appendLive_L {sth sta scap N : Nat} {sobj : Int32} {sdocs : Nat → Option Nat} {da sz : Nat → Nat} {id lv : Nat → Int32} {nodes : Nat → Nat → Option Nat} {K : Unit → xS → Prop} {Kx : xS → Prop} (ha : X + 66 ≤ a) (hc : cap ≤ 180) (hr : rowM (cheap X cs ca cr cu dyn) sth sta scap N sobj sdocs) (hs : sth ≠ a ∧ sth ≠ a + 1 ∧ sta ≠ a ∧ sta ≠ a + 1) {bs : Nat → Nat} {n0 : Nat} (h0 : n0 ≤ a) :
    ∀ (L : List Nat) (j f n obj : Nat) (docs : Nat → Option Nat), j + L.length = N → L.length < f → lst sdocs da j L → (∀ d ∈ L, docAt bs (X + 66) n0 dyn (da d) (id d) (sz d) (nodes d) (lv d)) → n + (L.filter (lvB lv)).length ≤ cap →
    (p_Rw_appendLive_L2 a (some sth) K Kx f (nI j) (cheap X cs ca cr cu (rowS dyn a cap n obj docs), o, nx, cb, sb) ↔ Kx (cheap X cs ca cr cu (rowS dyn a cap (n + (L.filter (lvB lv)).length) (obj + szs sz (L.filter (lvB lv))) (putL da docs n (L.filter (lvB lv)))), o, nx, cb, sb))
  | [], j, f + 1, n, obj, docs, hj, hf, _, _, _ => by
    have h2 := hr.2.2
    have same : ∀ q : Nat, q ≠ a ∧ q ≠ a + 1 → cheap X cs ca cr cu (rowS dyn a cap n obj docs) q = cheap X cs ca cr cu dyn q := by
      intro q h
      unfold cheap
      rw [rowS_d h.1 h.2]
    unfold p_Rw_appendLive_L2
    rw [g_gI ((same sth ⟨hs.1, hs.2.1⟩).trans hr.1) rfl, xif_t (nI_le (by simp at hj; omega) (by omega))]
    exact Iff.rfl
  | d :: L, j, f + 1, n, obj, docs, hj, hf, hl, hd, hcap => by
    rw [List.length_cons] at hj hf
    have h2 := hr.2.2
    have same : ∀ q : Nat, q ≠ a ∧ q ≠ a + 1 → cheap X cs ca cr cu (rowS dyn a cap n obj docs) q = cheap X cs ca cr cu dyn q := by
      intro q h
      unfold cheap
      rw [rowS_d h.1 h.2]
    have hdd := hd d List.mem_cons_self
    have hb := hdd.1.2.1
    have hb1 := hdd.1.1
    have hin : vp_in (nI j) scap := vp_in_nI (by omega) (by omega)
    have r1 := (same sth ⟨hs.1, hs.2.1⟩).trans hr.1
    have r2 := (same sta ⟨hs.2.2.1, hs.2.2.2⟩).trans hr.2.1
    have d1' : cheap X cs ca cr cu (rowS dyn a cap n obj docs) (da d) = _ := (same (da d) ⟨by omega, by omega⟩).trans ((cheap_d hb1).trans hdd.2.1)
    unfold p_Rw_appendLive_L2
    rw [g_gI r1 rfl, xif_f (nI_ge (by omega) (by omega)), g_gR (v := some sta) r1 rfl, g_alR r2, cl_nI (by omega), hl.1, g_gI d1' rfl]
    by_cases e : lv d = 0
    · rw [List.filter_cons_of_neg (by rw [lvB_f.mpr e]; decide)] at hcap
      rw [xif_t e, nI_1, Rw_appendLive_L ha hc hr hs h0 L (j + 1) f n obj docs (by omega) (by omega) hl.2 (fun x hx => hd x (List.mem_cons_of_mem _ hx)) hcap, List.filter_cons_of_neg (by rw [lvB_f.mpr e]; decide)]
      simp only [hin, true_and]
    · rw [List.filter_cons_of_pos (lvB_t.mpr e), List.length_cons] at hcap
      rw [xif_f e, g_gR (v := some sta) r1 rfl, g_alR r2, cl_nI (by omega), hl.1, y_ob ha rowS_0, m_call, Rw_append_eq ha (by omega) hc hdd h0]
      dsimp only
      rw [nI_1, Rw_appendLive_L ha hc hr hs h0 L (j + 1) f (n + 1) (obj + sz d) _ (by omega) (by omega) hl.2 (fun x hx => hd x (List.mem_cons_of_mem _ hx)) (by omega), List.filter_cons_of_pos (lvB_t.mpr e), List.length_cons, show szs sz (d :: L.filter (lvB lv)) = sz d + szs sz (L.filter (lvB lv)) from rfl, show putL da docs n (d :: L.filter (lvB lv)) = putL da (va_up docs n (some (da d))) (n + 1) (L.filter (lvB lv)) from rfl, show n + 1 + (L.filter (lvB lv)).length = n + ((L.filter (lvB lv)).length + 1) by omega, Nat.add_assoc]
      simp only [hin, true_and]
theorem Rw_init_eq {n : Nat} {K : Unit → xS → Prop} (ha : X + 66 ≤ a) (hn : n ≤ 180) : p_Rw_init a (nI n) K (cheap X cs ca cr cu (va_up dyn a (some (.inr (8, z_Rw)))), o, a + 1, 1, 180) ↔ K () (cheap X cs ca cr cu (rowS dyn a n 0 0 (fun _ => none)), o, a + 2, 0, 180 - n) := by
  unfold p_Rw_init
  rw [y_pI ha (va_up_self _ _ _) (Nat.le_of_ble_eq_true rfl), up_same, y_pI ha (va_up_self _ _ _) (Nat.le_of_ble_eq_true rfl), up_same, y_newR (n := n) (by omega) rfl (by omega), y_pR (fs := (z_Rw.set 1 (.int 0)).set 2 (.int 0)) ha (by rw [va_up_ne _ _ (by omega), va_up_self]) (Nat.le_of_ble_eq_true rfl)]
  have e : (va_up (va_up (va_up dyn a (some (.inr (8, (z_Rw.set 1 (.int 0)).set 2 (.int 0))))) (a + 1) (some (.inl (4, n, .inr (.inl fun _ => none))))) a (some (.inr (8, ((z_Rw.set 1 (.int 0)).set 2 (.int 0)).set 0 (va_rf (some (a + 1))))))) = rowS dyn a n 0 0 (fun _ => none) := by
    funext q
    unfold rowS
    by_cases e0 : q = a
    · subst e0; rw [va_up_self, if_pos rfl]; rfl
    · rw [va_up_ne _ _ e0, if_neg e0]
      by_cases e1 : q = a + 1
      · subst e1; rw [va_up_self, if_pos rfl]
      · rw [va_up_ne _ _ e1, va_up_ne _ _ e0, if_neg e1]
  rw [e]
  constructor
  · exact fun h => h.2.2
  · exact fun h => ⟨by omega, hn, h⟩
end AP
