/-! reads and writes of dynamic cells; making cells -/
section DY
variable {X : Nat} {cs : Nat → Int32} {ca : Nat → Nat → Int32} {cr : Nat → Nat → Option Nat} {cu : Option Nat} {dyn : xM} {r : xM × Nat × Nat × Nat} {o : xM} {nx cb sb a ci k : Nat} {fs : List Value}
theorem y_gI {v : Int32} {K : Int32 → xS → Prop} (ha : X + 66 ≤ a) (h : dyn a = some (.inr (ci, fs))) (hv : fs[k]? = some (.int v)) : xgI ci k (some a) K (cheap X cs ca cr cu dyn, r) ↔ K v (cheap X cs ca cr cu dyn, r) := g_gI ((cheap_d ha).trans h) hv
theorem y_gR {v : Option Nat} {K : Option Nat → xS → Prop} (ha : X + 66 ≤ a) (h : dyn a = some (.inr (ci, fs))) (hv : fs[k]? = some (va_rf v)) : xgR ci k (some a) K (cheap X cs ca cr cu dyn, r) ↔ K v (cheap X cs ca cr cu dyn, r) := g_gR ((cheap_d ha).trans h) hv
theorem y_ob {K : Nat → xS → Prop} (ha : X + 66 ≤ a) (h : dyn a = some (.inr (ci, fs))) : xob ci (some a) K (cheap X cs ca cr cu dyn, r) ↔ K a (cheap X cs ca cr cu dyn, r) := g_ob ((cheap_d ha).trans h)
theorem y_pI {v : Int32} {K : xS → Prop} (ha : X + 66 ≤ a) (h : dyn a = some (.inr (ci, fs))) (hl : k < fs.length) : xpI ci k (some a) v K (cheap X cs ca cr cu dyn, r) ↔ K (cheap X cs ca cr cu (va_up dyn a (some (.inr (ci, fs.set k (.int v))))), r) := g_pI ((cheap_d ha).trans h) hl (cheap_wd ha)
theorem y_pZ {v : Int32} {K : xS → Prop} (ha : X + 66 ≤ a) (h : dyn a = some (.inr (ci, fs))) (hl : k < fs.length) : xpZ ci k (some a) v K (cheap X cs ca cr cu dyn, r) ↔ (v = 0 ∨ v = 1) ∧ K (cheap X cs ca cr cu (va_up dyn a (some (.inr (ci, fs.set k (.int v))))), r) := g_pZ ((cheap_d ha).trans h) hl (cheap_wd ha)
theorem y_pR {v : Option Nat} {K : xS → Prop} (ha : X + 66 ≤ a) (h : dyn a = some (.inr (ci, fs))) (hl : k < fs.length) : xpR ci k (some a) v K (cheap X cs ca cr cu dyn, r) ↔ K (cheap X cs ca cr cu (va_up dyn a (some (.inr (ci, fs.set k (va_rf v))))), r) := g_pR ((cheap_d ha).trans h) hl (cheap_wd ha)
theorem y_al {t n : Nat} {f : Nat → Int32} {i : Int32} {K : Int32 → xS → Prop} (ha : X + 66 ≤ a) (h : dyn a = some (.inl (t, n, .inl f))) : xal t (some a) i K (cheap X cs ca cr cu dyn, r) ↔ vp_in i n ∧ K (f i.toNatClampNeg) (cheap X cs ca cr cu dyn, r) := g_al ((cheap_d ha).trans h)
theorem y_alR {t n : Nat} {f : Nat → Option Nat} {i : Int32} {K : Option Nat → xS → Prop} (ha : X + 66 ≤ a) (h : dyn a = some (.inl (t, n, .inr (.inl f)))) : xalR t (some a) i K (cheap X cs ca cr cu dyn, r) ↔ vp_in i n ∧ K (f i.toNatClampNeg) (cheap X cs ca cr cu dyn, r) := g_alR ((cheap_d ha).trans h)
theorem y_len {t n : Nat} {x : (Nat → Int32) ⊕ ((Nat → Option Nat) ⊕ (Nat → Int64))} {K : Int32 → xS → Prop} (ha : X + 66 ≤ a) (h : dyn a = some (.inl (t, n, x))) : xlen t (some a) K (cheap X cs ca cr cu dyn, r) ↔ K (nI n) (cheap X cs ca cr cu dyn, r) := g_len ((cheap_d ha).trans h)
theorem y_as {t n : Nat} {f : Nat → Int32} {i v : Int32} {K : xS → Prop} (ha : X + 66 ≤ a) (h : dyn a = some (.inl (t, n, .inl f))) : xas t (some a) i v K (cheap X cs ca cr cu dyn, r) ↔ vp_in i n ∧ K (cheap X cs ca cr cu (va_up dyn a (some (.inl (t, n, .inl (va_up f i.toNatClampNeg v))))), r) := g_as ((cheap_d ha).trans h) (cheap_wd ha)
theorem y_asR {t n : Nat} {f : Nat → Option Nat} {i : Int32} {v : Option Nat} {K : xS → Prop} (ha : X + 66 ≤ a) (h : dyn a = some (.inl (t, n, .inr (.inl f)))) : xasR t ci (some a) i v K (cheap X cs ca cr cu dyn, r) ↔ vp_in i n ∧ (∀ b, v = some b → ∃ fs, cheap X cs ca cr cu dyn b = some (.inr (ci, fs))) ∧ K (cheap X cs ca cr cu (va_up dyn a (some (.inl (t, n, .inr (.inl (va_up f i.toNatClampNeg v)))))), r) := g_asR ((cheap_d ha).trans h) (cheap_wd ha)
theorem y_new {N : Nat} {K : Nat → xS → Prop} (hn : X + 66 ≤ nx) : xnew ci N fs K (cheap X cs ca cr cu dyn, o, nx, cb, sb) ↔ 1 ≤ cb ∧ N ≤ sb ∧ K nx (cheap X cs ca cr cu (va_up dyn nx (some (.inr (ci, fs)))), o, nx + 1, cb - 1, sb - N) := by
  unfold xnew
  dsimp only
  rw [cheap_wd hn]
theorem y_newI {t n : Nat} {i : Int32} {K : Nat → xS → Prop} (hn : X + 66 ≤ nx) (hi : i = nI n) (hN : n ≤ 100000) : xnewI t i K (cheap X cs ca cr cu dyn, o, nx, cb, sb) ↔ 1 ≤ cb ∧ n ≤ sb ∧ K nx (cheap X cs ca cr cu (va_up dyn nx (some (.inl (t, n, .inl (fun _ => 0))))), o, nx + 1, cb - 1, sb - n) := by
  unfold xnewI
  dsimp only
  subst hi
  constructor
  · rintro ⟨N, e, h1, h2, h3, h4⟩
    have : N = n := ((nI_eq (by omega) (by omega)).mp e).symm
    subst this
    rw [cheap_wd hn] at h4
    exact ⟨h2, h3, h4⟩
  · rintro ⟨h2, h3, h4⟩
    refine ⟨n, rfl, hN, h2, h3, ?_⟩
    rw [cheap_wd hn]
    exact h4
theorem y_newR {t n : Nat} {i : Int32} {K : Nat → xS → Prop} (hn : X + 66 ≤ nx) (hi : i = nI n) (hN : n ≤ 100000) : xnewR t i K (cheap X cs ca cr cu dyn, o, nx, cb, sb) ↔ 1 ≤ cb ∧ n ≤ sb ∧ K nx (cheap X cs ca cr cu (va_up dyn nx (some (.inl (t, n, .inr (.inl (fun _ => none)))))), o, nx + 1, cb - 1, sb - n) := by
  unfold xnewR
  dsimp only
  subst hi
  constructor
  · rintro ⟨N, e, h1, h2, h3, h4⟩
    have : N = n := ((nI_eq (by omega) (by omega)).mp e).symm
    subst this
    rw [cheap_wd hn] at h4
    exact ⟨h2, h3, h4⟩
  · rintro ⟨h2, h3, h4⟩
    refine ⟨n, rfl, hN, h2, h3, ?_⟩
    rw [cheap_wd hn]
    exact h4
theorem y_call {ρ : Type} {m : xM} {mc ms : Nat} {P : (ρ → xS → Prop) → xS → Prop} {K : ρ → xS → Prop} : xcall mc ms P K (m, o, nx, cb, sb) ↔ mc ≤ cb ∧ ms ≤ sb ∧ P (fun r G' => K r (G'.1, G'.2.1, G'.2.2.1, cb - mc, sb - ms)) (m, o, nx, mc, ms) := Iff.rfl
/-- a new node -/
def nodeD (dyn : xM) (a : Nat) (path : Int32) (par : Option Nat) (ls : Int32) : xM := fun q => if q = a then some (.inr (2, [.int path, va_rf par, .int ls, .int 0, .ref (a + 1), .ref (a + 2), .ref (a + 3)])) else if q = a + 1 then some (.inl (0, 4, .inl (fun _ => 0))) else if q = a + 2 then some (.inl (0, 4, .inl (fun _ => 0))) else if q = a + 3 then some (.inl (0, 32, .inl (fun _ => 0))) else dyn q
theorem up_same (f : xM) (a : Nat) (v w : Option xC) : va_up (va_up f a v) a w = va_up f a w := bx_uu f a v w
theorem Nd_init_eq {path : Int32} {par : Option Nat} {ls : Int32} {K : Unit → xS → Prop} (ha : X + 66 ≤ a) : p_Nd_init a path par ls K (cheap X cs ca cr cu (va_up dyn a (some (.inr (2, z_Nd)))), o, a + 1, 3, 40) ↔ K () (cheap X cs ca cr cu (nodeD dyn a path par ls), o, a + 4, 0, 0) := by
  unfold p_Nd_init
  rw [y_pI ha (va_up_self _ _ _) (Nat.le_of_ble_eq_true rfl), up_same, y_newI (i := 4) (n := 4) (by omega) rfl (by decide), y_pR (fs := z_Nd.set 3 (.int 0)) ha (by rw [va_up_ne _ _ (by omega), va_up_self]) (Nat.le_of_ble_eq_true rfl)]
  rw [y_newI (i := 4) (n := 4) (by omega) rfl (by decide), y_pR (fs := (z_Nd.set 3 (.int 0)).set 4 (va_rf (some (a + 1)))) ha (by rw [va_up_ne _ _ (by omega), va_up_self]) (Nat.le_of_ble_eq_true rfl)]
  rw [y_newI (i := 32) (n := 32) (by omega) rfl (by decide), y_pR (fs := ((z_Nd.set 3 (.int 0)).set 4 (va_rf (some (a + 1)))).set 5 (va_rf (some (a + 2)))) ha (by rw [va_up_ne _ _ (by omega), va_up_self]) (Nat.le_of_ble_eq_true rfl)]
  rw [y_pI ha (va_up_self _ _ _) (Nat.le_of_ble_eq_true rfl), up_same, y_pR ha (va_up_self _ _ _) (Nat.le_of_ble_eq_true rfl), up_same, y_pI ha (va_up_self _ _ _) (Nat.le_of_ble_eq_true rfl), up_same]
  have e : (va_up (va_up (va_up (va_up (va_up (va_up (va_up dyn a (some (.inr (2, z_Nd.set 3 (.int 0))))) (a + 1) (some (.inl (0, 4, .inl fun _ => 0)))) a (some (.inr (2, (z_Nd.set 3 (.int 0)).set 4 (va_rf (some (a + 1))))))) (a + 1 + 1) (some (.inl (0, 4, .inl fun _ => 0)))) a (some (.inr (2, ((z_Nd.set 3 (.int 0)).set 4 (va_rf (some (a + 1)))).set 5 (va_rf (some (a + 1 + 1))))))) (a + 1 + 1 + 1) (some (.inl (0, 32, .inl fun _ => 0)))) a (some (.inr (2, (((((((z_Nd.set 3 (.int 0)).set 4 (va_rf (some (a + 1)))).set 5 (va_rf (some (a + 1 + 1)))).set 6 (va_rf (some (a + 1 + 1 + 1)))).set 0 (.int path)).set 1 (va_rf par)).set 2 (.int ls)))))) = nodeD dyn a path par ls := by
    funext q
    unfold nodeD
    by_cases e0 : q = a
    · subst e0; rw [va_up_self, if_pos rfl]; rfl
    rw [va_up_ne _ _ e0, if_neg e0]
    by_cases e3 : q = a + 3
    · subst e3; rw [va_up_self, if_neg (by omega), if_neg (by omega), if_pos rfl]
    rw [va_up_ne _ _ (by omega), va_up_ne _ _ e0]
    by_cases e2 : q = a + 2
    · subst e2; rw [va_up_self, if_neg (by omega), if_pos rfl]
    rw [va_up_ne _ _ (by omega), va_up_ne _ _ e0]
    by_cases e1 : q = a + 1
    · subst e1; rw [va_up_self, if_pos rfl]
    rw [va_up_ne _ _ e1, va_up_ne _ _ e0, if_neg e1, if_neg e2, if_neg e3]
  rw [e]
  constructor
  · exact fun h => h.2.2.2.2.2.2
  · exact fun h => ⟨by omega, by omega, by omega, by omega, by omega, by omega, h⟩
end DY
