/-! refresh -/
def putV {α : Type} : (Nat → α) → Nat → List α → Nat → α
  | f, _, [] => f
  | f, s, v :: L => putV (va_up f s v) (s + 1) L
def lstV {α : Type} (f : Nat → α) : Nat → List α → Prop
  | _, [] => True
  | j, v :: L => f j = v ∧ lstV f (j + 1) L
theorem putV_lt {α : Type} {i : Nat} : ∀ (L : List α) (f : Nat → α) (n : Nat), i < n → putV f n L i = f i
  | [], _, _, _ => rfl
  | d :: L, f, n, h => by
    show putV _ (n + 1) L i = _
    rw [putV_lt L _ (n + 1) (by omega), va_up_ne _ _ (by omega)]
theorem putV_lst {α : Type} : ∀ (L : List α) (f : Nat → α) (n : Nat), lstV (putV f n L) n L
  | [], _, _ => trivial
  | d :: L, f, n => ⟨by
    show putV _ (n + 1) L n = _
    rw [putV_lt L _ (n + 1) (by omega), va_up_self], putV_lst L _ (n + 1)⟩
theorem putV_app {α : Type} : ∀ (L M : List α) (f : Nat → α) (n : Nat), putV f n (L ++ M) = putV (putV f n L) (n + L.length) M
  | [], M, f, n => rfl
  | d :: L, M, f, n => by
    show putV _ (n + 1) (L ++ M) = putV (putV _ (n + 1) L) (n + (L.length + 1)) M
    rw [putV_app L M, show n + 1 + L.length = n + (L.length + 1) by omega]
/-- numbers of the last objects -/
def rts (sz : Nat → Nat) : Nat → List Nat → List Int32
  | _, [] => []
  | c, d :: L => nI (c + sz d - 1) :: rts sz (c + sz d) L
theorem rts_len (sz : Nat → Nat) : ∀ (L : List Nat) (c : Nat), (rts sz c L).length = L.length
  | [], _ => rfl
  | d :: L, c => by
    show (rts sz (c + sz d) L).length + 1 = L.length + 1
    rw [rts_len sz L]
theorem rts_sel {sz : Nat → Nat} {p : Nat → Bool} : ∀ (n d : Nat), rts sz (szs sz (sel p 0 d)) (sel p d n) = (sel p d n).map (fun x => nI (szs sz (sel p 0 x) + sz x - 1))
  | 0, _ => rfl
  | n + 1, d => by
    have ih := rts_sel (sz := sz) (p := p) n (d + 1)
    rw [sel_snoc d 0, Nat.zero_add] at ih
    cases hp : p d with
    | true =>
      rw [hp, if_pos rfl, szs_app, show szs sz [d] = sz d from by show sz d + 0 = sz d; omega] at ih
      rw [sel_t hp, List.map_cons, ← ih]
      rfl
    | false =>
      rw [hp, if_neg (by decide), List.append_nil] at ih
      rw [sel_f hp, ih]
section RC
variable {X nx db : Nat} {bs : Nat → Nat} {dyn : xM} {cu : Option Nat} {o : xM} {cb sb : Nat}
theorem Sn_take_L {th ta cap N i : Nat} {obj : Int32} {docs : Nat → Option Nat} {da sz : Nat → Nat} {id lv : Nat → Int32} {nodes : Nat → Nat → Option Nat} {K : Unit → xS → Prop} {Kx : xS → Prop} {r : xM × Nat × Nat × Nat} (hlo : X + 66 ≤ th) (hlo2 : X + 66 ≤ ta) (h1 : dyn th = some (.inr (8, [.ref ta, .int (nI N), .int obj]))) (h2 : dyn ta = some (.inl (4, cap, .inr (.inl docs)))) (hN : N ≤ cap) (hcap : cap ≤ 180) :
    ∀ (L : List Nat) (j f s c : Nat) (cs : Nat → Int32) (ca : Nat → Nat → Int32) (cr : Nat → Nat → Option Nat), j + L.length = N → L.length < f → s + L.length ≤ 120 → cs 1701 = nI s → lst docs da j L → (∀ d ∈ L, docAt bs (X + 66) nx dyn (da d) (id d) (sz d) (nodes d) (lv d) ∧ (lv d = 0 ∨ lv d = 1) ∧ 1 ≤ sz d) →
    (p_Sn_takeIn_L5 (X + 17) (nI i) (some th) K Kx f (nI c) (nI j) (cheap X cs ca cr cu dyn, r) ↔ Kx (cheap X (va_up cs 1701 (nI (s + L.length))) (va_up (va_up (va_up ca 19 (putV (ca 19) s (L.map lv))) 20 (putV (ca 20) s (L.map (fun _ => nI i)))) 21 (putV (ca 21) s (rts sz c L))) (va_up cr 18 (putV (cr 18) s (L.map (fun d => some (da d))))) cu dyn, r))
  | [], j, f + 1, s, c, cs, ca, cr, hj, hf, hs, hcs, _, _ => by
    unfold p_Sn_takeIn_L5
    rw [y_gI hlo h1 rfl, xif_t (nI_le (by simp at hj; omega) (by omega))]
    rw [show putV (ca 19) s (([] : List Nat).map lv) = ca 19 from rfl, va_up_id (f := ca) rfl, show putV (ca 20) s (([] : List Nat).map (fun _ => nI i)) = ca 20 from rfl, va_up_id (f := ca) rfl, show putV (ca 21) s (rts sz c []) = ca 21 from rfl, va_up_id (f := ca) rfl, show putV (cr 18) s (([] : List Nat).map (fun d => some (da d))) = cr 18 from rfl, va_up_id (f := cr) rfl, show s + ([] : List Nat).length = s from rfl, va_up_id (f := cs) hcs]
  | d :: L, j, f + 1, s, c, cs, ca, cr, hj, hf, hs, hcs, hl, hd => by
    rw [List.length_cons] at hj hf hs
    obtain ⟨d1, d2, d3⟩ := hd d List.mem_cons_self
    have hb := d1.1.1
    have hin : vp_in (nI j) cap := vp_in_nI (by omega) (by omega)
    have hin2 : vp_in (nI s) 120 := vp_in_nI (by omega) (by decide)
    unfold p_Sn_takeIn_L5
    rw [y_gI hlo h1 rfl, xif_f (nI_ge (by omega) (by omega)), c_g17_1, hcs, xif_f (show ¬ (120 : Int32) ≤ nI s from nI_ge (b := 120) (by omega) (by decide)), y_gR (v := some ta) hlo h1 rfl, y_alR hlo2 h2, cl_nI (by omega), hl.1, y_gR (v := some (da d + 1)) hb d1.2.1 rfl, y_len (by omega) d1.2.2, c_g17_2, c_g17_1, hcs, c_w18, cl_nI (by omega), c_g17_3, c_g17_1, hcs, y_gI hb d1.2.1 rfl, c_w19, cl_nI (by omega), c_g17_4, c_g17_1, hcs, c_w20, cl_nI (by omega), c_g17_5, c_g17_1, hcs, c_w21, cl_nI (by omega), c_g17_1, hcs, c_p17_1, nI_1, nI_1, nI_add, show nI (c + sz d) - 1 = nI (c + sz d - 1) from pk_sub (b := 1) (by omega)]
    rw [Sn_take_L hlo hlo2 h1 h2 hN hcap L (j + 1) f (s + 1) (c + sz d) _ _ _ (by omega) (by omega) (by omega) (va_up_self _ _ _) hl.2 (fun x hx => hd x (List.mem_cons_of_mem _ hx))]
    have e1 : ∀ (f1 f2 f3 : Nat → Int32), va_up (va_up (va_up ca 19 f1) 20 f2) 21 f3 19 = f1 := fun f1 f2 f3 => by rw [va_up_ne _ _ (by decide), va_up_ne _ _ (by decide), va_up_self]
    have e2 : ∀ (f1 f2 f3 : Nat → Int32), va_up (va_up (va_up ca 19 f1) 20 f2) 21 f3 20 = f2 := fun f1 f2 f3 => by rw [va_up_ne _ _ (by decide), va_up_self]
    have e3 : ∀ (f1 f2 f3 : Nat → Int32), va_up (va_up (va_up ca 19 f1) 20 f2) 21 f3 21 = f3 := fun f1 f2 f3 => va_up_self _ _ _
    have e4 : ∀ (f1 f2 f3 g1 g2 g3 : Nat → Int32), va_up (va_up (va_up (va_up (va_up (va_up ca 19 f1) 20 f2) 21 f3) 19 g1) 20 g2) 21 g3 = va_up (va_up (va_up ca 19 g1) 20 g2) 21 g3 := fun f1 f2 f3 g1 g2 g3 => by
      rw [va_up_sw (k := 21) (j := 19) (by decide), va_up_sw (k := 20) (j := 19) (by decide), bx_uu, va_up_sw (k := 21) (j := 20) (by decide), bx_uu, bx_uu]
    rw [va_up_ne (j := 20) (k := 19) _ _ (by decide), va_up_ne (j := 21) (k := 20) _ _ (by decide), va_up_ne (j := 21) (k := 19) _ _ (by decide), e1, e2, e3, e4, va_up_self, bx_uu, bx_uu, show s + 1 + L.length = s + (L.length + 1) by omega]
    constructor
    · exact fun h => h.2.2.2.2.2.2.2
    · exact fun h => ⟨hin, hin2, fun b q => by cases q; exact ⟨_, (cheap_d hb).trans d1.2.1⟩, hin2, d2, hin2, hin2, h⟩
end RC
