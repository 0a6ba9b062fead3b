/-! LISTS OF DOCUMENTS -/
def sel (p : Nat → Bool) : Nat → Nat → List Nat
  | _, 0 => []
  | d, n + 1 => if p d then d :: sel p (d + 1) n else sel p (d + 1) n
theorem sel_t {p : Nat → Bool} {d n : Nat} (h : p d = true) : sel p d (n + 1) = d :: sel p (d + 1) n := by
  show (if p d then _ else _) = _
  rw [if_pos h]
theorem sel_f {p : Nat → Bool} {d n : Nat} (h : p d = false) : sel p d (n + 1) = sel p (d + 1) n := by
  show (if p d then _ else _) = _
  rw [if_neg (by rw [h]; decide)]
theorem mem_sel {p : Nat → Bool} {x : Nat} : ∀ (n d : Nat), x ∈ sel p d n ↔ d ≤ x ∧ x < d + n ∧ p x = true
  | 0, d => ⟨fun h => (by cases h), fun h => by omega⟩
  | n + 1, d => by
    cases hp : p d with
    | true =>
      rw [sel_t hp, List.mem_cons, mem_sel n (d + 1)]
      constructor
      · rintro (rfl | ⟨a, b, c⟩)
        · exact ⟨Nat.le_refl _, by omega, hp⟩
        · exact ⟨by omega, by omega, c⟩
      · rintro ⟨a, b, c⟩
        by_cases e : x = d
        · exact Or.inl e
        · exact Or.inr ⟨by omega, by omega, c⟩
    | false =>
      rw [sel_f hp, mem_sel n (d + 1)]
      constructor
      · rintro ⟨a, b, c⟩
        exact ⟨by omega, by omega, c⟩
      · rintro ⟨a, b, c⟩
        refine ⟨?_, by omega, c⟩
        by_cases e : x = d
        · subst e; rw [hp] at c; cases c
        · omega
theorem sel_congr {p q : Nat → Bool} : ∀ (n d : Nat), (∀ x, d ≤ x → x < d + n → p x = q x) → sel p d n = sel q d n
  | 0, _, _ => rfl
  | n + 1, d, h => by
    have ih := sel_congr n (d + 1) (fun x a b => h x (by omega) (by omega))
    have hd := h d (Nat.le_refl _) (by omega)
    cases hp : p d with
    | true => rw [sel_t hp, sel_t (by rw [← hd]; exact hp), ih]
    | false => rw [sel_f hp, sel_f (by rw [← hd]; exact hp), ih]
theorem sel_filter {p q : Nat → Bool} : ∀ (n d : Nat), (sel p d n).filter q = sel (fun x => p x && q x) d n
  | 0, _ => rfl
  | n + 1, d => by
    cases hp : p d with
    | true =>
      rw [sel_t hp]
      cases hq : q d with
      | true => rw [List.filter_cons_of_pos hq, sel_filter n, sel_t (p := fun x => p x && q x) (show (p d && q d) = true by rw [hp, hq]; rfl)]
      | false => rw [List.filter_cons_of_neg (by rw [hq]; decide), sel_filter n, sel_f (p := fun x => p x && q x) (show (p d && q d) = false by rw [hp, hq]; rfl)]
    | false => rw [sel_f hp, sel_filter n, sel_f (p := fun x => p x && q x) (show (p d && q d) = false by rw [hp]; rfl)]
theorem sel_snoc {p : Nat → Bool} : ∀ (n d : Nat), sel p d (n + 1) = sel p d n ++ (if p (d + n) then [d + n] else [])
  | 0, d => by
    cases hp : p d with
    | true => rw [sel_t hp, if_pos rfl]; rfl
    | false => rw [sel_f hp, if_neg (by decide)]; rfl
  | n + 1, d => by
    have ih := sel_snoc (p := p) n (d + 1)
    rw [show d + 1 + n = d + (n + 1) by omega] at ih
    cases hp : p d with
    | true => rw [sel_t hp, ih, sel_t hp]; rfl
    | false => rw [sel_f hp, ih, sel_f hp]
theorem sel_none {p : Nat → Bool} : ∀ (n d : Nat), (∀ x, d ≤ x → x < d + n → p x = false) → sel p d n = []
  | 0, _, _ => rfl
  | n + 1, d, h => by rw [sel_f (h d (Nat.le_refl _) (by omega)), sel_none n (d + 1) (fun x a b => h x (by omega) (by omega))]
/-- two that come one behind the other -/
theorem sel_two {p q s : Nat → Bool} : ∀ (n d : Nat), (∀ x, d ≤ x → x < d + n → s x = (p x || q x)) → (∀ x y, d ≤ x → y < d + n → p y = true → q x = true → y < x) → sel s d n = sel p d n ++ sel q d n
  | 0, _, _, _ => rfl
  | n + 1, d, h, ho => by
    have ih := sel_two n (d + 1) (fun x a b => h x (by omega) (by omega)) (fun x y a b => ho x y (by omega) (by omega))
    have hd := h d (Nat.le_refl _) (by omega)
    cases hp : p d with
    | true =>
      rw [sel_t (p := s) (by rw [hd, hp]; rfl), ih, sel_t hp]
      have hq : q d = false := by
        cases hq : q d with
        | false => rfl
        | true => exact absurd (ho d d (Nat.le_refl _) (by omega) hp hq) (Nat.lt_irrefl d)
      rw [sel_f hq]
      rfl
    | false =>
      cases hq : q d with
      | true =>
        have : sel p d (n + 1) = [] := sel_none _ _ (fun x a b => by
          cases hx : p x with
          | false => rfl
          | true => have := ho d x (Nat.le_refl _) b hx hq; omega)
        have this2 : sel p (d + 1) n = [] := by rw [← sel_f hp]; exact this
        rw [sel_t (p := s) (by rw [hd, hp, hq]; rfl), ih, this, this2, sel_t hq]
        rfl
      | false => rw [sel_f (p := s) (by rw [hd, hp, hq]; rfl), ih, sel_f hp, sel_f hq]
theorem sel_len {p : Nat → Bool} : ∀ (n d : Nat), (sel p d n).length ≤ n
  | 0, _ => Nat.le_refl _
  | n + 1, d => by
    have := sel_len (p := p) n (d + 1)
    cases hp : p d with
    | true => rw [sel_t hp, List.length_cons]; omega
    | false => rw [sel_f hp]; omega
theorem sel_srt {p : Nat → Bool} : ∀ (n d : Nat), (sel p d n).Pairwise (fun a b => a < b)
  | 0, _ => List.Pairwise.nil
  | n + 1, d => by
    cases hp : p d with
    | true =>
      rw [sel_t hp]
      exact List.Pairwise.cons (fun x hx => by have := (mem_sel n (d + 1)).mp hx; omega) (sel_srt n (d + 1))
    | false => rw [sel_f hp]; exact sel_srt n (d + 1)
/-- the sum over a list -/
def szs (sz : Nat → Nat) : List Nat → Nat
  | [] => 0
  | d :: L => sz d + szs sz L
theorem szs_app (sz : Nat → Nat) : ∀ (L M : List Nat), szs sz (L ++ M) = szs sz L + szs sz M
  | [], M => by rw [List.nil_append]; show _ = 0 + _; omega
  | d :: L, M => by
    show sz d + szs sz (L ++ M) = sz d + szs sz L + szs sz M
    rw [szs_app sz L M]
    omega
theorem szs_len {sz : Nat → Nat} : ∀ (L : List Nat), (∀ d ∈ L, 1 ≤ sz d) → L.length ≤ szs sz L
  | [], _ => Nat.le_refl _
  | d :: L, h => by
    have := szs_len L (fun x hx => h x (List.mem_cons_of_mem _ hx))
    have := h d List.mem_cons_self
    show L.length + 1 ≤ sz d + szs sz L
    omega
theorem szs_congr {f g : Nat → Nat} : ∀ (L : List Nat), (∀ d ∈ L, f d = g d) → szs f L = szs g L
  | [], _ => rfl
  | d :: L, h => by
    show f d + szs f L = g d + szs g L
    rw [szs_congr L (fun x hx => h x (List.mem_cons_of_mem _ hx)), h d List.mem_cons_self]
theorem szs_filter {sz : Nat → Nat} {q : Nat → Bool} : ∀ (L : List Nat), szs sz (L.filter q) ≤ szs sz L
  | [] => Nat.le_refl _
  | d :: L => by
    have := szs_filter (sz := sz) (q := q) L
    cases hq : q d with
    | true => rw [List.filter_cons_of_pos hq]; show sz d + _ ≤ sz d + _; omega
    | false => rw [List.filter_cons_of_neg (by rw [hq]; decide)]; show _ ≤ sz d + _; omega
/-- the entries of a row from j on are these documents -/
def lst (docs : Nat → Option Nat) (da : Nat → Nat) : Nat → List Nat → Prop
  | _, [] => True
  | j, d :: L => docs j = some (da d) ∧ lst docs da (j + 1) L
theorem lst_app {docs : Nat → Option Nat} {da : Nat → Nat} : ∀ (L M : List Nat) (j : Nat), lst docs da j (L ++ M) ↔ lst docs da j L ∧ lst docs da (j + L.length) M
  | [], M, j => ⟨fun h => ⟨trivial, h⟩, fun h => h.2⟩
  | d :: L, M, j => by
    show (_ ∧ lst docs da (j + 1) (L ++ M)) ↔ (_ ∧ lst docs da (j + 1) L) ∧ lst docs da (j + (L.length + 1)) M
    rw [lst_app L M (j + 1), show j + 1 + L.length = j + (L.length + 1) by omega, and_assoc]
theorem lst_congr {docs docs' : Nat → Option Nat} {da da' : Nat → Nat} : ∀ (L : List Nat) (j : Nat), (∀ i, j ≤ i → i < j + L.length → docs' i = docs i) → (∀ d ∈ L, da' d = da d) → lst docs da j L → lst docs' da' j L
  | [], _, _, _, _ => trivial
  | d :: L, j, h, h2, hl => ⟨by rw [h j (Nat.le_refl _) (by rw [List.length_cons]; omega), hl.1, h2 d List.mem_cons_self], lst_congr L (j + 1) (fun i a b => h i (by omega) (by rw [List.length_cons]; omega)) (fun x hx => h2 x (List.mem_cons_of_mem _ hx)) hl.2⟩
/-- no more of them than there are numbers -/
theorem pig {g : Nat → Nat} : ∀ (m : Nat) (L : List Nat), (∀ x ∈ L, g x < m) → L.Pairwise (fun a b => g a ≠ g b) → L.length ≤ m
  | 0, [], _, _ => Nat.le_refl _
  | 0, x :: L, h, _ => absurd (h x List.mem_cons_self) (Nat.not_lt_zero _)
  | m + 1, L, h, hp => by
    have ih := pig m (L.filter (fun x => decide (g x ≠ m))) (fun x hx => by
      obtain ⟨a, b⟩ := List.mem_filter.mp hx
      have := h x a
      have := of_decide_eq_true b
      omega) (hp.filter _)
    have key : ∀ (L : List Nat), L.Pairwise (fun a b => g a ≠ g b) → L.length ≤ (L.filter (fun x => decide (g x ≠ m))).length + 1 := by
      intro L
      induction L with
      | nil => intro _; exact Nat.zero_le _
      | cons x L ih =>
        intro hp
        obtain ⟨h1, h2⟩ := List.pairwise_cons.mp hp
        by_cases e : g x = m
        · have : L.filter (fun x => decide (g x ≠ m)) = L := List.filter_eq_self.mpr (fun y hy => decide_eq_true (fun q => h1 y hy (e.trans q.symm)))
          rw [List.filter_cons_of_neg (by simp [e]), this, List.length_cons]
          exact Nat.le_refl _
        · rw [List.filter_cons_of_pos (by simp [e]), List.length_cons, List.length_cons]
          have := ih h2
          omega
    have := key L hp
    omega
