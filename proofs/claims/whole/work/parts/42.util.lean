/-! small numbers, ranges -/
theorem i_lt {x y : Int32} : x < y ↔ x.toInt < y.toInt := Int32.lt_iff_toInt_lt
theorem i_le {x y : Int32} : x ≤ y ↔ x.toInt ≤ y.toInt := Int32.le_iff_toInt_le
theorem i_eq {x y : Int32} : x = y ↔ x.toInt = y.toInt := ⟨fun h => by rw [h], fun h => Int32.toInt_inj.mp h⟩
theorem i_lit (n : Nat) (h : n < 2 ^ 31) : (OfNat.ofNat n : Int32).toInt = (n : Int) := nI_toInt h
/-- 1 if v is from lo to hi, else 0 -/
def inR (v : Int32) (lo hi : Int) : Int32 := if v.toInt < lo ∨ hi < v.toInt then 0 else 1
theorem inR_0 {v : Int32} {lo hi : Int} : inR v lo hi = 0 ↔ (v.toInt < lo ∨ hi < v.toInt) := by
  unfold inR
  split
  · rename_i h; exact ⟨fun _ => h, fun _ => rfl⟩
  · rename_i h; exact ⟨fun q => absurd q (by decide), fun q => absurd q h⟩
theorem xif_t {c : Prop} {A B : xS → Prop} {G : xS} (h : c) : xif c A B G ↔ A G := ⟨fun q => q.1 h, fun q => ⟨fun _ => q, fun n => absurd h n⟩⟩
theorem xif_f {c : Prop} {A B : xS → Prop} {G : xS} (h : ¬ c) : xif c A B G ↔ B G := ⟨fun q => q.2 h, fun q => ⟨fun n => absurd n h, fun _ => q⟩⟩
theorem xrz_0 {K : Int32 → xS → Prop} {G : xS} : xrz 0 K G ↔ K 0 G := ⟨fun h => h.2, fun h => ⟨Or.inl rfl, h⟩⟩
theorem xrz_1 {K : Int32 → xS → Prop} {G : xS} : xrz 1 K G ↔ K 1 G := ⟨fun h => h.2, fun h => ⟨Or.inr rfl, h⟩⟩
theorem rng_eq {v a b : Int32} {lo hi : Int} {K : Int32 → xS → Prop} {G : xS} (h1 : v < a ↔ v.toInt < lo) (h2 : b ≤ v ↔ hi < v.toInt) : xif (v < a) (xrz 0 K) (xif (b ≤ v) (xrz 0 K) (xrz 1 K)) G ↔ K (inR v lo hi) G := by
  by_cases c1 : v.toInt < lo
  · rw [xif_t (h1.mpr c1), xrz_0, show inR v lo hi = 0 from inR_0.mpr (Or.inl c1)]
  · rw [xif_f (fun q => c1 (h1.mp q))]
    by_cases c2 : hi < v.toInt
    · rw [xif_t (h2.mpr c2), xrz_0, show inR v lo hi = 0 from inR_0.mpr (Or.inr c2)]
    · rw [xif_f (fun q => c2 (h2.mp q)), xrz_1, show inR v lo hi = 1 from by unfold inR; rw [if_neg (by omega)]]
theorem B_isPath_eq {v : Int32} {K : Int32 → xS → Prop} {G : xS} : p_B_isPath v K G ↔ K (inR v 0 3) G := rng_eq i_lt (by rw [i_le, show (4 : Int32).toInt = 4 from rfl]; omega)
theorem B_isField_eq {v : Int32} {K : Int32 → xS → Prop} {G : xS} : p_B_isField v K G ↔ K (inR v 0 3) G := rng_eq i_lt (by rw [i_le, show (4 : Int32).toInt = 4 from rfl]; omega)
theorem B_isWord_eq {v : Int32} {K : Int32 → xS → Prop} {G : xS} : p_B_isWord v K G ↔ K (inR v 0 25) G := rng_eq i_lt (by rw [i_le, show (26 : Int32).toInt = 26 from rfl]; omega)
theorem B_isId_eq {v : Int32} {K : Int32 → xS → Prop} {G : xS} : p_B_isId v K G ↔ K (inR v 0 19) G := rng_eq i_lt (by rw [i_le, show (20 : Int32).toInt = 20 from rfl]; omega)
theorem B_isNumber_eq {v : Int32} {K : Int32 → xS → Prop} {G : xS} : p_B_isNumber v K G ↔ K (inR v (-1000) 1000) G := by
  unfold p_B_isNumber
  by_cases c1 : v.toInt < -1000
  · rw [xif_t (by rw [i_lt]; exact c1), xrz_0, show inR v (-1000) 1000 = 0 from inR_0.mpr (Or.inl c1)]
  · rw [xif_f (by rw [i_lt]; exact c1)]
    by_cases c2 : 1000 < v.toInt
    · rw [xif_t (by rw [i_lt]; exact c2), xrz_0, show inR v (-1000) 1000 = 0 from inR_0.mpr (Or.inr c2)]
    · rw [xif_f (by rw [i_lt]; exact c2), xrz_1, show inR v (-1000) 1000 = 1 from by unfold inR; rw [if_neg (by omega)]]
theorem M_in_eq {v lo hi : Int32} {K : Int32 → xS → Prop} {G : xS} : p_M_in v lo hi K G ↔ K (inR v lo.toInt hi.toInt) G := by
  unfold p_M_in
  by_cases c1 : v.toInt < lo.toInt
  · rw [xif_t (i_lt.mpr c1), xrz_0, show inR v lo.toInt hi.toInt = 0 from inR_0.mpr (Or.inl c1)]
  · rw [xif_f (fun q => c1 (i_lt.mp q))]
    by_cases c2 : hi.toInt < v.toInt
    · rw [xif_t (i_lt.mpr c2), xrz_0, show inR v lo.toInt hi.toInt = 0 from inR_0.mpr (Or.inr c2)]
    · rw [xif_f (fun q => c2 (i_lt.mp q)), xrz_1, show inR v lo.toInt hi.toInt = 1 from by unfold inR; rw [if_neg (by omega)]]
theorem M_in03 {v : Int32} {K : Int32 → xS → Prop} {G : xS} : p_M_in v 0 3 K G ↔ K (inR v 0 3) G := M_in_eq
theorem M_in025 {v : Int32} {K : Int32 → xS → Prop} {G : xS} : p_M_in v 0 25 K G ↔ K (inR v 0 25) G := M_in_eq
theorem M_in019 {v : Int32} {K : Int32 → xS → Prop} {G : xS} : p_M_in v 0 19 K G ↔ K (inR v 0 19) G := M_in_eq
theorem M_in1000 {v : Int32} {K : Int32 → xS → Prop} {G : xS} : p_M_in v (-1000) 1000 K G ↔ K (inR v (-1000) 1000) G := M_in_eq
theorem M_in04 {v : Int32} {K : Int32 → xS → Prop} {G : xS} : p_M_in v 0 4 K G ↔ K (inR v 0 4) G := M_in_eq
theorem M_in47 {v : Int32} {K : Int32 → xS → Prop} {G : xS} : p_M_in v 4 7 K G ↔ K (inR v 4 7) G := M_in_eq
/-- the parent of a path -/
def parI (v : Int32) : Int32 := if v = 0 then -1 else if v = 2 then 1 else 0
theorem M_parentOf_eq {v : Int32} {K : Int32 → xS → Prop} {G : xS} : p_M_parentOf v K G ↔ K (parI v) G := by
  unfold p_M_parentOf parI
  by_cases c1 : v = 0
  · rw [xif_t c1, if_pos c1]
  · rw [xif_f c1, if_neg c1]
    by_cases c2 : v = 2
    · rw [xif_t c2, if_pos c2]
    · rw [xif_f c2, if_neg c2]
theorem par_tab {v : Int32} {K : Int32 → xS → Prop} {G : xS} (h : inR v 0 3 = 1) : xtab 4 xPar v K G ↔ K (parI v) G := by
  have hv : ¬ (v.toInt < 0 ∨ 3 < v.toInt) := fun q => by rw [inR_0.mpr q] at h; exact absurd h (by decide)
  have hin : vp_in v 4 := vp_in_iff.mpr ⟨by omega, by omega⟩
  obtain ⟨j, hj, rfl⟩ := vp_in_of hin (by decide)
  have hc : (nI j).toNatClampNeg = j := nI_clamp (by omega)
  unfold xtab
  rw [hc]
  have e : xPar j = parI (nI j) := by
    rcases (show j = 0 ∨ j = 1 ∨ j = 2 ∨ j = 3 by omega) with rfl | rfl | rfl | rfl <;> decide
  rw [e]
  exact ⟨fun q => q.2, fun q => ⟨hin, q⟩⟩
