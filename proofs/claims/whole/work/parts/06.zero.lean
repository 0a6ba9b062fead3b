def z_Hi : List Value := [.null, .int 0]
theorem df_Hi : ∀ j, j < 2 → defaultValue (t_Hi j) = vp_V z_Hi j := fun j hj => by
  rcases (show j = 0 ∨ j = 1 by omega) with rfl | rfl <;> rfl
def z_Mp : List Value := [.null, .int 0, .null]
theorem df_Mp : ∀ j, j < 3 → defaultValue (t_Mp j) = vp_V z_Mp j := fun j hj => by
  rcases (show j = 0 ∨ j = 1 ∨ j = 2 by omega) with rfl | rfl | rfl <;> rfl
def z_Nd : List Value := [.int 0, .null, .int 0, .int 0, .null, .null, .null]
theorem df_Nd : ∀ j, j < 7 → defaultValue (t_Nd j) = vp_V z_Nd j := fun j hj => by
  rcases (show j = 0 ∨ j = 1 ∨ j = 2 ∨ j = 3 ∨ j = 4 ∨ j = 5 ∨ j = 6 by omega) with rfl | rfl | rfl | rfl | rfl | rfl | rfl <;> rfl
def z_Qu : List Value := [.null, .null, .null, .null, .int 0, .null, .int 0]
theorem df_Qu : ∀ j, j < 7 → defaultValue (t_Qu j) = vp_V z_Qu j := fun j hj => by
  rcases (show j = 0 ∨ j = 1 ∨ j = 2 ∨ j = 3 ∨ j = 4 ∨ j = 5 ∨ j = 6 by omega) with rfl | rfl | rfl | rfl | rfl | rfl | rfl <;> rfl
def z_Sn : List Value := [.int 0, .int 0, .null, .null, .null, .null]
theorem df_Sn : ∀ j, j < 6 → defaultValue (t_Sn j) = vp_V z_Sn j := fun j hj => by
  rcases (show j = 0 ∨ j = 1 ∨ j = 2 ∨ j = 3 ∨ j = 4 ∨ j = 5 by omega) with rfl | rfl | rfl | rfl | rfl | rfl <;> rfl
def z_Do : List Value := [.int 0, .null, .int 0]
theorem df_Do : ∀ j, j < 3 → defaultValue (t_Do j) = vp_V z_Do j := fun j hj => by
  rcases (show j = 0 ∨ j = 1 ∨ j = 2 by omega) with rfl | rfl | rfl <;> rfl
def z_Dr : List Value := [.null, .int 0, .int 0, .null]
theorem df_Dr : ∀ j, j < 4 → defaultValue (t_Dr j) = vp_V z_Dr j := fun j hj => by
  rcases (show j = 0 ∨ j = 1 ∨ j = 2 ∨ j = 3 by omega) with rfl | rfl | rfl | rfl <;> rfl
def z_Sc : List Value := [.null, .null, .null]
theorem df_Sc : ∀ j, j < 3 → defaultValue (t_Sc j) = vp_V z_Sc j := fun j hj => by
  rcases (show j = 0 ∨ j = 1 ∨ j = 2 by omega) with rfl | rfl | rfl <;> rfl
def z_Rw : List Value := [.null, .int 0, .int 0]
theorem df_Rw : ∀ j, j < 3 → defaultValue (t_Rw j) = vp_V z_Rw j := fun j hj => by
  rcases (show j = 0 ∨ j = 1 ∨ j = 2 by omega) with rfl | rfl | rfl <;> rfl
def z_B : List Value := [.null, .null, .null, .null, .null, .null, .null, .null, .int 0, .int 0, .int 0]
theorem df_B : ∀ j, j < 11 → defaultValue (t_B j) = vp_V z_B j := fun j hj => by
  rcases (show j = 0 ∨ j = 1 ∨ j = 2 ∨ j = 3 ∨ j = 4 ∨ j = 5 ∨ j = 6 ∨ j = 7 ∨ j = 8 ∨ j = 9 ∨ j = 10 by omega) with rfl | rfl | rfl | rfl | rfl | rfl | rfl | rfl | rfl | rfl | rfl <;> rfl
def z_M : List Value := [.null, .null, .null, .null, .null, .null, .int 0, .int 0, .int 0, .null, .int 0, .null, .null, .null, .null, .null, .null, .null, .int 0, .int 0, .int 0, .int 0, .null, .null, .null, .null, .null, .int 0, .null, .null, .null, .null, .null, .null, .null, .null, .int 0, .int 0, .null, .null, .null, .null, .null, .null, .int 0]
theorem df_M : ∀ j, j < 45 → defaultValue (t_M j) = vp_V z_M j := fun j hj => by
  rcases (show j = 0 ∨ j = 1 ∨ j = 2 ∨ j = 3 ∨ j = 4 ∨ j = 5 ∨ j = 6 ∨ j = 7 ∨ j = 8 ∨ j = 9 ∨ j = 10 ∨ j = 11 ∨ j = 12 ∨ j = 13 ∨ j = 14 ∨ j = 15 ∨ j = 16 ∨ j = 17 ∨ j = 18 ∨ j = 19 ∨ j = 20 ∨ j = 21 ∨ j = 22 ∨ j = 23 ∨ j = 24 ∨ j = 25 ∨ j = 26 ∨ j = 27 ∨ j = 28 ∨ j = 29 ∨ j = 30 ∨ j = 31 ∨ j = 32 ∨ j = 33 ∨ j = 34 ∨ j = 35 ∨ j = 36 ∨ j = 37 ∨ j = 38 ∨ j = 39 ∨ j = 40 ∨ j = 41 ∨ j = 42 ∨ j = 43 ∨ j = 44 by omega) with rfl | rfl | rfl | rfl | rfl | rfl | rfl | rfl | rfl | rfl | rfl | rfl | rfl | rfl | rfl | rfl | rfl | rfl | rfl | rfl | rfl | rfl | rfl | rfl | rfl | rfl | rfl | rfl | rfl | rfl | rfl | rfl | rfl | rfl | rfl | rfl | rfl | rfl | rfl | rfl | rfl | rfl | rfl | rfl | rfl <;> rfl
