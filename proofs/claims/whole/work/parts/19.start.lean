/-! the world as the constructors leave it -/
def permL : List Nat := [0, 20, 21, 1, 2, 3, 4, 5, 6, 22, 23, 24, 25, 26, 27, 38, 39, 7, 8, 14, 120, 121, 122, 123, 124, 125, 126, 127, 128, 129, 130, 131, 132, 133, 134, 135, 136, 137, 138, 139, 140, 141, 142, 143, 28, 29, 30, 31, 32, 33, 34, 35, 36, 37, 40, 41, 42, 43, 44, 45, 46, 47, 48, 49, 50, 51, 52, 53, 54, 55, 56, 57, 58, 59, 60, 61, 62, 63, 64, 65, 66, 67, 68, 69, 70, 71, 72, 73, 74, 75, 76, 77, 78, 79, 80, 81, 82, 83, 84, 85, 86, 87, 88, 89, 90, 91, 92, 93, 94, 95, 96, 97, 98, 99, 100, 101, 102, 103, 104, 105, 106, 107, 108, 109, 110, 111, 112, 113, 114, 115, 116, 117, 118, 119, 9, 10, 11, 12, 13, 15, 16, 17, 18, 19, 144, 145, 146, 147, 148, 149, 150, 151, 152, 153, 154, 155, 156, 157, 158, 159, 160, 161, 162, 163, 164, 165]
def permF (o : Nat) : Nat := permL.getD o 0
theorem perm_lt : ∀ o, o < 166 → permF o < 166 := by decide +kernel
theorem perm_inj : ∀ i, i < 166 → ∀ j, j < 166 → permF i = permF j → i = j := by decide +kernel
def t0 : St := fun o k => if (o = 144 ∧ k = 14) ∨ (o = 25 ∧ k = 1) ∨ (o = 1 ∧ k = 4) then -1 else 0
def eAll (X : Cx) (b : Nat) (E : Nat → va_E) : Nat → va_E := eX11_init X b 144 145 (va_up (eX10_init X b 0 1 (va_up E 0 (.inr (10, [.null, .null, .null, .null, .null, .null, .null, .null, .null, .null, .null, .null])))) 144 (.inr (11, [.int 0, .int 0, .int 0, .int 0, .null, .null, .null, .null, .int 0, .null, .null, .int 0, .null, .int 0, .int 0, .int 0, .int 0, .int 0, .int 0, .int 0, .int 0, .int 0, .null, .null, .null, .null, .int 0, .null, .int 0, .null, .null, .null, .int 0, .null, .null, .int 0, .null, .null, .null, .null])))
theorem q_cell {c : ClassId} {n : Nat} {f g : Nat → Option Nat} (h : ∀ j, j < n → f j = g j) : vp_cell c (n, .inr (.inr (.inr (.inr f)))) = vp_cell c (n, .inr (.inr (.inr (.inr g)))) := by
  rw [vp_cell_q, vp_cell_q]
  unfold arrV
  congr 2
  funext j
  show va_rf (f j.val) = va_rf (g j.val)
  rw [h j.val j.isLt]
def wX (D : va_G) (b : Nat) (cc : Nat → ClassId) : Cx := (D, (fun o => b + permF o), cc)
set_option maxRecDepth 100000 in
theorem ew_0 {D : va_G} {b : Nat} {cc : Nat → ClassId} {E : Nat → va_E} : eAll (wX D b cc) b E 0 = cE (wX D b cc) 0 (t0 0) := rfl
set_option maxRecDepth 100000 in
theorem ew_1 {D : va_G} {b : Nat} {cc : Nat → ClassId} {E : Nat → va_E} : eAll (wX D b cc) b E 20 = cE (wX D b cc) 1 (t0 1) := rfl
set_option maxRecDepth 100000 in
theorem ew_2 {D : va_G} {b : Nat} {cc : Nat → ClassId} {E : Nat → va_E} : eAll (wX D b cc) b E 21 = cE (wX D b cc) 2 (t0 2) := rfl
set_option maxRecDepth 100000 in
theorem ew_3 {D : va_G} {b : Nat} {cc : Nat → ClassId} {E : Nat → va_E} : eAll (wX D b cc) b E 1 = cE (wX D b cc) 3 (t0 3) := rfl
set_option maxRecDepth 100000 in
theorem ew_4 {D : va_G} {b : Nat} {cc : Nat → ClassId} {E : Nat → va_E} : eAll (wX D b cc) b E 2 = cE (wX D b cc) 4 (t0 4) := rfl
set_option maxRecDepth 100000 in
theorem ew_5 {D : va_G} {b : Nat} {cc : Nat → ClassId} {E : Nat → va_E} : eAll (wX D b cc) b E 3 = cE (wX D b cc) 5 (t0 5) := rfl
set_option maxRecDepth 100000 in
theorem ew_6 {D : va_G} {b : Nat} {cc : Nat → ClassId} {E : Nat → va_E} : eAll (wX D b cc) b E 4 = cE (wX D b cc) 6 (t0 6) := rfl
set_option maxRecDepth 100000 in
theorem ew_7 {D : va_G} {b : Nat} {cc : Nat → ClassId} {E : Nat → va_E} : eAll (wX D b cc) b E 5 = cE (wX D b cc) 7 (t0 7) := rfl
set_option maxRecDepth 100000 in
theorem ew_8 {D : va_G} {b : Nat} {cc : Nat → ClassId} {E : Nat → va_E} : eAll (wX D b cc) b E 6 = cE (wX D b cc) 8 (t0 8) := rfl
set_option maxRecDepth 100000 in
theorem ew_9 {D : va_G} {b : Nat} {cc : Nat → ClassId} {E : Nat → va_E} : eAll (wX D b cc) b E 22 = cE (wX D b cc) 9 (t0 9) := rfl
set_option maxRecDepth 100000 in
theorem ew_10 {D : va_G} {b : Nat} {cc : Nat → ClassId} {E : Nat → va_E} : eAll (wX D b cc) b E 23 = cE (wX D b cc) 10 (t0 10) := rfl
set_option maxRecDepth 100000 in
theorem ew_11 {D : va_G} {b : Nat} {cc : Nat → ClassId} {E : Nat → va_E} : eAll (wX D b cc) b E 24 = cE (wX D b cc) 11 (t0 11) := rfl
set_option maxRecDepth 100000 in
theorem ew_12 {D : va_G} {b : Nat} {cc : Nat → ClassId} {E : Nat → va_E} : eAll (wX D b cc) b E 25 = cE (wX D b cc) 12 (t0 12) := rfl
set_option maxRecDepth 100000 in
theorem ew_13 {D : va_G} {b : Nat} {cc : Nat → ClassId} {E : Nat → va_E} : eAll (wX D b cc) b E 26 = cE (wX D b cc) 13 (t0 13) := rfl
set_option maxRecDepth 100000 in
theorem ew_14 {D : va_G} {b : Nat} {cc : Nat → ClassId} {E : Nat → va_E} : eAll (wX D b cc) b E 27 = cE (wX D b cc) 14 (t0 14) := rfl
set_option maxRecDepth 100000 in
theorem ew_15 {D : va_G} {b : Nat} {cc : Nat → ClassId} {E : Nat → va_E} : eAll (wX D b cc) b E 38 = cE (wX D b cc) 15 (t0 15) := rfl
set_option maxRecDepth 100000 in
theorem ew_16 {D : va_G} {b : Nat} {cc : Nat → ClassId} {E : Nat → va_E} : ∃ f, eAll (wX D b cc) b E 39 = qA (wX D b cc) 16 f 2 ∧ ∀ j, j < 16 → f j = some (b + permF ((fun i => 54 + 5 * i) j)) := ⟨_, rfl, fun j hj => by
  rcases (show j = 0 ∨ j = 1 ∨ j = 2 ∨ j = 3 ∨ j = 4 ∨ j = 5 ∨ j = 6 ∨ j = 7 ∨ j = 8 ∨ j = 9 ∨ j = 10 ∨ j = 11 ∨ j = 12 ∨ j = 13 ∨ j = 14 ∨ j = 15 by omega) with rfl | rfl | rfl | rfl | rfl | rfl | rfl | rfl | rfl | rfl | rfl | rfl | rfl | rfl | rfl | rfl <;> rfl⟩
set_option maxRecDepth 100000 in
theorem ew_17 {D : va_G} {b : Nat} {cc : Nat → ClassId} {E : Nat → va_E} : ∃ f, eAll (wX D b cc) b E 7 = qA (wX D b cc) 2 f 3 ∧ ∀ j, j < 2 → f j = some (b + permF ((fun i => 18 + i) j)) := ⟨_, rfl, fun j hj => by
  rcases (show j = 0 ∨ j = 1 by omega) with rfl | rfl <;> rfl⟩
set_option maxRecDepth 100000 in
theorem ew_18 {D : va_G} {b : Nat} {cc : Nat → ClassId} {E : Nat → va_E} : eAll (wX D b cc) b E 8 = cE (wX D b cc) 18 (t0 18) := rfl
set_option maxRecDepth 100000 in
theorem ew_19 {D : va_G} {b : Nat} {cc : Nat → ClassId} {E : Nat → va_E} : eAll (wX D b cc) b E 14 = cE (wX D b cc) 19 (t0 19) := rfl
set_option maxRecDepth 100000 in
theorem ew_20 {D : va_G} {b : Nat} {cc : Nat → ClassId} {E : Nat → va_E} : eAll (wX D b cc) b E 120 = cE (wX D b cc) 20 (t0 20) := rfl
set_option maxRecDepth 100000 in
theorem ew_21 {D : va_G} {b : Nat} {cc : Nat → ClassId} {E : Nat → va_E} : eAll (wX D b cc) b E 121 = cE (wX D b cc) 21 (t0 21) := rfl
set_option maxRecDepth 100000 in
theorem ew_22 {D : va_G} {b : Nat} {cc : Nat → ClassId} {E : Nat → va_E} : eAll (wX D b cc) b E 122 = cE (wX D b cc) 22 (t0 22) := rfl
set_option maxRecDepth 100000 in
theorem ew_23 {D : va_G} {b : Nat} {cc : Nat → ClassId} {E : Nat → va_E} : eAll (wX D b cc) b E 123 = cE (wX D b cc) 23 (t0 23) := rfl
set_option maxRecDepth 100000 in
theorem ew_24 {D : va_G} {b : Nat} {cc : Nat → ClassId} {E : Nat → va_E} : eAll (wX D b cc) b E 124 = cE (wX D b cc) 24 (t0 24) := rfl
set_option maxRecDepth 100000 in
theorem ew_25 {D : va_G} {b : Nat} {cc : Nat → ClassId} {E : Nat → va_E} : eAll (wX D b cc) b E 125 = cE (wX D b cc) 25 (t0 25) := rfl
set_option maxRecDepth 100000 in
theorem ew_26 {D : va_G} {b : Nat} {cc : Nat → ClassId} {E : Nat → va_E} : eAll (wX D b cc) b E 126 = cE (wX D b cc) 26 (t0 26) := rfl
set_option maxRecDepth 100000 in
theorem ew_27 {D : va_G} {b : Nat} {cc : Nat → ClassId} {E : Nat → va_E} : eAll (wX D b cc) b E 127 = cE (wX D b cc) 27 (t0 27) := rfl
set_option maxRecDepth 100000 in
theorem ew_28 {D : va_G} {b : Nat} {cc : Nat → ClassId} {E : Nat → va_E} : ∃ f, eAll (wX D b cc) b E 128 = qA (wX D b cc) 9 f 4 ∧ ∀ j, j < 9 → f j = some (b + permF ((fun i => 29 + i) j)) := ⟨_, rfl, fun j hj => by
  rcases (show j = 0 ∨ j = 1 ∨ j = 2 ∨ j = 3 ∨ j = 4 ∨ j = 5 ∨ j = 6 ∨ j = 7 ∨ j = 8 by omega) with rfl | rfl | rfl | rfl | rfl | rfl | rfl | rfl | rfl <;> rfl⟩
set_option maxRecDepth 100000 in
theorem ew_29 {D : va_G} {b : Nat} {cc : Nat → ClassId} {E : Nat → va_E} : eAll (wX D b cc) b E 129 = cE (wX D b cc) 29 (t0 29) := rfl
set_option maxRecDepth 100000 in
theorem ew_30 {D : va_G} {b : Nat} {cc : Nat → ClassId} {E : Nat → va_E} : eAll (wX D b cc) b E 130 = cE (wX D b cc) 30 (t0 30) := rfl
set_option maxRecDepth 100000 in
theorem ew_31 {D : va_G} {b : Nat} {cc : Nat → ClassId} {E : Nat → va_E} : eAll (wX D b cc) b E 131 = cE (wX D b cc) 31 (t0 31) := rfl
set_option maxRecDepth 100000 in
theorem ew_32 {D : va_G} {b : Nat} {cc : Nat → ClassId} {E : Nat → va_E} : eAll (wX D b cc) b E 132 = cE (wX D b cc) 32 (t0 32) := rfl
set_option maxRecDepth 100000 in
theorem ew_33 {D : va_G} {b : Nat} {cc : Nat → ClassId} {E : Nat → va_E} : eAll (wX D b cc) b E 133 = cE (wX D b cc) 33 (t0 33) := rfl
set_option maxRecDepth 100000 in
theorem ew_34 {D : va_G} {b : Nat} {cc : Nat → ClassId} {E : Nat → va_E} : eAll (wX D b cc) b E 134 = cE (wX D b cc) 34 (t0 34) := rfl
set_option maxRecDepth 100000 in
theorem ew_35 {D : va_G} {b : Nat} {cc : Nat → ClassId} {E : Nat → va_E} : eAll (wX D b cc) b E 135 = cE (wX D b cc) 35 (t0 35) := rfl
set_option maxRecDepth 100000 in
theorem ew_36 {D : va_G} {b : Nat} {cc : Nat → ClassId} {E : Nat → va_E} : eAll (wX D b cc) b E 136 = cE (wX D b cc) 36 (t0 36) := rfl
set_option maxRecDepth 100000 in
theorem ew_37 {D : va_G} {b : Nat} {cc : Nat → ClassId} {E : Nat → va_E} : eAll (wX D b cc) b E 137 = cE (wX D b cc) 37 (t0 37) := rfl
set_option maxRecDepth 100000 in
theorem ew_38 {D : va_G} {b : Nat} {cc : Nat → ClassId} {E : Nat → va_E} : eAll (wX D b cc) b E 138 = cE (wX D b cc) 38 (t0 38) := rfl
set_option maxRecDepth 100000 in
theorem ew_39 {D : va_G} {b : Nat} {cc : Nat → ClassId} {E : Nat → va_E} : eAll (wX D b cc) b E 139 = cE (wX D b cc) 39 (t0 39) := rfl
set_option maxRecDepth 100000 in
theorem ew_40 {D : va_G} {b : Nat} {cc : Nat → ClassId} {E : Nat → va_E} : eAll (wX D b cc) b E 140 = cE (wX D b cc) 40 (t0 40) := rfl
set_option maxRecDepth 100000 in
theorem ew_41 {D : va_G} {b : Nat} {cc : Nat → ClassId} {E : Nat → va_E} : eAll (wX D b cc) b E 141 = cE (wX D b cc) 41 (t0 41) := rfl
set_option maxRecDepth 100000 in
theorem ew_42 {D : va_G} {b : Nat} {cc : Nat → ClassId} {E : Nat → va_E} : eAll (wX D b cc) b E 142 = cE (wX D b cc) 42 (t0 42) := rfl
set_option maxRecDepth 100000 in
theorem ew_43 {D : va_G} {b : Nat} {cc : Nat → ClassId} {E : Nat → va_E} : eAll (wX D b cc) b E 143 = cE (wX D b cc) 43 (t0 43) := rfl
set_option maxRecDepth 100000 in
theorem ew_44 {D : va_G} {b : Nat} {cc : Nat → ClassId} {E : Nat → va_E} : eAll (wX D b cc) b E 28 = cE (wX D b cc) 44 (t0 44) := rfl
set_option maxRecDepth 100000 in
theorem ew_45 {D : va_G} {b : Nat} {cc : Nat → ClassId} {E : Nat → va_E} : eAll (wX D b cc) b E 29 = cE (wX D b cc) 45 (t0 45) := rfl
set_option maxRecDepth 100000 in
theorem ew_46 {D : va_G} {b : Nat} {cc : Nat → ClassId} {E : Nat → va_E} : eAll (wX D b cc) b E 30 = cE (wX D b cc) 46 (t0 46) := rfl
set_option maxRecDepth 100000 in
theorem ew_47 {D : va_G} {b : Nat} {cc : Nat → ClassId} {E : Nat → va_E} : eAll (wX D b cc) b E 31 = cE (wX D b cc) 47 (t0 47) := rfl
set_option maxRecDepth 100000 in
theorem ew_48 {D : va_G} {b : Nat} {cc : Nat → ClassId} {E : Nat → va_E} : eAll (wX D b cc) b E 32 = cE (wX D b cc) 48 (t0 48) := rfl
set_option maxRecDepth 100000 in
theorem ew_49 {D : va_G} {b : Nat} {cc : Nat → ClassId} {E : Nat → va_E} : eAll (wX D b cc) b E 33 = cE (wX D b cc) 49 (t0 49) := rfl
set_option maxRecDepth 100000 in
theorem ew_50 {D : va_G} {b : Nat} {cc : Nat → ClassId} {E : Nat → va_E} : eAll (wX D b cc) b E 34 = cE (wX D b cc) 50 (t0 50) := rfl
set_option maxRecDepth 100000 in
theorem ew_51 {D : va_G} {b : Nat} {cc : Nat → ClassId} {E : Nat → va_E} : eAll (wX D b cc) b E 35 = cE (wX D b cc) 51 (t0 51) := rfl
set_option maxRecDepth 100000 in
theorem ew_52 {D : va_G} {b : Nat} {cc : Nat → ClassId} {E : Nat → va_E} : eAll (wX D b cc) b E 36 = cE (wX D b cc) 52 (t0 52) := rfl
set_option maxRecDepth 100000 in
theorem ew_53 {D : va_G} {b : Nat} {cc : Nat → ClassId} {E : Nat → va_E} : eAll (wX D b cc) b E 37 = cE (wX D b cc) 53 (t0 53) := rfl
set_option maxRecDepth 100000 in
theorem ew_54 {D : va_G} {b : Nat} {cc : Nat → ClassId} {E : Nat → va_E} : eAll (wX D b cc) b E 40 = cE (wX D b cc) 54 (t0 54) := rfl
set_option maxRecDepth 100000 in
theorem ew_55 {D : va_G} {b : Nat} {cc : Nat → ClassId} {E : Nat → va_E} : eAll (wX D b cc) b E 41 = cE (wX D b cc) 55 (t0 55) := rfl
set_option maxRecDepth 100000 in
theorem ew_56 {D : va_G} {b : Nat} {cc : Nat → ClassId} {E : Nat → va_E} : eAll (wX D b cc) b E 42 = cE (wX D b cc) 56 (t0 56) := rfl
set_option maxRecDepth 100000 in
theorem ew_57 {D : va_G} {b : Nat} {cc : Nat → ClassId} {E : Nat → va_E} : eAll (wX D b cc) b E 43 = cE (wX D b cc) 57 (t0 57) := rfl
set_option maxRecDepth 100000 in
theorem ew_58 {D : va_G} {b : Nat} {cc : Nat → ClassId} {E : Nat → va_E} : eAll (wX D b cc) b E 44 = cE (wX D b cc) 58 (t0 58) := rfl
set_option maxRecDepth 100000 in
theorem ew_59 {D : va_G} {b : Nat} {cc : Nat → ClassId} {E : Nat → va_E} : eAll (wX D b cc) b E 45 = cE (wX D b cc) 59 (t0 59) := rfl
set_option maxRecDepth 100000 in
theorem ew_60 {D : va_G} {b : Nat} {cc : Nat → ClassId} {E : Nat → va_E} : eAll (wX D b cc) b E 46 = cE (wX D b cc) 60 (t0 60) := rfl
set_option maxRecDepth 100000 in
theorem ew_61 {D : va_G} {b : Nat} {cc : Nat → ClassId} {E : Nat → va_E} : eAll (wX D b cc) b E 47 = cE (wX D b cc) 61 (t0 61) := rfl
set_option maxRecDepth 100000 in
theorem ew_62 {D : va_G} {b : Nat} {cc : Nat → ClassId} {E : Nat → va_E} : eAll (wX D b cc) b E 48 = cE (wX D b cc) 62 (t0 62) := rfl
set_option maxRecDepth 100000 in
theorem ew_63 {D : va_G} {b : Nat} {cc : Nat → ClassId} {E : Nat → va_E} : eAll (wX D b cc) b E 49 = cE (wX D b cc) 63 (t0 63) := rfl
set_option maxRecDepth 100000 in
theorem ew_64 {D : va_G} {b : Nat} {cc : Nat → ClassId} {E : Nat → va_E} : eAll (wX D b cc) b E 50 = cE (wX D b cc) 64 (t0 64) := rfl
set_option maxRecDepth 100000 in
theorem ew_65 {D : va_G} {b : Nat} {cc : Nat → ClassId} {E : Nat → va_E} : eAll (wX D b cc) b E 51 = cE (wX D b cc) 65 (t0 65) := rfl
set_option maxRecDepth 100000 in
theorem ew_66 {D : va_G} {b : Nat} {cc : Nat → ClassId} {E : Nat → va_E} : eAll (wX D b cc) b E 52 = cE (wX D b cc) 66 (t0 66) := rfl
set_option maxRecDepth 100000 in
theorem ew_67 {D : va_G} {b : Nat} {cc : Nat → ClassId} {E : Nat → va_E} : eAll (wX D b cc) b E 53 = cE (wX D b cc) 67 (t0 67) := rfl
set_option maxRecDepth 100000 in
theorem ew_68 {D : va_G} {b : Nat} {cc : Nat → ClassId} {E : Nat → va_E} : eAll (wX D b cc) b E 54 = cE (wX D b cc) 68 (t0 68) := rfl
set_option maxRecDepth 100000 in
theorem ew_69 {D : va_G} {b : Nat} {cc : Nat → ClassId} {E : Nat → va_E} : eAll (wX D b cc) b E 55 = cE (wX D b cc) 69 (t0 69) := rfl
set_option maxRecDepth 100000 in
theorem ew_70 {D : va_G} {b : Nat} {cc : Nat → ClassId} {E : Nat → va_E} : eAll (wX D b cc) b E 56 = cE (wX D b cc) 70 (t0 70) := rfl
set_option maxRecDepth 100000 in
theorem ew_71 {D : va_G} {b : Nat} {cc : Nat → ClassId} {E : Nat → va_E} : eAll (wX D b cc) b E 57 = cE (wX D b cc) 71 (t0 71) := rfl
set_option maxRecDepth 100000 in
theorem ew_72 {D : va_G} {b : Nat} {cc : Nat → ClassId} {E : Nat → va_E} : eAll (wX D b cc) b E 58 = cE (wX D b cc) 72 (t0 72) := rfl
set_option maxRecDepth 100000 in
theorem ew_73 {D : va_G} {b : Nat} {cc : Nat → ClassId} {E : Nat → va_E} : eAll (wX D b cc) b E 59 = cE (wX D b cc) 73 (t0 73) := rfl
set_option maxRecDepth 100000 in
theorem ew_74 {D : va_G} {b : Nat} {cc : Nat → ClassId} {E : Nat → va_E} : eAll (wX D b cc) b E 60 = cE (wX D b cc) 74 (t0 74) := rfl
set_option maxRecDepth 100000 in
theorem ew_75 {D : va_G} {b : Nat} {cc : Nat → ClassId} {E : Nat → va_E} : eAll (wX D b cc) b E 61 = cE (wX D b cc) 75 (t0 75) := rfl
set_option maxRecDepth 100000 in
theorem ew_76 {D : va_G} {b : Nat} {cc : Nat → ClassId} {E : Nat → va_E} : eAll (wX D b cc) b E 62 = cE (wX D b cc) 76 (t0 76) := rfl
set_option maxRecDepth 100000 in
theorem ew_77 {D : va_G} {b : Nat} {cc : Nat → ClassId} {E : Nat → va_E} : eAll (wX D b cc) b E 63 = cE (wX D b cc) 77 (t0 77) := rfl
set_option maxRecDepth 100000 in
theorem ew_78 {D : va_G} {b : Nat} {cc : Nat → ClassId} {E : Nat → va_E} : eAll (wX D b cc) b E 64 = cE (wX D b cc) 78 (t0 78) := rfl
set_option maxRecDepth 100000 in
theorem ew_79 {D : va_G} {b : Nat} {cc : Nat → ClassId} {E : Nat → va_E} : eAll (wX D b cc) b E 65 = cE (wX D b cc) 79 (t0 79) := rfl
set_option maxRecDepth 100000 in
theorem ew_80 {D : va_G} {b : Nat} {cc : Nat → ClassId} {E : Nat → va_E} : eAll (wX D b cc) b E 66 = cE (wX D b cc) 80 (t0 80) := rfl
set_option maxRecDepth 100000 in
theorem ew_81 {D : va_G} {b : Nat} {cc : Nat → ClassId} {E : Nat → va_E} : eAll (wX D b cc) b E 67 = cE (wX D b cc) 81 (t0 81) := rfl
set_option maxRecDepth 100000 in
theorem ew_82 {D : va_G} {b : Nat} {cc : Nat → ClassId} {E : Nat → va_E} : eAll (wX D b cc) b E 68 = cE (wX D b cc) 82 (t0 82) := rfl
set_option maxRecDepth 100000 in
theorem ew_83 {D : va_G} {b : Nat} {cc : Nat → ClassId} {E : Nat → va_E} : eAll (wX D b cc) b E 69 = cE (wX D b cc) 83 (t0 83) := rfl
set_option maxRecDepth 100000 in
theorem ew_84 {D : va_G} {b : Nat} {cc : Nat → ClassId} {E : Nat → va_E} : eAll (wX D b cc) b E 70 = cE (wX D b cc) 84 (t0 84) := rfl
set_option maxRecDepth 100000 in
theorem ew_85 {D : va_G} {b : Nat} {cc : Nat → ClassId} {E : Nat → va_E} : eAll (wX D b cc) b E 71 = cE (wX D b cc) 85 (t0 85) := rfl
set_option maxRecDepth 100000 in
theorem ew_86 {D : va_G} {b : Nat} {cc : Nat → ClassId} {E : Nat → va_E} : eAll (wX D b cc) b E 72 = cE (wX D b cc) 86 (t0 86) := rfl
set_option maxRecDepth 100000 in
theorem ew_87 {D : va_G} {b : Nat} {cc : Nat → ClassId} {E : Nat → va_E} : eAll (wX D b cc) b E 73 = cE (wX D b cc) 87 (t0 87) := rfl
set_option maxRecDepth 100000 in
theorem ew_88 {D : va_G} {b : Nat} {cc : Nat → ClassId} {E : Nat → va_E} : eAll (wX D b cc) b E 74 = cE (wX D b cc) 88 (t0 88) := rfl
set_option maxRecDepth 100000 in
theorem ew_89 {D : va_G} {b : Nat} {cc : Nat → ClassId} {E : Nat → va_E} : eAll (wX D b cc) b E 75 = cE (wX D b cc) 89 (t0 89) := rfl
set_option maxRecDepth 100000 in
theorem ew_90 {D : va_G} {b : Nat} {cc : Nat → ClassId} {E : Nat → va_E} : eAll (wX D b cc) b E 76 = cE (wX D b cc) 90 (t0 90) := rfl
set_option maxRecDepth 100000 in
theorem ew_91 {D : va_G} {b : Nat} {cc : Nat → ClassId} {E : Nat → va_E} : eAll (wX D b cc) b E 77 = cE (wX D b cc) 91 (t0 91) := rfl
set_option maxRecDepth 100000 in
theorem ew_92 {D : va_G} {b : Nat} {cc : Nat → ClassId} {E : Nat → va_E} : eAll (wX D b cc) b E 78 = cE (wX D b cc) 92 (t0 92) := rfl
set_option maxRecDepth 100000 in
theorem ew_93 {D : va_G} {b : Nat} {cc : Nat → ClassId} {E : Nat → va_E} : eAll (wX D b cc) b E 79 = cE (wX D b cc) 93 (t0 93) := rfl
set_option maxRecDepth 100000 in
theorem ew_94 {D : va_G} {b : Nat} {cc : Nat → ClassId} {E : Nat → va_E} : eAll (wX D b cc) b E 80 = cE (wX D b cc) 94 (t0 94) := rfl
set_option maxRecDepth 100000 in
theorem ew_95 {D : va_G} {b : Nat} {cc : Nat → ClassId} {E : Nat → va_E} : eAll (wX D b cc) b E 81 = cE (wX D b cc) 95 (t0 95) := rfl
set_option maxRecDepth 100000 in
theorem ew_96 {D : va_G} {b : Nat} {cc : Nat → ClassId} {E : Nat → va_E} : eAll (wX D b cc) b E 82 = cE (wX D b cc) 96 (t0 96) := rfl
set_option maxRecDepth 100000 in
theorem ew_97 {D : va_G} {b : Nat} {cc : Nat → ClassId} {E : Nat → va_E} : eAll (wX D b cc) b E 83 = cE (wX D b cc) 97 (t0 97) := rfl
set_option maxRecDepth 100000 in
theorem ew_98 {D : va_G} {b : Nat} {cc : Nat → ClassId} {E : Nat → va_E} : eAll (wX D b cc) b E 84 = cE (wX D b cc) 98 (t0 98) := rfl
set_option maxRecDepth 100000 in
theorem ew_99 {D : va_G} {b : Nat} {cc : Nat → ClassId} {E : Nat → va_E} : eAll (wX D b cc) b E 85 = cE (wX D b cc) 99 (t0 99) := rfl
set_option maxRecDepth 100000 in
theorem ew_100 {D : va_G} {b : Nat} {cc : Nat → ClassId} {E : Nat → va_E} : eAll (wX D b cc) b E 86 = cE (wX D b cc) 100 (t0 100) := rfl
set_option maxRecDepth 100000 in
theorem ew_101 {D : va_G} {b : Nat} {cc : Nat → ClassId} {E : Nat → va_E} : eAll (wX D b cc) b E 87 = cE (wX D b cc) 101 (t0 101) := rfl
set_option maxRecDepth 100000 in
theorem ew_102 {D : va_G} {b : Nat} {cc : Nat → ClassId} {E : Nat → va_E} : eAll (wX D b cc) b E 88 = cE (wX D b cc) 102 (t0 102) := rfl
set_option maxRecDepth 100000 in
theorem ew_103 {D : va_G} {b : Nat} {cc : Nat → ClassId} {E : Nat → va_E} : eAll (wX D b cc) b E 89 = cE (wX D b cc) 103 (t0 103) := rfl
set_option maxRecDepth 100000 in
theorem ew_104 {D : va_G} {b : Nat} {cc : Nat → ClassId} {E : Nat → va_E} : eAll (wX D b cc) b E 90 = cE (wX D b cc) 104 (t0 104) := rfl
set_option maxRecDepth 100000 in
theorem ew_105 {D : va_G} {b : Nat} {cc : Nat → ClassId} {E : Nat → va_E} : eAll (wX D b cc) b E 91 = cE (wX D b cc) 105 (t0 105) := rfl
set_option maxRecDepth 100000 in
theorem ew_106 {D : va_G} {b : Nat} {cc : Nat → ClassId} {E : Nat → va_E} : eAll (wX D b cc) b E 92 = cE (wX D b cc) 106 (t0 106) := rfl
set_option maxRecDepth 100000 in
theorem ew_107 {D : va_G} {b : Nat} {cc : Nat → ClassId} {E : Nat → va_E} : eAll (wX D b cc) b E 93 = cE (wX D b cc) 107 (t0 107) := rfl
set_option maxRecDepth 100000 in
theorem ew_108 {D : va_G} {b : Nat} {cc : Nat → ClassId} {E : Nat → va_E} : eAll (wX D b cc) b E 94 = cE (wX D b cc) 108 (t0 108) := rfl
set_option maxRecDepth 100000 in
theorem ew_109 {D : va_G} {b : Nat} {cc : Nat → ClassId} {E : Nat → va_E} : eAll (wX D b cc) b E 95 = cE (wX D b cc) 109 (t0 109) := rfl
set_option maxRecDepth 100000 in
theorem ew_110 {D : va_G} {b : Nat} {cc : Nat → ClassId} {E : Nat → va_E} : eAll (wX D b cc) b E 96 = cE (wX D b cc) 110 (t0 110) := rfl
set_option maxRecDepth 100000 in
theorem ew_111 {D : va_G} {b : Nat} {cc : Nat → ClassId} {E : Nat → va_E} : eAll (wX D b cc) b E 97 = cE (wX D b cc) 111 (t0 111) := rfl
set_option maxRecDepth 100000 in
theorem ew_112 {D : va_G} {b : Nat} {cc : Nat → ClassId} {E : Nat → va_E} : eAll (wX D b cc) b E 98 = cE (wX D b cc) 112 (t0 112) := rfl
set_option maxRecDepth 100000 in
theorem ew_113 {D : va_G} {b : Nat} {cc : Nat → ClassId} {E : Nat → va_E} : eAll (wX D b cc) b E 99 = cE (wX D b cc) 113 (t0 113) := rfl
set_option maxRecDepth 100000 in
theorem ew_114 {D : va_G} {b : Nat} {cc : Nat → ClassId} {E : Nat → va_E} : eAll (wX D b cc) b E 100 = cE (wX D b cc) 114 (t0 114) := rfl
set_option maxRecDepth 100000 in
theorem ew_115 {D : va_G} {b : Nat} {cc : Nat → ClassId} {E : Nat → va_E} : eAll (wX D b cc) b E 101 = cE (wX D b cc) 115 (t0 115) := rfl
set_option maxRecDepth 100000 in
theorem ew_116 {D : va_G} {b : Nat} {cc : Nat → ClassId} {E : Nat → va_E} : eAll (wX D b cc) b E 102 = cE (wX D b cc) 116 (t0 116) := rfl
set_option maxRecDepth 100000 in
theorem ew_117 {D : va_G} {b : Nat} {cc : Nat → ClassId} {E : Nat → va_E} : eAll (wX D b cc) b E 103 = cE (wX D b cc) 117 (t0 117) := rfl
set_option maxRecDepth 100000 in
theorem ew_118 {D : va_G} {b : Nat} {cc : Nat → ClassId} {E : Nat → va_E} : eAll (wX D b cc) b E 104 = cE (wX D b cc) 118 (t0 118) := rfl
set_option maxRecDepth 100000 in
theorem ew_119 {D : va_G} {b : Nat} {cc : Nat → ClassId} {E : Nat → va_E} : eAll (wX D b cc) b E 105 = cE (wX D b cc) 119 (t0 119) := rfl
set_option maxRecDepth 100000 in
theorem ew_120 {D : va_G} {b : Nat} {cc : Nat → ClassId} {E : Nat → va_E} : eAll (wX D b cc) b E 106 = cE (wX D b cc) 120 (t0 120) := rfl
set_option maxRecDepth 100000 in
theorem ew_121 {D : va_G} {b : Nat} {cc : Nat → ClassId} {E : Nat → va_E} : eAll (wX D b cc) b E 107 = cE (wX D b cc) 121 (t0 121) := rfl
set_option maxRecDepth 100000 in
theorem ew_122 {D : va_G} {b : Nat} {cc : Nat → ClassId} {E : Nat → va_E} : eAll (wX D b cc) b E 108 = cE (wX D b cc) 122 (t0 122) := rfl
set_option maxRecDepth 100000 in
theorem ew_123 {D : va_G} {b : Nat} {cc : Nat → ClassId} {E : Nat → va_E} : eAll (wX D b cc) b E 109 = cE (wX D b cc) 123 (t0 123) := rfl
set_option maxRecDepth 100000 in
theorem ew_124 {D : va_G} {b : Nat} {cc : Nat → ClassId} {E : Nat → va_E} : eAll (wX D b cc) b E 110 = cE (wX D b cc) 124 (t0 124) := rfl
set_option maxRecDepth 100000 in
theorem ew_125 {D : va_G} {b : Nat} {cc : Nat → ClassId} {E : Nat → va_E} : eAll (wX D b cc) b E 111 = cE (wX D b cc) 125 (t0 125) := rfl
set_option maxRecDepth 100000 in
theorem ew_126 {D : va_G} {b : Nat} {cc : Nat → ClassId} {E : Nat → va_E} : eAll (wX D b cc) b E 112 = cE (wX D b cc) 126 (t0 126) := rfl
set_option maxRecDepth 100000 in
theorem ew_127 {D : va_G} {b : Nat} {cc : Nat → ClassId} {E : Nat → va_E} : eAll (wX D b cc) b E 113 = cE (wX D b cc) 127 (t0 127) := rfl
set_option maxRecDepth 100000 in
theorem ew_128 {D : va_G} {b : Nat} {cc : Nat → ClassId} {E : Nat → va_E} : eAll (wX D b cc) b E 114 = cE (wX D b cc) 128 (t0 128) := rfl
set_option maxRecDepth 100000 in
theorem ew_129 {D : va_G} {b : Nat} {cc : Nat → ClassId} {E : Nat → va_E} : eAll (wX D b cc) b E 115 = cE (wX D b cc) 129 (t0 129) := rfl
set_option maxRecDepth 100000 in
theorem ew_130 {D : va_G} {b : Nat} {cc : Nat → ClassId} {E : Nat → va_E} : eAll (wX D b cc) b E 116 = cE (wX D b cc) 130 (t0 130) := rfl
set_option maxRecDepth 100000 in
theorem ew_131 {D : va_G} {b : Nat} {cc : Nat → ClassId} {E : Nat → va_E} : eAll (wX D b cc) b E 117 = cE (wX D b cc) 131 (t0 131) := rfl
set_option maxRecDepth 100000 in
theorem ew_132 {D : va_G} {b : Nat} {cc : Nat → ClassId} {E : Nat → va_E} : eAll (wX D b cc) b E 118 = cE (wX D b cc) 132 (t0 132) := rfl
set_option maxRecDepth 100000 in
theorem ew_133 {D : va_G} {b : Nat} {cc : Nat → ClassId} {E : Nat → va_E} : eAll (wX D b cc) b E 119 = cE (wX D b cc) 133 (t0 133) := rfl
set_option maxRecDepth 100000 in
theorem ew_134 {D : va_G} {b : Nat} {cc : Nat → ClassId} {E : Nat → va_E} : eAll (wX D b cc) b E 9 = cE (wX D b cc) 134 (t0 134) := rfl
set_option maxRecDepth 100000 in
theorem ew_135 {D : va_G} {b : Nat} {cc : Nat → ClassId} {E : Nat → va_E} : eAll (wX D b cc) b E 10 = cE (wX D b cc) 135 (t0 135) := rfl
set_option maxRecDepth 100000 in
theorem ew_136 {D : va_G} {b : Nat} {cc : Nat → ClassId} {E : Nat → va_E} : eAll (wX D b cc) b E 11 = cE (wX D b cc) 136 (t0 136) := rfl
set_option maxRecDepth 100000 in
theorem ew_137 {D : va_G} {b : Nat} {cc : Nat → ClassId} {E : Nat → va_E} : eAll (wX D b cc) b E 12 = cE (wX D b cc) 137 (t0 137) := rfl
set_option maxRecDepth 100000 in
theorem ew_138 {D : va_G} {b : Nat} {cc : Nat → ClassId} {E : Nat → va_E} : eAll (wX D b cc) b E 13 = cE (wX D b cc) 138 (t0 138) := rfl
set_option maxRecDepth 100000 in
theorem ew_139 {D : va_G} {b : Nat} {cc : Nat → ClassId} {E : Nat → va_E} : eAll (wX D b cc) b E 15 = cE (wX D b cc) 139 (t0 139) := rfl
set_option maxRecDepth 100000 in
theorem ew_140 {D : va_G} {b : Nat} {cc : Nat → ClassId} {E : Nat → va_E} : eAll (wX D b cc) b E 16 = cE (wX D b cc) 140 (t0 140) := rfl
set_option maxRecDepth 100000 in
theorem ew_141 {D : va_G} {b : Nat} {cc : Nat → ClassId} {E : Nat → va_E} : eAll (wX D b cc) b E 17 = cE (wX D b cc) 141 (t0 141) := rfl
set_option maxRecDepth 100000 in
theorem ew_142 {D : va_G} {b : Nat} {cc : Nat → ClassId} {E : Nat → va_E} : eAll (wX D b cc) b E 18 = cE (wX D b cc) 142 (t0 142) := rfl
set_option maxRecDepth 100000 in
theorem ew_143 {D : va_G} {b : Nat} {cc : Nat → ClassId} {E : Nat → va_E} : eAll (wX D b cc) b E 19 = cE (wX D b cc) 143 (t0 143) := rfl
set_option maxRecDepth 100000 in
theorem ew_144 {D : va_G} {b : Nat} {cc : Nat → ClassId} {E : Nat → va_E} : eAll (wX D b cc) b E 144 = cE (wX D b cc) 144 (t0 144) := rfl
set_option maxRecDepth 100000 in
theorem ew_145 {D : va_G} {b : Nat} {cc : Nat → ClassId} {E : Nat → va_E} : eAll (wX D b cc) b E 145 = cE (wX D b cc) 145 (t0 145) := rfl
set_option maxRecDepth 100000 in
theorem ew_146 {D : va_G} {b : Nat} {cc : Nat → ClassId} {E : Nat → va_E} : eAll (wX D b cc) b E 146 = cE (wX D b cc) 146 (t0 146) := rfl
set_option maxRecDepth 100000 in
theorem ew_147 {D : va_G} {b : Nat} {cc : Nat → ClassId} {E : Nat → va_E} : eAll (wX D b cc) b E 147 = cE (wX D b cc) 147 (t0 147) := rfl
set_option maxRecDepth 100000 in
theorem ew_148 {D : va_G} {b : Nat} {cc : Nat → ClassId} {E : Nat → va_E} : eAll (wX D b cc) b E 148 = cE (wX D b cc) 148 (t0 148) := rfl
set_option maxRecDepth 100000 in
theorem ew_149 {D : va_G} {b : Nat} {cc : Nat → ClassId} {E : Nat → va_E} : eAll (wX D b cc) b E 149 = cE (wX D b cc) 149 (t0 149) := rfl
set_option maxRecDepth 100000 in
theorem ew_150 {D : va_G} {b : Nat} {cc : Nat → ClassId} {E : Nat → va_E} : eAll (wX D b cc) b E 150 = cE (wX D b cc) 150 (t0 150) := rfl
set_option maxRecDepth 100000 in
theorem ew_151 {D : va_G} {b : Nat} {cc : Nat → ClassId} {E : Nat → va_E} : eAll (wX D b cc) b E 151 = cE (wX D b cc) 151 (t0 151) := rfl
set_option maxRecDepth 100000 in
theorem ew_152 {D : va_G} {b : Nat} {cc : Nat → ClassId} {E : Nat → va_E} : eAll (wX D b cc) b E 152 = cE (wX D b cc) 152 (t0 152) := rfl
set_option maxRecDepth 100000 in
theorem ew_153 {D : va_G} {b : Nat} {cc : Nat → ClassId} {E : Nat → va_E} : eAll (wX D b cc) b E 153 = cE (wX D b cc) 153 (t0 153) := rfl
set_option maxRecDepth 100000 in
theorem ew_154 {D : va_G} {b : Nat} {cc : Nat → ClassId} {E : Nat → va_E} : eAll (wX D b cc) b E 154 = cE (wX D b cc) 154 (t0 154) := rfl
set_option maxRecDepth 100000 in
theorem ew_155 {D : va_G} {b : Nat} {cc : Nat → ClassId} {E : Nat → va_E} : eAll (wX D b cc) b E 155 = cE (wX D b cc) 155 (t0 155) := rfl
set_option maxRecDepth 100000 in
theorem ew_156 {D : va_G} {b : Nat} {cc : Nat → ClassId} {E : Nat → va_E} : eAll (wX D b cc) b E 156 = cE (wX D b cc) 156 (t0 156) := rfl
set_option maxRecDepth 100000 in
theorem ew_157 {D : va_G} {b : Nat} {cc : Nat → ClassId} {E : Nat → va_E} : eAll (wX D b cc) b E 157 = cE (wX D b cc) 157 (t0 157) := rfl
set_option maxRecDepth 100000 in
theorem ew_158 {D : va_G} {b : Nat} {cc : Nat → ClassId} {E : Nat → va_E} : eAll (wX D b cc) b E 158 = cE (wX D b cc) 158 (t0 158) := rfl
set_option maxRecDepth 100000 in
theorem ew_159 {D : va_G} {b : Nat} {cc : Nat → ClassId} {E : Nat → va_E} : eAll (wX D b cc) b E 159 = cE (wX D b cc) 159 (t0 159) := rfl
set_option maxRecDepth 100000 in
theorem ew_160 {D : va_G} {b : Nat} {cc : Nat → ClassId} {E : Nat → va_E} : eAll (wX D b cc) b E 160 = cE (wX D b cc) 160 (t0 160) := rfl
set_option maxRecDepth 100000 in
theorem ew_161 {D : va_G} {b : Nat} {cc : Nat → ClassId} {E : Nat → va_E} : eAll (wX D b cc) b E 161 = cE (wX D b cc) 161 (t0 161) := rfl
set_option maxRecDepth 100000 in
theorem ew_162 {D : va_G} {b : Nat} {cc : Nat → ClassId} {E : Nat → va_E} : eAll (wX D b cc) b E 162 = cE (wX D b cc) 162 (t0 162) := rfl
set_option maxRecDepth 100000 in
theorem ew_163 {D : va_G} {b : Nat} {cc : Nat → ClassId} {E : Nat → va_E} : eAll (wX D b cc) b E 163 = cE (wX D b cc) 163 (t0 163) := rfl
set_option maxRecDepth 100000 in
theorem ew_164 {D : va_G} {b : Nat} {cc : Nat → ClassId} {E : Nat → va_E} : eAll (wX D b cc) b E 164 = cE (wX D b cc) 164 (t0 164) := rfl
set_option maxRecDepth 100000 in
theorem ew_165 {D : va_G} {b : Nat} {cc : Nat → ClassId} {E : Nat → va_E} : eAll (wX D b cc) b E 165 = cE (wX D b cc) 165 (t0 165) := rfl
theorem P_at {D : va_G} {b n : Nat} {F : Nat → va_E} {H : Heap} (hP : va_P D vwCl (wp b n F) H) (k : Nat) (hk : k < n) {x : va_E} (he : F k = x) : va_at D vwCl (b + k, x) H := by
  rw [← he]
  exact hP k _ (wp_at hk)
theorem ea_0 {D : va_G} {b : Nat} {cc : Nat → ClassId} {E : Nat → va_E} {H : Heap} (hP : va_P D vwCl (wp b 166 (eAll (wX D b cc) b E)) H) : va_at D vwCl ((wX D b cc).2.1 0, cE (wX D b cc) 0 (t0 0)) H := P_at hP 0 (by decide) ew_0
theorem ea_1 {D : va_G} {b : Nat} {cc : Nat → ClassId} {E : Nat → va_E} {H : Heap} (hP : va_P D vwCl (wp b 166 (eAll (wX D b cc) b E)) H) : va_at D vwCl ((wX D b cc).2.1 1, cE (wX D b cc) 1 (t0 1)) H := P_at hP 20 (by decide) ew_1
theorem ea_2 {D : va_G} {b : Nat} {cc : Nat → ClassId} {E : Nat → va_E} {H : Heap} (hP : va_P D vwCl (wp b 166 (eAll (wX D b cc) b E)) H) : va_at D vwCl ((wX D b cc).2.1 2, cE (wX D b cc) 2 (t0 2)) H := P_at hP 21 (by decide) ew_2
theorem ea_3 {D : va_G} {b : Nat} {cc : Nat → ClassId} {E : Nat → va_E} {H : Heap} (hP : va_P D vwCl (wp b 166 (eAll (wX D b cc) b E)) H) : va_at D vwCl ((wX D b cc).2.1 3, cE (wX D b cc) 3 (t0 3)) H := P_at hP 1 (by decide) ew_3
theorem ea_4 {D : va_G} {b : Nat} {cc : Nat → ClassId} {E : Nat → va_E} {H : Heap} (hP : va_P D vwCl (wp b 166 (eAll (wX D b cc) b E)) H) : va_at D vwCl ((wX D b cc).2.1 4, cE (wX D b cc) 4 (t0 4)) H := P_at hP 2 (by decide) ew_4
theorem ea_5 {D : va_G} {b : Nat} {cc : Nat → ClassId} {E : Nat → va_E} {H : Heap} (hP : va_P D vwCl (wp b 166 (eAll (wX D b cc) b E)) H) : va_at D vwCl ((wX D b cc).2.1 5, cE (wX D b cc) 5 (t0 5)) H := P_at hP 3 (by decide) ew_5
theorem ea_6 {D : va_G} {b : Nat} {cc : Nat → ClassId} {E : Nat → va_E} {H : Heap} (hP : va_P D vwCl (wp b 166 (eAll (wX D b cc) b E)) H) : va_at D vwCl ((wX D b cc).2.1 6, cE (wX D b cc) 6 (t0 6)) H := P_at hP 4 (by decide) ew_6
theorem ea_7 {D : va_G} {b : Nat} {cc : Nat → ClassId} {E : Nat → va_E} {H : Heap} (hP : va_P D vwCl (wp b 166 (eAll (wX D b cc) b E)) H) : va_at D vwCl ((wX D b cc).2.1 7, cE (wX D b cc) 7 (t0 7)) H := P_at hP 5 (by decide) ew_7
theorem ea_8 {D : va_G} {b : Nat} {cc : Nat → ClassId} {E : Nat → va_E} {H : Heap} (hP : va_P D vwCl (wp b 166 (eAll (wX D b cc) b E)) H) : va_at D vwCl ((wX D b cc).2.1 8, cE (wX D b cc) 8 (t0 8)) H := P_at hP 6 (by decide) ew_8
theorem ea_9 {D : va_G} {b : Nat} {cc : Nat → ClassId} {E : Nat → va_E} {H : Heap} (hP : va_P D vwCl (wp b 166 (eAll (wX D b cc) b E)) H) : va_at D vwCl ((wX D b cc).2.1 9, cE (wX D b cc) 9 (t0 9)) H := P_at hP 22 (by decide) ew_9
theorem ea_10 {D : va_G} {b : Nat} {cc : Nat → ClassId} {E : Nat → va_E} {H : Heap} (hP : va_P D vwCl (wp b 166 (eAll (wX D b cc) b E)) H) : va_at D vwCl ((wX D b cc).2.1 10, cE (wX D b cc) 10 (t0 10)) H := P_at hP 23 (by decide) ew_10
theorem ea_11 {D : va_G} {b : Nat} {cc : Nat → ClassId} {E : Nat → va_E} {H : Heap} (hP : va_P D vwCl (wp b 166 (eAll (wX D b cc) b E)) H) : va_at D vwCl ((wX D b cc).2.1 11, cE (wX D b cc) 11 (t0 11)) H := P_at hP 24 (by decide) ew_11
theorem ea_12 {D : va_G} {b : Nat} {cc : Nat → ClassId} {E : Nat → va_E} {H : Heap} (hP : va_P D vwCl (wp b 166 (eAll (wX D b cc) b E)) H) : va_at D vwCl ((wX D b cc).2.1 12, cE (wX D b cc) 12 (t0 12)) H := P_at hP 25 (by decide) ew_12
theorem ea_13 {D : va_G} {b : Nat} {cc : Nat → ClassId} {E : Nat → va_E} {H : Heap} (hP : va_P D vwCl (wp b 166 (eAll (wX D b cc) b E)) H) : va_at D vwCl ((wX D b cc).2.1 13, cE (wX D b cc) 13 (t0 13)) H := P_at hP 26 (by decide) ew_13
theorem ea_14 {D : va_G} {b : Nat} {cc : Nat → ClassId} {E : Nat → va_E} {H : Heap} (hP : va_P D vwCl (wp b 166 (eAll (wX D b cc) b E)) H) : va_at D vwCl ((wX D b cc).2.1 14, cE (wX D b cc) 14 (t0 14)) H := P_at hP 27 (by decide) ew_14
theorem ea_15 {D : va_G} {b : Nat} {cc : Nat → ClassId} {E : Nat → va_E} {H : Heap} (hP : va_P D vwCl (wp b 166 (eAll (wX D b cc) b E)) H) : va_at D vwCl ((wX D b cc).2.1 15, cE (wX D b cc) 15 (t0 15)) H := P_at hP 38 (by decide) ew_15
theorem ea_16 {D : va_G} {b : Nat} {cc : Nat → ClassId} {E : Nat → va_E} {H : Heap} (hP : va_P D vwCl (wp b 166 (eAll (wX D b cc) b E)) H) : va_at D vwCl ((wX D b cc).2.1 16, cE (wX D b cc) 16 (t0 16)) H := by
  obtain ⟨f, h1, h2⟩ := ew_16 (D := D) (b := b) (cc := cc) (E := E)
  have h4 : H[b + 39]? = some (vp_cell (cc 2) (16, .inr (.inr (.inr (.inr f))))) := P_at hP 39 (by decide) h1
  show H[b + 39]? = some (vp_cell _ _)
  rw [h4, q_cell h2]
  rfl
theorem ea_17 {D : va_G} {b : Nat} {cc : Nat → ClassId} {E : Nat → va_E} {H : Heap} (hP : va_P D vwCl (wp b 166 (eAll (wX D b cc) b E)) H) : va_at D vwCl ((wX D b cc).2.1 17, cE (wX D b cc) 17 (t0 17)) H := by
  obtain ⟨f, h1, h2⟩ := ew_17 (D := D) (b := b) (cc := cc) (E := E)
  have h4 : H[b + 7]? = some (vp_cell (cc 3) (2, .inr (.inr (.inr (.inr f))))) := P_at hP 7 (by decide) h1
  show H[b + 7]? = some (vp_cell _ _)
  rw [h4, q_cell h2]
  rfl
theorem ea_18 {D : va_G} {b : Nat} {cc : Nat → ClassId} {E : Nat → va_E} {H : Heap} (hP : va_P D vwCl (wp b 166 (eAll (wX D b cc) b E)) H) : va_at D vwCl ((wX D b cc).2.1 18, cE (wX D b cc) 18 (t0 18)) H := P_at hP 8 (by decide) ew_18
theorem ea_19 {D : va_G} {b : Nat} {cc : Nat → ClassId} {E : Nat → va_E} {H : Heap} (hP : va_P D vwCl (wp b 166 (eAll (wX D b cc) b E)) H) : va_at D vwCl ((wX D b cc).2.1 19, cE (wX D b cc) 19 (t0 19)) H := P_at hP 14 (by decide) ew_19
theorem ea_20 {D : va_G} {b : Nat} {cc : Nat → ClassId} {E : Nat → va_E} {H : Heap} (hP : va_P D vwCl (wp b 166 (eAll (wX D b cc) b E)) H) : va_at D vwCl ((wX D b cc).2.1 20, cE (wX D b cc) 20 (t0 20)) H := P_at hP 120 (by decide) ew_20
theorem ea_21 {D : va_G} {b : Nat} {cc : Nat → ClassId} {E : Nat → va_E} {H : Heap} (hP : va_P D vwCl (wp b 166 (eAll (wX D b cc) b E)) H) : va_at D vwCl ((wX D b cc).2.1 21, cE (wX D b cc) 21 (t0 21)) H := P_at hP 121 (by decide) ew_21
theorem ea_22 {D : va_G} {b : Nat} {cc : Nat → ClassId} {E : Nat → va_E} {H : Heap} (hP : va_P D vwCl (wp b 166 (eAll (wX D b cc) b E)) H) : va_at D vwCl ((wX D b cc).2.1 22, cE (wX D b cc) 22 (t0 22)) H := P_at hP 122 (by decide) ew_22
theorem ea_23 {D : va_G} {b : Nat} {cc : Nat → ClassId} {E : Nat → va_E} {H : Heap} (hP : va_P D vwCl (wp b 166 (eAll (wX D b cc) b E)) H) : va_at D vwCl ((wX D b cc).2.1 23, cE (wX D b cc) 23 (t0 23)) H := P_at hP 123 (by decide) ew_23
theorem ea_24 {D : va_G} {b : Nat} {cc : Nat → ClassId} {E : Nat → va_E} {H : Heap} (hP : va_P D vwCl (wp b 166 (eAll (wX D b cc) b E)) H) : va_at D vwCl ((wX D b cc).2.1 24, cE (wX D b cc) 24 (t0 24)) H := P_at hP 124 (by decide) ew_24
theorem ea_25 {D : va_G} {b : Nat} {cc : Nat → ClassId} {E : Nat → va_E} {H : Heap} (hP : va_P D vwCl (wp b 166 (eAll (wX D b cc) b E)) H) : va_at D vwCl ((wX D b cc).2.1 25, cE (wX D b cc) 25 (t0 25)) H := P_at hP 125 (by decide) ew_25
theorem ea_26 {D : va_G} {b : Nat} {cc : Nat → ClassId} {E : Nat → va_E} {H : Heap} (hP : va_P D vwCl (wp b 166 (eAll (wX D b cc) b E)) H) : va_at D vwCl ((wX D b cc).2.1 26, cE (wX D b cc) 26 (t0 26)) H := P_at hP 126 (by decide) ew_26
theorem ea_27 {D : va_G} {b : Nat} {cc : Nat → ClassId} {E : Nat → va_E} {H : Heap} (hP : va_P D vwCl (wp b 166 (eAll (wX D b cc) b E)) H) : va_at D vwCl ((wX D b cc).2.1 27, cE (wX D b cc) 27 (t0 27)) H := P_at hP 127 (by decide) ew_27
theorem ea_28 {D : va_G} {b : Nat} {cc : Nat → ClassId} {E : Nat → va_E} {H : Heap} (hP : va_P D vwCl (wp b 166 (eAll (wX D b cc) b E)) H) : va_at D vwCl ((wX D b cc).2.1 28, cE (wX D b cc) 28 (t0 28)) H := by
  obtain ⟨f, h1, h2⟩ := ew_28 (D := D) (b := b) (cc := cc) (E := E)
  have h4 : H[b + 128]? = some (vp_cell (cc 4) (9, .inr (.inr (.inr (.inr f))))) := P_at hP 128 (by decide) h1
  show H[b + 128]? = some (vp_cell _ _)
  rw [h4, q_cell h2]
  rfl
theorem ea_29 {D : va_G} {b : Nat} {cc : Nat → ClassId} {E : Nat → va_E} {H : Heap} (hP : va_P D vwCl (wp b 166 (eAll (wX D b cc) b E)) H) : va_at D vwCl ((wX D b cc).2.1 29, cE (wX D b cc) 29 (t0 29)) H := P_at hP 129 (by decide) ew_29
theorem ea_30 {D : va_G} {b : Nat} {cc : Nat → ClassId} {E : Nat → va_E} {H : Heap} (hP : va_P D vwCl (wp b 166 (eAll (wX D b cc) b E)) H) : va_at D vwCl ((wX D b cc).2.1 30, cE (wX D b cc) 30 (t0 30)) H := P_at hP 130 (by decide) ew_30
theorem ea_31 {D : va_G} {b : Nat} {cc : Nat → ClassId} {E : Nat → va_E} {H : Heap} (hP : va_P D vwCl (wp b 166 (eAll (wX D b cc) b E)) H) : va_at D vwCl ((wX D b cc).2.1 31, cE (wX D b cc) 31 (t0 31)) H := P_at hP 131 (by decide) ew_31
theorem ea_32 {D : va_G} {b : Nat} {cc : Nat → ClassId} {E : Nat → va_E} {H : Heap} (hP : va_P D vwCl (wp b 166 (eAll (wX D b cc) b E)) H) : va_at D vwCl ((wX D b cc).2.1 32, cE (wX D b cc) 32 (t0 32)) H := P_at hP 132 (by decide) ew_32
theorem ea_33 {D : va_G} {b : Nat} {cc : Nat → ClassId} {E : Nat → va_E} {H : Heap} (hP : va_P D vwCl (wp b 166 (eAll (wX D b cc) b E)) H) : va_at D vwCl ((wX D b cc).2.1 33, cE (wX D b cc) 33 (t0 33)) H := P_at hP 133 (by decide) ew_33
theorem ea_34 {D : va_G} {b : Nat} {cc : Nat → ClassId} {E : Nat → va_E} {H : Heap} (hP : va_P D vwCl (wp b 166 (eAll (wX D b cc) b E)) H) : va_at D vwCl ((wX D b cc).2.1 34, cE (wX D b cc) 34 (t0 34)) H := P_at hP 134 (by decide) ew_34
theorem ea_35 {D : va_G} {b : Nat} {cc : Nat → ClassId} {E : Nat → va_E} {H : Heap} (hP : va_P D vwCl (wp b 166 (eAll (wX D b cc) b E)) H) : va_at D vwCl ((wX D b cc).2.1 35, cE (wX D b cc) 35 (t0 35)) H := P_at hP 135 (by decide) ew_35
theorem ea_36 {D : va_G} {b : Nat} {cc : Nat → ClassId} {E : Nat → va_E} {H : Heap} (hP : va_P D vwCl (wp b 166 (eAll (wX D b cc) b E)) H) : va_at D vwCl ((wX D b cc).2.1 36, cE (wX D b cc) 36 (t0 36)) H := P_at hP 136 (by decide) ew_36
theorem ea_37 {D : va_G} {b : Nat} {cc : Nat → ClassId} {E : Nat → va_E} {H : Heap} (hP : va_P D vwCl (wp b 166 (eAll (wX D b cc) b E)) H) : va_at D vwCl ((wX D b cc).2.1 37, cE (wX D b cc) 37 (t0 37)) H := P_at hP 137 (by decide) ew_37
theorem ea_38 {D : va_G} {b : Nat} {cc : Nat → ClassId} {E : Nat → va_E} {H : Heap} (hP : va_P D vwCl (wp b 166 (eAll (wX D b cc) b E)) H) : va_at D vwCl ((wX D b cc).2.1 38, cE (wX D b cc) 38 (t0 38)) H := P_at hP 138 (by decide) ew_38
theorem ea_39 {D : va_G} {b : Nat} {cc : Nat → ClassId} {E : Nat → va_E} {H : Heap} (hP : va_P D vwCl (wp b 166 (eAll (wX D b cc) b E)) H) : va_at D vwCl ((wX D b cc).2.1 39, cE (wX D b cc) 39 (t0 39)) H := P_at hP 139 (by decide) ew_39
theorem ea_40 {D : va_G} {b : Nat} {cc : Nat → ClassId} {E : Nat → va_E} {H : Heap} (hP : va_P D vwCl (wp b 166 (eAll (wX D b cc) b E)) H) : va_at D vwCl ((wX D b cc).2.1 40, cE (wX D b cc) 40 (t0 40)) H := P_at hP 140 (by decide) ew_40
theorem ea_41 {D : va_G} {b : Nat} {cc : Nat → ClassId} {E : Nat → va_E} {H : Heap} (hP : va_P D vwCl (wp b 166 (eAll (wX D b cc) b E)) H) : va_at D vwCl ((wX D b cc).2.1 41, cE (wX D b cc) 41 (t0 41)) H := P_at hP 141 (by decide) ew_41
theorem ea_42 {D : va_G} {b : Nat} {cc : Nat → ClassId} {E : Nat → va_E} {H : Heap} (hP : va_P D vwCl (wp b 166 (eAll (wX D b cc) b E)) H) : va_at D vwCl ((wX D b cc).2.1 42, cE (wX D b cc) 42 (t0 42)) H := P_at hP 142 (by decide) ew_42
theorem ea_43 {D : va_G} {b : Nat} {cc : Nat → ClassId} {E : Nat → va_E} {H : Heap} (hP : va_P D vwCl (wp b 166 (eAll (wX D b cc) b E)) H) : va_at D vwCl ((wX D b cc).2.1 43, cE (wX D b cc) 43 (t0 43)) H := P_at hP 143 (by decide) ew_43
theorem ea_44 {D : va_G} {b : Nat} {cc : Nat → ClassId} {E : Nat → va_E} {H : Heap} (hP : va_P D vwCl (wp b 166 (eAll (wX D b cc) b E)) H) : va_at D vwCl ((wX D b cc).2.1 44, cE (wX D b cc) 44 (t0 44)) H := P_at hP 28 (by decide) ew_44
theorem ea_45 {D : va_G} {b : Nat} {cc : Nat → ClassId} {E : Nat → va_E} {H : Heap} (hP : va_P D vwCl (wp b 166 (eAll (wX D b cc) b E)) H) : va_at D vwCl ((wX D b cc).2.1 45, cE (wX D b cc) 45 (t0 45)) H := P_at hP 29 (by decide) ew_45
theorem ea_46 {D : va_G} {b : Nat} {cc : Nat → ClassId} {E : Nat → va_E} {H : Heap} (hP : va_P D vwCl (wp b 166 (eAll (wX D b cc) b E)) H) : va_at D vwCl ((wX D b cc).2.1 46, cE (wX D b cc) 46 (t0 46)) H := P_at hP 30 (by decide) ew_46
theorem ea_47 {D : va_G} {b : Nat} {cc : Nat → ClassId} {E : Nat → va_E} {H : Heap} (hP : va_P D vwCl (wp b 166 (eAll (wX D b cc) b E)) H) : va_at D vwCl ((wX D b cc).2.1 47, cE (wX D b cc) 47 (t0 47)) H := P_at hP 31 (by decide) ew_47
theorem ea_48 {D : va_G} {b : Nat} {cc : Nat → ClassId} {E : Nat → va_E} {H : Heap} (hP : va_P D vwCl (wp b 166 (eAll (wX D b cc) b E)) H) : va_at D vwCl ((wX D b cc).2.1 48, cE (wX D b cc) 48 (t0 48)) H := P_at hP 32 (by decide) ew_48
theorem ea_49 {D : va_G} {b : Nat} {cc : Nat → ClassId} {E : Nat → va_E} {H : Heap} (hP : va_P D vwCl (wp b 166 (eAll (wX D b cc) b E)) H) : va_at D vwCl ((wX D b cc).2.1 49, cE (wX D b cc) 49 (t0 49)) H := P_at hP 33 (by decide) ew_49
theorem ea_50 {D : va_G} {b : Nat} {cc : Nat → ClassId} {E : Nat → va_E} {H : Heap} (hP : va_P D vwCl (wp b 166 (eAll (wX D b cc) b E)) H) : va_at D vwCl ((wX D b cc).2.1 50, cE (wX D b cc) 50 (t0 50)) H := P_at hP 34 (by decide) ew_50
theorem ea_51 {D : va_G} {b : Nat} {cc : Nat → ClassId} {E : Nat → va_E} {H : Heap} (hP : va_P D vwCl (wp b 166 (eAll (wX D b cc) b E)) H) : va_at D vwCl ((wX D b cc).2.1 51, cE (wX D b cc) 51 (t0 51)) H := P_at hP 35 (by decide) ew_51
theorem ea_52 {D : va_G} {b : Nat} {cc : Nat → ClassId} {E : Nat → va_E} {H : Heap} (hP : va_P D vwCl (wp b 166 (eAll (wX D b cc) b E)) H) : va_at D vwCl ((wX D b cc).2.1 52, cE (wX D b cc) 52 (t0 52)) H := P_at hP 36 (by decide) ew_52
theorem ea_53 {D : va_G} {b : Nat} {cc : Nat → ClassId} {E : Nat → va_E} {H : Heap} (hP : va_P D vwCl (wp b 166 (eAll (wX D b cc) b E)) H) : va_at D vwCl ((wX D b cc).2.1 53, cE (wX D b cc) 53 (t0 53)) H := P_at hP 37 (by decide) ew_53
theorem ea_54 {D : va_G} {b : Nat} {cc : Nat → ClassId} {E : Nat → va_E} {H : Heap} (hP : va_P D vwCl (wp b 166 (eAll (wX D b cc) b E)) H) : va_at D vwCl ((wX D b cc).2.1 54, cE (wX D b cc) 54 (t0 54)) H := P_at hP 40 (by decide) ew_54
theorem ea_55 {D : va_G} {b : Nat} {cc : Nat → ClassId} {E : Nat → va_E} {H : Heap} (hP : va_P D vwCl (wp b 166 (eAll (wX D b cc) b E)) H) : va_at D vwCl ((wX D b cc).2.1 55, cE (wX D b cc) 55 (t0 55)) H := P_at hP 41 (by decide) ew_55
theorem ea_56 {D : va_G} {b : Nat} {cc : Nat → ClassId} {E : Nat → va_E} {H : Heap} (hP : va_P D vwCl (wp b 166 (eAll (wX D b cc) b E)) H) : va_at D vwCl ((wX D b cc).2.1 56, cE (wX D b cc) 56 (t0 56)) H := P_at hP 42 (by decide) ew_56
theorem ea_57 {D : va_G} {b : Nat} {cc : Nat → ClassId} {E : Nat → va_E} {H : Heap} (hP : va_P D vwCl (wp b 166 (eAll (wX D b cc) b E)) H) : va_at D vwCl ((wX D b cc).2.1 57, cE (wX D b cc) 57 (t0 57)) H := P_at hP 43 (by decide) ew_57
theorem ea_58 {D : va_G} {b : Nat} {cc : Nat → ClassId} {E : Nat → va_E} {H : Heap} (hP : va_P D vwCl (wp b 166 (eAll (wX D b cc) b E)) H) : va_at D vwCl ((wX D b cc).2.1 58, cE (wX D b cc) 58 (t0 58)) H := P_at hP 44 (by decide) ew_58
theorem ea_59 {D : va_G} {b : Nat} {cc : Nat → ClassId} {E : Nat → va_E} {H : Heap} (hP : va_P D vwCl (wp b 166 (eAll (wX D b cc) b E)) H) : va_at D vwCl ((wX D b cc).2.1 59, cE (wX D b cc) 59 (t0 59)) H := P_at hP 45 (by decide) ew_59
theorem ea_60 {D : va_G} {b : Nat} {cc : Nat → ClassId} {E : Nat → va_E} {H : Heap} (hP : va_P D vwCl (wp b 166 (eAll (wX D b cc) b E)) H) : va_at D vwCl ((wX D b cc).2.1 60, cE (wX D b cc) 60 (t0 60)) H := P_at hP 46 (by decide) ew_60
theorem ea_61 {D : va_G} {b : Nat} {cc : Nat → ClassId} {E : Nat → va_E} {H : Heap} (hP : va_P D vwCl (wp b 166 (eAll (wX D b cc) b E)) H) : va_at D vwCl ((wX D b cc).2.1 61, cE (wX D b cc) 61 (t0 61)) H := P_at hP 47 (by decide) ew_61
theorem ea_62 {D : va_G} {b : Nat} {cc : Nat → ClassId} {E : Nat → va_E} {H : Heap} (hP : va_P D vwCl (wp b 166 (eAll (wX D b cc) b E)) H) : va_at D vwCl ((wX D b cc).2.1 62, cE (wX D b cc) 62 (t0 62)) H := P_at hP 48 (by decide) ew_62
theorem ea_63 {D : va_G} {b : Nat} {cc : Nat → ClassId} {E : Nat → va_E} {H : Heap} (hP : va_P D vwCl (wp b 166 (eAll (wX D b cc) b E)) H) : va_at D vwCl ((wX D b cc).2.1 63, cE (wX D b cc) 63 (t0 63)) H := P_at hP 49 (by decide) ew_63
theorem ea_64 {D : va_G} {b : Nat} {cc : Nat → ClassId} {E : Nat → va_E} {H : Heap} (hP : va_P D vwCl (wp b 166 (eAll (wX D b cc) b E)) H) : va_at D vwCl ((wX D b cc).2.1 64, cE (wX D b cc) 64 (t0 64)) H := P_at hP 50 (by decide) ew_64
theorem ea_65 {D : va_G} {b : Nat} {cc : Nat → ClassId} {E : Nat → va_E} {H : Heap} (hP : va_P D vwCl (wp b 166 (eAll (wX D b cc) b E)) H) : va_at D vwCl ((wX D b cc).2.1 65, cE (wX D b cc) 65 (t0 65)) H := P_at hP 51 (by decide) ew_65
theorem ea_66 {D : va_G} {b : Nat} {cc : Nat → ClassId} {E : Nat → va_E} {H : Heap} (hP : va_P D vwCl (wp b 166 (eAll (wX D b cc) b E)) H) : va_at D vwCl ((wX D b cc).2.1 66, cE (wX D b cc) 66 (t0 66)) H := P_at hP 52 (by decide) ew_66
theorem ea_67 {D : va_G} {b : Nat} {cc : Nat → ClassId} {E : Nat → va_E} {H : Heap} (hP : va_P D vwCl (wp b 166 (eAll (wX D b cc) b E)) H) : va_at D vwCl ((wX D b cc).2.1 67, cE (wX D b cc) 67 (t0 67)) H := P_at hP 53 (by decide) ew_67
theorem ea_68 {D : va_G} {b : Nat} {cc : Nat → ClassId} {E : Nat → va_E} {H : Heap} (hP : va_P D vwCl (wp b 166 (eAll (wX D b cc) b E)) H) : va_at D vwCl ((wX D b cc).2.1 68, cE (wX D b cc) 68 (t0 68)) H := P_at hP 54 (by decide) ew_68
theorem ea_69 {D : va_G} {b : Nat} {cc : Nat → ClassId} {E : Nat → va_E} {H : Heap} (hP : va_P D vwCl (wp b 166 (eAll (wX D b cc) b E)) H) : va_at D vwCl ((wX D b cc).2.1 69, cE (wX D b cc) 69 (t0 69)) H := P_at hP 55 (by decide) ew_69
theorem ea_70 {D : va_G} {b : Nat} {cc : Nat → ClassId} {E : Nat → va_E} {H : Heap} (hP : va_P D vwCl (wp b 166 (eAll (wX D b cc) b E)) H) : va_at D vwCl ((wX D b cc).2.1 70, cE (wX D b cc) 70 (t0 70)) H := P_at hP 56 (by decide) ew_70
theorem ea_71 {D : va_G} {b : Nat} {cc : Nat → ClassId} {E : Nat → va_E} {H : Heap} (hP : va_P D vwCl (wp b 166 (eAll (wX D b cc) b E)) H) : va_at D vwCl ((wX D b cc).2.1 71, cE (wX D b cc) 71 (t0 71)) H := P_at hP 57 (by decide) ew_71
theorem ea_72 {D : va_G} {b : Nat} {cc : Nat → ClassId} {E : Nat → va_E} {H : Heap} (hP : va_P D vwCl (wp b 166 (eAll (wX D b cc) b E)) H) : va_at D vwCl ((wX D b cc).2.1 72, cE (wX D b cc) 72 (t0 72)) H := P_at hP 58 (by decide) ew_72
theorem ea_73 {D : va_G} {b : Nat} {cc : Nat → ClassId} {E : Nat → va_E} {H : Heap} (hP : va_P D vwCl (wp b 166 (eAll (wX D b cc) b E)) H) : va_at D vwCl ((wX D b cc).2.1 73, cE (wX D b cc) 73 (t0 73)) H := P_at hP 59 (by decide) ew_73
theorem ea_74 {D : va_G} {b : Nat} {cc : Nat → ClassId} {E : Nat → va_E} {H : Heap} (hP : va_P D vwCl (wp b 166 (eAll (wX D b cc) b E)) H) : va_at D vwCl ((wX D b cc).2.1 74, cE (wX D b cc) 74 (t0 74)) H := P_at hP 60 (by decide) ew_74
theorem ea_75 {D : va_G} {b : Nat} {cc : Nat → ClassId} {E : Nat → va_E} {H : Heap} (hP : va_P D vwCl (wp b 166 (eAll (wX D b cc) b E)) H) : va_at D vwCl ((wX D b cc).2.1 75, cE (wX D b cc) 75 (t0 75)) H := P_at hP 61 (by decide) ew_75
theorem ea_76 {D : va_G} {b : Nat} {cc : Nat → ClassId} {E : Nat → va_E} {H : Heap} (hP : va_P D vwCl (wp b 166 (eAll (wX D b cc) b E)) H) : va_at D vwCl ((wX D b cc).2.1 76, cE (wX D b cc) 76 (t0 76)) H := P_at hP 62 (by decide) ew_76
theorem ea_77 {D : va_G} {b : Nat} {cc : Nat → ClassId} {E : Nat → va_E} {H : Heap} (hP : va_P D vwCl (wp b 166 (eAll (wX D b cc) b E)) H) : va_at D vwCl ((wX D b cc).2.1 77, cE (wX D b cc) 77 (t0 77)) H := P_at hP 63 (by decide) ew_77
theorem ea_78 {D : va_G} {b : Nat} {cc : Nat → ClassId} {E : Nat → va_E} {H : Heap} (hP : va_P D vwCl (wp b 166 (eAll (wX D b cc) b E)) H) : va_at D vwCl ((wX D b cc).2.1 78, cE (wX D b cc) 78 (t0 78)) H := P_at hP 64 (by decide) ew_78
theorem ea_79 {D : va_G} {b : Nat} {cc : Nat → ClassId} {E : Nat → va_E} {H : Heap} (hP : va_P D vwCl (wp b 166 (eAll (wX D b cc) b E)) H) : va_at D vwCl ((wX D b cc).2.1 79, cE (wX D b cc) 79 (t0 79)) H := P_at hP 65 (by decide) ew_79
theorem ea_80 {D : va_G} {b : Nat} {cc : Nat → ClassId} {E : Nat → va_E} {H : Heap} (hP : va_P D vwCl (wp b 166 (eAll (wX D b cc) b E)) H) : va_at D vwCl ((wX D b cc).2.1 80, cE (wX D b cc) 80 (t0 80)) H := P_at hP 66 (by decide) ew_80
theorem ea_81 {D : va_G} {b : Nat} {cc : Nat → ClassId} {E : Nat → va_E} {H : Heap} (hP : va_P D vwCl (wp b 166 (eAll (wX D b cc) b E)) H) : va_at D vwCl ((wX D b cc).2.1 81, cE (wX D b cc) 81 (t0 81)) H := P_at hP 67 (by decide) ew_81
theorem ea_82 {D : va_G} {b : Nat} {cc : Nat → ClassId} {E : Nat → va_E} {H : Heap} (hP : va_P D vwCl (wp b 166 (eAll (wX D b cc) b E)) H) : va_at D vwCl ((wX D b cc).2.1 82, cE (wX D b cc) 82 (t0 82)) H := P_at hP 68 (by decide) ew_82
theorem ea_83 {D : va_G} {b : Nat} {cc : Nat → ClassId} {E : Nat → va_E} {H : Heap} (hP : va_P D vwCl (wp b 166 (eAll (wX D b cc) b E)) H) : va_at D vwCl ((wX D b cc).2.1 83, cE (wX D b cc) 83 (t0 83)) H := P_at hP 69 (by decide) ew_83
theorem ea_84 {D : va_G} {b : Nat} {cc : Nat → ClassId} {E : Nat → va_E} {H : Heap} (hP : va_P D vwCl (wp b 166 (eAll (wX D b cc) b E)) H) : va_at D vwCl ((wX D b cc).2.1 84, cE (wX D b cc) 84 (t0 84)) H := P_at hP 70 (by decide) ew_84
theorem ea_85 {D : va_G} {b : Nat} {cc : Nat → ClassId} {E : Nat → va_E} {H : Heap} (hP : va_P D vwCl (wp b 166 (eAll (wX D b cc) b E)) H) : va_at D vwCl ((wX D b cc).2.1 85, cE (wX D b cc) 85 (t0 85)) H := P_at hP 71 (by decide) ew_85
theorem ea_86 {D : va_G} {b : Nat} {cc : Nat → ClassId} {E : Nat → va_E} {H : Heap} (hP : va_P D vwCl (wp b 166 (eAll (wX D b cc) b E)) H) : va_at D vwCl ((wX D b cc).2.1 86, cE (wX D b cc) 86 (t0 86)) H := P_at hP 72 (by decide) ew_86
theorem ea_87 {D : va_G} {b : Nat} {cc : Nat → ClassId} {E : Nat → va_E} {H : Heap} (hP : va_P D vwCl (wp b 166 (eAll (wX D b cc) b E)) H) : va_at D vwCl ((wX D b cc).2.1 87, cE (wX D b cc) 87 (t0 87)) H := P_at hP 73 (by decide) ew_87
theorem ea_88 {D : va_G} {b : Nat} {cc : Nat → ClassId} {E : Nat → va_E} {H : Heap} (hP : va_P D vwCl (wp b 166 (eAll (wX D b cc) b E)) H) : va_at D vwCl ((wX D b cc).2.1 88, cE (wX D b cc) 88 (t0 88)) H := P_at hP 74 (by decide) ew_88
theorem ea_89 {D : va_G} {b : Nat} {cc : Nat → ClassId} {E : Nat → va_E} {H : Heap} (hP : va_P D vwCl (wp b 166 (eAll (wX D b cc) b E)) H) : va_at D vwCl ((wX D b cc).2.1 89, cE (wX D b cc) 89 (t0 89)) H := P_at hP 75 (by decide) ew_89
theorem ea_90 {D : va_G} {b : Nat} {cc : Nat → ClassId} {E : Nat → va_E} {H : Heap} (hP : va_P D vwCl (wp b 166 (eAll (wX D b cc) b E)) H) : va_at D vwCl ((wX D b cc).2.1 90, cE (wX D b cc) 90 (t0 90)) H := P_at hP 76 (by decide) ew_90
theorem ea_91 {D : va_G} {b : Nat} {cc : Nat → ClassId} {E : Nat → va_E} {H : Heap} (hP : va_P D vwCl (wp b 166 (eAll (wX D b cc) b E)) H) : va_at D vwCl ((wX D b cc).2.1 91, cE (wX D b cc) 91 (t0 91)) H := P_at hP 77 (by decide) ew_91
theorem ea_92 {D : va_G} {b : Nat} {cc : Nat → ClassId} {E : Nat → va_E} {H : Heap} (hP : va_P D vwCl (wp b 166 (eAll (wX D b cc) b E)) H) : va_at D vwCl ((wX D b cc).2.1 92, cE (wX D b cc) 92 (t0 92)) H := P_at hP 78 (by decide) ew_92
theorem ea_93 {D : va_G} {b : Nat} {cc : Nat → ClassId} {E : Nat → va_E} {H : Heap} (hP : va_P D vwCl (wp b 166 (eAll (wX D b cc) b E)) H) : va_at D vwCl ((wX D b cc).2.1 93, cE (wX D b cc) 93 (t0 93)) H := P_at hP 79 (by decide) ew_93
theorem ea_94 {D : va_G} {b : Nat} {cc : Nat → ClassId} {E : Nat → va_E} {H : Heap} (hP : va_P D vwCl (wp b 166 (eAll (wX D b cc) b E)) H) : va_at D vwCl ((wX D b cc).2.1 94, cE (wX D b cc) 94 (t0 94)) H := P_at hP 80 (by decide) ew_94
theorem ea_95 {D : va_G} {b : Nat} {cc : Nat → ClassId} {E : Nat → va_E} {H : Heap} (hP : va_P D vwCl (wp b 166 (eAll (wX D b cc) b E)) H) : va_at D vwCl ((wX D b cc).2.1 95, cE (wX D b cc) 95 (t0 95)) H := P_at hP 81 (by decide) ew_95
theorem ea_96 {D : va_G} {b : Nat} {cc : Nat → ClassId} {E : Nat → va_E} {H : Heap} (hP : va_P D vwCl (wp b 166 (eAll (wX D b cc) b E)) H) : va_at D vwCl ((wX D b cc).2.1 96, cE (wX D b cc) 96 (t0 96)) H := P_at hP 82 (by decide) ew_96
theorem ea_97 {D : va_G} {b : Nat} {cc : Nat → ClassId} {E : Nat → va_E} {H : Heap} (hP : va_P D vwCl (wp b 166 (eAll (wX D b cc) b E)) H) : va_at D vwCl ((wX D b cc).2.1 97, cE (wX D b cc) 97 (t0 97)) H := P_at hP 83 (by decide) ew_97
theorem ea_98 {D : va_G} {b : Nat} {cc : Nat → ClassId} {E : Nat → va_E} {H : Heap} (hP : va_P D vwCl (wp b 166 (eAll (wX D b cc) b E)) H) : va_at D vwCl ((wX D b cc).2.1 98, cE (wX D b cc) 98 (t0 98)) H := P_at hP 84 (by decide) ew_98
theorem ea_99 {D : va_G} {b : Nat} {cc : Nat → ClassId} {E : Nat → va_E} {H : Heap} (hP : va_P D vwCl (wp b 166 (eAll (wX D b cc) b E)) H) : va_at D vwCl ((wX D b cc).2.1 99, cE (wX D b cc) 99 (t0 99)) H := P_at hP 85 (by decide) ew_99
theorem ea_100 {D : va_G} {b : Nat} {cc : Nat → ClassId} {E : Nat → va_E} {H : Heap} (hP : va_P D vwCl (wp b 166 (eAll (wX D b cc) b E)) H) : va_at D vwCl ((wX D b cc).2.1 100, cE (wX D b cc) 100 (t0 100)) H := P_at hP 86 (by decide) ew_100
theorem ea_101 {D : va_G} {b : Nat} {cc : Nat → ClassId} {E : Nat → va_E} {H : Heap} (hP : va_P D vwCl (wp b 166 (eAll (wX D b cc) b E)) H) : va_at D vwCl ((wX D b cc).2.1 101, cE (wX D b cc) 101 (t0 101)) H := P_at hP 87 (by decide) ew_101
theorem ea_102 {D : va_G} {b : Nat} {cc : Nat → ClassId} {E : Nat → va_E} {H : Heap} (hP : va_P D vwCl (wp b 166 (eAll (wX D b cc) b E)) H) : va_at D vwCl ((wX D b cc).2.1 102, cE (wX D b cc) 102 (t0 102)) H := P_at hP 88 (by decide) ew_102
theorem ea_103 {D : va_G} {b : Nat} {cc : Nat → ClassId} {E : Nat → va_E} {H : Heap} (hP : va_P D vwCl (wp b 166 (eAll (wX D b cc) b E)) H) : va_at D vwCl ((wX D b cc).2.1 103, cE (wX D b cc) 103 (t0 103)) H := P_at hP 89 (by decide) ew_103
theorem ea_104 {D : va_G} {b : Nat} {cc : Nat → ClassId} {E : Nat → va_E} {H : Heap} (hP : va_P D vwCl (wp b 166 (eAll (wX D b cc) b E)) H) : va_at D vwCl ((wX D b cc).2.1 104, cE (wX D b cc) 104 (t0 104)) H := P_at hP 90 (by decide) ew_104
theorem ea_105 {D : va_G} {b : Nat} {cc : Nat → ClassId} {E : Nat → va_E} {H : Heap} (hP : va_P D vwCl (wp b 166 (eAll (wX D b cc) b E)) H) : va_at D vwCl ((wX D b cc).2.1 105, cE (wX D b cc) 105 (t0 105)) H := P_at hP 91 (by decide) ew_105
theorem ea_106 {D : va_G} {b : Nat} {cc : Nat → ClassId} {E : Nat → va_E} {H : Heap} (hP : va_P D vwCl (wp b 166 (eAll (wX D b cc) b E)) H) : va_at D vwCl ((wX D b cc).2.1 106, cE (wX D b cc) 106 (t0 106)) H := P_at hP 92 (by decide) ew_106
theorem ea_107 {D : va_G} {b : Nat} {cc : Nat → ClassId} {E : Nat → va_E} {H : Heap} (hP : va_P D vwCl (wp b 166 (eAll (wX D b cc) b E)) H) : va_at D vwCl ((wX D b cc).2.1 107, cE (wX D b cc) 107 (t0 107)) H := P_at hP 93 (by decide) ew_107
theorem ea_108 {D : va_G} {b : Nat} {cc : Nat → ClassId} {E : Nat → va_E} {H : Heap} (hP : va_P D vwCl (wp b 166 (eAll (wX D b cc) b E)) H) : va_at D vwCl ((wX D b cc).2.1 108, cE (wX D b cc) 108 (t0 108)) H := P_at hP 94 (by decide) ew_108
theorem ea_109 {D : va_G} {b : Nat} {cc : Nat → ClassId} {E : Nat → va_E} {H : Heap} (hP : va_P D vwCl (wp b 166 (eAll (wX D b cc) b E)) H) : va_at D vwCl ((wX D b cc).2.1 109, cE (wX D b cc) 109 (t0 109)) H := P_at hP 95 (by decide) ew_109
theorem ea_110 {D : va_G} {b : Nat} {cc : Nat → ClassId} {E : Nat → va_E} {H : Heap} (hP : va_P D vwCl (wp b 166 (eAll (wX D b cc) b E)) H) : va_at D vwCl ((wX D b cc).2.1 110, cE (wX D b cc) 110 (t0 110)) H := P_at hP 96 (by decide) ew_110
theorem ea_111 {D : va_G} {b : Nat} {cc : Nat → ClassId} {E : Nat → va_E} {H : Heap} (hP : va_P D vwCl (wp b 166 (eAll (wX D b cc) b E)) H) : va_at D vwCl ((wX D b cc).2.1 111, cE (wX D b cc) 111 (t0 111)) H := P_at hP 97 (by decide) ew_111
theorem ea_112 {D : va_G} {b : Nat} {cc : Nat → ClassId} {E : Nat → va_E} {H : Heap} (hP : va_P D vwCl (wp b 166 (eAll (wX D b cc) b E)) H) : va_at D vwCl ((wX D b cc).2.1 112, cE (wX D b cc) 112 (t0 112)) H := P_at hP 98 (by decide) ew_112
theorem ea_113 {D : va_G} {b : Nat} {cc : Nat → ClassId} {E : Nat → va_E} {H : Heap} (hP : va_P D vwCl (wp b 166 (eAll (wX D b cc) b E)) H) : va_at D vwCl ((wX D b cc).2.1 113, cE (wX D b cc) 113 (t0 113)) H := P_at hP 99 (by decide) ew_113
theorem ea_114 {D : va_G} {b : Nat} {cc : Nat → ClassId} {E : Nat → va_E} {H : Heap} (hP : va_P D vwCl (wp b 166 (eAll (wX D b cc) b E)) H) : va_at D vwCl ((wX D b cc).2.1 114, cE (wX D b cc) 114 (t0 114)) H := P_at hP 100 (by decide) ew_114
theorem ea_115 {D : va_G} {b : Nat} {cc : Nat → ClassId} {E : Nat → va_E} {H : Heap} (hP : va_P D vwCl (wp b 166 (eAll (wX D b cc) b E)) H) : va_at D vwCl ((wX D b cc).2.1 115, cE (wX D b cc) 115 (t0 115)) H := P_at hP 101 (by decide) ew_115
theorem ea_116 {D : va_G} {b : Nat} {cc : Nat → ClassId} {E : Nat → va_E} {H : Heap} (hP : va_P D vwCl (wp b 166 (eAll (wX D b cc) b E)) H) : va_at D vwCl ((wX D b cc).2.1 116, cE (wX D b cc) 116 (t0 116)) H := P_at hP 102 (by decide) ew_116
theorem ea_117 {D : va_G} {b : Nat} {cc : Nat → ClassId} {E : Nat → va_E} {H : Heap} (hP : va_P D vwCl (wp b 166 (eAll (wX D b cc) b E)) H) : va_at D vwCl ((wX D b cc).2.1 117, cE (wX D b cc) 117 (t0 117)) H := P_at hP 103 (by decide) ew_117
theorem ea_118 {D : va_G} {b : Nat} {cc : Nat → ClassId} {E : Nat → va_E} {H : Heap} (hP : va_P D vwCl (wp b 166 (eAll (wX D b cc) b E)) H) : va_at D vwCl ((wX D b cc).2.1 118, cE (wX D b cc) 118 (t0 118)) H := P_at hP 104 (by decide) ew_118
theorem ea_119 {D : va_G} {b : Nat} {cc : Nat → ClassId} {E : Nat → va_E} {H : Heap} (hP : va_P D vwCl (wp b 166 (eAll (wX D b cc) b E)) H) : va_at D vwCl ((wX D b cc).2.1 119, cE (wX D b cc) 119 (t0 119)) H := P_at hP 105 (by decide) ew_119
theorem ea_120 {D : va_G} {b : Nat} {cc : Nat → ClassId} {E : Nat → va_E} {H : Heap} (hP : va_P D vwCl (wp b 166 (eAll (wX D b cc) b E)) H) : va_at D vwCl ((wX D b cc).2.1 120, cE (wX D b cc) 120 (t0 120)) H := P_at hP 106 (by decide) ew_120
theorem ea_121 {D : va_G} {b : Nat} {cc : Nat → ClassId} {E : Nat → va_E} {H : Heap} (hP : va_P D vwCl (wp b 166 (eAll (wX D b cc) b E)) H) : va_at D vwCl ((wX D b cc).2.1 121, cE (wX D b cc) 121 (t0 121)) H := P_at hP 107 (by decide) ew_121
theorem ea_122 {D : va_G} {b : Nat} {cc : Nat → ClassId} {E : Nat → va_E} {H : Heap} (hP : va_P D vwCl (wp b 166 (eAll (wX D b cc) b E)) H) : va_at D vwCl ((wX D b cc).2.1 122, cE (wX D b cc) 122 (t0 122)) H := P_at hP 108 (by decide) ew_122
theorem ea_123 {D : va_G} {b : Nat} {cc : Nat → ClassId} {E : Nat → va_E} {H : Heap} (hP : va_P D vwCl (wp b 166 (eAll (wX D b cc) b E)) H) : va_at D vwCl ((wX D b cc).2.1 123, cE (wX D b cc) 123 (t0 123)) H := P_at hP 109 (by decide) ew_123
theorem ea_124 {D : va_G} {b : Nat} {cc : Nat → ClassId} {E : Nat → va_E} {H : Heap} (hP : va_P D vwCl (wp b 166 (eAll (wX D b cc) b E)) H) : va_at D vwCl ((wX D b cc).2.1 124, cE (wX D b cc) 124 (t0 124)) H := P_at hP 110 (by decide) ew_124
theorem ea_125 {D : va_G} {b : Nat} {cc : Nat → ClassId} {E : Nat → va_E} {H : Heap} (hP : va_P D vwCl (wp b 166 (eAll (wX D b cc) b E)) H) : va_at D vwCl ((wX D b cc).2.1 125, cE (wX D b cc) 125 (t0 125)) H := P_at hP 111 (by decide) ew_125
theorem ea_126 {D : va_G} {b : Nat} {cc : Nat → ClassId} {E : Nat → va_E} {H : Heap} (hP : va_P D vwCl (wp b 166 (eAll (wX D b cc) b E)) H) : va_at D vwCl ((wX D b cc).2.1 126, cE (wX D b cc) 126 (t0 126)) H := P_at hP 112 (by decide) ew_126
theorem ea_127 {D : va_G} {b : Nat} {cc : Nat → ClassId} {E : Nat → va_E} {H : Heap} (hP : va_P D vwCl (wp b 166 (eAll (wX D b cc) b E)) H) : va_at D vwCl ((wX D b cc).2.1 127, cE (wX D b cc) 127 (t0 127)) H := P_at hP 113 (by decide) ew_127
theorem ea_128 {D : va_G} {b : Nat} {cc : Nat → ClassId} {E : Nat → va_E} {H : Heap} (hP : va_P D vwCl (wp b 166 (eAll (wX D b cc) b E)) H) : va_at D vwCl ((wX D b cc).2.1 128, cE (wX D b cc) 128 (t0 128)) H := P_at hP 114 (by decide) ew_128
theorem ea_129 {D : va_G} {b : Nat} {cc : Nat → ClassId} {E : Nat → va_E} {H : Heap} (hP : va_P D vwCl (wp b 166 (eAll (wX D b cc) b E)) H) : va_at D vwCl ((wX D b cc).2.1 129, cE (wX D b cc) 129 (t0 129)) H := P_at hP 115 (by decide) ew_129
theorem ea_130 {D : va_G} {b : Nat} {cc : Nat → ClassId} {E : Nat → va_E} {H : Heap} (hP : va_P D vwCl (wp b 166 (eAll (wX D b cc) b E)) H) : va_at D vwCl ((wX D b cc).2.1 130, cE (wX D b cc) 130 (t0 130)) H := P_at hP 116 (by decide) ew_130
theorem ea_131 {D : va_G} {b : Nat} {cc : Nat → ClassId} {E : Nat → va_E} {H : Heap} (hP : va_P D vwCl (wp b 166 (eAll (wX D b cc) b E)) H) : va_at D vwCl ((wX D b cc).2.1 131, cE (wX D b cc) 131 (t0 131)) H := P_at hP 117 (by decide) ew_131
theorem ea_132 {D : va_G} {b : Nat} {cc : Nat → ClassId} {E : Nat → va_E} {H : Heap} (hP : va_P D vwCl (wp b 166 (eAll (wX D b cc) b E)) H) : va_at D vwCl ((wX D b cc).2.1 132, cE (wX D b cc) 132 (t0 132)) H := P_at hP 118 (by decide) ew_132
theorem ea_133 {D : va_G} {b : Nat} {cc : Nat → ClassId} {E : Nat → va_E} {H : Heap} (hP : va_P D vwCl (wp b 166 (eAll (wX D b cc) b E)) H) : va_at D vwCl ((wX D b cc).2.1 133, cE (wX D b cc) 133 (t0 133)) H := P_at hP 119 (by decide) ew_133
theorem ea_134 {D : va_G} {b : Nat} {cc : Nat → ClassId} {E : Nat → va_E} {H : Heap} (hP : va_P D vwCl (wp b 166 (eAll (wX D b cc) b E)) H) : va_at D vwCl ((wX D b cc).2.1 134, cE (wX D b cc) 134 (t0 134)) H := P_at hP 9 (by decide) ew_134
theorem ea_135 {D : va_G} {b : Nat} {cc : Nat → ClassId} {E : Nat → va_E} {H : Heap} (hP : va_P D vwCl (wp b 166 (eAll (wX D b cc) b E)) H) : va_at D vwCl ((wX D b cc).2.1 135, cE (wX D b cc) 135 (t0 135)) H := P_at hP 10 (by decide) ew_135
theorem ea_136 {D : va_G} {b : Nat} {cc : Nat → ClassId} {E : Nat → va_E} {H : Heap} (hP : va_P D vwCl (wp b 166 (eAll (wX D b cc) b E)) H) : va_at D vwCl ((wX D b cc).2.1 136, cE (wX D b cc) 136 (t0 136)) H := P_at hP 11 (by decide) ew_136
theorem ea_137 {D : va_G} {b : Nat} {cc : Nat → ClassId} {E : Nat → va_E} {H : Heap} (hP : va_P D vwCl (wp b 166 (eAll (wX D b cc) b E)) H) : va_at D vwCl ((wX D b cc).2.1 137, cE (wX D b cc) 137 (t0 137)) H := P_at hP 12 (by decide) ew_137
theorem ea_138 {D : va_G} {b : Nat} {cc : Nat → ClassId} {E : Nat → va_E} {H : Heap} (hP : va_P D vwCl (wp b 166 (eAll (wX D b cc) b E)) H) : va_at D vwCl ((wX D b cc).2.1 138, cE (wX D b cc) 138 (t0 138)) H := P_at hP 13 (by decide) ew_138
theorem ea_139 {D : va_G} {b : Nat} {cc : Nat → ClassId} {E : Nat → va_E} {H : Heap} (hP : va_P D vwCl (wp b 166 (eAll (wX D b cc) b E)) H) : va_at D vwCl ((wX D b cc).2.1 139, cE (wX D b cc) 139 (t0 139)) H := P_at hP 15 (by decide) ew_139
theorem ea_140 {D : va_G} {b : Nat} {cc : Nat → ClassId} {E : Nat → va_E} {H : Heap} (hP : va_P D vwCl (wp b 166 (eAll (wX D b cc) b E)) H) : va_at D vwCl ((wX D b cc).2.1 140, cE (wX D b cc) 140 (t0 140)) H := P_at hP 16 (by decide) ew_140
theorem ea_141 {D : va_G} {b : Nat} {cc : Nat → ClassId} {E : Nat → va_E} {H : Heap} (hP : va_P D vwCl (wp b 166 (eAll (wX D b cc) b E)) H) : va_at D vwCl ((wX D b cc).2.1 141, cE (wX D b cc) 141 (t0 141)) H := P_at hP 17 (by decide) ew_141
theorem ea_142 {D : va_G} {b : Nat} {cc : Nat → ClassId} {E : Nat → va_E} {H : Heap} (hP : va_P D vwCl (wp b 166 (eAll (wX D b cc) b E)) H) : va_at D vwCl ((wX D b cc).2.1 142, cE (wX D b cc) 142 (t0 142)) H := P_at hP 18 (by decide) ew_142
theorem ea_143 {D : va_G} {b : Nat} {cc : Nat → ClassId} {E : Nat → va_E} {H : Heap} (hP : va_P D vwCl (wp b 166 (eAll (wX D b cc) b E)) H) : va_at D vwCl ((wX D b cc).2.1 143, cE (wX D b cc) 143 (t0 143)) H := P_at hP 19 (by decide) ew_143
theorem ea_144 {D : va_G} {b : Nat} {cc : Nat → ClassId} {E : Nat → va_E} {H : Heap} (hP : va_P D vwCl (wp b 166 (eAll (wX D b cc) b E)) H) : va_at D vwCl ((wX D b cc).2.1 144, cE (wX D b cc) 144 (t0 144)) H := P_at hP 144 (by decide) ew_144
theorem ea_145 {D : va_G} {b : Nat} {cc : Nat → ClassId} {E : Nat → va_E} {H : Heap} (hP : va_P D vwCl (wp b 166 (eAll (wX D b cc) b E)) H) : va_at D vwCl ((wX D b cc).2.1 145, cE (wX D b cc) 145 (t0 145)) H := P_at hP 145 (by decide) ew_145
theorem ea_146 {D : va_G} {b : Nat} {cc : Nat → ClassId} {E : Nat → va_E} {H : Heap} (hP : va_P D vwCl (wp b 166 (eAll (wX D b cc) b E)) H) : va_at D vwCl ((wX D b cc).2.1 146, cE (wX D b cc) 146 (t0 146)) H := P_at hP 146 (by decide) ew_146
theorem ea_147 {D : va_G} {b : Nat} {cc : Nat → ClassId} {E : Nat → va_E} {H : Heap} (hP : va_P D vwCl (wp b 166 (eAll (wX D b cc) b E)) H) : va_at D vwCl ((wX D b cc).2.1 147, cE (wX D b cc) 147 (t0 147)) H := P_at hP 147 (by decide) ew_147
theorem ea_148 {D : va_G} {b : Nat} {cc : Nat → ClassId} {E : Nat → va_E} {H : Heap} (hP : va_P D vwCl (wp b 166 (eAll (wX D b cc) b E)) H) : va_at D vwCl ((wX D b cc).2.1 148, cE (wX D b cc) 148 (t0 148)) H := P_at hP 148 (by decide) ew_148
theorem ea_149 {D : va_G} {b : Nat} {cc : Nat → ClassId} {E : Nat → va_E} {H : Heap} (hP : va_P D vwCl (wp b 166 (eAll (wX D b cc) b E)) H) : va_at D vwCl ((wX D b cc).2.1 149, cE (wX D b cc) 149 (t0 149)) H := P_at hP 149 (by decide) ew_149
theorem ea_150 {D : va_G} {b : Nat} {cc : Nat → ClassId} {E : Nat → va_E} {H : Heap} (hP : va_P D vwCl (wp b 166 (eAll (wX D b cc) b E)) H) : va_at D vwCl ((wX D b cc).2.1 150, cE (wX D b cc) 150 (t0 150)) H := P_at hP 150 (by decide) ew_150
theorem ea_151 {D : va_G} {b : Nat} {cc : Nat → ClassId} {E : Nat → va_E} {H : Heap} (hP : va_P D vwCl (wp b 166 (eAll (wX D b cc) b E)) H) : va_at D vwCl ((wX D b cc).2.1 151, cE (wX D b cc) 151 (t0 151)) H := P_at hP 151 (by decide) ew_151
theorem ea_152 {D : va_G} {b : Nat} {cc : Nat → ClassId} {E : Nat → va_E} {H : Heap} (hP : va_P D vwCl (wp b 166 (eAll (wX D b cc) b E)) H) : va_at D vwCl ((wX D b cc).2.1 152, cE (wX D b cc) 152 (t0 152)) H := P_at hP 152 (by decide) ew_152
theorem ea_153 {D : va_G} {b : Nat} {cc : Nat → ClassId} {E : Nat → va_E} {H : Heap} (hP : va_P D vwCl (wp b 166 (eAll (wX D b cc) b E)) H) : va_at D vwCl ((wX D b cc).2.1 153, cE (wX D b cc) 153 (t0 153)) H := P_at hP 153 (by decide) ew_153
theorem ea_154 {D : va_G} {b : Nat} {cc : Nat → ClassId} {E : Nat → va_E} {H : Heap} (hP : va_P D vwCl (wp b 166 (eAll (wX D b cc) b E)) H) : va_at D vwCl ((wX D b cc).2.1 154, cE (wX D b cc) 154 (t0 154)) H := P_at hP 154 (by decide) ew_154
theorem ea_155 {D : va_G} {b : Nat} {cc : Nat → ClassId} {E : Nat → va_E} {H : Heap} (hP : va_P D vwCl (wp b 166 (eAll (wX D b cc) b E)) H) : va_at D vwCl ((wX D b cc).2.1 155, cE (wX D b cc) 155 (t0 155)) H := P_at hP 155 (by decide) ew_155
theorem ea_156 {D : va_G} {b : Nat} {cc : Nat → ClassId} {E : Nat → va_E} {H : Heap} (hP : va_P D vwCl (wp b 166 (eAll (wX D b cc) b E)) H) : va_at D vwCl ((wX D b cc).2.1 156, cE (wX D b cc) 156 (t0 156)) H := P_at hP 156 (by decide) ew_156
theorem ea_157 {D : va_G} {b : Nat} {cc : Nat → ClassId} {E : Nat → va_E} {H : Heap} (hP : va_P D vwCl (wp b 166 (eAll (wX D b cc) b E)) H) : va_at D vwCl ((wX D b cc).2.1 157, cE (wX D b cc) 157 (t0 157)) H := P_at hP 157 (by decide) ew_157
theorem ea_158 {D : va_G} {b : Nat} {cc : Nat → ClassId} {E : Nat → va_E} {H : Heap} (hP : va_P D vwCl (wp b 166 (eAll (wX D b cc) b E)) H) : va_at D vwCl ((wX D b cc).2.1 158, cE (wX D b cc) 158 (t0 158)) H := P_at hP 158 (by decide) ew_158
theorem ea_159 {D : va_G} {b : Nat} {cc : Nat → ClassId} {E : Nat → va_E} {H : Heap} (hP : va_P D vwCl (wp b 166 (eAll (wX D b cc) b E)) H) : va_at D vwCl ((wX D b cc).2.1 159, cE (wX D b cc) 159 (t0 159)) H := P_at hP 159 (by decide) ew_159
theorem ea_160 {D : va_G} {b : Nat} {cc : Nat → ClassId} {E : Nat → va_E} {H : Heap} (hP : va_P D vwCl (wp b 166 (eAll (wX D b cc) b E)) H) : va_at D vwCl ((wX D b cc).2.1 160, cE (wX D b cc) 160 (t0 160)) H := P_at hP 160 (by decide) ew_160
theorem ea_161 {D : va_G} {b : Nat} {cc : Nat → ClassId} {E : Nat → va_E} {H : Heap} (hP : va_P D vwCl (wp b 166 (eAll (wX D b cc) b E)) H) : va_at D vwCl ((wX D b cc).2.1 161, cE (wX D b cc) 161 (t0 161)) H := P_at hP 161 (by decide) ew_161
theorem ea_162 {D : va_G} {b : Nat} {cc : Nat → ClassId} {E : Nat → va_E} {H : Heap} (hP : va_P D vwCl (wp b 166 (eAll (wX D b cc) b E)) H) : va_at D vwCl ((wX D b cc).2.1 162, cE (wX D b cc) 162 (t0 162)) H := P_at hP 162 (by decide) ew_162
theorem ea_163 {D : va_G} {b : Nat} {cc : Nat → ClassId} {E : Nat → va_E} {H : Heap} (hP : va_P D vwCl (wp b 166 (eAll (wX D b cc) b E)) H) : va_at D vwCl ((wX D b cc).2.1 163, cE (wX D b cc) 163 (t0 163)) H := P_at hP 163 (by decide) ew_163
theorem ea_164 {D : va_G} {b : Nat} {cc : Nat → ClassId} {E : Nat → va_E} {H : Heap} (hP : va_P D vwCl (wp b 166 (eAll (wX D b cc) b E)) H) : va_at D vwCl ((wX D b cc).2.1 164, cE (wX D b cc) 164 (t0 164)) H := P_at hP 164 (by decide) ew_164
theorem ea_165 {D : va_G} {b : Nat} {cc : Nat → ClassId} {E : Nat → va_E} {H : Heap} (hP : va_P D vwCl (wp b 166 (eAll (wX D b cc) b E)) H) : va_at D vwCl ((wX D b cc).2.1 165, cE (wX D b cc) 165 (t0 165)) H := P_at hP 165 (by decide) ew_165
theorem ew_at {D : va_G} {b : Nat} {cc : Nat → ClassId} {E : Nat → va_E} {H : Heap} (hP : va_P D vwCl (wp b 166 (eAll (wX D b cc) b E)) H) : ∀ o, o < 166 → va_at D vwCl ((wX D b cc).2.1 o, cE (wX D b cc) o (t0 o)) H := by
  refine lt_s ?_ (ea_165 hP)
  refine lt_s ?_ (ea_164 hP)
  refine lt_s ?_ (ea_163 hP)
  refine lt_s ?_ (ea_162 hP)
  refine lt_s ?_ (ea_161 hP)
  refine lt_s ?_ (ea_160 hP)
  refine lt_s ?_ (ea_159 hP)
  refine lt_s ?_ (ea_158 hP)
  refine lt_s ?_ (ea_157 hP)
  refine lt_s ?_ (ea_156 hP)
  refine lt_s ?_ (ea_155 hP)
  refine lt_s ?_ (ea_154 hP)
  refine lt_s ?_ (ea_153 hP)
  refine lt_s ?_ (ea_152 hP)
  refine lt_s ?_ (ea_151 hP)
  refine lt_s ?_ (ea_150 hP)
  refine lt_s ?_ (ea_149 hP)
  refine lt_s ?_ (ea_148 hP)
  refine lt_s ?_ (ea_147 hP)
  refine lt_s ?_ (ea_146 hP)
  refine lt_s ?_ (ea_145 hP)
  refine lt_s ?_ (ea_144 hP)
  refine lt_s ?_ (ea_143 hP)
  refine lt_s ?_ (ea_142 hP)
  refine lt_s ?_ (ea_141 hP)
  refine lt_s ?_ (ea_140 hP)
  refine lt_s ?_ (ea_139 hP)
  refine lt_s ?_ (ea_138 hP)
  refine lt_s ?_ (ea_137 hP)
  refine lt_s ?_ (ea_136 hP)
  refine lt_s ?_ (ea_135 hP)
  refine lt_s ?_ (ea_134 hP)
  refine lt_s ?_ (ea_133 hP)
  refine lt_s ?_ (ea_132 hP)
  refine lt_s ?_ (ea_131 hP)
  refine lt_s ?_ (ea_130 hP)
  refine lt_s ?_ (ea_129 hP)
  refine lt_s ?_ (ea_128 hP)
  refine lt_s ?_ (ea_127 hP)
  refine lt_s ?_ (ea_126 hP)
  refine lt_s ?_ (ea_125 hP)
  refine lt_s ?_ (ea_124 hP)
  refine lt_s ?_ (ea_123 hP)
  refine lt_s ?_ (ea_122 hP)
  refine lt_s ?_ (ea_121 hP)
  refine lt_s ?_ (ea_120 hP)
  refine lt_s ?_ (ea_119 hP)
  refine lt_s ?_ (ea_118 hP)
  refine lt_s ?_ (ea_117 hP)
  refine lt_s ?_ (ea_116 hP)
  refine lt_s ?_ (ea_115 hP)
  refine lt_s ?_ (ea_114 hP)
  refine lt_s ?_ (ea_113 hP)
  refine lt_s ?_ (ea_112 hP)
  refine lt_s ?_ (ea_111 hP)
  refine lt_s ?_ (ea_110 hP)
  refine lt_s ?_ (ea_109 hP)
  refine lt_s ?_ (ea_108 hP)
  refine lt_s ?_ (ea_107 hP)
  refine lt_s ?_ (ea_106 hP)
  refine lt_s ?_ (ea_105 hP)
  refine lt_s ?_ (ea_104 hP)
  refine lt_s ?_ (ea_103 hP)
  refine lt_s ?_ (ea_102 hP)
  refine lt_s ?_ (ea_101 hP)
  refine lt_s ?_ (ea_100 hP)
  refine lt_s ?_ (ea_99 hP)
  refine lt_s ?_ (ea_98 hP)
  refine lt_s ?_ (ea_97 hP)
  refine lt_s ?_ (ea_96 hP)
  refine lt_s ?_ (ea_95 hP)
  refine lt_s ?_ (ea_94 hP)
  refine lt_s ?_ (ea_93 hP)
  refine lt_s ?_ (ea_92 hP)
  refine lt_s ?_ (ea_91 hP)
  refine lt_s ?_ (ea_90 hP)
  refine lt_s ?_ (ea_89 hP)
  refine lt_s ?_ (ea_88 hP)
  refine lt_s ?_ (ea_87 hP)
  refine lt_s ?_ (ea_86 hP)
  refine lt_s ?_ (ea_85 hP)
  refine lt_s ?_ (ea_84 hP)
  refine lt_s ?_ (ea_83 hP)
  refine lt_s ?_ (ea_82 hP)
  refine lt_s ?_ (ea_81 hP)
  refine lt_s ?_ (ea_80 hP)
  refine lt_s ?_ (ea_79 hP)
  refine lt_s ?_ (ea_78 hP)
  refine lt_s ?_ (ea_77 hP)
  refine lt_s ?_ (ea_76 hP)
  refine lt_s ?_ (ea_75 hP)
  refine lt_s ?_ (ea_74 hP)
  refine lt_s ?_ (ea_73 hP)
  refine lt_s ?_ (ea_72 hP)
  refine lt_s ?_ (ea_71 hP)
  refine lt_s ?_ (ea_70 hP)
  refine lt_s ?_ (ea_69 hP)
  refine lt_s ?_ (ea_68 hP)
  refine lt_s ?_ (ea_67 hP)
  refine lt_s ?_ (ea_66 hP)
  refine lt_s ?_ (ea_65 hP)
  refine lt_s ?_ (ea_64 hP)
  refine lt_s ?_ (ea_63 hP)
  refine lt_s ?_ (ea_62 hP)
  refine lt_s ?_ (ea_61 hP)
  refine lt_s ?_ (ea_60 hP)
  refine lt_s ?_ (ea_59 hP)
  refine lt_s ?_ (ea_58 hP)
  refine lt_s ?_ (ea_57 hP)
  refine lt_s ?_ (ea_56 hP)
  refine lt_s ?_ (ea_55 hP)
  refine lt_s ?_ (ea_54 hP)
  refine lt_s ?_ (ea_53 hP)
  refine lt_s ?_ (ea_52 hP)
  refine lt_s ?_ (ea_51 hP)
  refine lt_s ?_ (ea_50 hP)
  refine lt_s ?_ (ea_49 hP)
  refine lt_s ?_ (ea_48 hP)
  refine lt_s ?_ (ea_47 hP)
  refine lt_s ?_ (ea_46 hP)
  refine lt_s ?_ (ea_45 hP)
  refine lt_s ?_ (ea_44 hP)
  refine lt_s ?_ (ea_43 hP)
  refine lt_s ?_ (ea_42 hP)
  refine lt_s ?_ (ea_41 hP)
  refine lt_s ?_ (ea_40 hP)
  refine lt_s ?_ (ea_39 hP)
  refine lt_s ?_ (ea_38 hP)
  refine lt_s ?_ (ea_37 hP)
  refine lt_s ?_ (ea_36 hP)
  refine lt_s ?_ (ea_35 hP)
  refine lt_s ?_ (ea_34 hP)
  refine lt_s ?_ (ea_33 hP)
  refine lt_s ?_ (ea_32 hP)
  refine lt_s ?_ (ea_31 hP)
  refine lt_s ?_ (ea_30 hP)
  refine lt_s ?_ (ea_29 hP)
  refine lt_s ?_ (ea_28 hP)
  refine lt_s ?_ (ea_27 hP)
  refine lt_s ?_ (ea_26 hP)
  refine lt_s ?_ (ea_25 hP)
  refine lt_s ?_ (ea_24 hP)
  refine lt_s ?_ (ea_23 hP)
  refine lt_s ?_ (ea_22 hP)
  refine lt_s ?_ (ea_21 hP)
  refine lt_s ?_ (ea_20 hP)
  refine lt_s ?_ (ea_19 hP)
  refine lt_s ?_ (ea_18 hP)
  refine lt_s ?_ (ea_17 hP)
  refine lt_s ?_ (ea_16 hP)
  refine lt_s ?_ (ea_15 hP)
  refine lt_s ?_ (ea_14 hP)
  refine lt_s ?_ (ea_13 hP)
  refine lt_s ?_ (ea_12 hP)
  refine lt_s ?_ (ea_11 hP)
  refine lt_s ?_ (ea_10 hP)
  refine lt_s ?_ (ea_9 hP)
  refine lt_s ?_ (ea_8 hP)
  refine lt_s ?_ (ea_7 hP)
  refine lt_s ?_ (ea_6 hP)
  refine lt_s ?_ (ea_5 hP)
  refine lt_s ?_ (ea_4 hP)
  refine lt_s ?_ (ea_3 hP)
  refine lt_s ?_ (ea_2 hP)
  refine lt_s ?_ (ea_1 hP)
  refine lt_s ?_ (ea_0 hP)
  exact lt_0
theorem nest_in : ∀ w ∈ nestW, w ∈ lw_tbl := List.forall_mem_cons.mpr ⟨tq_1 26 rfl, List.forall_mem_cons.mpr ⟨tq_1 31 rfl, List.forall_mem_cons.mpr ⟨tq_1 32 rfl, List.forall_mem_cons.mpr ⟨tq_1 34 rfl, List.forall_mem_cons.mpr ⟨tq_1 35 rfl, List.forall_mem_cons.mpr ⟨tq_1 36 rfl, List.forall_mem_cons.mpr ⟨tq_1 37 rfl, List.forall_mem_cons.mpr ⟨tq_1 38 rfl, List.forall_mem_cons.mpr ⟨tq_1 40 rfl, List.forall_mem_cons.mpr ⟨tq_1 41 rfl, List.forall_mem_cons.mpr ⟨tq_1 42 rfl, List.forall_mem_cons.mpr ⟨tq_1 44 rfl, List.forall_mem_cons.mpr ⟨tq_1 45 rfl, List.forall_mem_cons.mpr ⟨tq_1 46 rfl, List.forall_mem_cons.mpr ⟨tq_1 47 rfl, List.forall_mem_cons.mpr ⟨tq_1 48 rfl, List.forall_mem_cons.mpr ⟨tq_1 50 rfl, List.forall_mem_cons.mpr ⟨tq_1 51 rfl, List.forall_mem_cons.mpr ⟨tq_1 52 rfl, List.forall_mem_cons.mpr ⟨tq_1 54 rfl, List.forall_mem_cons.mpr ⟨tq_1 55 rfl, List.forall_mem_cons.mpr ⟨tq_1 57 rfl, List.forall_mem_cons.mpr ⟨tq_1 59 rfl, List.forall_mem_cons.mpr ⟨tq_1 61 rfl, List.forall_mem_cons.mpr ⟨tq_1 62 rfl, List.forall_mem_cons.mpr ⟨tq_1 64 rfl, List.forall_mem_cons.mpr ⟨tq_1 101 rfl, List.forall_mem_cons.mpr ⟨tq_1 103 rfl, List.forall_mem_cons.mpr ⟨tq_1 104 rfl, List.forall_mem_cons.mpr ⟨tq_1 106 rfl, List.forall_mem_cons.mpr ⟨tq_1 108 rfl, List.forall_mem_cons.mpr ⟨tq_1 110 rfl, List.forall_mem_cons.mpr ⟨tq_1 112 rfl, List.forall_mem_cons.mpr ⟨tq_1 114 rfl, List.forall_mem_cons.mpr ⟨tq_1 115 rfl, List.forall_mem_cons.mpr ⟨tq_1 117 rfl, List.forall_mem_cons.mpr ⟨tq_1 119 rfl, List.forall_mem_cons.mpr ⟨tq_1 140 rfl, List.forall_mem_cons.mpr ⟨tq_1 142 rfl, List.forall_mem_cons.mpr ⟨tq_1 144 rfl, List.forall_mem_cons.mpr ⟨tq_1 154 rfl, List.forall_mem_cons.mpr ⟨tq_1 160 rfl, List.forall_mem_cons.mpr ⟨tq_1 164 rfl, List.forall_mem_cons.mpr ⟨tq_1 190 rfl, List.forall_mem_cons.mpr ⟨tq_1 200 rfl, List.forall_mem_cons.mpr ⟨tq_1 209 rfl, List.forall_mem_cons.mpr ⟨tq_1 211 rfl, List.forall_mem_cons.mpr ⟨tq_1 227 rfl, List.forall_mem_cons.mpr ⟨tq_1 232 rfl, List.forall_mem_cons.mpr ⟨tq_1 234 rfl, List.forall_mem_cons.mpr ⟨tq_2 14 rfl, List.forall_mem_cons.mpr ⟨tq_2 16 rfl, List.forall_mem_cons.mpr ⟨tq_2 36 rfl, List.forall_mem_cons.mpr ⟨tq_2 39 rfl, List.forall_mem_cons.mpr ⟨tq_2 55 rfl, List.forall_mem_cons.mpr ⟨tq_2 60 rfl, List.forall_mem_cons.mpr ⟨tq_3 13 rfl, List.forall_mem_cons.mpr ⟨tq_3 34 rfl, List.forall_mem_cons.mpr ⟨tq_3 226 rfl, List.forall_mem_cons.mpr ⟨tq_4 10 rfl, fun _ h => absurd h List.not_mem_nil⟩⟩⟩⟩⟩⟩⟩⟩⟩⟩⟩⟩⟩⟩⟩⟩⟩⟩⟩⟩⟩⟩⟩⟩⟩⟩⟩⟩⟩⟩⟩⟩⟩⟩⟩⟩⟩⟩⟩⟩⟩⟩⟩⟩⟩⟩⟩⟩⟩⟩⟩⟩⟩⟩⟩⟩⟩⟩⟩⟩
theorem NW_start {args : Array Value} {s : State} (h : ∀ w ∈ lw_tbl, w.before args s = true) : NW s := by
  intro w hw
  have h1 := nest_all w hw
  have h2 := h w (nest_in w hw)
  cases w <;> first | exact va_Nw.of rfl h2 | cases h1
