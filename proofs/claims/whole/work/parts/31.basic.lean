/-! numbers; the reference's 'in'; who is there -/
theorem cmp_lt (x y : Int64) : (lg_cmp x y < 0) = (x < y) := by
  unfold lg_cmp
  by_cases h1 : x > y
  · rw [if_pos h1]
    have : ¬ x < y := fun h => Int64.lt_irrefl (Int64.lt_trans h h1)
    simp [this]
  · rw [if_neg h1]
    by_cases h2 : x = y
    · rw [if_pos h2]
      subst h2
      simp [Int64.lt_irrefl]
    · rw [if_neg h2]
      have h3 : x < y := by
        rw [Int64.lt_iff_toInt_lt]
        have h4 : ¬ y.toInt < x.toInt := fun h => h1 (Int64.lt_iff_toInt_lt.mpr h)
        have h5 : x.toInt ≠ y.toInt := fun h => h2 (Int64.toInt_inj.mp h)
        omega
      simp [h3]
theorem cmp_gt (x y : Int64) : (0 < lg_cmp x y) = (y < x) := by
  unfold lg_cmp
  by_cases h1 : x > y
  · rw [if_pos h1]
    have h2 : y < x := h1
    simp [h2]
  · rw [if_neg h1]
    have h3 : ¬ y < x := h1
    by_cases h2 : x = y
    · rw [if_pos h2]
      simp [h3]
    · rw [if_neg h2]
      simp [h3]
theorem in_eq (u : St) (x a b : Int64) : fX11_in u x a b = if a.toInt ≤ x.toInt ∧ x.toInt ≤ b.toInt then some 1 else some 0 := by
  unfold fX11_in
  simp only [cmp_lt, cmp_gt]
  by_cases h1 : x < a
  · have h2 := Int64.lt_iff_toInt_lt.mp h1
    rw [if_pos h1, if_neg (by omega)]
  · have h2 : ¬ x.toInt < a.toInt := fun h => h1 (Int64.lt_iff_toInt_lt.mpr h)
    rw [if_neg h1]
    by_cases h3 : b < x
    · have h4 := Int64.lt_iff_toInt_lt.mp h3
      rw [if_pos h3, if_neg (by omega)]
    · have h4 : ¬ b.toInt < x.toInt := fun h => h3 (Int64.lt_iff_toInt_lt.mpr h)
      rw [if_neg h3, if_pos (by omega)]
theorem i2l_toInt (x : Int32) : x.toInt64.toInt = x.toInt := Int32.toInt_toInt64 x
theorem lt_i {x y : Int32} : x < y ↔ x.toInt < y.toInt := Int32.lt_iff_toInt_lt
theorem le_i {x y : Int32} : x ≤ y ↔ x.toInt ≤ y.toInt := Int32.le_iff_toInt_le
theorem ext_i {x y : Int32} (h : x.toInt = y.toInt) : x = y := Int32.toInt_inj.mp h
theorem nI_int {n : Nat} (h : n < 2 ^ 31) : (nI n).toInt = (n : Int) := nI_toInt h
/-- n less one, n small -/
theorem pred_int {n : Nat} (h : n < 2 ^ 31) : (nI n - 1).toInt = (n : Int) - 1 := by
  cases n with
  | zero => rfl
  | succ n =>
    rw [nI_pred, nI_int (by omega)]
    omega
theorem int_nI {x : Int32} (h : 0 ≤ x.toInt) : ∃ k : Nat, k < 2 ^ 31 ∧ x = nI k ∧ x.toInt = k := by
  obtain ⟨j, hj, rfl⟩ := nI_of (x := x) (by rw [lt_i]; show ¬ x.toInt < (0 : Int32).toInt; have : (0 : Int32).toInt = 0 := rfl; omega)
  exact ⟨j, hj, rfl, nI_int hj⟩
/-- an index is there, or not -/
theorem ix_cases (x : Int32) {n : Nat} (hn : n < 2 ^ 31) : (x.toInt < 0 ∨ (n : Int) ≤ x.toInt) ∨ ∃ j : Nat, j < n ∧ x = nI j := by
  by_cases h : 0 ≤ x.toInt ∧ x.toInt < n
  · obtain ⟨k, hk, h1, h2⟩ := int_nI h.1
    exact Or.inr ⟨k, by omega, h1⟩
  · exact Or.inl (by omega)
theorem has_bad {t : St} {n : Nat} {x a : Int32} (ha : a = nI n) (hn : n < 2 ^ 31) (h : x.toInt < 0 ∨ (n : Int) ≤ x.toInt) : (if x < 0 then some (0 : Int32) else if a ≤ x then some (0 : Int32) else some (1 : Int32)) = some 0 := by
  by_cases h1 : x < 0
  · rw [if_pos h1]
  · rw [if_neg h1]
    have h2 : ¬ x.toInt < 0 := fun q => h1 (lt_i.mpr q)
    rw [if_pos (by rw [ha, le_i, nI_int hn]; omega)]
theorem has_good {n j : Nat} {a : Int32} (ha : a = nI n) (hn : n < 2 ^ 31) (h : j < n) : (if nI j < 0 then some (0 : Int32) else if a ≤ nI j then some (0 : Int32) else some (1 : Int32)) = some 1 := by
  rw [if_neg (nI_pos (by omega)), ha, if_neg (nI_ge h hn)]
theorem in_bad {u : St} {n : Nat} {x a : Int32} (ha : a = nI n) (hn : n < 2 ^ 31) (h : x.toInt < 0 ∨ (n : Int) ≤ x.toInt) : fX11_in u x.toInt64 0 (a - 1).toInt64 = some 0 := by
  rw [in_eq, i2l_toInt, i2l_toInt, ha, pred_int hn, if_neg]
  have : (0 : Int64).toInt = 0 := rfl
  omega
theorem in_good {u : St} {n j : Nat} {a : Int32} (ha : a = nI n) (hn : n < 2 ^ 31) (h : j < n) : fX11_in u (nI j).toInt64 0 (a - 1).toInt64 = some 1 := by
  rw [in_eq, i2l_toInt, i2l_toInt, ha, pred_int hn, nI_int (by omega), if_pos]
  have : (0 : Int64).toInt = 0 := rfl
  omega
section RG
variable {t u : St} {S I P Wd : Nat}
theorem hS_bad (R : Reg t u S I P Wd) {x : Int32} (h : x.toInt < 0 ∨ (S : Int) ≤ x.toInt) : fX8_hasSinger 3 t x = some 0 ∧ fX11_isSinger u x = some 0 := by
  obtain ⟨-, -, -, -, -, -, h1, h2, h3, -⟩ := R
  refine ⟨has_bad (t := t) h1 (by omega) h, ?_⟩
  unfold fX11_isSinger
  rw [in_bad h2 (by omega) h]
  rfl
theorem hS_good (R : Reg t u S I P Wd) {s : Nat} (h : s < S) : fX8_hasSinger 3 t (nI s) = some 1 ∧ fX11_isSinger u (nI s) = some 1 := by
  obtain ⟨-, -, -, -, -, -, h1, h2, h3, -⟩ := R
  refine ⟨has_good h1 (by omega) h, ?_⟩
  unfold fX11_isSinger
  rw [in_good h2 (by omega) h]
  rfl
theorem hP_bad (R : Reg t u S I P Wd) {x : Int32} (h : x.toInt < 0 ∨ (P : Int) ≤ x.toInt) : fX8_hasPlace 3 t x = some 0 ∧ fX11_isPlace u x = some 0 := by
  obtain ⟨h1, h2, h3, -⟩ := R
  refine ⟨has_bad (t := t) h1 (by omega) h, ?_⟩
  unfold fX11_isPlace
  rw [in_bad h2 (by omega) h]
  rfl
theorem hP_good (R : Reg t u S I P Wd) {s : Nat} (h : s < P) : fX8_hasPlace 3 t (nI s) = some 1 ∧ fX11_isPlace u (nI s) = some 1 := by
  obtain ⟨h1, h2, h3, -⟩ := R
  refine ⟨has_good h1 (by omega) h, ?_⟩
  unfold fX11_isPlace
  rw [in_good h2 (by omega) h]
  rfl
end RG
