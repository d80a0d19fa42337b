/-! what is owed, on both sides -/
section OW
variable {t u : St} {S I P Wd h : Nat}
theorem owed_sim (R : Reg t u S I P Wd) (H : HalX t h (u 150) S I) {s : Nat} (hs : s < S) (r : Int32) : ∃ p, fX3_owedBy h t (nI s) r = some p ∧ ((u 150 (14 + s) = -1 ∧ p = 0) ∨ (u 150 (14 + s) ≠ -1 ∧ fX11_owesBy u (nI s) (u 150 s) (u 150 (14 + s)) r = some p)) := by
  have hSb : S ≤ 7 := R.2.2.2.2.2.2.2.2.1
  obtain ⟨ha, -, hv⟩ := H.2.2.2.2.1 s hs
  unfold fX3_owedBy
  rw [(sings_eq R H hs).1, bind_s]
  by_cases hc : u 150 (14 + s) = -1
  · rw [if_pos hc]
    exact ⟨0, rfl, Or.inl ⟨hc, rfl⟩⟩
  · rw [if_neg hc, if_neg (by decide), gd_k (by omega) (by omega), gd_k (by omega) (by omega), cl_k (by omega), ha, hv]
    obtain ⟨p, p1, p2⟩ := price_sim R H hs r (u 150 (14 + s)) (u 150 s)
    exact ⟨p, by rw [p1]; rfl, Or.inr ⟨hc, p2⟩⟩
theorem owed_bd (R : Reg t u S I P Wd) (H : HalX t h (u 150) S I) (B : HalB (u 150) S) {s : Nat} (hs : s < S) {r : Nat} (hr : r ≤ 9) {p : Int32} (hp : (u 150 (14 + s) = -1 ∧ p = 0) ∨ (u 150 (14 + s) ≠ -1 ∧ fX11_owesBy u (nI s) (u 150 s) (u 150 (14 + s)) (nI r) = some p)) : ∃ q, q ≤ 882 ∧ p = nI q := by
  rcases hp with ⟨-, rfl⟩ | ⟨h1, h2⟩
  · exact ⟨0, by omega, rfl⟩
  · rcases (B.2.2.2 s hs).2 with h3 | ⟨k, hk, h3⟩
    · exact absurd h3 h1
    · rw [h3] at h2
      exact price_bd R H hs hr hk h2
theorem owes_eq (R : Reg t u S I P Wd) (H : HalX t h (u 150) S I) {s : Nat} (hs : s < S) {p : Int32} (hp : (u 150 (14 + s) = -1 ∧ p = 0) ∨ (u 150 (14 + s) ≠ -1 ∧ fX11_owesBy u (nI s) (u 150 s) (u 150 (14 + s)) (u 150 25) = some p)) : fX11_owesOf u (nI s) = some p := by
  have hSb : S ≤ 7 := R.2.2.2.2.2.2.2.2.1
  unfold fX11_owesOf
  rw [(sings_eq R H hs).2, bind_s]
  rcases hp with ⟨h1, rfl⟩ | ⟨h1, h2⟩
  · rw [if_pos h1]
    rfl
  · rw [if_neg h1, if_neg (by decide), gd_k (by omega) (by omega), off14, gd_k (by omega) (by omega), cl_k (by omega), cl_k (by omega), l25, h2]
    rfl
theorem owesOf_sim (R : Reg t u S I P Wd) (H : HalX t h (u 150) S I) {s : Nat} (hs : s < S) : ∃ p, fX3_owedBy h t (nI s) (t h 1) = some p ∧ fX11_owesOf u (nI s) = some p := by
  obtain ⟨p, p1, p2⟩ := owed_sim R H hs (t h 1)
  rw [H.1] at p1 p2 ⊢
  exact ⟨p, p1, owes_eq R H hs p2⟩
theorem owedIn_sim (R : Reg t u S I P Wd) (H : HalX t h (u 150) S I) (x : Int32) : ∃ r, fX3_owedIn h t x = some r ∧ fX11_owedIn u x = some r := by
  have hSb : S ≤ 7 := R.2.2.2.2.2.2.2.2.1
  have hS1 : t 3 3 = nI S := R.2.2.2.2.2.2.1
  have hS2 : u 144 3 = nI S := R.2.2.2.2.2.2.2.1
  have key : ∀ (d k : Nat) (c : Int32) (f g : Nat), k + d = S → d < f → d < g → ∃ r, fX3_owedIn_4 h t f x c (nI k) = some r ∧ fX11_owedIn_4 u g x c (nI k) = some r := by
    intro d
    induction d with
    | zero =>
      intro k c f g hk hf hg
      obtain ⟨f, rfl⟩ : ∃ z, f = z + 1 := ⟨f - 1, by omega⟩
      obtain ⟨g, rfl⟩ : ∃ z, g = z + 1 := ⟨g - 1, by omega⟩
      refine ⟨c, ?_, ?_⟩
      · rw [fX3_owedIn_4_s, hS1, if_pos (nI_le (by omega) (by omega))]
      · rw [fX11_owedIn_4_s, hS2, if_pos (nI_le (by omega) (by omega))]
    | succ d ih =>
      intro k c f g hk hf hg
      obtain ⟨f, rfl⟩ : ∃ z, f = z + 1 := ⟨f - 1, by omega⟩
      obtain ⟨g, rfl⟩ : ∃ z, g = z + 1 := ⟨g - 1, by omega⟩
      have hp := (H.2.2.2.2.1 k (by omega)).1
      obtain ⟨p, p1, p2⟩ := owesOf_sim R H (s := k) (by omega)
      rw [fX3_owedIn_4_s, fX11_owedIn_4_s, hS1, hS2, if_neg (nI_ge (by omega) (by omega)), if_neg (nI_ge (by omega) (by omega)), gd_k (by omega) (by omega), gd_k (by omega) (by omega), cl_k (by omega), hp, p1, p2]
      simp only [bind_s, add0, nI_1]
      by_cases hc : u 150 k = x
      · rw [if_pos hc, if_pos hc]
        exact ih _ _ _ _ (by omega) (by omega) (by omega)
      · rw [if_neg hc, if_neg hc]
        exact ih _ _ _ _ (by omega) (by omega) (by omega)
  exact key S 0 0 fuelN fuelN (by omega) (fuel_gt (by omega)) (fuel_gt (by omega))
theorem owedAll_sim (R : Reg t u S I P Wd) (H : HalX t h (u 150) S I) : ∃ r, fX3_owedByAll h t = some r ∧ fX11_owedByAll u = some r := by
  have hSb : S ≤ 7 := R.2.2.2.2.2.2.2.2.1
  have hS1 : t 3 3 = nI S := R.2.2.2.2.2.2.1
  have hS2 : u 144 3 = nI S := R.2.2.2.2.2.2.2.1
  have key : ∀ (d k : Nat) (c : Int32) (f g : Nat), k + d = S → d < f → d < g → ∃ r, fX3_owedByAll_4 h t f c (nI k) = some r ∧ fX11_owedByAll_4 u g c (nI k) = some r := by
    intro d
    induction d with
    | zero =>
      intro k c f g hk hf hg
      obtain ⟨f, rfl⟩ : ∃ z, f = z + 1 := ⟨f - 1, by omega⟩
      obtain ⟨g, rfl⟩ : ∃ z, g = z + 1 := ⟨g - 1, by omega⟩
      refine ⟨c, ?_, ?_⟩
      · rw [fX3_owedByAll_4_s, hS1, if_pos (nI_le (by omega) (by omega))]
      · rw [fX11_owedByAll_4_s, hS2, if_pos (nI_le (by omega) (by omega))]
    | succ d ih =>
      intro k c f g hk hf hg
      obtain ⟨f, rfl⟩ : ∃ z, f = z + 1 := ⟨f - 1, by omega⟩
      obtain ⟨g, rfl⟩ : ∃ z, g = z + 1 := ⟨g - 1, by omega⟩
      obtain ⟨p, p1, p2⟩ := owesOf_sim R H (s := k) (by omega)
      rw [fX3_owedByAll_4_s, fX11_owedByAll_4_s, hS1, hS2, if_neg (nI_ge (by omega) (by omega)), if_neg (nI_ge (by omega) (by omega)), p1, p2]
      simp only [bind_s, nI_1]
      exact ih _ _ _ _ (by omega) (by omega) (by omega)
  exact key S 0 0 fuelN fuelN (by omega) (fuel_gt (by omega)) (fuel_gt (by omega))
theorem deaf_sim (R : Reg t u S I P Wd) (H : HalX t h (u 150) S I) : ∃ r, fX3_deafPlaces h t = some r ∧ fX11_deafPlaces u = some r := by
  have hP1 : t 3 1 = nI P := R.1
  have hP2 : u 144 1 = nI P := R.2.1
  have hPb : P ≤ 4 := R.2.2.1
  have key : ∀ (d k : Nat) (c : Int32) (f g : Nat), k + d = P → d < f → d < g → ∃ r, fX3_deafPlaces_4 h t f c (nI k) = some r ∧ fX11_deafPlaces_4 u g c (nI k) = some r := by
    intro d
    induction d with
    | zero =>
      intro k c f g hk hf hg
      obtain ⟨f, rfl⟩ : ∃ z, f = z + 1 := ⟨f - 1, by omega⟩
      obtain ⟨g, rfl⟩ : ∃ z, g = z + 1 := ⟨g - 1, by omega⟩
      refine ⟨c, ?_, ?_⟩
      · rw [fX3_deafPlaces_4_s, hP1, if_pos (nI_le (by omega) (by omega))]
      · rw [fX11_deafPlaces_4_s, hP2, if_pos (nI_le (by omega) (by omega))]
    | succ d ih =>
      intro k c f g hk hf hg
      obtain ⟨f, rfl⟩ : ∃ z, f = z + 1 := ⟨f - 1, by omega⟩
      obtain ⟨g, rfl⟩ : ∃ z, g = z + 1 := ⟨g - 1, by omega⟩
      obtain ⟨p, p1, p2⟩ := insp_sim R H.2.2.2.2.2 (nI k)
      rw [fX3_deafPlaces_4_s, fX11_deafPlaces_4_s, hP1, hP2, if_neg (nI_ge (by omega) (by omega)), if_neg (nI_ge (by omega) (by omega)), p1, p2]
      simp only [bind_s, nI_1, or0]
      by_cases hc : p = 0
      · rw [if_pos hc, if_pos hc]
        exact ih _ _ _ _ (by omega) (by omega) (by omega)
      · rw [if_neg hc, if_neg hc]
        exact ih _ _ _ _ (by omega) (by omega) (by omega)
  exact key P 0 0 fuelN fuelN (by omega) (fuel_gt (by omega)) (fuel_gt (by omega))
theorem rich_sim (R : Reg t u S I P Wd) (H : HalX t h (u 150) S I) (B : HalB (u 150) S) : ∃ r, fX3_richest h t = some r ∧ fX11_richest u = some r := by
  have hSb : S ≤ 7 := R.2.2.2.2.2.2.2.2.1
  have hS1 : t 3 3 = nI S := R.2.2.2.2.2.2.1
  have hS2 : u 144 3 = nI S := R.2.2.2.2.2.2.2.1
  have key : ∀ (d k : Nat) (b m : Int32) (f g : Nat), k + d = S → d < f → d < g → ((b = -1 ∧ m = -1) ∨ ∃ j, j < k ∧ b = nI j ∧ m = u 150 (7 + j)) → ∃ r, fX3_richest_6 h t f b m (nI k) = some r ∧ fX11_richest_4 u g b (nI k) = some r := by
    intro d
    induction d with
    | zero =>
      intro k b m f g hk hf hg hb
      obtain ⟨f, rfl⟩ : ∃ z, f = z + 1 := ⟨f - 1, by omega⟩
      obtain ⟨g, rfl⟩ : ∃ z, g = z + 1 := ⟨g - 1, by omega⟩
      refine ⟨b, ?_, ?_⟩
      · rw [fX3_richest_6_s, hS1, if_pos (nI_le (by omega) (by omega))]
      · rw [fX11_richest_4_s, hS2, if_pos (nI_le (by omega) (by omega))]
    | succ d ih =>
      intro k b m f g hk hf hg hb
      obtain ⟨f, rfl⟩ : ∃ z, f = z + 1 := ⟨f - 1, by omega⟩
      obtain ⟨g, rfl⟩ : ∃ z, g = z + 1 := ⟨g - 1, by omega⟩
      have hp := (H.2.2.2.2.1 k (by omega)).2.1
      rw [fX3_richest_6_s, fX11_richest_4_s, hS1, hS2, if_neg (nI_ge (by omega) (by omega)), if_neg (nI_ge (by omega) (by omega)), gd_k (by omega) (by omega), gd_k (by omega) (by omega), cl_k (by omega), hp]
      simp only [bind_s, nI_1]
      rcases hb with ⟨rfl, rfl⟩ | ⟨j, hj, rfl, rfl⟩
      · obtain ⟨q, hq, hq2⟩ := (B.2.2.2 k (by omega)).1
        rw [if_pos (show (-1 : Int32) < 0 by decide), hq2, if_neg (show ¬ nI q ≤ -1 by rw [le_i, nI_int (by omega)]; have : (-1 : Int32).toInt = -1 := rfl; omega)]
        exact ih _ _ _ _ _ (by omega) (by omega) (by omega) (Or.inr ⟨k, by omega, rfl, hq2.symm⟩)
      · rw [if_neg (nI_pos (by omega)), off7, off7, gd_k (by omega) (by omega), gd_k (by omega) (by omega), cl_k (by omega), cl_k (by omega)]
        by_cases hc : u 150 (7 + k) ≤ u 150 (7 + j)
        · rw [if_pos hc, if_pos hc]
          exact ih _ _ _ _ _ (by omega) (by omega) (by omega) (Or.inr ⟨j, by omega, rfl, rfl⟩)
        · rw [if_neg hc, if_neg hc]
          exact ih _ _ _ _ _ (by omega) (by omega) (by omega) (Or.inr ⟨k, by omega, rfl, rfl⟩)
  exact key S 0 (-1) (-1) fuelN fuelN (by omega) (fuel_gt (by omega)) (fuel_gt (by omega)) (Or.inl ⟨rfl, rfl⟩)
end OW
