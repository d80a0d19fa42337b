/-! a duchy is shown -/
theorem cpy_in (f g : Nat → Int32) (n j : Nat) (hj : j < n) : va_cpy f g 0 0 n j = f j := by
  rw [pk_cpy_in (by omega) (by omega)]
  exact congrArg f (by omega)
theorem regFrom_ok (t : St) : ∃ t', fX8_takeFrom 3 9 t = some t' ∧ (∀ o, (o < 3 ∨ 8 < o) → t' o = t o) ∧ (∀ k, k < 5 → t' 3 k = t 9 k) ∧ (∀ s, s < 7 → t' 4 s = t 10 s ∧ t' 5 s = t 11 s ∧ t' 6 s = t 12 s ∧ t' 7 s = t 13 s) ∧ ∀ i, i < 4 → t' 8 i = t 14 i := by
  unfold fX8_takeFrom
  simp only [bind_s]
  refine ⟨_, rfl, ?_, ?_, ?_, ?_⟩
  · intro o ho
    rw [upR_n (by omega), upR_n (by omega), upR_n (by omega), upR_n (by omega), upR_n (by omega), up_n (by omega), up_n (by omega), up_n (by omega), up_n (by omega), up_n (by omega)]
  · intro k hk
    rcases (show k = 0 ∨ k = 1 ∨ k = 2 ∨ k = 3 ∨ k = 4 by omega) with rfl | rfl | rfl | rfl | rfl <;> rfl
  · intro s hs
    refine ⟨?_, ?_, ?_, ?_⟩
    · rw [upR_n (by decide), upR_n (by decide), upR_n (by decide), upR_n (by decide), show (3 + 1 : Nat) = 4 from rfl, upR_s, cpy_in _ _ _ _ hs]
      rfl
    · rw [upR_n (by decide), upR_n (by decide), upR_n (by decide), show (3 + 2 : Nat) = 5 from rfl, upR_s, cpy_in _ _ _ _ hs]
      rfl
    · rw [upR_n (by decide), upR_n (by decide), show (3 + 3 : Nat) = 6 from rfl, upR_s, cpy_in _ _ _ _ hs]
      rfl
    · rw [upR_n (by decide), show (3 + 4 : Nat) = 7 from rfl, upR_s, cpy_in _ _ _ _ hs]
      rfl
  · intro i hi
    rw [show (3 + 5 : Nat) = 8 from rfl, upR_s, cpy_in _ _ _ _ hi]
    rfl
theorem begin28 : ∀ (d k : Nat) (t : St) (f : Nat), k + d = 7 → d < f → ∃ t', fX3_begin_28 44 f t (nI k) = some t' ∧ (∀ o, (o < 45 ∨ 48 < o) → t' o = t o) ∧ (∀ s, s < 7 → t' 45 s = (if k ≤ s then t 5 s else t 45 s) ∧ t' 46 s = (if k ≤ s then t 6 s else t 46 s) ∧ t' 47 s = (if k ≤ s then -1 else t 47 s)) ∧ ∀ i, i < 4 → t' 48 i = t 8 i := by
  intro d
  induction d with
  | zero =>
    intro k t f hk hf
    obtain ⟨f, rfl⟩ : ∃ z, f = z + 1 := ⟨f - 1, by omega⟩
    rw [fX3_begin_28_s, if_pos (show (7 : Int32) ≤ nI k from nI_le (a := 7) (by omega) (by omega))]
    unfold fX3_begin_77
    rw [bind_s]
    refine ⟨_, rfl, fun o ho => upR_n (by omega), fun s hs => ?_, fun i hi => ?_⟩
    · rw [upR_n (by decide), upR_n (by decide), upR_n (by decide), if_neg (by omega), if_neg (by omega), if_neg (by omega)]
      exact ⟨rfl, rfl, rfl⟩
    · rw [show (44 + 4 : Nat) = 48 from rfl, upR_s, cpy_in _ _ _ _ hi]
  | succ d ih =>
    intro k t f hk hf
    obtain ⟨f, rfl⟩ : ∃ z, f = z + 1 := ⟨f - 1, by omega⟩
    obtain ⟨t1, ht1⟩ : ∃ z, z = up (up (up t 45 k (t 5 k)) 46 k (t 6 k)) 47 k (-1) := ⟨_, rfl⟩
    have n5 : up t 45 k (t 5 k) 6 k = t 6 k := by rw [up_n (by decide)]
    obtain ⟨t', a1, a2, a3, a4⟩ := ih (k + 1) t1 f (by omega) (by omega)
    have e : ∀ o, (o < 45 ∨ 47 < o) → t1 o = t o := fun o ho => by rw [ht1, up_n (by omega), up_n (by omega), up_n (by omega)]
    have r45 : t1 45 = upd (t 45) k (t 5 k) := by rw [ht1, up_n (by decide), up_n (by decide), up_s]
    have r46 : t1 46 = upd (t 46) k (t 6 k) := by rw [ht1, up_n (by decide), up_s, up_n (by decide)]
    have r47 : t1 47 = upd (t 47) k (-1) := by rw [ht1, up_s, up_n (by decide), up_n (by decide)]
    refine ⟨t', ?_, fun o ho => by rw [a2 o ho, e o (by omega)], fun s hs => ?_, fun i hi => by rw [a4 i hi, e 8 (by omega)]⟩
    · rw [fX3_begin_28_s, if_neg (show ¬ (7 : Int32) ≤ nI k from nI_ge (b := 7) (by omega) (by omega))]
      simp only [gd_k (show k < 7 by omega) (show 7 < 2 ^ 31 by decide), cl_k (show k < 2 ^ 31 by omega), bind_s, nI_1]
      rw [show (44 + 1 : Nat) = 45 from rfl, n5, show (44 + 2 : Nat) = 46 from rfl, show (44 + 3 : Nat) = 47 from rfl, ← ht1]
      exact a1
    · obtain ⟨b1, b2, b3⟩ := a3 s hs
      rw [b1, b2, b3, e 5 (by omega), e 6 (by omega), r45, r46, r47]
      by_cases c : s = k
      · subst c
        rw [if_neg (show ¬ s + 1 ≤ s by omega), if_neg (show ¬ s + 1 ≤ s by omega), if_neg (show ¬ s + 1 ≤ s by omega), if_pos (Nat.le_refl s), if_pos (Nat.le_refl s), if_pos (Nat.le_refl s), upd_s, upd_s, upd_s]
        exact ⟨rfl, rfl, rfl⟩
      · rw [upd_n c, upd_n c, upd_n c]
        by_cases c2 : k + 1 ≤ s
        · rw [if_pos c2, if_pos c2, if_pos c2, if_pos (show k ≤ s by omega), if_pos (show k ≤ s by omega), if_pos (show k ≤ s by omega)]
          exact ⟨rfl, rfl, rfl⟩
        · rw [if_neg c2, if_neg c2, if_neg c2, if_neg (show ¬ k ≤ s by omega), if_neg (show ¬ k ≤ s by omega), if_neg (show ¬ k ≤ s by omega)]
          exact ⟨rfl, rfl, rfl⟩
theorem begin_ok (t : St) : ∃ t', fX3_begin 44 t = some t' ∧ (∀ o, (o < 44 ∨ 48 < o) → t' o = t o) ∧ t' 44 1 = t 3 0 ∧ t' 44 2 = 0 ∧ t' 44 3 = 0 ∧ t' 44 4 = 0 ∧ (∀ s, s < 7 → t' 45 s = t 5 s ∧ t' 46 s = t 6 s ∧ t' 47 s = -1) ∧ ∀ i, i < 4 → t' 48 i = t 8 i := by
  obtain ⟨t1, ht1⟩ : ∃ z, z = up (up (up (up t 44 1 (t 3 0)) 44 2 0) 44 3 0) 44 4 0 := ⟨_, rfl⟩
  have e : ∀ o, o ≠ 44 → t1 o = t o := fun o ho => by rw [ht1, up_n ho, up_n ho, up_n ho, up_n ho]
  have r : ∀ k, t1 44 k = upd (upd (upd (upd (t 44) 1 (t 3 0)) 2 0) 3 0) 4 0 k := fun k => by rw [ht1, up_s, up_s, up_s, up_s]
  obtain ⟨t', a1, a2, a3, a4⟩ := begin28 7 0 t1 fuelN (by omega) (fuel_gt (by omega))
  refine ⟨t', ?_, fun o ho => by rw [a2 o (by omega), e o (by omega)], ?_, ?_, ?_, ?_, fun s hs => ?_, fun i hi => by rw [a4 i hi, e 8 (by omega)]⟩
  · unfold fX3_begin
    rw [bind_s, bind_s, bind_s, bind_s, ← ht1]
    exact a1
  · rw [a2 44 (by omega), r]; rfl
  · rw [a2 44 (by omega), r]; rfl
  · rw [a2 44 (by omega), r]; rfl
  · rw [a2 44 (by omega), r]; rfl
  · obtain ⟨b1, b2, b3⟩ := a3 s hs
    rw [b1, b2, b3, if_pos (Nat.zero_le s), if_pos (Nat.zero_le s), if_pos (Nat.zero_le s), e 5 (by omega), e 6 (by omega)]
    exact ⟨rfl, rfl, rfl⟩
/-! the reference takes what it has read -/
theorem read117 (u : St) : ∀ (d k : Nat) (row : Nat → Int32) (g : Nat), k + d = 29 → d < g → ∃ row', fX11_takeRead_117 g (upR u 150 row) (nI k) = fX11_takeRead_156 fuelN (upR u 150 row') 0 ∧ ∀ j, j < 29 → row' j = if k ≤ j then (if 14 ≤ j ∧ j ≤ 20 then -1 else 0) else row j := by
  intro d
  induction d with
  | zero =>
    intro k row g hk hg
    obtain ⟨g, rfl⟩ : ∃ z, g = z + 1 := ⟨g - 1, by omega⟩
    refine ⟨row, ?_, fun j hj => ?_⟩
    · rw [fX11_takeRead_117_s, if_pos (show (29 : Int32) ≤ nI k from nI_le (a := 29) (by omega) (by omega))]
    · rw [if_neg (by omega)]
  | succ d ih =>
    intro k row g hk hg
    obtain ⟨g, rfl⟩ : ∃ z, g = z + 1 := ⟨g - 1, by omega⟩
    rw [fX11_takeRead_117_s, if_neg (show ¬ (29 : Int32) ≤ nI k from nI_ge (b := 29) (by omega) (by omega))]
    unfold fX11_takeRead_147
    rw [gd_k (by omega) (by omega), gd_k (by omega) (by omega), cl_k (by omega), bind_s, bind_s, up_upR, up_upR, nI_1]
    have fin : ∀ x : Int32, x = (if 14 ≤ k ∧ k ≤ 20 then -1 else 0) → ∃ row', fX11_takeRead_117 g (upR u 150 (upd row k x)) (nI (k + 1)) = fX11_takeRead_156 fuelN (upR u 150 row') 0 ∧ ∀ j, j < 29 → row' j = if k ≤ j then (if 14 ≤ j ∧ j ≤ 20 then -1 else 0) else row j := by
      intro x hx
      obtain ⟨row', a1, a2⟩ := ih (k + 1) (upd row k x) g (by omega) (by omega)
      refine ⟨row', a1, fun j hj => ?_⟩
      rw [a2 j hj]
      by_cases e : j = k
      · subst e
        rw [if_neg (by omega), if_pos (Nat.le_refl _), upd_s, hx]
      · rw [upd_n e]
        by_cases c : k + 1 ≤ j
        · rw [if_pos c, if_pos (show k ≤ j by omega)]
        · rw [if_neg c, if_neg (show ¬ k ≤ j by omega)]
    by_cases c : 14 ≤ k ∧ k ≤ 20
    · rw [in_ok (lo := 14) (hi := 20) rfl rfl (by rw [nI_int (by omega)]; omega), bind_s, i10]
      exact fin (-1) (by rw [if_pos c])
    · rw [in_no (lo := 14) (hi := 20) rfl rfl (by rw [nI_int (by omega)]; omega), bind_s, i00]
      exact fin 0 (by rw [if_neg c])
theorem read156 (u : St) {S : Nat} (hS : u 144 3 = nI S) (hS7 : S ≤ 7) : ∀ (d k : Nat) (row : Nat → Int32) (g : Nat), k + d = S → d < g → ∃ row', fX11_takeRead_156 g (upR u 150 row) (nI k) = fX11_takeRead_199 fuelN (upR u 150 row') 0 ∧ (∀ j, 14 ≤ j → row' j = row j) ∧ ∀ s, s < 7 → row' s = (if k ≤ s ∧ s < S then u 146 s else row s) ∧ row' (7 + s) = (if k ≤ s ∧ s < S then u 147 s else row (7 + s)) := by
  intro d
  induction d with
  | zero =>
    intro k row g hk hg
    obtain ⟨g, rfl⟩ : ∃ z, g = z + 1 := ⟨g - 1, by omega⟩
    refine ⟨row, ?_, fun _ _ => rfl, fun s hs => ?_⟩
    · rw [fX11_takeRead_156_s, upR_n (by decide), hS, if_pos (nI_le (by omega) (by omega))]
    · rw [if_neg (by omega), if_neg (by omega)]
      exact ⟨rfl, rfl⟩
  | succ d ih =>
    intro k row g hk hg
    obtain ⟨g, rfl⟩ : ∃ z, g = z + 1 := ⟨g - 1, by omega⟩
    rw [fX11_takeRead_156_s, upR_n (by decide), hS, if_neg (nI_ge (by omega) (by omega)), off7]
    simp only [gd_k (show k < 7 by omega) (show 7 < 2 ^ 31 by decide), gd_k (show k < 29 by omega) (show 29 < 2 ^ 31 by decide), gd_k (show 7 + k < 29 by omega) (show 29 < 2 ^ 31 by decide), cl_k (show k < 2 ^ 31 by omega), cl_k (show 7 + k < 2 ^ 31 by omega), bind_s, up_upR, nI_1]
    rw [upR_n (by decide), upR_n (by decide)]
    obtain ⟨row', a1, a2, a3⟩ := ih (k + 1) (upd (upd row k (u 146 k)) (7 + k) (u 147 k)) g (by omega) (by omega)
    refine ⟨row', a1, fun j hj => by rw [a2 j hj, upd_n (by omega), upd_n (by omega)], fun s hs => ?_⟩
    obtain ⟨b1, b2⟩ := a3 s hs
    rw [b1, b2]
    by_cases e : s = k
    · subst e
      rw [if_neg (show ¬ (s + 1 ≤ s ∧ s < S) by omega), if_neg (show ¬ (s + 1 ≤ s ∧ s < S) by omega), if_pos (show s ≤ s ∧ s < S by omega), if_pos (show s ≤ s ∧ s < S by omega), upd_n (show s ≠ 7 + s by omega), upd_s, upd_s]
      exact ⟨rfl, rfl⟩
    · rw [upd_n (show s ≠ 7 + k by omega), upd_n (show s ≠ k by omega), upd_n (show 7 + s ≠ 7 + k by omega), upd_n (show 7 + s ≠ k by omega)]
      by_cases c : k + 1 ≤ s ∧ s < S
      · rw [if_pos c, if_pos c, if_pos (show k ≤ s ∧ s < S by omega), if_pos (show k ≤ s ∧ s < S by omega)]
        exact ⟨rfl, rfl⟩
      · rw [if_neg c, if_neg c, if_neg (show ¬ (k ≤ s ∧ s < S) by omega), if_neg (show ¬ (k ≤ s ∧ s < S) by omega)]
        exact ⟨rfl, rfl⟩
theorem read199 (u : St) {I : Nat} (hI : u 144 8 = nI I) (hI4 : I ≤ 4) : ∀ (d k : Nat) (row : Nat → Int32) (g : Nat), k + d = I → d < g → ∃ row', fX11_takeRead_199 g (upR u 150 row) (nI k) = fX11_takeRead_228 (upR u 150 row') ∧ (∀ j, (j < 21 ∨ 25 ≤ j) → row' j = row j) ∧ ∀ i, i < 4 → row' (21 + i) = (if k ≤ i ∧ i < I then u 149 i else row (21 + i)) := by
  intro d
  induction d with
  | zero =>
    intro k row g hk hg
    obtain ⟨g, rfl⟩ : ∃ z, g = z + 1 := ⟨g - 1, by omega⟩
    refine ⟨row, ?_, fun _ _ => rfl, fun i hi => ?_⟩
    · rw [fX11_takeRead_199_s, upR_n (by decide), hI, if_pos (nI_le (by omega) (by omega))]
    · rw [if_neg (by omega)]
  | succ d ih =>
    intro k row g hk hg
    obtain ⟨g, rfl⟩ : ∃ z, g = z + 1 := ⟨g - 1, by omega⟩
    rw [fX11_takeRead_199_s, upR_n (by decide), hI, if_neg (nI_ge (by omega) (by omega)), off21, gd_k (by omega) (by omega), gd_k (by omega) (by omega), cl_k (by omega), cl_k (by omega), bind_s, up_upR, nI_1, upR_n (by decide)]
    obtain ⟨row', a1, a2, a3⟩ := ih (k + 1) (upd row (21 + k) (u 149 k)) g (by omega) (by omega)
    refine ⟨row', a1, fun j hj => by rw [a2 j hj, upd_n (by omega)], fun i hi => ?_⟩
    rw [a3 i hi]
    by_cases e : i = k
    · subst e
      rw [if_neg (by omega), if_pos (by omega), upd_s]
    · rw [upd_n (by omega)]
      by_cases c : k + 1 ≤ i ∧ i < I
      · rw [if_pos c, if_pos (by omega)]
      · rw [if_neg c, if_neg (by omega)]
theorem takeRead_ok (u : St) {S I : Nat} (hS : u 144 21 = nI S) (hS7 : S ≤ 7) (hI : u 144 26 = nI I) (hI4 : I ≤ 4) : ∃ u', fX11_takeRead u = some u' ∧ (∀ o, o ≠ 144 → (o < 145 ∨ 150 < o) → u' o = u o) ∧ (∀ k, 9 ≤ k → u' 144 k = u 144 k) ∧ u' 144 1 = u 144 19 ∧ u' 144 2 = u 144 20 ∧ u' 144 3 = nI S ∧ u' 144 8 = nI I ∧ (∀ s, s < S → u' 145 s = u 152 s ∧ u' 148 s = u 155 s ∧ u' 150 s = u 153 s ∧ u' 150 (7 + s) = u 154 s ∧ u' 150 (14 + s) = -1) ∧ (∀ i, i < I → u' 150 (21 + i) = u 156 i) ∧ u' 150 25 = u 144 18 ∧ u' 150 26 = 0 ∧ u' 150 27 = 0 ∧ u' 150 28 = 0 := by
  obtain ⟨u1, hu1⟩ : ∃ z, z = up (up (up (up (up u 144 0 (u 144 18)) 144 1 (u 144 19)) 144 2 (u 144 20)) 144 3 (u 144 21)) 144 8 (u 144 26) := ⟨_, rfl⟩
  have w : ∀ k, u1 144 k = upd (upd (upd (upd (upd (u 144) 0 (u 144 18)) 1 (u 144 19)) 2 (u 144 20)) 3 (u 144 21)) 8 (u 144 26) k := fun k => by
    rw [hu1, up_s, up_s, up_s, up_s, up_s]
  have e1 : ∀ o, o ≠ 144 → u1 o = u o := fun o ho => by rw [hu1, up_n ho, up_n ho, up_n ho, up_n ho, up_n ho]
  have w3 : u1 144 3 = nI S := by rw [w, upd_n (by decide), upd_s]; exact hS
  have w8 : u1 144 8 = nI I := by rw [w, upd_s]; exact hI
  have w0 : u1 144 0 = u 144 18 := by rw [w, upd_n (by decide), upd_n (by decide), upd_n (by decide), upd_n (by decide), upd_s]
  have hstart : fX11_takeRead u = (fX11_copyRow 152 7 145 7 u1 (u1 144 3)).bind (fun t_7 => (fX11_copyRow 153 7 146 7 t_7 (t_7 144 3)).bind (fun t_9 => (fX11_copyRow 154 7 147 7 t_9 (t_9 144 3)).bind (fun t_11 => (fX11_copyRow 155 7 148 7 t_11 (t_11 144 3)).bind (fun t_13 => (fX11_copyRow 156 4 149 4 t_13 (t_13 144 8)).bind (fun t_15 => fX11_takeRead_117 fuelN t_15 (0 : Int32)))))) := by
    unfold fX11_takeRead
    simp only [bind_s]
    have z1 : up u 144 0 (u 144 18) 144 19 = u 144 19 := by rw [up_s, upd_n (by decide)]
    have z2 : up (up u 144 0 (u 144 18)) 144 1 (u 144 19) 144 20 = u 144 20 := by rw [up_s, upd_n (by decide), up_s, upd_n (by decide)]
    have z3 : up (up (up u 144 0 (u 144 18)) 144 1 (u 144 19)) 144 2 (u 144 20) 144 21 = u 144 21 := by rw [up_s, upd_n (by decide), up_s, upd_n (by decide), up_s, upd_n (by decide)]
    have z4 : up (up (up (up u 144 0 (u 144 18)) 144 1 (u 144 19)) 144 2 (u 144 20)) 144 3 (u 144 21) 144 26 = u 144 26 := by rw [up_s, upd_n (by decide), up_s, upd_n (by decide), up_s, upd_n (by decide), up_s, upd_n (by decide)]
    rw [z1, z2, z3, z4, ← hu1]
  rw [hstart]
  clear hu1 hstart
  have cin : ∀ (row v : Nat → Int32) (m s : Nat), s < m → cpk row v 0 0 0 m s = v s := fun row v m s hs => by
    have := cpk_in (row := row) (w := v) (a := 0) (b := 0) (m := m) hs
    rw [Nat.zero_add] at this
    exact this
  rw [w3, copyRow_eq u1 (by decide) hS7 hS7 (by decide) (by decide), bind_s]
  obtain ⟨u2, hu2⟩ : ∃ z, z = upR u1 145 (cpk (u1 145) (u1 152) 0 0 0 S) := ⟨_, rfl⟩
  rw [← hu2]
  have e2 : ∀ o, o ≠ 145 → u2 o = u1 o := fun o ho => by rw [hu2, upR_n ho]
  have f2 : ∀ s, s < S → u2 145 s = u 152 s := fun s hs => by rw [hu2, upR_s, cin _ _ _ _ hs, e1 152 (by decide)]
  clear hu2
  rw [e2 144 (by decide), w3, copyRow_eq u2 (by decide) hS7 hS7 (by decide) (by decide), bind_s]
  obtain ⟨u3, hu3⟩ : ∃ z, z = upR u2 146 (cpk (u2 146) (u2 153) 0 0 0 S) := ⟨_, rfl⟩
  rw [← hu3]
  have e3 : ∀ o, o ≠ 146 → u3 o = u2 o := fun o ho => by rw [hu3, upR_n ho]
  have f3 : ∀ s, s < S → u3 146 s = u 153 s := fun s hs => by rw [hu3, upR_s, cin _ _ _ _ hs, e2 153 (by decide), e1 153 (by decide)]
  clear hu3
  rw [e3 144 (by decide), e2 144 (by decide), w3, copyRow_eq u3 (by decide) hS7 hS7 (by decide) (by decide), bind_s]
  obtain ⟨u4, hu4⟩ : ∃ z, z = upR u3 147 (cpk (u3 147) (u3 154) 0 0 0 S) := ⟨_, rfl⟩
  rw [← hu4]
  have e4 : ∀ o, o ≠ 147 → u4 o = u3 o := fun o ho => by rw [hu4, upR_n ho]
  have f4 : ∀ s, s < S → u4 147 s = u 154 s := fun s hs => by rw [hu4, upR_s, cin _ _ _ _ hs, e3 154 (by decide), e2 154 (by decide), e1 154 (by decide)]
  clear hu4
  rw [e4 144 (by decide), e3 144 (by decide), e2 144 (by decide), w3, copyRow_eq u4 (by decide) hS7 hS7 (by decide) (by decide), bind_s]
  obtain ⟨u5, hu5⟩ : ∃ z, z = upR u4 148 (cpk (u4 148) (u4 155) 0 0 0 S) := ⟨_, rfl⟩
  rw [← hu5]
  have e5 : ∀ o, o ≠ 148 → u5 o = u4 o := fun o ho => by rw [hu5, upR_n ho]
  have f5 : ∀ s, s < S → u5 148 s = u 155 s := fun s hs => by rw [hu5, upR_s, cin _ _ _ _ hs, e4 155 (by decide), e3 155 (by decide), e2 155 (by decide), e1 155 (by decide)]
  clear hu5
  rw [e5 144 (by decide), e4 144 (by decide), e3 144 (by decide), e2 144 (by decide), w8, copyRow_eq u5 (by decide) hI4 hI4 (by decide) (by decide), bind_s]
  obtain ⟨u6, hu6⟩ : ∃ z, z = upR u5 149 (cpk (u5 149) (u5 156) 0 0 0 I) := ⟨_, rfl⟩
  rw [← hu6]
  have e6 : ∀ o, o ≠ 149 → u6 o = u5 o := fun o ho => by rw [hu6, upR_n ho]
  have f6 : ∀ i, i < I → u6 149 i = u 156 i := fun s hs => by rw [hu6, upR_s, cin _ _ _ _ hs, e5 156 (by decide), e4 156 (by decide), e3 156 (by decide), e2 156 (by decide), e1 156 (by decide)]
  clear hu6
  have g144 : u6 144 = u1 144 := by rw [e6 144 (by decide), e5 144 (by decide), e4 144 (by decide), e3 144 (by decide), e2 144 (by decide)]
  have gall : ∀ o, o ≠ 144 → (o < 145 ∨ 149 < o) → u6 o = u o := fun o z1 z2 => by rw [e6 o (by omega), e5 o (by omega), e4 o (by omega), e3 o (by omega), e2 o (by omega), e1 o z1]
  have g145 : ∀ s, s < S → u6 145 s = u 152 s := fun s hs => by rw [e6 145 (by decide), e5 145 (by decide), e4 145 (by decide), e3 145 (by decide)]; exact f2 s hs
  have g146 : ∀ s, s < S → u6 146 s = u 153 s := fun s hs => by rw [e6 146 (by decide), e5 146 (by decide), e4 146 (by decide)]; exact f3 s hs
  have g147 : ∀ s, s < S → u6 147 s = u 154 s := fun s hs => by rw [e6 147 (by decide), e5 147 (by decide)]; exact f4 s hs
  have g148 : ∀ s, s < S → u6 148 s = u 155 s := fun s hs => by rw [e6 148 (by decide)]; exact f5 s hs
  clear e2 e3 e4 e5 e6 f2 f3 f4 f5
  obtain ⟨r1, a1, a2⟩ := read117 u6 29 0 (u6 150) fuelN (by omega) (fuel_gt (by omega))
  rw [upR_id] at a1
  obtain ⟨r2, b1, b2, b3⟩ := read156 u6 (by rw [g144]; exact w3) hS7 S 0 r1 fuelN (by omega) (fuel_gt (by omega))
  obtain ⟨r3, c1, c2, c3⟩ := read199 u6 (by rw [g144]; exact w8) hI4 I 0 r2 fuelN (by omega) (fuel_gt (by omega))
  have hall : fX11_takeRead_117 fuelN u6 0 = some (upR u6 150 (upd r3 25 (u 144 18))) := by
    rw [show (0 : Int32) = nI 0 from rfl, a1, show (0 : Int32) = nI 0 from rfl, b1, show (0 : Int32) = nI 0 from rfl, c1]
    unfold fX11_takeRead_228
    rw [bind_s, l25, up_upR, upR_n (by decide), g144, w0]
  refine ⟨_, hall, fun o z1 z2 => ?_, fun k hk => ?_, ?_, ?_, ?_, ?_, fun s hs => ⟨?_, ?_, ?_, ?_, ?_⟩, fun i hi => ?_, ?_, ?_, ?_, ?_⟩
  · rw [upR_n (by omega), gall o z1 (by omega)]
  · rw [upR_n (by decide), g144, w, upd_n (by omega), upd_n (by omega), upd_n (by omega), upd_n (by omega), upd_n (by omega)]
  · rw [upR_n (by decide), g144, w, upd_n (by decide), upd_n (by decide), upd_n (by decide), upd_s]
  · rw [upR_n (by decide), g144, w, upd_n (by decide), upd_n (by decide), upd_s]
  · rw [upR_n (by decide), g144, w3]
  · rw [upR_n (by decide), g144, w8]
  · rw [upR_n (by decide)]; exact g145 s hs
  · rw [upR_n (by decide)]; exact g148 s hs
  · rw [upR_s, upd_n (by omega), c2 s (by omega), (b3 s (by omega)).1, if_pos (by omega)]; exact g146 s hs
  · rw [upR_s, upd_n (by omega), c2 (7 + s) (by omega), (b3 s (by omega)).2, if_pos (by omega)]; exact g147 s hs
  · rw [upR_s, upd_n (by omega), c2 (14 + s) (by omega), b2 (14 + s) (by omega), a2 (14 + s) (by omega), if_pos (Nat.zero_le _), if_pos (by omega)]
  · rw [upR_s, upd_n (by omega), c3 i (by omega), if_pos (by omega)]; exact f6 i hi
  · rw [upR_s, upd_s]
  · rw [upR_s, upd_n (by decide), c2 26 (by omega), b2 26 (by omega), a2 26 (by omega), if_pos (Nat.zero_le _), if_neg (by omega)]
  · rw [upR_s, upd_n (by decide), c2 27 (by omega), b2 27 (by omega), a2 27 (by omega), if_pos (Nat.zero_le _), if_neg (by omega)]
  · rw [upR_s, upd_n (by decide), c2 28 (by omega), b2 28 (by omega), a2 28 (by omega), if_pos (Nat.zero_le _), if_neg (by omega)]
theorem clear_eq (t : St) : fX5_clear t = some (up (up t 20 4 0) 20 5 0) := rfl
theorem forget_eq (t : St) : fX6_forget t = some (up t 15 2 0) := rfl
theorem duchy55 (t : St) : fX10_duchy_55 fuelN t 0 = some (up (up t 18 2 0) 19 2 0 3 3, up (up t 18 2 0) 19 2 0) := by
  rw [show fuelN = 19997 + 1 + 1 + 1 from rfl, fX10_duchy_55_s, if_neg (show ¬ (2 : Int32) ≤ 0 by decide), gd_lit (i := 0) (n := 2) (by decide), show (0 : Int32).toNatClampNeg = 0 from rfl, bind_s, show (0 : Int32) + 1 = nI 1 from rfl, show 19997 + 2 = (19997 + 1) + 1 from rfl, fX10_duchy_55_s, if_neg (show ¬ (2 : Int32) ≤ nI 1 by decide), gd_k (by decide) (by decide), cl_k (by decide), bind_s, nI_1, fX10_duchy_55_s, if_pos (show (2 : Int32) ≤ nI (1 + 1) by decide)]
section DU
variable {t u : St}
theorem duchy_ok (V : Inv t u) : OK2 t u (fX10_duchy t) (fX11_duchy u) := by
  obtain ⟨S0, I0, P0, Wd0, U, T, Np, Ne, n, h1, R, H, B, Q, h6, h7, h8⟩ := V
  obtain ⟨t', u', p1, p2, p3, p4⟩ := text_sim h1
  have f11 : ∀ o, o ≠ 1 → up t' 1 1 0 o = t' o := fun o ho => up_n ho
  unfold fX10_duchy
  rcases p4 with ⟨fl, f0, f3, a1, a2⟩ | ⟨a1, a2, S, I, P, Wd, D⟩
  · rw [a1, a2, bd2_s, if_neg (nI_ne0 f0 (by omega))]
    unfold fX11_duchy_56
    rw [bind_s, if_neg (nle0 f0 f3)]
    have e : ∀ o, o ≠ 1 → (o < 9 ∨ 14 < o) → up t' 1 1 0 o = t o := fun o z1 z2 => by rw [f11 o z1]; exact p1.1 o z1 z2
    have w : ∀ o, o ≠ 144 → (o < 152 ∨ 156 < o) → up u' 144 13 0 o = u o := fun o z1 z2 => by rw [up_n z1]; exact p2.1 o z1 z2
    have wk : ∀ k, (k < 13 ∨ 26 < k) → up u' 144 13 0 144 k = u 144 k := fun k hk => by rw [up_s, upd_n (by omega)]; exact p2.2 k (by omega)
    refine ⟨_, _, _, rfl, rfl, ⟨S0, I0, P0, Wd0, U, T, Np, Ne, 0, ?_, ?_, ?_, ?_, ?_, ?_, ?_, ?_⟩, fun o ho => e o (by omega) (by omega), fun o ho => w o (by omega) (by omega)⟩
    · refine ⟨by rw [up_s, upd_s]; rfl, by rw [up_s, upd_s]; rfl, by omega, fun i hi => absurd hi (by omega), ?_⟩
      rw [up_s, upd_n (by decide), up_s, upd_n (by decide)]
      exact p3
    · exact Reg_c R (e _ (by omega) (by omega)) (e _ (by omega) (by omega)) (e _ (by omega) (by omega)) (w _ (by omega) (by omega)) (w _ (by omega) (by omega)) (fun k hk => wk k (by omega))
    · rw [w _ (by omega) (by omega)]
      exact Hal_t H (fun o z1 z2 => e o (by omega) (by omega))
    · rw [w _ (by omega) (by omega)]
      exact B
    · exact Pst_c Q (e _ (by omega) (by omega)) (fun o z1 z2 => e o (by omega) (by omega)) (w _ (by omega) (by omega)) (wk _ (by omega))
    · exact Img_c h6 (e _ (by omega) (by omega)) (e _ (by omega) (by omega)) (fun o z1 z2 => e o (by omega) (by omega)) (w _ (by omega) (by omega)) (w _ (by omega) (by omega))
    · exact Led_c h7 (fun o z1 z2 => e o (by omega) (by omega)) (fun o z1 z2 => w o (by omega) (by omega)) (wk _ (by omega)) (wk _ (by omega))
    · exact Drw_c h8 (e _ (by omega) (by omega)) (wk _ (by omega))
  · obtain ⟨⟨rt, hrt, d0, d18, drt1, drt2⟩, d1, d19, dP, d2, d20, dW, d3, d21, dS, d4, d26, dI, dz, dw, drows, dins⟩ := D
    rw [a1, a2, bd2_s, i00]
    obtain ⟨t1, b1, b2, b3, b4, b5⟩ := regFrom_ok (up t' 1 1 0)
    obtain ⟨t2, c1, c2, c3, c4, c5, c6, c7, c8⟩ := begin_ok t1
    obtain ⟨v, q1, q2, q3, q4, q5, q6, q7, q8, q9, q10, q11, q12, q13⟩ := takeRead_ok (up u' 144 13 0) (S := S) (I := I) (by rw [up_s, upd_n (by decide)]; exact d21) dS (by rw [up_s, upd_n (by decide)]; exact d26) dI
    -- the class's end
    obtain ⟨t5, ht5⟩ : ∃ z, z = up (up (up (up (up t2 20 4 0) 20 5 0) 15 2 0) 18 2 0) 19 2 0 := ⟨_, rfl⟩
    have hcls : (fX8_takeFrom 3 9 (up t' 1 1 0)).bind (fun t_5 => (fX3_begin 44 t_5).bind (fun t_7 => (fX5_clear t_7).bind (fun t_9 => (fX6_forget t_9).bind (fun t_11 => fX10_duchy_55 fuelN t_11 (0 : Int32))))) = some (t5 3 3, t5) := by
      rw [b1, bind_s, c1, bind_s, clear_eq, bind_s, forget_eq, bind_s, duchy55, ht5]
    have s5 : ∀ o, o ≠ 20 → o ≠ 15 → o ≠ 18 → o ≠ 19 → t5 o = t2 o := fun o z1 z2 z3 z4 => by rw [ht5, up_n z4, up_n z3, up_n z2, up_n z1, up_n z1]
    have e2 : ∀ o, o ≠ 1 → (o < 3 ∨ 14 < o) → (o < 44 ∨ 48 < o) → t2 o = t o := fun o z1 z2 z3 => by rw [c2 o z3, b2 o (by omega), f11 o z1]; exact p1.1 o z1 (by omega)
    have r3 : ∀ k, k < 5 → t5 3 k = t' 9 k := fun k hk => by rw [s5 3 (by decide) (by decide) (by decide) (by decide), c2 3 (by omega), b3 k hk, f11 9 (by decide)]
    -- the reference's end
    obtain ⟨v5, hv5⟩ : ∃ z, z = up (up (up (up (up v 144 32 0) 144 35 0) 144 28 0) 165 0 0) 165 1 0 := ⟨_, rfl⟩
    have hmod : fX11_duchy_56 u' 0 = some (v5 144 3, v5) := by
      unfold fX11_duchy_56
      rw [bind_s, if_pos (by decide), q1, bind_s, bind_s, bind_s, bind_s, bind_s, bind_s, show (0 : Int32).toNatClampNeg = 0 from rfl, show (1 : Int32).toNatClampNeg = 1 from rfl, hv5]
    have w5 : ∀ o, o ≠ 144 → o ≠ 165 → v5 o = v o := fun o z1 z2 => by rw [hv5, up_n z2, up_n z2, up_n z1, up_n z1, up_n z1]
    have wk5 : ∀ k, k ≠ 32 → k ≠ 35 → k ≠ 28 → v5 144 k = v 144 k := fun k z1 z2 z3 => by rw [hv5, up_n (by decide), up_n (by decide), up_s, upd_n z3, up_s, upd_n z2, up_s, upd_n z1]
    have g13 : ∀ o, o ≠ 144 → (o < 145 ∨ 156 < o) → v o = u o := fun o z1 z2 => by rw [q2 o z1 (by omega), up_n z1]; exact p2.1 o z1 (by omega)
    have i13 : ∀ k, k ≠ 13 → up u' 144 13 0 144 k = u' 144 k := fun k hk => by rw [up_s, upd_n hk]
    have i15 : ∀ o, o ≠ 144 → up u' 144 13 0 o = u' o := fun o ho => up_n ho
    rw [hcls, hmod]
    have hr : t5 3 3 = nI S := by rw [r3 3 (by decide)]; exact d3
    have hv3 : v5 144 3 = nI S := by rw [wk5 3 (by decide) (by decide) (by decide)]; exact q6
    rw [hr, hv3]
    have w150 : v5 150 = v 150 := w5 150 (by decide) (by decide)
    refine ⟨nI S, t5, v5, rfl, rfl, ⟨S, I, P, Wd, 0, T, 0, 0, 0, ?_, ?_, ?_, ?_, ?_, ?_, ?_, ?_⟩, fun o ho => ?_, fun o ho => ?_⟩
    · refine ⟨?_, ?_, by omega, fun i hi => absurd hi (by omega), ?_⟩
      · rw [s5 1 (by decide) (by decide) (by decide) (by decide), c2 1 (by omega), b2 1 (by omega), up_s, upd_s]
        rfl
      · rw [wk5 13 (by decide) (by decide) (by decide), q3 13 (by decide), up_s, upd_s]
        rfl
      · rw [s5 1 (by decide) (by decide) (by decide) (by decide), c2 1 (by omega), b2 1 (by omega), up_s, upd_n (by decide), wk5 14 (by decide) (by decide) (by decide), q3 14 (by decide), i13 14 (by decide)]
        exact p3
    · refine ⟨by rw [r3 1 (by decide)]; exact d1, by rw [wk5 1 (by decide) (by decide) (by decide), q4, i13 19 (by decide)]; exact d19, dP, by rw [r3 2 (by decide)]; exact d2, by rw [wk5 2 (by decide) (by decide) (by decide), q5, i13 20 (by decide)]; exact d20, dW, hr, hv3, dS, by rw [r3 4 (by decide)]; exact d4, by rw [wk5 8 (by decide) (by decide) (by decide)]; exact q7, dI, dz, dw, fun s hs => ?_⟩
      obtain ⟨k1, k2, k3, k4, k5, k6, hk6, k7⟩ := drows s hs
      obtain ⟨m1, m2, m3, m4, m5⟩ := q8 s hs
      have x4 : t5 4 s = t' 10 s := by rw [s5 4 (by decide) (by decide) (by decide) (by decide), c2 4 (by omega), (b4 s (by omega)).1, f11 10 (by decide)]
      have x7 : t5 7 s = t' 13 s := by rw [s5 7 (by decide) (by decide) (by decide) (by decide), c2 7 (by omega), (b4 s (by omega)).2.2.2, f11 13 (by decide)]
      rw [x4, x7, w5 145 (by decide) (by decide), w5 148 (by decide) (by decide), m1, m2, i15 152 (by decide), i15 155 (by decide)]
      exact ⟨k1, k4, k6, hk6, k7⟩
    · rw [w150]
      refine ⟨?_, ?_, ?_, ?_, fun s hs => ⟨?_, ?_, ?_⟩, fun i hi => ?_⟩
      · rw [s5 44 (by decide) (by decide) (by decide) (by decide), c3, b3 0 (by decide), f11 9 (by decide), q10, i13 18 (by decide), d0, d18]
      · rw [s5 44 (by decide) (by decide) (by decide) (by decide), c4, q13]
      · rw [s5 44 (by decide) (by decide) (by decide) (by decide), c5, q11]
      · rw [s5 44 (by decide) (by decide) (by decide) (by decide), c6, q12]
      · rw [show t5 (44 + 1) s = t2 45 s from by rw [s5 45 (by decide) (by decide) (by decide) (by decide)], (c7 s (by omega)).1, (b4 s (by omega)).2.1, f11 11 (by decide), (q8 s hs).2.2.1, i15 153 (by decide)]
        exact (drows s hs).2.1
      · rw [show t5 (44 + 2) s = t2 46 s from by rw [s5 46 (by decide) (by decide) (by decide) (by decide)], (c7 s (by omega)).2.1, (b4 s (by omega)).2.2.1, f11 12 (by decide), (q8 s hs).2.2.2.1, i15 154 (by decide)]
        exact (drows s hs).2.2.1
      · rw [show t5 (44 + 3) s = t2 47 s from by rw [s5 47 (by decide) (by decide) (by decide) (by decide)], (c7 s (by omega)).2.2, (q8 s hs).2.2.2.2]
      · rw [show t5 (44 + 4) i = t2 48 i from by rw [s5 48 (by decide) (by decide) (by decide) (by decide)], c8 i (by omega), b5 i (by omega), f11 14 (by decide), q9 i hi, i15 156 (by decide)]
        exact dins i hi
    · rw [w150]
      refine ⟨⟨rt, hrt, by rw [q10, i13 18 (by decide)]; exact d18⟩, ⟨0, by omega, by rw [q11]; rfl⟩, ⟨0, by omega, by rw [q12]; rfl⟩, fun s hs => ⟨?_, Or.inl (q8 s hs).2.2.2.2⟩⟩
      obtain ⟨m, hm, hm2⟩ := (drows s hs).2.2.2.2.1
      refine ⟨m, hm, ?_⟩
      rw [(q8 s hs).2.2.2.1, i15 154 (by decide), ← (drows s hs).2.2.1]
      exact hm2
    · refine Pst_0 Q.2.1 ?_ ?_ ?_
      · rw [ht5, up_n (by decide), up_n (by decide), up_s, upd_n (by decide), up_n (by decide), up_n (by decide), e2 15 (by decide) (by omega) (by omega)]
        exact Q.1
      · rw [ht5, up_n (by decide), up_n (by decide), up_s, upd_s]
      · rw [hv5, up_n (by decide), up_n (by decide), up_s, upd_s]
    · intro i hi
      rcases (show i = 0 ∨ i = 1 by omega) with rfl | rfl
      · have z : v5 165 0 = 0 := by rw [hv5, up_s, upd_n (by decide), up_s, upd_s]
        exact ⟨by rw [z, show (18 + 0 : Nat) = 18 from rfl, ht5, up_n (by decide), up_s, upd_s], Or.inl z⟩
      · have z : v5 165 1 = 0 := by rw [hv5, up_s, upd_s]
        exact ⟨by rw [z, show (18 + 1 : Nat) = 19 from rfl, ht5, up_s, upd_s], Or.inl z⟩
    · refine ⟨?_, ?_, by omega, fun i hi => absurd hi (by omega), ?_, ?_, by omega, fun i hi => absurd hi (by omega)⟩
      · rw [ht5, up_n (by decide), up_n (by decide), up_n (by decide), up_s, upd_n (by decide), up_s, upd_s]; rfl
      · rw [hv5, up_n (by decide), up_n (by decide), up_s, upd_n (by decide), up_s, upd_n (by decide), up_s, upd_s]; rfl
      · rw [ht5, up_n (by decide), up_n (by decide), up_n (by decide), up_s, upd_s]; rfl
      · rw [hv5, up_n (by decide), up_n (by decide), up_s, upd_n (by decide), up_s, upd_s]; rfl
    · refine Drw_c h8 ?_ ?_
      · rw [s5 43 (by decide) (by decide) (by decide) (by decide), e2 43 (by decide) (by omega) (by omega)]
      · rw [wk5 11 (by decide) (by decide) (by decide), q3 11 (by decide), i13 11 (by decide)]
        exact p2.2 11 (by omega)
    · rw [s5 o (by omega) (by omega) (by omega) (by omega), e2 o (by omega) (by omega) (by omega)]
    · rw [w5 o (by omega) (by omega), g13 o (by omega) (by omega)]
end DU
