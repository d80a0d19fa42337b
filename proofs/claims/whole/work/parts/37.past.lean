/-! rows copied; what was, images -/
def cpk (row w : Nat → Int32) (a b k m : Nat) : Nat → Int32 := fun j => if b + k ≤ j ∧ j < b + m then w (a + (j - b)) else row j
theorem cpk_step {row w : Nat → Int32} {a b k m : Nat} (h : k < m) : cpk (upd row (b + k) (w (a + k))) w a b (k + 1) m = cpk row w a b k m := by
  funext j
  unfold cpk
  by_cases h1 : b + (k + 1) ≤ j ∧ j < b + m
  · rw [if_pos h1, if_pos (by omega)]
  · rw [if_neg h1]
    by_cases h2 : j = b + k
    · subst h2
      rw [upd_s, if_pos (by omega), show b + k - b = k by omega]
    · rw [upd_n h2, if_neg (by omega)]
theorem cpk_end (row w : Nat → Int32) (a b m : Nat) : cpk row w a b m m = row := by
  funext j
  unfold cpk
  rw [if_neg (by omega)]
theorem cpk_in {row w : Nat → Int32} {a b m j : Nat} (h : j < m) : cpk row w a b 0 m (b + j) = w (a + j) := by
  unfold cpk
  rw [if_pos (by omega), show b + j - b = j by omega]
theorem cpk_out {row w : Nat → Int32} {a b m j : Nat} (h : j < b ∨ b + m ≤ j) : cpk row w a b 0 m j = row j := by
  unfold cpk
  rw [if_neg (by omega)]
theorem Hal_w {t : St} {h S I : Nat} {w w' : Nat → Int32} (hS : S ≤ 7) (hI : I ≤ 4) (H : Hal t h w S I) (e : ∀ k, k < 29 → w' k = w k) : Hal t h w' S I := by
  obtain ⟨a1, a2, a3, a4, a5, a6⟩ := H
  refine ⟨by rw [e 25 (by omega)]; exact a1, by rw [e 28 (by omega)]; exact a2, by rw [e 26 (by omega)]; exact a3, by rw [e 27 (by omega)]; exact a4, fun s hs => ?_, fun i hi => by rw [e (21 + i) (by omega)]; exact a6 i hi⟩
  rw [e s (by omega), e (7 + s) (by omega), e (14 + s) (by omega)]
  exact a5 s hs
theorem HalB_w {S : Nat} {w w' : Nat → Int32} (hS : S ≤ 7) (B : HalB w S) (e : ∀ k, k < 29 → w' k = w k) : HalB w' S := by
  obtain ⟨b1, b2, b3, b4⟩ := B
  refine ⟨by rw [e 25 (by omega)]; exact b1, by rw [e 26 (by omega)]; exact b2, by rw [e 27 (by omega)]; exact b3, fun s hs => ?_⟩
  rw [e (7 + s) (by omega), e (14 + s) (by omega)]
  exact b4 s hs
theorem Hal_t {t t' : St} {h S I : Nat} {w : Nat → Int32} (H : Hal t h w S I) (e : ∀ o, h ≤ o → o ≤ h + 4 → t' o = t o) : Hal t' h w S I := by
  unfold Hal at H ⊢
  rw [e h (by omega) (by omega), e (h + 1) (by omega) (by omega), e (h + 2) (by omega) (by omega), e (h + 3) (by omega) (by omega), e (h + 4) (by omega) (by omega)]
  exact H
set_option maxHeartbeats 4000000 in
theorem takeFrom_ok (t : St) {h0 h1 S I : Nat} (hd : h0 + 4 < h1 ∨ h1 + 4 < h0) (hS : S ≤ 7) (hI : I ≤ 4) : ∃ t', fX3_takeFrom h0 h1 t = some t' ∧ Fr h0 t t' ∧ ∀ w, Hal t h1 w S I → Hal t' h0 w S I := by
  unfold fX3_takeFrom
  simp only [bind_s]
  refine ⟨_, rfl, ?_, ?_⟩
  · intro o ho
    rw [upR_n (by omega), upR_n (by omega), upR_n (by omega), upR_n (by omega), up_n (by omega), up_n (by omega), up_n (by omega), up_n (by omega)]
  · intro w H
    obtain ⟨a1, a2, a3, a4, a5, a6⟩ := H
    have n00 : (h1 = h0) = False := eq_false (by omega)
    have n01 : (h1 = h0 + 1) = False := eq_false (by omega)
    have m01 : (h0 = h0 + 1) = False := eq_false (by omega)
    have n02 : (h1 = h0 + 2) = False := eq_false (by omega)
    have m02 : (h0 = h0 + 2) = False := eq_false (by omega)
    have n03 : (h1 = h0 + 3) = False := eq_false (by omega)
    have m03 : (h0 = h0 + 3) = False := eq_false (by omega)
    have n04 : (h1 = h0 + 4) = False := eq_false (by omega)
    have m04 : (h0 = h0 + 4) = False := eq_false (by omega)
    have n10 : (h1 + 1 = h0) = False := eq_false (by omega)
    have m10 : (h0 + 1 = h0) = False := eq_false (by omega)
    have n11 : (h1 + 1 = h0 + 1) = False := eq_false (by omega)
    have n12 : (h1 + 1 = h0 + 2) = False := eq_false (by omega)
    have m12 : (h0 + 1 = h0 + 2) = False := eq_false (by omega)
    have n13 : (h1 + 1 = h0 + 3) = False := eq_false (by omega)
    have m13 : (h0 + 1 = h0 + 3) = False := eq_false (by omega)
    have n14 : (h1 + 1 = h0 + 4) = False := eq_false (by omega)
    have m14 : (h0 + 1 = h0 + 4) = False := eq_false (by omega)
    have n20 : (h1 + 2 = h0) = False := eq_false (by omega)
    have m20 : (h0 + 2 = h0) = False := eq_false (by omega)
    have n21 : (h1 + 2 = h0 + 1) = False := eq_false (by omega)
    have m21 : (h0 + 2 = h0 + 1) = False := eq_false (by omega)
    have n22 : (h1 + 2 = h0 + 2) = False := eq_false (by omega)
    have n23 : (h1 + 2 = h0 + 3) = False := eq_false (by omega)
    have m23 : (h0 + 2 = h0 + 3) = False := eq_false (by omega)
    have n24 : (h1 + 2 = h0 + 4) = False := eq_false (by omega)
    have m24 : (h0 + 2 = h0 + 4) = False := eq_false (by omega)
    have n30 : (h1 + 3 = h0) = False := eq_false (by omega)
    have m30 : (h0 + 3 = h0) = False := eq_false (by omega)
    have n31 : (h1 + 3 = h0 + 1) = False := eq_false (by omega)
    have m31 : (h0 + 3 = h0 + 1) = False := eq_false (by omega)
    have n32 : (h1 + 3 = h0 + 2) = False := eq_false (by omega)
    have m32 : (h0 + 3 = h0 + 2) = False := eq_false (by omega)
    have n33 : (h1 + 3 = h0 + 3) = False := eq_false (by omega)
    have n34 : (h1 + 3 = h0 + 4) = False := eq_false (by omega)
    have m34 : (h0 + 3 = h0 + 4) = False := eq_false (by omega)
    have n40 : (h1 + 4 = h0) = False := eq_false (by omega)
    have m40 : (h0 + 4 = h0) = False := eq_false (by omega)
    have n41 : (h1 + 4 = h0 + 1) = False := eq_false (by omega)
    have m41 : (h0 + 4 = h0 + 1) = False := eq_false (by omega)
    have n42 : (h1 + 4 = h0 + 2) = False := eq_false (by omega)
    have m42 : (h0 + 4 = h0 + 2) = False := eq_false (by omega)
    have n43 : (h1 + 4 = h0 + 3) = False := eq_false (by omega)
    have m43 : (h0 + 4 = h0 + 3) = False := eq_false (by omega)
    have n44 : (h1 + 4 = h0 + 4) = False := eq_false (by omega)
    have nm : ∀ a b : Nat, a ≠ b → ((a = b) = False) := fun a b h => eq_false h
    have q12 := nm 1 2 (by decide)
    have q13 := nm 1 3 (by decide)
    have q14 := nm 1 4 (by decide)
    have q23 := nm 2 3 (by decide)
    have q24 := nm 2 4 (by decide)
    have q34 := nm 3 4 (by decide)
    have q21 := nm 2 1 (by decide)
    have q31 := nm 3 1 (by decide)
    have q32 := nm 3 2 (by decide)
    have q41 := nm 4 1 (by decide)
    have q42 := nm 4 2 (by decide)
    have q43 := nm 4 3 (by decide)
    have cp : ∀ (f g : Nat → Int32) (n j : Nat), j < n → va_cpy f g 0 0 n j = f j := fun f g n j hj => by
      rw [pk_cpy_in (by omega) (by omega)]
      congr 1
      omega
    refine ⟨?_, ?_, ?_, ?_, fun s hs => ⟨?_, ?_, ?_⟩, fun i hi => ?_⟩
    all_goals simp only [up, upR, upd, if_true, if_false, eq_self, n00, n01, n02, n03, n04, n10, n11, n12, n13, n14, n20, n21, n22, n23, n24, n30, n31, n32, n33, n34, n40, n41, n42, n43, n44, m01, m02, m03, m04, m10, m12, m13, m14, m20, m21, m23, m24, m30, m31, m32, m34, m40, m41, m42, m43, q12, q13, q14, q23, q24, q34, q21, q31, q32, q41, q42, q43]
    · exact a1
    · exact a2
    · exact a3
    · exact a4
    · rw [cp _ _ _ _ (by omega)]; exact (a5 s hs).1
    · rw [cp _ _ _ _ (by omega)]; exact (a5 s hs).2.1
    · rw [cp _ _ _ _ (by omega)]; exact (a5 s hs).2.2
    · rw [cp _ _ _ _ (by omega)]; exact a6 i hi
theorem copyRow_eq (u : St) {h0 n0 h1 n1 m : Nat} (hne : h0 ≠ h1) (hm0 : m ≤ n0) (hm1 : m ≤ n1) (hb0 : n0 < 20000) (hb1 : n1 < 20000) : fX11_copyRow h0 n0 h1 n1 u (nI m) = some (upR u h1 (cpk (u h1) (u h0) 0 0 0 m)) := by
  have key : ∀ (d k : Nat) (row : Nat → Int32) (f : Nat), k + d = m → d < f → fX11_copyRow_2 h0 n0 h1 n1 f (upR u h1 row) (nI m) (nI k) = some (upR u h1 (cpk row (u h0) 0 0 k m)) := by
    intro d
    induction d with
    | zero =>
      intro k row f hk hf
      obtain ⟨f, rfl⟩ : ∃ z, f = z + 1 := ⟨f - 1, by omega⟩
      obtain rfl : k = m := by omega
      rw [fX11_copyRow_2_s, if_pos (nI_le (by omega) (by omega)), cpk_end]
    | succ d ih =>
      intro k row f hk hf
      obtain ⟨f, rfl⟩ : ∃ z, f = z + 1 := ⟨f - 1, by omega⟩
      rw [fX11_copyRow_2_s, if_neg (nI_ge (by omega) (by omega)), gd_k (by omega) (by omega), gd_k (by omega) (by omega), cl_k (by omega), upR_n hne, bind_s, up_upR, nI_1, ih _ _ _ (by omega) (by omega)]
      have := cpk_step (row := row) (w := u h0) (a := 0) (b := 0) (k := k) (m := m) (by omega)
      rw [Nat.zero_add] at this
      rw [this]
  have := key m 0 (u h1) fuelN (by omega) (fuel_gt (by omega))
  rw [upR_id] at this
  exact this
section PS
variable {t u : St} {S I P Wd U T : Nat}
theorem rem52 (u : St) {U : Nat} (hU : u 144 28 = nI U) (hUb : U < 16) : ∀ (d k : Nat) (row : Nat → Int32) (f : Nat), k + d = 29 → d < f → fX11_remember_52 f (upR u 157 row) (nI k) = some (up (upR u 157 (cpk row (u 150) 0 (29 * U) k 29)) 144 28 (nI (U + 1))) := by
  intro d
  induction d with
  | zero =>
    intro k row f hk hf
    obtain ⟨f, rfl⟩ : ∃ z, f = z + 1 := ⟨f - 1, by omega⟩
    obtain rfl : k = 29 := by omega
    rw [fX11_remember_52_s, if_pos (show (29 : Int32) ≤ nI 29 from nI_le (a := 29) (by omega) (by omega)), cpk_end]
    unfold fX11_remember_84
    rw [bind_s, upR_n (by decide), hU, nI_1]
  | succ d ih =>
    intro k row f hk hf
    obtain ⟨f, rfl⟩ : ∃ z, f = z + 1 := ⟨f - 1, by omega⟩
    have e1 : (29 : Int32) * nI U + nI k = nI (29 * U + k) := by rw [show (29 : Int32) = nI 29 from rfl, pk_mul, nI_add]
    rw [fX11_remember_52_s, if_neg (show ¬ (29 : Int32) ≤ nI k from nI_ge (b := 29) (by omega) (by omega)), upR_n (by decide), hU, e1, gd_k (by omega) (by omega), gd_k (by omega) (by omega), cl_k (by omega), cl_k (by omega), upR_n (by decide), bind_s, up_upR, nI_1, ih _ _ _ (by omega) (by omega)]
    have := cpk_step (row := row) (w := u 150) (a := 0) (b := 29 * U) (k := k) (m := 29) (by omega)
    rw [Nat.zero_add] at this
    rw [this]
def shf (row : Nat → Int32) (k : Nat) : Nat → Int32 := fun j => if k ≤ j + 29 ∧ j + 29 < 464 then row (j + 29) else row j
theorem rem12 (u : St) : ∀ (d k : Nat) (row : Nat → Int32) (f : Nat), 29 ≤ k → k + d = 464 → d < f → fX11_remember_12 f (upR u 157 row) (nI k) = fX11_remember_40 (upR u 157 (shf row k)) := by
  intro d
  induction d with
  | zero =>
    intro k row f hk0 hk hf
    obtain ⟨f, rfl⟩ : ∃ z, f = z + 1 := ⟨f - 1, by omega⟩
    have e : shf row k = row := by
      funext j
      unfold shf
      rw [if_neg (by omega)]
    rw [fX11_remember_12_s, if_pos (show (464 : Int32) ≤ nI k from nI_le (a := 464) (by omega) (by omega)), e]
  | succ d ih =>
    intro k row f hk0 hk hf
    obtain ⟨f, rfl⟩ : ∃ z, f = z + 1 := ⟨f - 1, by omega⟩
    have e1 : nI k - (29 : Int32) = nI (k - 29) := pk_sub (b := 29) hk0
    have e2 : shf (upd row (k - 29) (row k)) (k + 1) = shf row k := by
      funext j
      unfold shf
      by_cases c : k + 1 ≤ j + 29 ∧ j + 29 < 464
      · rw [if_pos c, if_pos (by omega), upd_n (by omega)]
      · rw [if_neg c]
        by_cases c2 : j = k - 29
        · subst c2
          rw [upd_s, if_pos (by omega), show k - 29 + 29 = k by omega]
        · rw [upd_n c2, if_neg (by omega)]
    rw [fX11_remember_12_s, if_neg (show ¬ (464 : Int32) ≤ nI k from nI_ge (b := 464) (by omega) (by omega)), e1, gd_k (by omega) (by omega), gd_k (by omega) (by omega), cl_k (by omega), cl_k (by omega), upR_s, bind_s, up_upR, nI_1, ih _ _ _ (by omega) (by omega) (by omega), e2]
/-- the reference remembers -/
theorem remember_ok (u : St) {U : Nat} (hU : u 144 28 = nI U) (hUb : U ≤ 16) : ∃ row, fX11_remember u = some (up (upR u 157 row) 144 28 (nI (min (U + 1) 16))) ∧ (∀ j k, j + 1 < min (U + 1) 16 → k < 29 → row (29 * j + k) = u 157 (29 * (j + (U + 1 - min (U + 1) 16)) + k)) ∧ ∀ k, k < 29 → row (29 * (min (U + 1) 16 - 1) + k) = u 150 k := by
  unfold fX11_remember
  rw [hU]
  by_cases c : U = 16
  · subst c
    rw [if_pos (show nI 16 = (16 : Int32) from rfl)]
    have h1 := rem12 u 435 29 (u 157) fuelN (by omega) (by omega) (fuel_gt (by omega))
    rw [upR_id] at h1
    refine ⟨cpk (shf (u 157) 29) (u 150) 0 (29 * 15) 0 29, ?_, ?_, ?_⟩
    · rw [show (29 : Int32) = nI 29 from rfl, h1]
      unfold fX11_remember_40
      have e1 : upR u 157 (shf (u 157) 29) 144 28 - 1 = nI 15 := by rw [upR_n (by decide), hU]; rfl
      rw [bind_s, e1]
      have hc : up (upR u 157 (shf (u 157) 29)) 144 28 (nI 15) = upR (up u 144 28 (nI 15)) 157 (shf (u 157) 29) := by
        rw [up_def, up_def, upR_n (show 144 ≠ 157 by decide)]
        funext a
        by_cases h1 : a = 144 <;> by_cases h2 : a = 157 <;> simp [upR, h1, h2]
      have h2 := rem52 (up u 144 28 (nI 15)) (U := 15) (by rw [up_s, upd_s]) (by omega) 29 0 (shf (u 157) 29) fuelN (by omega) (fuel_gt (by omega))
      rw [hc]
      rw [up_n (show 150 ≠ 144 by decide)] at h2
      rw [show (0 : Int32) = nI 0 from rfl, h2]
      refine congrArg some ?_
      funext a
      by_cases h1 : a = 144
      · subst h1
        simp [up, upR]
        funext b
        by_cases h3 : b = 28 <;> simp [upd, h3]
      · by_cases h2 : a = 157 <;> simp [up, upR, h1, h2]
    · intro j k hj hk
      have hm : min (16 + 1) 16 = 16 := rfl
      rw [hm] at hj ⊢
      rw [cpk_out (by omega)]
      unfold shf
      rw [if_pos (by omega)]
      exact congrArg (u 157) (by omega)
    · intro k hk
      have hm : min (16 + 1) 16 = 16 := rfl
      rw [hm, show 29 * (16 - 1) = 29 * 15 from rfl, cpk_in hk, Nat.zero_add]
  · have hm : min (U + 1) 16 = U + 1 := Nat.min_eq_left (by omega)
    rw [hm, if_neg (by rw [show (16 : Int32) = nI 16 from rfl, nI_eq (by omega) (by omega)]; exact c)]
    have h2 := rem52 u hU (by omega) 29 0 (u 157) fuelN (by omega) (fuel_gt (by omega))
    rw [upR_id] at h2
    refine ⟨_, h2, ?_, ?_⟩
    · intro j k hj hk
      rw [cpk_out (by omega)]
      exact congrArg (u 157) (by omega)
    · intro k hk
      rw [show U + 1 - 1 = U by omega, cpk_in hk, Nat.zero_add]
end PS
