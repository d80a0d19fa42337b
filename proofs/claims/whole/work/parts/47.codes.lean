/-! groups: members, codes, first least ways -/
def rk (A : Nat) : Nat → Nat
  | 0 => 0
  | s + 1 => rk A s + (if A.testBit s then 1 else 0)
theorem rk_s (A s : Nat) : rk A (s + 1) = rk A s + (if A.testBit s then 1 else 0) := rfl
theorem rk_mono (A s : Nat) : ∀ d, rk A s ≤ rk A (s + d) := by
  intro d
  induction d with
  | zero => exact Nat.le_refl _
  | succ d ih =>
    rw [show s + (d + 1) = (s + d) + 1 from rfl, rk_s]
    omega
theorem rk_le (A : Nat) : ∀ s, rk A s ≤ s := by
  intro s
  induction s with
  | zero => exact Nat.le_refl _
  | succ s ih =>
    rw [rk_s]
    split <;> omega
theorem rk_pop : ∀ A, A < 128 → popN A = rk A 7 := by decide +kernel
theorem rk_top {A S : Nat} (hA : A < 2 ^ S) (hS : S ≤ 7) : popN A = rk A S := by
  have hp := pow_7 hS
  have key : ∀ d, rk A (S + d) = rk A S := by
    intro d
    induction d with
    | zero => rfl
    | succ d ih =>
      rw [show S + (d + 1) = (S + d) + 1 from rfl, rk_s, ih, Nat.testBit_lt_two_pow (Nat.lt_of_lt_of_le hA (Nat.pow_le_pow_right (by decide) (by omega)))]
      rfl
  rw [rk_pop A (by omega), ← key (7 - S), show S + (7 - S) = 7 by omega]
theorem rk_sur (A : Nat) : ∀ s k, k < rk A s → ∃ q, q < s ∧ A.testBit q = true ∧ rk A q = k := by
  intro s
  induction s with
  | zero => intro k hk; exact absurd hk (Nat.not_lt_zero _)
  | succ s ih =>
    intro k hk
    rw [rk_s] at hk
    by_cases h : k < rk A s
    · obtain ⟨q, h1, h2, h3⟩ := ih k h
      exact ⟨q, by omega, h2, h3⟩
    · cases hb : A.testBit s
      · rw [hb] at hk
        simp at hk
        omega
      · rw [hb] at hk
        simp at hk
        exact ⟨s, by omega, hb, by omega⟩
/-! codes: three bits a place -/
def dg (c x : Nat) : Nat := c / 8 ^ x % 8
def dsum (c : Nat) : Nat := dg c 0 + dg c 1 + dg c 2 + dg c 3
theorem dg_step {c x y : Nat} (hx : x < 4) (hy : y < 4) (h : dg c x < 7) : dg (c + 8 ^ x) y = dg c y + (if x = y then 1 else 0) := by
  unfold dg at h ⊢
  rcases (show x = 0 ∨ x = 1 ∨ x = 2 ∨ x = 3 by omega) with rfl | rfl | rfl | rfl <;>
  rcases (show y = 0 ∨ y = 1 ∨ y = 2 ∨ y = 3 by omega) with rfl | rfl | rfl | rfl <;>
  simp only [show (8 : Nat) ^ 0 = 1 from rfl, show (8 : Nat) ^ 1 = 8 from rfl, show (8 : Nat) ^ 2 = 64 from rfl, show (8 : Nat) ^ 3 = 512 from rfl] at h ⊢ <;> simp <;> omega
theorem dsum_step {c x : Nat} (hx : x < 4) (h : dg c x < 7) : dsum (c + 8 ^ x) = dsum c + 1 := by
  unfold dsum
  rw [dg_step hx (by decide) h, dg_step hx (by decide) h, dg_step hx (by decide) h, dg_step hx (by decide) h]
  rcases (show x = 0 ∨ x = 1 ∨ x = 2 ∨ x = 3 by omega) with rfl | rfl | rfl | rfl <;> simp <;> omega
theorem dg_le {c x : Nat} (hx : x < 4) : dg c x ≤ dsum c := by
  unfold dsum
  rcases (show x = 0 ∨ x = 1 ∨ x = 2 ∨ x = 3 by omega) with rfl | rfl | rfl | rfl <;> omega
theorem code_lt {c x P : Nat} (hP : P ≤ 4) (hx : x < P) (hc : c < 8 ^ P) (h : dg c x < 7) : c + 8 ^ x < 8 ^ P := by
  unfold dg at h
  rcases (show P = 1 ∨ P = 2 ∨ P = 3 ∨ P = 4 by omega) with rfl | rfl | rfl | rfl <;>
  rcases (show x = 0 ∨ x = 1 ∨ x = 2 ∨ x = 3 by omega) with rfl | rfl | rfl | rfl <;>
  simp only [show (8 : Nat) ^ 0 = 1 from rfl, show (8 : Nat) ^ 1 = 8 from rfl, show (8 : Nat) ^ 2 = 64 from rfl, show (8 : Nat) ^ 3 = 512 from rfl, show (8 : Nat) ^ 4 = 4096 from rfl] at h hc ⊢ <;> omega
theorem dg_i2 : ∀ x, x < 4 → ∀ a, a < 64 → ∀ b, b < 64 → ((nI (64 * a + b) >>> (((3 : Int32) * nI x) &&& 31)) &&& (7 : Int32)) = nI (dg (64 * a + b) x) := by decide +kernel
theorem dg_i (x : Nat) (hx : x < 4) (c : Nat) (hc : c < 4096) : ((nI c >>> (((3 : Int32) * nI x) &&& 31)) &&& (7 : Int32)) = nI (dg c x) := by
  have h := dg_i2 x hx (c / 64) (by omega) (c % 64) (Nat.mod_lt _ (by decide))
  rw [show 64 * (c / 64) + c % 64 = c from Nat.div_add_mod c 64] at h
  exact h
theorem shl3 : ∀ x, x < 5 → (1 : Int32) <<< (((3 : Int32) * nI x) &&& 31) = nI (8 ^ x) := by decide +kernel
theorem pow8 {P : Nat} (h : P ≤ 4) : 8 ^ P ≤ 4096 := Nat.pow_le_pow_right (n := 8) (by decide) h
theorem placed_eq (t : St) {c : Nat} (hc : c < 4096) : fX2_placedIn t (nI c) = some (nI (dsum c)) := by
  unfold fX2_placedIn
  rw [show fuelN = 19995 + 1 + 1 + 1 + 1 + 1 from rfl]
  have d0 := dg_i 0 (by decide) c hc
  have d1 := dg_i 1 (by decide) c hc
  have d2 := dg_i 2 (by decide) c hc
  have d3 := dg_i 3 (by decide) c hc
  rw [fX2_placedIn_4_s, if_neg (by decide), bind_s, show (0 : Int32) = nI 0 from rfl, d0, nI_add, nI_1, fX2_placedIn_4_s, if_neg (by decide), bind_s, d1, nI_add, nI_1, fX2_placedIn_4_s, if_neg (by decide), bind_s, d2, nI_add, nI_1, fX2_placedIn_4_s, if_neg (by decide), bind_s, d3, nI_add, nI_1, fX2_placedIn_4_s, if_pos (by decide)]
  unfold dsum
  rw [Nat.zero_add]
/-! the first least -/
def isMin (F : Nat → Nat) (n b : Nat) : Prop := b < n ∧ (∀ j, j < n → F b ≤ F j) ∧ ∀ j, j < b → F b < F j
theorem isMin_u {F : Nat → Nat} {n a b : Nat} (h : isMin F n a) (k : isMin F n b) : a = b := by
  rcases Nat.lt_trichotomy a b with e | e | e
  · have h1 := k.2.2 a e
    have h2 := h.2.1 b k.1
    omega
  · exact e
  · have h1 := h.2.2 b e
    have h2 := k.2.1 a h.1
    omega
theorem isMin_1 (F : Nat → Nat) : isMin F 1 0 := ⟨by omega, fun j hj => by rw [show j = 0 by omega]; exact Nat.le_refl _, fun j hj => absurd hj (by omega)⟩
theorem isMin_k {F : Nat → Nat} {n b : Nat} (h : isMin F n b) (k : F b ≤ F n) : isMin F (n + 1) b := by
  refine ⟨by have := h.1; omega, fun j hj => ?_, h.2.2⟩
  by_cases e : j = n
  · rw [e]; exact k
  · exact h.2.1 j (by omega)
theorem isMin_n {F : Nat → Nat} {n b : Nat} (h : isMin F n b) (k : F n < F b) : isMin F (n + 1) n := by
  refine ⟨by omega, fun j hj => ?_, fun j hj => ?_⟩
  · by_cases e : j = n
    · rw [e]; exact Nat.le_refl _
    · have := h.2.1 j (by omega)
      omega
  · have := h.2.1 j hj
    omega
/-- what a way costs from a code on -/
def cwc (pr : Nat → Nat → Nat → Nat) (P : Nat) : Nat → Nat → Nat → Nat → Nat
  | 0, _, _, _ => 0
  | r + 1, k, c, w => pr k (dg c (w / P ^ r)) (w / P ^ r) + cwc pr P r (k + 1) (c + 8 ^ (w / P ^ r)) (w % P ^ r)
theorem cwc_s (pr : Nat → Nat → Nat → Nat) (P r k c w : Nat) : cwc pr P (r + 1) k c w = pr k (dg c (w / P ^ r)) (w / P ^ r) + cwc pr P r (k + 1) (c + 8 ^ (w / P ^ r)) (w % P ^ r) := rfl
theorem cwc_le {pr : Nat → Nat → Nat → Nat} (hpr : ∀ k v x, pr k v x ≤ 882) (P : Nat) : ∀ r k c w, cwc pr P r k c w ≤ 882 * r := by
  intro r
  induction r with
  | zero => intro k c w; exact Nat.le_refl _
  | succ r ih =>
    intro k c w
    rw [cwc_s]
    have h1 := hpr k (dg c (w / P ^ r)) (w / P ^ r)
    have h2 := ih (k + 1) (c + 8 ^ (w / P ^ r)) (w % P ^ r)
    omega
theorem isMin_step {pr : Nat → Nat → Nat → Nat} {P r k c x : Nat} (hP : 0 < P) {ys : Nat → Nat} (hy : ∀ x, x < P → isMin (cwc pr P r (k + 1) (c + 8 ^ x)) (P ^ r) (ys x)) (hx : isMin (fun x => pr k (dg c x) x + cwc pr P r (k + 1) (c + 8 ^ x) (ys x)) P x) :
    isMin (cwc pr P (r + 1) k c) (P ^ (r + 1)) (ys x + x * P ^ r) ∧ cwc pr P (r + 1) k c (ys x + x * P ^ r) = pr k (dg c x) x + cwc pr P r (k + 1) (c + 8 ^ x) (ys x) ∧ (ys x + x * P ^ r) / P ^ r = x ∧ (ys x + x * P ^ r) % P ^ r = ys x := by
  have hM : 0 < P ^ r := Nat.pow_pos hP
  have hyx := (hy x hx.1).1
  have e1 : (ys x + x * P ^ r) / P ^ r = x := by rw [Nat.add_mul_div_right _ _ hM, Nat.div_eq_of_lt hyx, Nat.zero_add]
  have e2 : (ys x + x * P ^ r) % P ^ r = ys x := by rw [Nat.add_mul_mod_self_right, Nat.mod_eq_of_lt hyx]
  have e3 : cwc pr P (r + 1) k c (ys x + x * P ^ r) = pr k (dg c x) x + cwc pr P r (k + 1) (c + 8 ^ x) (ys x) := by rw [cwc_s, e1, e2]
  refine ⟨⟨?_, fun j hj => ?_, fun j hj => ?_⟩, e3, e1, e2⟩
  · rw [Nat.pow_succ, Nat.mul_comm (P ^ r) P]
    have h1 : (x + 1) * P ^ r ≤ P * P ^ r := Nat.mul_le_mul_right _ hx.1
    rw [Nat.succ_mul] at h1
    omega
  · rw [e3, cwc_s]
    have h1 : j / P ^ r < P := Nat.div_lt_of_lt_mul (by rw [← Nat.pow_succ]; exact hj)
    have h2 := (hy _ h1).2.1 (j % P ^ r) (Nat.mod_lt _ hM)
    have h3 := hx.2.1 _ h1
    simp only at h3
    omega
  · rw [e3, cwc_s]
    have h0 : j / P ^ r ≤ x := by
      have := Nat.div_le_div_right (c := P ^ r) (Nat.le_of_lt hj)
      rw [e1] at this
      exact this
    by_cases e : j / P ^ r = x
    · rw [e]
      have h4 := Nat.div_add_mod j (P ^ r)
      rw [e, Nat.mul_comm] at h4
      have h5 := (hy x hx.1).2.2 (j % P ^ r) (by omega)
      omega
    · have h1 : j / P ^ r < P := by have := hx.1; omega
      have h2 := (hy _ h1).2.1 (j % P ^ r) (Nat.mod_lt _ hM)
      have h3 := hx.2.2 (j / P ^ r) (by omega)
      simp only at h3
      omega
/-- a digit of a way -/
def pd (P N w k : Nat) : Nat := w / P ^ (N - 1 - k) % P
theorem pd_mod {P r e y : Nat} (h : e < r) : y % P ^ r / P ^ e % P = y / P ^ e % P := by
  obtain ⟨m, rfl⟩ : ∃ m, r = e + (m + 1) := ⟨r - e - 1, by omega⟩
  rw [Nat.pow_add, Nat.mod_mul_right_div_self, Nat.pow_succ, Nat.mul_comm (P ^ m) P, Nat.mod_mul_right_mod]
