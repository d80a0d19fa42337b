/-! what a hall shows, on both sides -/
theorem off7 (k : Nat) : (7 : Int32) + nI k = nI (7 + k) := nI_add 7 k
theorem off14 (k : Nat) : (14 : Int32) + nI k = nI (14 + k) := nI_add 14 k
theorem off21 (k : Nat) : (21 : Int32) + nI k = nI (21 + k) := nI_add 21 k
theorem fuel_gt {d : Nat} (h : d < 20000) : d < fuelN := h
theorem l25 : (25 : Int32).toNatClampNeg = 25 := rfl
theorem l26 : (26 : Int32).toNatClampNeg = 26 := rfl
theorem l27 : (27 : Int32).toNatClampNeg = 27 := rfl
theorem l28 : (28 : Int32).toNatClampNeg = 28 := rfl
theorem add0 (x : Int32) : x + 0 = x := Int32.add_zero x
theorem or0 (x : Int32) : x ||| 0 = x := Int32.or_zero
/-! bits -/
def bcv (x : Int32) : Int32 :=
  let a := x - ((x.toUInt32 >>> ((1 : Int32).toUInt32 &&& Int32.toUInt32 31)).toInt32 &&& (1431655765 : Int32))
  let b := (a &&& (858993459 : Int32)) + ((a.toUInt32 >>> ((2 : Int32).toUInt32 &&& Int32.toUInt32 31)).toInt32 &&& (858993459 : Int32))
  let c := (b + (b.toUInt32 >>> ((4 : Int32).toUInt32 &&& Int32.toUInt32 31)).toInt32) &&& (252645135 : Int32)
  let d := c + (c.toUInt32 >>> ((8 : Int32).toUInt32 &&& Int32.toUInt32 31)).toInt32
  let e := d + (d.toUInt32 >>> ((16 : Int32).toUInt32 &&& Int32.toUInt32 31)).toInt32
  e &&& (63 : Int32)
theorem bc_eq (t : St) (x : Int32) : fJ6_bitCount_0f7a4 t x = some (bcv x) := rfl
def btv (x : Int32) : Nat → Int32 → Int32 → Int32
  | 0, c, _ => c
  | n + 1, c, k => btv x n (c + ((x >>> (k &&& 31)) &&& 1)) (k + 1)
theorem bt_eq (u : St) (x : Int32) : fX11_bits u x = some (btv x 9 0 0) := by
  have key : ∀ (d k : Nat) (c : Int32) (f : Nat), k + d = 9 → d < f → fX11_bits_4 u f x c (nI k) = some (btv x d c (nI k)) := by
    intro d
    induction d with
    | zero =>
      intro k c f hk hf
      obtain ⟨f, rfl⟩ : ∃ z, f = z + 1 := ⟨f - 1, by omega⟩
      rw [fX11_bits_4_s, if_pos (show (9 : Int32) ≤ nI k from nI_le (a := 9) (by omega) (by omega))]
      rfl
    | succ d ih =>
      intro k c f hk hf
      obtain ⟨f, rfl⟩ : ∃ z, f = z + 1 := ⟨f - 1, by omega⟩
      rw [fX11_bits_4_s, if_neg (show ¬ (9 : Int32) ≤ nI k from nI_ge (b := 9) (by omega) (by omega)), bind_s, nI_1, ih _ _ _ (by omega) (by omega), ← nI_1]
      rfl
  exact key 9 0 0 fuelN (by omega) (fuel_gt (by omega))
def popN (b : Nat) : Nat := (List.range 7).countP (fun k => b.testBit k)
theorem pop_ok : ∀ b, b < 128 → bcv (nI b) = nI (popN b) ∧ btv (nI b) 9 0 0 = nI (popN b) ∧ popN b ≤ 7 := by decide +kernel
theorem or_bit : ∀ k, k < 7 → ∀ b, b < 2 ^ k → nI b ||| ((1 : Int32) <<< (nI k &&& 31)) = nI (b + 2 ^ k) := by decide +kernel
theorem nx_and (a b : Nat) : nI a &&& nI b = nI (a &&& b) := by
  apply Int32.toBitVec_inj.mp
  show (BitVec.ofNat 32 a) &&& (BitVec.ofNat 32 b) = BitVec.ofNat 32 (a &&& b)
  apply BitVec.eq_of_toNat_eq
  simp [BitVec.toNat_and, Nat.and_mod_two_pow]
section RD
variable {t u : St} {S I P Wd h : Nat}
theorem insp_sim (R : Reg t u S I P Wd) (hp : ∀ i, i < I → t (h + 4) i = u 150 (21 + i)) (x : Int32) : ∃ r, fX3_inspectorsIn h t x = some r ∧ fX11_inspectorsAt u x = some r := by
  obtain ⟨-, -, -, -, -, -, -, -, -, hI, hI', hIb, -⟩ := R
  have key : ∀ (d k : Nat) (c : Int32) (f g : Nat), k + d = I → d < f → d < g → ∃ r, fX3_inspectorsIn_4 h t f x c (nI k) = some r ∧ fX11_inspectorsAt_4 u g x c (nI k) = some r := by
    intro d
    induction d with
    | zero =>
      intro k c f g hk hf hg
      obtain ⟨f, rfl⟩ : ∃ z, f = z + 1 := ⟨f - 1, by omega⟩
      obtain ⟨g, rfl⟩ : ∃ z, g = z + 1 := ⟨g - 1, by omega⟩
      refine ⟨c, ?_, ?_⟩
      · rw [fX3_inspectorsIn_4_s, hI, if_pos (nI_le (by omega) (by omega))]
      · rw [fX11_inspectorsAt_4_s, hI', if_pos (nI_le (by omega) (by omega))]
    | succ d ih =>
      intro k c f g hk hf hg
      obtain ⟨f, rfl⟩ : ∃ z, f = z + 1 := ⟨f - 1, by omega⟩
      obtain ⟨g, rfl⟩ : ∃ z, g = z + 1 := ⟨g - 1, by omega⟩
      rw [fX3_inspectorsIn_4_s, fX11_inspectorsAt_4_s, hI, hI', if_neg (nI_ge (by omega) (by omega)), if_neg (nI_ge (by omega) (by omega)), gd_k (by omega) (by omega), off21, gd_k (by omega) (by omega), cl_k (by omega), cl_k (by omega), hp k (by omega)]
      simp only [bind_s, add0, nI_1]
      by_cases hc : u 150 (21 + k) = x
      · rw [if_pos hc, if_pos hc]
        exact ih _ _ _ _ (by omega) (by omega) (by omega)
      · rw [if_neg hc, if_neg hc]
        exact ih _ _ _ _ (by omega) (by omega) (by omega)
  exact key I 0 0 fuelN fuelN (by omega) (fuel_gt (by omega)) (fuel_gt (by omega))
theorem sings_eq (R : Reg t u S I P Wd) (H : HalX t h (u 150) S I) {s : Nat} (hs : s < S) : fX3_sings h t (nI s) = some (if u 150 (14 + s) = -1 then 0 else 1) ∧ fX11_sings u (nI s) = some (if u 150 (14 + s) = -1 then 0 else 1) := by
  have hSb : S ≤ 7 := R.2.2.2.2.2.2.2.2.1
  have hp := (H.2.2.2.2.1 s hs).2.2
  constructor
  · unfold fX3_sings
    rw [(hS_good R hs).1, bind_s, if_neg (by decide), gd_k (by omega) (by omega), cl_k (by omega), hp]
    by_cases hc : u 150 (14 + s) = -1 <;> simp [hc]
  · unfold fX11_sings
    rw [off14, gd_k (by omega) (by omega), cl_k (by omega)]
    by_cases hc : u 150 (14 + s) = -1 <;> simp [hc]
theorem who_sim (R : Reg t u S I P Wd) (H : HalX t h (u 150) S I) : ∃ b, b < 2 ^ S ∧ fX3_whoSings h t = some (nI b) ∧ fX11_singingOnes u = some (nI b) := by
  have hSb : S ≤ 7 := R.2.2.2.2.2.2.2.2.1
  have hS1 : t 3 3 = nI S := R.2.2.2.2.2.2.1
  have hS2 : u 144 3 = nI S := R.2.2.2.2.2.2.2.1
  have key : ∀ (d k b : Nat) (f g : Nat), k + d = S → d < f → d < g → b < 2 ^ k → ∃ b', b' < 2 ^ S ∧ fX3_whoSings_4 h t f (nI b) (nI k) = some (nI b') ∧ fX11_singingOnes_4 u g (nI b) (nI k) = some (nI b') := by
    intro d
    induction d with
    | zero =>
      intro k b f g hk hf hg hb
      obtain ⟨f, rfl⟩ : ∃ z, f = z + 1 := ⟨f - 1, by omega⟩
      obtain ⟨g, rfl⟩ : ∃ z, g = z + 1 := ⟨g - 1, by omega⟩
      obtain rfl : k = S := by omega
      refine ⟨b, hb, ?_, ?_⟩
      · rw [fX3_whoSings_4_s, hS1, if_pos (nI_le (by omega) (by omega))]
      · rw [fX11_singingOnes_4_s, hS2, if_pos (nI_le (by omega) (by omega))]
    | succ d ih =>
      intro k b f g hk hf hg hb
      obtain ⟨f, rfl⟩ : ∃ z, f = z + 1 := ⟨f - 1, by omega⟩
      obtain ⟨g, rfl⟩ : ∃ z, g = z + 1 := ⟨g - 1, by omega⟩
      have hp := (H.2.2.2.2.1 k (by omega)).2.2
      have hb2 : 2 ^ (k + 1) = 2 ^ k + 2 ^ k := by rw [Nat.pow_succ]; omega
      rw [fX3_whoSings_4_s, fX11_singingOnes_4_s, hS1, hS2, if_neg (nI_ge (by omega) (by omega)), if_neg (nI_ge (by omega) (by omega)), gd_k (by omega) (by omega), cl_k (by omega), (sings_eq R H (by omega)).2, bind_s, hp]
      simp only [bind_s, or0, nI_1, or_bit k (by omega) b hb]
      by_cases hc : u 150 (14 + k) = -1
      · rw [if_pos hc, if_pos hc, if_pos rfl]
        exact ih _ _ _ _ (by omega) (by omega) (by omega) (by omega)
      · rw [if_neg hc, if_neg hc, if_neg (by decide)]
        exact ih _ _ _ _ (by omega) (by omega) (by omega) (by omega)
  exact key S 0 0 fuelN fuelN (by omega) (fuel_gt (by omega)) (fuel_gt (by omega)) (by decide)
theorem isin_sim (R : Reg t u S I P Wd) (H : HalX t h (u 150) S I) (x : Int32) : ∃ b, b < 2 ^ S ∧ fX3_whoIsIn h t x = some (nI b) ∧ fX11_whoIsIn u x = some (nI b) := by
  have hSb : S ≤ 7 := R.2.2.2.2.2.2.2.2.1
  have hS1 : t 3 3 = nI S := R.2.2.2.2.2.2.1
  have hS2 : u 144 3 = nI S := R.2.2.2.2.2.2.2.1
  have key : ∀ (d k b : Nat) (f g : Nat), k + d = S → d < f → d < g → b < 2 ^ k → ∃ b', b' < 2 ^ S ∧ fX3_whoIsIn_4 h t f x (nI b) (nI k) = some (nI b') ∧ fX11_whoIsIn_4 u g x (nI b) (nI k) = some (nI b') := by
    intro d
    induction d with
    | zero =>
      intro k b f g hk hf hg hb
      obtain ⟨f, rfl⟩ : ∃ z, f = z + 1 := ⟨f - 1, by omega⟩
      obtain ⟨g, rfl⟩ : ∃ z, g = z + 1 := ⟨g - 1, by omega⟩
      obtain rfl : k = S := by omega
      refine ⟨b, hb, ?_, ?_⟩
      · rw [fX3_whoIsIn_4_s, hS1, if_pos (nI_le (by omega) (by omega))]
      · rw [fX11_whoIsIn_4_s, hS2, if_pos (nI_le (by omega) (by omega))]
    | succ d ih =>
      intro k b f g hk hf hg hb
      obtain ⟨f, rfl⟩ : ∃ z, f = z + 1 := ⟨f - 1, by omega⟩
      obtain ⟨g, rfl⟩ : ∃ z, g = z + 1 := ⟨g - 1, by omega⟩
      have hp := (H.2.2.2.2.1 k (by omega)).1
      have hb2 : 2 ^ (k + 1) = 2 ^ k + 2 ^ k := by rw [Nat.pow_succ]; omega
      rw [fX3_whoIsIn_4_s, fX11_whoIsIn_4_s, hS1, hS2, if_neg (nI_ge (by omega) (by omega)), if_neg (nI_ge (by omega) (by omega)), gd_k (by omega) (by omega), gd_k (by omega) (by omega), cl_k (by omega), hp]
      simp only [bind_s, or0, nI_1, or_bit k (by omega) b hb]
      by_cases hc : u 150 k = x
      · rw [if_pos hc, if_pos hc]
        exact ih _ _ _ _ (by omega) (by omega) (by omega) (by omega)
      · rw [if_neg hc, if_neg hc]
        exact ih _ _ _ _ (by omega) (by omega) (by omega) (by omega)
  exact key S 0 0 fuelN fuelN (by omega) (fuel_gt (by omega)) (fuel_gt (by omega)) (by decide)
theorem p7 {S b : Nat} (hS : S ≤ 7) (h : b < 2 ^ S) : b < 128 := Nat.lt_of_lt_of_le h (Nat.pow_le_pow_right (by decide) hS)
theorem voices_sim (R : Reg t u S I P Wd) (H : HalX t h (u 150) S I) (x : Int32) : ∃ c, c ≤ 7 ∧ fX3_voicesIn h t x = some (nI c) ∧ fX11_voicesIn u x = some (nI c) := by
  have hSb : S ≤ 7 := R.2.2.2.2.2.2.2.2.1
  obtain ⟨a, ha, a1, a2⟩ := isin_sim R H x
  obtain ⟨b, hb, b1, b2⟩ := who_sim R H
  have hab : a &&& b < 128 := Nat.lt_of_le_of_lt Nat.and_le_left (p7 hSb ha)
  obtain ⟨q1, q2, q3⟩ := pop_ok _ hab
  refine ⟨popN (a &&& b), q3, ?_, ?_⟩
  · unfold fX3_voicesIn
    rw [a1, bind_s, b1, bind_s, nx_and, bc_eq, bind_s, q1]
  · unfold fX11_voicesIn
    rw [a2, bind_s, b2, bind_s, nx_and, bt_eq, bind_s, q2]
theorem price_sim (R : Reg t u S I P Wd) (H : HalX t h (u 150) S I) {s : Nat} (hs : s < S) (r v x : Int32) : ∃ p, fX3_priceBy h t r (nI s) v x = some p ∧ fX11_owesBy u (nI s) x v r = some p := by
  have hSb : S ≤ 7 := R.2.2.2.2.2.2.2.2.1
  obtain ⟨hk, -⟩ := R.2.2.2.2.2.2.2.2.2.2.2.2.2.2 s hs
  obtain ⟨c, c1, c2⟩ := insp_sim R H.2.2.2.2.2 x
  unfold fX3_priceBy fX11_owesBy fX3_priceBy_31
  rw [bind_s, bind_s, (hS_good R hs).1, bind_s, if_neg (by decide), gd_k (by omega) (by omega), gd_k (by omega) (by omega), cl_k (by omega), bind_s, hk, c1, c2, bind_s]
  by_cases h1 : u 145 s = 1
  · exact ⟨_, if_pos h1, if_pos h1⟩
  · rw [if_neg h1]
    by_cases h2 : u 145 s = 2
    · exact ⟨_, if_pos h2, if_pos h2⟩
    · rw [if_neg h2]
      by_cases h3 : u 145 s = 3
      · rw [if_pos h3]
        by_cases h4 : c ≤ 0
        · exact ⟨_, if_pos h4, if_pos h4⟩
        · exact ⟨_, if_neg h4, if_neg h4⟩
      · exact ⟨_, if_neg h3, if_neg h3⟩
theorem price_bd (R : Reg t u S I P Wd) (H : HalX t h (u 150) S I) {s : Nat} (hs : s < S) {r k : Nat} (hr : r ≤ 9) (hk : k ≤ 7) {x p : Int32} (hp : fX11_owesBy u (nI s) x (nI k) (nI r) = some p) : ∃ q, q ≤ 882 ∧ p = nI q := by
  have hSb : S ≤ 7 := R.2.2.2.2.2.2.2.2.1
  have hm : r * k * k ≤ 441 := by
    have h1 : r * k ≤ 9 * 7 := Nat.mul_le_mul hr hk
    have h2 : r * k * k ≤ 9 * 7 * 7 := Nat.mul_le_mul h1 hk
    omega
  unfold fX11_owesBy at hp
  rw [bind_s, pk_mul, pk_mul, gd_k (by omega) (by omega), bind_s] at hp
  obtain ⟨c, -, c2⟩ := insp_sim R H.2.2.2.2.2 x
  rw [c2, bind_s] at hp
  have h2 : (2 : Int32) * nI (r * k * k) = nI (2 * (r * k * k)) := pk_mul 2 _
  have h3 : nI (r * k * k) / (2 : Int32) = nI (r * k * k / 2) := pk_div (d := 2) (by omega) (by decide) (by decide)
  rw [h2, h3] at hp
  split at hp
  · exact ⟨_, by omega, (Option.some.inj hp).symm⟩
  · split at hp
    · exact ⟨0, by omega, (Option.some.inj hp).symm⟩
    · split at hp
      · split at hp
        · exact ⟨_, by omega, (Option.some.inj hp).symm⟩
        · exact ⟨_, by omega, (Option.some.inj hp).symm⟩
      · exact ⟨_, by omega, (Option.some.inj hp).symm⟩
end RD
