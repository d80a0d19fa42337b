/-! sets of singers -/
theorem shl_k : ∀ k, k < 10 → (1 : Int32) <<< (nI k &&& 31) = nI (2 ^ k) := by decide +kernel
theorem two_pos (S : Nat) : 1 ≤ 2 ^ S := Nat.one_le_two_pow
theorem pow_7 {S : Nat} (h : S ≤ 7) : 2 ^ S ≤ 128 := Nat.pow_le_pow_right (n := 2) (by decide) h
theorem pow_9 {S : Nat} (h : S ≤ 9) : 2 ^ S ≤ 512 := Nat.pow_le_pow_right (n := 2) (by decide) h
theorem sub_and {x y : Int32} (h : x &&& (y ^^^ (-1 : Int32)) = 0) : x &&& y = x := by
  apply Int32.toBitVec_inj.mp
  have h2 : x.toBitVec &&& (y.toBitVec ^^^ BitVec.allOnes 32) = 0#32 := congrArg Int32.toBitVec h
  show x.toBitVec &&& y.toBitVec = x.toBitVec
  apply BitVec.eq_of_getLsbD_eq
  intro i hi
  have h3 : (x.toBitVec &&& (y.toBitVec ^^^ BitVec.allOnes 32)).getLsbD i = (0#32).getLsbD i := by rw [h2]
  rw [BitVec.getLsbD_and, BitVec.getLsbD_xor, BitVec.getLsbD_allOnes, BitVec.getLsbD_zero] at h3
  rw [BitVec.getLsbD_and]
  cases hx : x.toBitVec.getLsbD i <;> cases hy : y.toBitVec.getLsbD i <;> simp_all
theorem and_sub : ∀ S, S < 8 → ∀ b, b < 2 ^ S → nI b &&& (nI (2 ^ S - 1) ^^^ (-1 : Int32)) = 0 := by decide +kernel
theorem set_cases {S : Nat} (hS : S ≤ 7) (x : Int32) : ((x.toInt < 0 ∨ ((2 ^ S : Nat) : Int) ≤ x.toInt) ∧ x &&& (nI (2 ^ S - 1) ^^^ (-1 : Int32)) ≠ 0) ∨ ∃ b, b < 2 ^ S ∧ x = nI b := by
  have hp := pow_7 hS
  rcases ix_cases x (n := 2 ^ S) (by omega) with h | ⟨b, hb, rfl⟩
  · refine Or.inl ⟨h, fun e => ?_⟩
    have e2 := sub_and e
    have e3 : x.toBitVec.toNat = x.toBitVec.toNat % 2 ^ S := by
      have := congrArg (fun z : Int32 => z.toBitVec.toNat) e2
      have h4 : (x &&& nI (2 ^ S - 1)).toBitVec.toNat = x.toBitVec.toNat &&& (2 ^ S - 1) := by
        show (x.toBitVec &&& BitVec.ofNat 32 (2 ^ S - 1)).toNat = _
        rw [BitVec.toNat_and, BitVec.toNat_ofNat, Nat.mod_eq_of_lt (show 2 ^ S - 1 < 2 ^ 32 by omega)]
      rw [← Nat.and_two_pow_sub_one_eq_mod, ← h4]
      exact this.symm
    have e4 : x.toBitVec.toNat < 2 ^ S := by rw [e3]; exact Nat.mod_lt _ (two_pos S)
    have e5 : x = nI x.toBitVec.toNat := by
      apply Int32.toBitVec_inj.mp
      show x.toBitVec = BitVec.ofNat 32 x.toBitVec.toNat
      rw [BitVec.ofNat_toNat, BitVec.setWidth_eq]
    rw [e5, nI_int (by omega)] at h
    omega
  · exact Or.inr ⟨b, hb, rfl⟩
section SE
variable {t u : St} {S I P Wd Np Ne : Nat}
theorem every_eq (R : Reg t u S I P Wd) : fX8_everyone 3 t = some (nI (2 ^ S - 1)) := by
  have hSb : S ≤ 7 := R.2.2.2.2.2.2.2.2.1
  unfold fX8_everyone
  rw [R.2.2.2.2.2.2.1, shl_k S (by omega), show (1 : Int32) = nI 1 from rfl, pk_sub (two_pos S)]
theorem everyW_eq (R : Reg t u S I P Wd) : fX8_everyWord 3 t = some (nI (2 ^ Wd - 1)) := by
  have hWb : Wd ≤ 9 := R.2.2.2.2.2.1
  unfold fX8_everyWord
  rw [R.2.2.2.1, shl_k Wd (by omega), show (1 : Int32) = nI 1 from rfl, pk_sub (two_pos Wd)]
theorem set_bad (R : Reg t u S I P Wd) {x : Int32} (h : (x.toInt < 0 ∨ ((2 ^ S : Nat) : Int) ≤ x.toInt) ∧ x &&& (nI (2 ^ S - 1) ^^^ (-1 : Int32)) ≠ 0) : fX8_hasAll 3 t x = some 0 ∧ fX11_isSet u x = some 0 := by
  have hSb : S ≤ 7 := R.2.2.2.2.2.2.2.2.1
  have hp := pow_7 hSb
  constructor
  · unfold fX8_hasAll
    rw [every_eq R, bind_s, if_neg h.2]
  · unfold fX11_isSet
    rw [R.2.2.2.2.2.2.2.1, shl_k S (by omega), in_bad (n := 2 ^ S) rfl (by omega) h.1]
    rfl
theorem set_good (R : Reg t u S I P Wd) {b : Nat} (h : b < 2 ^ S) : fX8_hasAll 3 t (nI b) = some 1 ∧ fX11_isSet u (nI b) = some 1 := by
  have hSb : S ≤ 7 := R.2.2.2.2.2.2.2.2.1
  have hp := pow_7 hSb
  constructor
  · unfold fX8_hasAll
    rw [every_eq R, bind_s, if_pos (and_sub S (by omega) b h)]
  · unfold fX11_isSet
    rw [R.2.2.2.2.2.2.2.1, shl_k S (by omega), in_good (n := 2 ^ S) rfl (by omega) h]
    rfl
/-! whom a place can bear -/
theorem borne0 (R : Reg t u S I P Wd) (x1 x2 : Int32) : ∀ (d k : Nat) (v : Int32) (g : Nat), k + d = S → d < g → fX11_areBorne_8 u g x1 x2 0 v (nI k) = some 0 := by
  have hSb : S ≤ 7 := R.2.2.2.2.2.2.2.2.1
  have hS2 : u 144 3 = nI S := R.2.2.2.2.2.2.2.1
  intro d
  induction d with
  | zero =>
    intro k v g hk hg
    obtain ⟨g, rfl⟩ : ∃ z, g = z + 1 := ⟨g - 1, by omega⟩
    rw [fX11_areBorne_8_s, hS2, if_pos (nI_le (by omega) (by omega))]
    rfl
  | succ d ih =>
    intro k v g hk hg
    obtain ⟨g, rfl⟩ : ∃ z, g = z + 1 := ⟨g - 1, by omega⟩
    rw [fX11_areBorne_8_s, hS2, if_neg (nI_ge (by omega) (by omega))]
    unfold fX11_areBorne_63
    rw [nI_1]
    rcases has_01 u x1 (nI k) with e | e
    · rw [e, bind_s, i00]
      exact ih _ _ _ (by omega) (by omega)
    · rw [e, bind_s, i10, i00]
      exact ih _ _ _ (by omega) (by omega)
theorem borne_sim (R : Reg t u S I P Wd) (H : Hal t 44 (u 150) S I) (x1 x2 : Int32) : ∃ r, (r = 0 ∨ r = 1) ∧ fX3_canPay 44 t x1 x2 = some r ∧ fX11_areBorne u x1 x2 = some r := by
  have hSb : S ≤ 7 := R.2.2.2.2.2.2.2.2.1
  have hS1 : t 3 3 = nI S := R.2.2.2.2.2.2.1
  have hS2 : u 144 3 = nI S := R.2.2.2.2.2.2.2.1
  have key : ∀ (d k : Nat) (v : Int32) (f g : Nat), k + d = S → d < f → d < g → ∃ r, (r = 0 ∨ r = 1) ∧ fX3_canPay_5 44 t f x1 x2 v (nI k) = some r ∧ fX11_areBorne_8 u g x1 x2 1 v (nI k) = some r := by
    intro d
    induction d with
    | zero =>
      intro k v f g hk hf hg
      obtain ⟨f, rfl⟩ : ∃ z, f = z + 1 := ⟨f - 1, by omega⟩
      obtain ⟨g, rfl⟩ : ∃ z, g = z + 1 := ⟨g - 1, by omega⟩
      refine ⟨1, Or.inr rfl, ?_, ?_⟩
      · rw [fX3_canPay_5_s, hS1, if_pos (nI_le (by omega) (by omega))]
      · rw [fX11_areBorne_8_s, hS2, if_pos (nI_le (by omega) (by omega))]
        rfl
    | succ d ih =>
      intro k v f g hk hf hg
      obtain ⟨f, rfl⟩ : ∃ z, f = z + 1 := ⟨f - 1, by omega⟩
      obtain ⟨g, rfl⟩ : ∃ z, g = z + 1 := ⟨g - 1, by omega⟩
      rw [fX3_canPay_5_s, fX11_areBorne_8_s, hS1, hS2, if_neg (nI_ge (by omega) (by omega)), if_neg (nI_ge (by omega) (by omega)), isIn_has t u]
      rcases has_01 u x1 (nI k) with e | e
      · rw [e, bind_s, bind_s, i00, i00, nI_1]
        exact ih _ _ _ _ (by omega) (by omega) (by omega)
      · obtain ⟨p, p1, p2⟩ := price_sim R H.x (s := k) (by omega) (t 44 1) v x2
        rw [H.1] at p1 p2
        rw [e, bind_s, bind_s, i10, i10, i10, gd_k (by omega) (by omega), off7, gd_k (by omega) (by omega), cl_k (by omega), cl_k (by omega), l25, H.1, p1, p2, bind_s, bind_s, (H.2.2.2.2.1 k (by omega)).2.1]
        unfold fX11_areBorne_63
        rw [nI_1]
        by_cases c : p ≤ u 150 (7 + k)
        · rw [if_pos c, if_neg (by rw [lt_i]; rw [le_i] at c; omega)]
          exact ih _ _ _ _ (by omega) (by omega) (by omega)
        · rw [if_neg c, if_pos (by rw [lt_i]; rw [le_i] at c; omega), borne0 R x1 x2 d (k + 1) _ g (by omega) (by omega)]
          exact ⟨0, Or.inl rfl, rfl, rfl⟩
  exact key S 0 0 fuelN fuelN (by omega) (fuel_gt (by omega)) (fuel_gt (by omega))
theorem bc_b {b : Nat} (h : b < 128) (t : St) : fJ6_bitCount_0f7a4 t (nI b) = some (nI (popN b)) := by rw [bc_eq, (pop_ok b h).1]
theorem bt_b {b : Nat} (h : b < 128) (u : St) : fX11_bits u (nI b) = some (nI (popN b)) := by rw [bt_eq, (pop_ok b h).2.1]
theorem big_out {a k : Nat} (ha : a < 128) (hk : k < 128) (h : a < k) : nI k &&& (nI a ^^^ (-1 : Int32)) ≠ 0 := by
  intro e
  have h1 := sub_and e
  rw [nx_and] at h1
  have h2 : k &&& a ≤ a := Nat.and_le_right
  rw [nI_eq (by omega) (by omega)] at h1
  omega
theorem most_tail (R : Reg t u S I P Wd) {a : Nat} (ha : a < 2 ^ S) (x b : Int32) : ∀ (d k : Nat) (f : Nat), a < k → k + d = 2 ^ S → d < f → fX3_mostBorne_5 44 t f (nI a) x b (nI k) = some b := by
  have hp := pow_7 (show S ≤ 7 from R.2.2.2.2.2.2.2.2.1)
  have ev := every_eq R
  intro d
  induction d with
  | zero =>
    intro k f hak hk hf
    obtain ⟨f, rfl⟩ : ∃ z, f = z + 1 := ⟨f - 1, by omega⟩
    rw [fX3_mostBorne_5_s, ev, bind_s, if_pos (nI_lt (by omega) (by omega))]
  | succ d ih =>
    intro k f hak hk hf
    obtain ⟨f, rfl⟩ : ∃ z, f = z + 1 := ⟨f - 1, by omega⟩
    rw [fX3_mostBorne_5_s, ev, bind_s, if_neg (nI_nlt (by omega) (by omega)), if_neg (big_out (by omega) (by omega) hak), nI_1]
    exact ih _ _ (by omega) (by omega) (by omega)
theorem most_sim (R : Reg t u S I P Wd) (H : Hal t 44 (u 150) S I) {a : Nat} (ha : a < 2 ^ S) (x w : Int32) : ∀ (d k b : Nat) (f g : Nat), b < 2 ^ S → k + d = 2 ^ S → d < f → d < g → ∃ b', b' < 2 ^ S ∧ fX3_mostBorne_5 44 t f (nI a) x (nI b) (nI k) = some (nI b') ∧ fX11_bears_38 u g (nI a) x w (nI b) (nI k) = fX11_bears_103 u w (nI b') := by
  have hp := pow_7 (show S ≤ 7 from R.2.2.2.2.2.2.2.2.1)
  have ev := every_eq R
  intro d
  induction d with
  | zero =>
    intro k b f g hb hk hf hg
    obtain ⟨g, rfl⟩ : ∃ z, g = z + 1 := ⟨g - 1, by omega⟩
    refine ⟨b, hb, most_tail R ha x _ 0 k f (by omega) hk hf, ?_⟩
    rw [fX11_bears_38_s, if_pos (nI_lt (by omega) (by omega))]
  | succ d ih =>
    intro k b f g hb hk hf hg
    by_cases c : a < k
    · obtain ⟨g, rfl⟩ : ∃ z, g = z + 1 := ⟨g - 1, by omega⟩
      refine ⟨b, hb, most_tail R ha x _ (d + 1) k f c hk hf, ?_⟩
      rw [fX11_bears_38_s, if_pos (nI_lt (by omega) (by omega))]
    · obtain ⟨f, rfl⟩ : ∃ z, f = z + 1 := ⟨f - 1, by omega⟩
      obtain ⟨g, rfl⟩ : ∃ z, g = z + 1 := ⟨g - 1, by omega⟩
      rw [fX3_mostBorne_5_s, fX11_bears_38_s, ev, bind_s, if_neg (nI_nlt (by omega) (by omega)), if_neg (nI_nlt (by omega) (by omega)), bc_b (by omega), bc_b (by omega), bt_b (by omega), bt_b (by omega)]
      simp only [bind_s]
      unfold fX11_bears_70 fX11_bears_71
      rw [nI_1]
      by_cases c1 : nI k &&& (nI a ^^^ (-1 : Int32)) = 0
      · rw [if_pos c1, if_pos c1]
        by_cases c2 : nI (popN k) ≤ nI (popN b)
        · rw [if_pos c2, if_pos c2, i00]
          exact ih _ _ _ _ hb (by omega) (by omega) (by omega)
        · rw [if_neg c2, if_neg c2, i10]
          obtain ⟨r, hr, r1, r2⟩ := borne_sim R H (nI k) x
          rw [r1, r2, bind_s, bind_s]
          rcases hr with rfl | rfl
          · rw [i00, i00]
            exact ih _ _ _ _ hb (by omega) (by omega) (by omega)
          · rw [i10, i10]
            exact ih _ _ _ _ (by omega) (by omega) (by omega) (by omega)
      · rw [if_neg c1, if_neg c1, i00]
        exact ih _ _ _ _ hb (by omega) (by omega) (by omega)
theorem bears_ok (V : Inv t u) (a x w : Int32) : OK1 (fX10_bears t a x w) (fX11_bears u a x w) := by
  obtain ⟨S, I, P, Wd, U, T, Np, Ne, n, V⟩ := V
  obtain ⟨h1, R, H, B, -⟩ := id V
  have hSb : S ≤ 7 := R.2.2.2.2.2.2.2.2.1
  have hPb : P ≤ 4 := R.2.2.1
  have hp := pow_7 hSb
  unfold fX10_bears fX11_bears
  rcases set_cases hSb a with h | ⟨a, ha, rfl⟩
  · rw [(set_bad R h).1, (set_bad R h).2]
    exact OK1_rf _
  · rw [(set_good R ha).1, (set_good R ha).2, bind_s, bind_s, i10, i10]
    rcases ix_cases x (n := P) (by omega) with h | ⟨x, hx, rfl⟩
    · rw [(hP_bad R h).1, (hP_bad R h).2]
      exact OK1_rf _
    · rw [(hP_good R hx).1, (hP_good R hx).2, bind_s, bind_s, i10, i10]
      rcases rng (α := Option Int32) (u := u) (x := w) (a := 0) (b := 1) (A := 0) (B := 1) (lo := 0) (hi := 1) rfl rfl rfl rfl with ⟨e1, e2⟩ | ⟨-, -, e1, e2⟩
      · rw [e1, e2]
        exact OK1_rf _
      · rw [e1, e2, bind_s, i10]
        obtain ⟨N, hN⟩ : ∃ N, N + 1 = 2 ^ S := ⟨2 ^ S - 1, by have := two_pos S; omega⟩
        obtain ⟨b, hb, b1, b2⟩ := most_sim R H ha (nI x) w N 1 0 19999 fuelN (by omega) (by omega) (by omega) (fuel_gt (by omega))
        unfold fX3_mostBorne
        have hstep : fX3_mostBorne_5 44 t fuelN (nI a) (nI x) 0 0 = fX3_mostBorne_5 44 t 19999 (nI a) (nI x) 0 (nI 1) := by
          rw [show fuelN = 19999 + 1 from rfl, fX3_mostBorne_5_s, every_eq R, bind_s, show (0 : Int32) = nI 0 from rfl, if_neg (nI_nlt (by omega) (by omega)), bc_b (by omega)]
          simp only [bind_s]
          rw [if_pos (nI_le (Nat.le_refl _) (by decide)), nI_1]
          split <;> rfl
        rw [hstep, show (0 : Int32) = nI 0 from rfl, b1, bind_s, show (1 : Int32) = nI 1 from rfl, b2]
        unfold fX11_bears_103
        rw [bc_b (by omega), bt_b (by omega)]
        exact OK1_ite (OK1_rf _) (OK1_rf _)
/-! the fewest -/
theorem known_sim (R : Reg t u S I P Wd) (x1 : Int32) : ∃ v, fX8_knownBy 3 t x1 = some v ∧ ∀ k4 b, fX11_fewest_26 u k4 fuelN b x1 0 0 = fX11_fewest_64 u k4 b x1 v := by
  have hSb : S ≤ 7 := R.2.2.2.2.2.2.2.2.1
  have hS1 : t 3 3 = nI S := R.2.2.2.2.2.2.1
  have hS2 : u 144 3 = nI S := R.2.2.2.2.2.2.2.1
  have key : ∀ (d k : Nat) (v : Int32) (f g : Nat), k + d = S → d < f → d < g → ∃ r, fX8_knownBy_4 3 t f x1 v (nI k) = some r ∧ ∀ k4 b, fX11_fewest_26 u k4 g b x1 v (nI k) = fX11_fewest_64 u k4 b x1 r := by
    intro d
    induction d with
    | zero =>
      intro k v f g hk hf hg
      obtain ⟨f, rfl⟩ : ∃ z, f = z + 1 := ⟨f - 1, by omega⟩
      obtain ⟨g, rfl⟩ : ∃ z, g = z + 1 := ⟨g - 1, by omega⟩
      refine ⟨v, ?_, fun k4 b => ?_⟩
      · rw [fX8_knownBy_4_s, hS1, if_pos (nI_le (by omega) (by omega))]
      · rw [fX11_fewest_26_s, hS2, if_pos (nI_le (by omega) (by omega))]
    | succ d ih =>
      intro k v f g hk hf hg
      obtain ⟨f, rfl⟩ : ∃ z, f = z + 1 := ⟨f - 1, by omega⟩
      obtain ⟨g, rfl⟩ : ∃ z, g = z + 1 := ⟨g - 1, by omega⟩
      obtain ⟨-, hkn, -⟩ := R.2.2.2.2.2.2.2.2.2.2.2.2.2.2 k (by omega)
      rcases has_01 u x1 (nI k) with e | e
      · obtain ⟨r, r1, r2⟩ := ih (k + 1) v f g (by omega) (by omega) (by omega)
        refine ⟨r, ?_, fun k4 b => ?_⟩
        · rw [fX8_knownBy_4_s, hS1, if_neg (nI_ge (by omega) (by omega)), isIn_has t u, e, bind_s, i00, nI_1]
          exact r1
        · rw [fX11_fewest_26_s, hS2, if_neg (nI_ge (by omega) (by omega)), e, bind_s, bind_s, i00, or0, nI_1]
          exact r2 k4 b
      · obtain ⟨r, r1, r2⟩ := ih (k + 1) (v ||| u 148 k) f g (by omega) (by omega) (by omega)
        refine ⟨r, ?_, fun k4 b => ?_⟩
        · rw [fX8_knownBy_4_s, hS1, if_neg (nI_ge (by omega) (by omega)), isIn_has t u, e, bind_s, bind_s, i10, gd_k (by omega) (by omega), cl_k (by omega), nI_1, show t (3 + 4) k = u 148 k from hkn]
          exact r1
        · rw [fX11_fewest_26_s, hS2, if_neg (nI_ge (by omega) (by omega)), e]
          simp only [bind_s]
          rw [i10, gd_k (by omega) (by omega), cl_k (by omega), nI_1]
          exact r2 k4 b
  exact key S 0 0 fuelN fuelN (by omega) (fuel_gt (by omega)) (fuel_gt (by omega))
theorem fewest_sim (R : Reg t u S I P Wd) : OK1 (fX10_fewest t) (fX11_fewest u) := by
  have hSb : S ≤ 7 := R.2.2.2.2.2.2.2.2.1
  have hWb : Wd ≤ 9 := R.2.2.2.2.2.1
  have hS2 : u 144 3 = nI S := R.2.2.2.2.2.2.2.1
  have hW2 : u 144 2 = nI Wd := R.2.2.2.2.1
  have hp := pow_7 hSb
  have ev := every_eq R
  unfold fX10_fewest fX11_fewest
  rcases isE R with ⟨q0, q1, q2⟩ | ⟨q0, q1, q2⟩
  · obtain ⟨-, -, w0⟩ := R.2.2.2.2.2.2.2.2.2.2.2.2.1 q0
    rw [q1, bind_s, i10, show fuelN = 19999 + 1 from rfl, fX11_fewest_4_s, hS2, hW2, w0, shl_k S (by omega), show (0 : Int32) = nI 0 from rfl, if_neg (nI_ge (two_pos S) (by omega)), if_pos (nI_le (Nat.le_refl _) (by decide))]
    exact OK1_rf _
  · have hW0 := R.2.2.2.2.2.2.2.2.2.2.2.2.2.1 q0
    have key : ∀ (d k : Nat) (b z : Int32) (f g : Nat), k + d = 2 ^ S → d < f → d < g → ((b = -1 ∧ z = 8) ∨ ∃ j, j < 2 ^ S ∧ b = nI j ∧ z = nI (popN j)) → OK1 (fX10_fewest_19 t f b z (nI k)) (fX11_fewest_4 u g b (nI k)) := by
      intro d
      induction d with
      | zero =>
        intro k b z f g hk hf hg hb
        obtain ⟨f, rfl⟩ : ∃ z, f = z + 1 := ⟨f - 1, by omega⟩
        obtain ⟨g, rfl⟩ : ∃ z, g = z + 1 := ⟨g - 1, by omega⟩
        rw [fX10_fewest_19_s, fX11_fewest_4_s, ev, bind_s, hS2, shl_k S (by omega), if_pos (show nI (2 ^ S - 1) < nI k from nI_lt (by have := two_pos S; omega) (by omega)), if_pos (nI_le (by omega) (by omega))]
        exact OK1_rf _
      | succ d ih =>
        intro k b z f g hk hf hg hb
        obtain ⟨f, rfl⟩ : ∃ z, f = z + 1 := ⟨f - 1, by omega⟩
        obtain ⟨g, rfl⟩ : ∃ z, g = z + 1 := ⟨g - 1, by omega⟩
        obtain ⟨v, v1, v2⟩ := known_sim R (nI k)
        rw [fX10_fewest_19_s, fX11_fewest_4_s, ev, hS2, hW2, shl_k S (by omega), if_neg (nI_ge (by omega) (by omega)), if_neg (show ¬ nI Wd ≤ 0 from nI_nle hW0 (by omega)), v2]
        rw [bind_s, if_neg (nI_nlt (by omega) (by omega)), bc_b (by omega), v1, everyW_eq R]
        simp only [bind_s]
        unfold fX11_fewest_64 fX11_fewest_79 fX11_fewest_84
        rw [hW2, shl_k Wd (by omega), show nI (2 ^ Wd) - 1 = nI (2 ^ Wd - 1) from by rw [show (1 : Int32) = nI 1 from rfl, pk_sub (two_pos Wd)], nI_1]
        have skip := ih (k + 1) b z f g (by omega) (by omega) (by omega) hb
        have take := ih (k + 1) (nI k) (nI (popN k)) f g (by omega) (by omega) (by omega) (Or.inr ⟨k, by omega, rfl, rfl⟩)
        have hk7 := (pop_ok k (by omega)).2.2
        rcases hb with ⟨rfl, rfl⟩ | ⟨j, hj, rfl, rfl⟩
        · rw [if_neg (show ¬ (8 : Int32) ≤ nI (popN k) from nI_ge (b := 8) (by omega) (by omega)), if_pos (show (-1 : Int32) < 0 by decide), i10]
          exact OK1_ite take skip
        · have hj7 := (pop_ok j (by omega)).2.2
          rw [bt_b (by omega), bt_b (by omega)]
          simp only [bind_s]
          simp only [if_true, i10]
          rw [if_neg (nI_pos (by omega))]
          by_cases c : nI (popN j) ≤ nI (popN k)
          · rw [if_pos c, if_pos c]
            exact skip
          · rw [if_neg c, if_neg c]
            exact OK1_ite take skip
    rw [q1, bind_s, i00]
    exact key (2 ^ S) 0 (-1) 8 fuelN fuelN (by omega) (fuel_gt (by omega)) (fuel_gt (by omega)) (Or.inl ⟨rfl, rfl⟩)
end SE
