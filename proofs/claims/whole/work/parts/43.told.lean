/-! choirs; what is told -/
def OK3 (t u : St) (a : Option (Int32 × St)) (b : Option Int32) : Prop := ∃ r t1, a = some (r, t1) ∧ b = some r ∧ Inv t1 u ∧ Cl t t1
section CH
variable {t u : St} {S I P Wd Np Ne : Nat}
theorem ok3_id (V : Inv t u) (r : Int32) : OK3 t u (some (r, t)) (some r) := ⟨r, t, rfl, rfl, V, Cl_rf⟩
theorem OK3_ite {p : Prop} [Decidable p] {a a' : Option (Int32 × St)} {b b' : Option Int32} (h1 : OK3 t u a b) (h2 : OK3 t u a' b') : OK3 t u (if p then a else a') (if p then b else b') := by
  by_cases c : p
  · rw [if_pos c, if_pos c]; exact h1
  · rw [if_neg c, if_neg c]; exact h2
theorem bySet_sim (R : Reg t u S I P Wd) (H : Hal t 44 (u 150) S I) (x1 x2 : Int32) : OK1 (fX3_owedBySet 44 t x1 x2) (fX11_owedBy u x1 x2) := by
  have hSb : S ≤ 7 := R.2.2.2.2.2.2.2.2.1
  have hS1 : t 3 3 = nI S := R.2.2.2.2.2.2.1
  have hS2 : u 144 3 = nI S := R.2.2.2.2.2.2.2.1
  have key : ∀ (d k : Nat) (c v : Int32) (f g : Nat), k + d = S → d < f → d < g → OK1 (fX3_owedBySet_8 44 t f x1 x2 c v (nI k)) (fX11_owedBy_8 u g x1 x2 c v (nI k)) := by
    intro d
    induction d with
    | zero =>
      intro k c v f g hk hf hg
      obtain ⟨f, rfl⟩ : ∃ z, f = z + 1 := ⟨f - 1, by omega⟩
      obtain ⟨g, rfl⟩ : ∃ z, g = z + 1 := ⟨g - 1, by omega⟩
      rw [fX3_owedBySet_8_s, fX11_owedBy_8_s, hS1, hS2, if_pos (nI_le (by omega) (by omega)), if_pos (nI_le (by omega) (by omega))]
      exact OK1_rf _
    | succ d ih =>
      intro k c v f g hk hf hg
      obtain ⟨f, rfl⟩ : ∃ z, f = z + 1 := ⟨f - 1, by omega⟩
      obtain ⟨g, rfl⟩ : ∃ z, g = z + 1 := ⟨g - 1, by omega⟩
      obtain ⟨p, p1, p2⟩ := price_sim R H.x (s := k) (by omega) (t 44 1) v x2
      rw [H.1] at p1 p2
      rw [fX3_owedBySet_8_s, fX11_owedBy_8_s, hS1, hS2, if_neg (nI_ge (by omega) (by omega)), if_neg (nI_ge (by omega) (by omega)), isIn_has t u, l25, H.1, p1, p2]
      rcases has_01 u x1 (nI k) with e | e
      · rw [e]
        simp only [bind_s, if_true]
        rw [nI_1]
        exact ih _ _ _ _ _ (by omega) (by omega) (by omega)
      · rw [e]
        simp only [bind_s]
        rw [i10, i10, nI_1]
        exact ih _ _ _ _ _ (by omega) (by omega) (by omega)
  exact key S 0 0 0 fuelN fuelN (by omega) (fuel_gt (by omega)) (fuel_gt (by omega))
theorem could_sim (R : Reg t u S I P Wd) (H : Hal t 44 (u 150) S I) (L : Led t u S Np Ne) (x : Int32) : ∃ r, (r = 0 ∨ r = 1) ∧ fX5_fits 44 t x = some r ∧ fX11_couldBe u x = some r := by
  obtain ⟨l1, l2, l3, l4, -⟩ := L
  have zero : ∀ (k g : Nat), 0 < g → fX11_couldBe_4 u g x 0 (nI k) = some 0 := by
    intro k g hg
    obtain ⟨g, rfl⟩ : ∃ z, g = z + 1 := ⟨g - 1, by omega⟩
    rw [fX11_couldBe_4_s, i00]
    split <;> rfl
  have key : ∀ (d k : Nat) (f g : Nat), k + d = Np → d < f → d < g → ∃ r, (r = 0 ∨ r = 1) ∧ fX5_fits_2 44 t f x (nI k) = some r ∧ fX11_couldBe_4 u g x 1 (nI k) = some r := by
    intro d
    induction d with
    | zero =>
      intro k f g hk hf hg
      obtain ⟨f, rfl⟩ : ∃ z, f = z + 1 := ⟨f - 1, by omega⟩
      obtain ⟨g, rfl⟩ : ∃ z, g = z + 1 := ⟨g - 1, by omega⟩
      rw [fX5_fits_2_s, fX11_couldBe_4_s, l1, l2, if_pos (nI_le (by omega) (by omega)), if_pos (nI_le (by omega) (by omega))]
      exact ⟨1, Or.inr rfl, rfl, rfl⟩
    | succ d ih =>
      intro k f g hk hf hg
      obtain ⟨f, rfl⟩ : ∃ z, f = z + 1 := ⟨f - 1, by omega⟩
      obtain ⟨g, rfl⟩ : ∃ z, g = z + 1 := ⟨g - 1, by omega⟩
      obtain ⟨k1, k2⟩ := l4 k (by omega)
      obtain ⟨p, p1, p2⟩ := bySet_sim R H x (u 160 k)
      rw [fX5_fits_2_s, fX11_couldBe_4_s, l1, l2, if_neg (nI_ge (by omega) (by omega)), if_neg (nI_ge (by omega) (by omega)), i10]
      simp only [gd_k (show k < 6 by omega) (show 6 < 2 ^ 31 by decide), cl_k (show k < 2 ^ 31 by omega)]
      rw [k1, k2, p1, p2, bind_s, bind_s, nI_1]
      by_cases c : p = u 161 k
      · rw [if_pos c, if_pos c]
        exact ih _ _ _ (by omega) (by omega) (by omega)
      · rw [if_neg c, if_neg c, zero _ _ (by omega)]
        exact ⟨0, Or.inl rfl, rfl, rfl⟩
  exact key Np 0 fuelN fuelN (by omega) (fuel_gt (by omega)) (fuel_gt (by omega))
/-- how many sets could be that hold w; what is in each of them -/
def cwN (u : St) (w : Nat) : Nat → Nat
  | 0 => 0
  | k + 1 => cwN u w k + (if k &&& w = w ∧ fX11_couldBe u (nI k) = some 1 then 1 else 0)
def ceN (u : St) : Nat → Int32
  | 0 => -1
  | k + 1 => if fX11_couldBe u (nI k) = some 1 then ceN u k &&& nI k else ceN u k
theorem cwN_s (u : St) (w k : Nat) : cwN u w (k + 1) = cwN u w k + (if k &&& w = w ∧ fX11_couldBe u (nI k) = some 1 then 1 else 0) := rfl
theorem ceN_s (u : St) (k : Nat) : ceN u (k + 1) = if fX11_couldBe u (nI k) = some 1 then ceN u k &&& nI k else ceN u k := rfl
theorem cwN_le (u : St) (w : Nat) : ∀ k, cwN u w k ≤ k := by
  intro k
  induction k with
  | zero => exact Nat.le_refl 0
  | succ k ih =>
    unfold cwN
    split <;> omega
theorem ceN_ok (u : St) : ∀ k, k < 2 ^ 31 → ceN u k = -1 ∨ ∃ j, j < 2 ^ 31 ∧ ceN u k = nI j := by
  intro k
  induction k with
  | zero => exact fun _ => Or.inl rfl
  | succ k ih =>
    intro hk
    unfold ceN
    split
    · rcases ih (by omega) with e | ⟨j, hj, e⟩
      · rw [e]
        exact Or.inr ⟨k, by omega, Int32.neg_one_and⟩
      · rw [e, nx_and]
        exact Or.inr ⟨_, Nat.lt_of_le_of_lt Nat.and_le_left hj, rfl⟩
    · exact ih (by omega)
theorem bit_w : ∀ s, s < 7 → ∀ k, k < 128 → ((nI k >>> (nI s &&& 31)) &&& (1 : Int32)) = if k &&& 2 ^ s = 2 ^ s then 1 else 0 := by decide +kernel
theorem choirsW (R : Reg t u S I P Wd) (H : Hal t 44 (u 150) S I) (L : Led t u S Np Ne) {w : Nat} (hw : w < 128) : fX11_choirsWith u (nI w) = some (nI (cwN u w (2 ^ S))) := by
  have hSb : S ≤ 7 := R.2.2.2.2.2.2.2.2.1
  have hp := pow_7 hSb
  have hS2 : u 144 3 = nI S := R.2.2.2.2.2.2.2.1
  have key : ∀ (d k : Nat) (g : Nat), k + d = 2 ^ S → d < g → fX11_choirsWith_4 u g (nI w) (nI (cwN u w k)) (nI k) = some (nI (cwN u w (2 ^ S))) := by
    intro d
    induction d with
    | zero =>
      intro k g hk hg
      obtain ⟨g, rfl⟩ : ∃ z, g = z + 1 := ⟨g - 1, by omega⟩
      rw [fX11_choirsWith_4_s, hS2, shl_k S (by omega), if_pos (nI_le (by omega) (by omega)), show k = 2 ^ S by omega]
    | succ d ih =>
      intro k g hk hg
      obtain ⟨g, rfl⟩ : ∃ z, g = z + 1 := ⟨g - 1, by omega⟩
      have h1 := ih (k + 1) g (by omega) (by omega)
      obtain ⟨r, hr, -, r2⟩ := could_sim R H L (nI k)
      rw [fX11_choirsWith_4_s, hS2, shl_k S (by omega), if_neg (nI_ge (by omega) (by omega)), nx_and, r2, bind_s]
      unfold fX11_choirsWith_34
      rw [add0, bind_s, nI_1, nI_1]
      rw [cwN_s] at h1
      have hkw : k &&& w < 2 ^ 31 := Nat.lt_of_le_of_lt Nat.and_le_left (by omega)
      by_cases c : k &&& w = w
      · rw [if_pos (by rw [c])]
        rcases hr with rfl | rfl
        · rw [i00]
          rw [if_neg (by rw [r2]; rintro ⟨-, e⟩; exact absurd (Option.some.inj e) (by decide)), Nat.add_zero] at h1
          exact h1
        · rw [i10, bind_s]
          rw [if_pos ⟨c, r2⟩] at h1
          exact h1
      · rw [if_neg (by rw [nI_eq hkw (by omega)]; exact c)]
        rw [if_neg (fun e => c e.1), Nat.add_zero] at h1
        exact h1
  exact key (2 ^ S) 0 fuelN (by omega) (fuel_gt (by omega))
theorem inEach_eq (R : Reg t u S I P Wd) (H : Hal t 44 (u 150) S I) (L : Led t u S Np Ne) : fX11_inEach u = some (ceN u (2 ^ S)) := by
  have hSb : S ≤ 7 := R.2.2.2.2.2.2.2.2.1
  have hp := pow_7 hSb
  have hS2 : u 144 3 = nI S := R.2.2.2.2.2.2.2.1
  have key : ∀ (d k : Nat) (g : Nat), k + d = 2 ^ S → d < g → fX11_inEach_4 u g (ceN u k) (nI k) = some (ceN u (2 ^ S)) := by
    intro d
    induction d with
    | zero =>
      intro k g hk hg
      obtain ⟨g, rfl⟩ : ∃ z, g = z + 1 := ⟨g - 1, by omega⟩
      rw [fX11_inEach_4_s, hS2, shl_k S (by omega), if_pos (nI_le (by omega) (by omega)), show k = 2 ^ S by omega]
    | succ d ih =>
      intro k g hk hg
      obtain ⟨g, rfl⟩ : ∃ z, g = z + 1 := ⟨g - 1, by omega⟩
      have h1 := ih (k + 1) g (by omega) (by omega)
      obtain ⟨r, hr, -, r2⟩ := could_sim R H L (nI k)
      rw [fX11_inEach_4_s, hS2, shl_k S (by omega), if_neg (nI_ge (by omega) (by omega)), r2, bind_s, nI_1, bind_s]
      rw [ceN_s] at h1
      rcases hr with rfl | rfl
      · rw [i00]
        rw [if_neg (by rw [r2]; intro e; exact absurd (Option.some.inj e) (by decide))] at h1
        exact h1
      · rw [i10]
        rw [if_pos r2] at h1
        rcases ceN_ok u k (by omega) with e | ⟨j, hj, e⟩
        · rw [e] at h1 ⊢
          rw [if_neg (by decide)]
          rw [Int32.neg_one_and] at h1
          exact h1
        · rw [e] at h1 ⊢
          rw [if_pos (show (0 : Int32) ≤ nI j from nI_le (a := 0) (by omega) hj)]
          exact h1
  exact key (2 ^ S) 0 fuelN (by omega) (fuel_gt (by omega))
theorem add22 (x : Int32) : ∀ (d k : Nat) (t : St) (f : Nat), k + d = 7 → d < f → ∃ t', fX0_add_22 f t x (nI k) = some t' ∧ (∀ o, o ≠ 26 → t' o = t o) ∧ ∀ s, s < 7 → t' 26 s = if k ≤ s then t 26 s + ((x >>> (nI s &&& 31)) &&& (1 : Int32)) else t 26 s := by
  intro d
  induction d with
  | zero =>
    intro k t f hk hf
    obtain ⟨f, rfl⟩ : ∃ z, f = z + 1 := ⟨f - 1, by omega⟩
    refine ⟨t, ?_, fun _ _ => rfl, fun s hs => ?_⟩
    · rw [fX0_add_22_s, if_pos (show (7 : Int32) ≤ nI k from nI_le (a := 7) (by omega) (by omega))]
    · rw [if_neg (by omega)]
  | succ d ih =>
    intro k t f hk hf
    obtain ⟨f, rfl⟩ : ∃ z, f = z + 1 := ⟨f - 1, by omega⟩
    obtain ⟨t', a1, a2, a3⟩ := ih (k + 1) (up t 26 k (t 26 k + ((x >>> (nI k &&& 31)) &&& (1 : Int32)))) f (by omega) (by omega)
    refine ⟨t', ?_, fun o ho => by rw [a2 o ho, up_n ho], fun s hs => ?_⟩
    · rw [fX0_add_22_s, if_neg (show ¬ (7 : Int32) ≤ nI k from nI_ge (b := 7) (by omega) (by omega)), gd_k (by omega) (by omega), gd_k (by omega) (by omega), cl_k (by omega), bind_s, nI_1]
      exact a1
    · rw [a3 s hs, up_s]
      by_cases e : s = k
      · subst e
        rw [if_neg (by omega), if_pos (Nat.le_refl _), upd_s]
      · rw [upd_n e]
        by_cases c : k + 1 ≤ s
        · rw [if_pos c, if_pos (by omega)]
        · rw [if_neg c, if_neg (by omega)]
/-- what the choirs' cells hold behind the first k sets -/
def Chs (t u t' : St) (k : Nat) : Prop := (∀ o, o ≠ 25 → o ≠ 26 → t' o = t o) ∧ t' 25 0 = nI (cwN u 0 k) ∧ t' 25 1 = ceN u k ∧ ∀ s, s < 7 → t' 26 s = nI (cwN u (2 ^ s) k)
theorem Chs_R {t' : St} {k : Nat} (C : Chs t u t' k) (R : Reg t u S I P Wd) : Reg t' u S I P Wd := Reg_t R (C.1 _ (by omega) (by omega)) (C.1 _ (by omega) (by omega)) (C.1 _ (by omega) (by omega))
theorem gather37 (R : Reg t u S I P Wd) (H : Hal t 44 (u 150) S I) (L : Led t u S Np Ne) : ∀ (d k : Nat) (t' : St) (f : Nat), Chs t u t' k → k + d = 2 ^ S → d < f → ∃ t2, fX0_gather_37 3 44 f t' (nI k) = some t2 ∧ Chs t u t2 (2 ^ S) := by
  have hSb : S ≤ 7 := R.2.2.2.2.2.2.2.2.1
  have hp := pow_7 hSb
  intro d
  induction d with
  | zero =>
    intro k t' f C hk hf
    obtain ⟨f, rfl⟩ : ∃ z, f = z + 1 := ⟨f - 1, by omega⟩
    obtain rfl : k = 2 ^ S := by omega
    refine ⟨t', ?_, C⟩
    have := two_pos S
    rw [fX0_gather_37_s, every_eq (Chs_R C R), bind_s, if_pos (nI_lt (by omega) (by omega))]
  | succ d ih =>
    intro k t' f C hk hf
    obtain ⟨f, rfl⟩ : ∃ z, f = z + 1 := ⟨f - 1, by omega⟩
    have R1 := Chs_R C R
    have H1 : Hal t' 44 (u 150) S I := Hal_t H (fun o z1 z2 => C.1 o (by omega) (by omega))
    have L1 : Led t' u S Np Ne := Led_c L (fun o z1 z2 => C.1 o (by omega) (by omega)) (fun _ _ _ => rfl) rfl rfl
    obtain ⟨r, hr, r1, r2⟩ := could_sim R1 H1 L1 (nI k)
    rw [fX0_gather_37_s, every_eq R1, bind_s, if_neg (nI_nlt (by omega) (by omega)), r1, bind_s, nI_1]
    obtain ⟨c1, c2, c3, c4⟩ := C
    rcases hr with rfl | rfl
    · have hno : ¬ fX11_couldBe u (nI k) = some 1 := by rw [r2]; intro e; exact absurd (Option.some.inj e) (by decide)
      rw [i00]
      refine ih (k + 1) t' f ⟨c1, ?_, ?_, fun s hs => ?_⟩ (by omega) (by omega)
      · rw [c2, cwN_s, if_neg (fun e => hno e.2), Nat.add_zero]
      · rw [c3, ceN_s, if_neg hno]
      · rw [c4 s hs, cwN_s, if_neg (fun e => hno e.2), Nat.add_zero]
    · rw [i10]
      unfold fX0_add
      obtain ⟨t3, a1, a2, a3⟩ := add22 (nI k) 7 0 (up (up t' 25 0 (t' 25 0 + 1)) 25 1 (up t' 25 0 (t' 25 0 + 1) 25 1 &&& nI k)) fuelN (by omega) (fuel_gt (by omega))
      rw [bind_s, bind_s, show (0 : Int32) = nI 0 from rfl] at *
      have a1' : fX0_add_22 fuelN (up (up t' 25 (0) (t' 25 0 + 1)) 25 1 (up t' 25 0 (t' 25 0 + 1) 25 1 &&& nI k)) (nI k) (nI 0) = some t3 := a1
      rw [a1', bind_s]
      refine ih (k + 1) t3 f ⟨fun o z1 z2 => by rw [a2 o z2, up_n z1, up_n z1, c1 o z1 z2], ?_, ?_, fun s hs => ?_⟩ (by omega) (by omega)
      · rw [a2 25 (by decide), up_s, upd_n (by decide), up_s, upd_s, c2, nI_1]
        rw [cwN_s, if_pos ⟨Nat.and_zero k, r2⟩]
      · rw [a2 25 (by decide), up_s, upd_s, up_s, upd_n (by decide), c3]
        rw [ceN_s, if_pos r2]
      · rw [a3 s hs, if_pos (Nat.zero_le s), up_n (by decide), up_n (by decide), c4 s hs, bit_w s hs k (by omega)]
        rw [cwN_s]
        by_cases c : k &&& 2 ^ s = 2 ^ s
        · rw [if_pos c, if_pos ⟨c, r2⟩, nI_1]
        · rw [if_neg c, if_neg (fun e => c e.1), add0, Nat.add_zero]
theorem gather13 : ∀ (d k : Nat) (t : St) (f : Nat), k + d = 7 → d < f → ∃ t', fX0_gather_13 3 44 f t (nI k) = fX0_gather_37 3 44 fuelN t' 0 ∧ (∀ o, o ≠ 26 → t' o = t o) ∧ ∀ s, s < 7 → t' 26 s = if k ≤ s then 0 else t 26 s := by
  intro d
  induction d with
  | zero =>
    intro k t f hk hf
    obtain ⟨f, rfl⟩ : ∃ z, f = z + 1 := ⟨f - 1, by omega⟩
    refine ⟨t, ?_, fun _ _ => rfl, fun s hs => ?_⟩
    · rw [fX0_gather_13_s, if_pos (show (7 : Int32) ≤ nI k from nI_le (a := 7) (by omega) (by omega))]
    · rw [if_neg (by omega)]
  | succ d ih =>
    intro k t f hk hf
    obtain ⟨f, rfl⟩ : ∃ z, f = z + 1 := ⟨f - 1, by omega⟩
    obtain ⟨t', a1, a2, a3⟩ := ih (k + 1) (up t 26 k 0) f (by omega) (by omega)
    refine ⟨t', ?_, fun o ho => by rw [a2 o ho, up_n ho], fun s hs => ?_⟩
    · rw [fX0_gather_13_s, if_neg (show ¬ (7 : Int32) ≤ nI k from nI_ge (b := 7) (by omega) (by omega)), gd_k (by omega) (by omega), cl_k (by omega), bind_s, nI_1]
      exact a1
    · rw [a3 s hs, up_s]
      by_cases e : s = k
      · subst e
        rw [if_neg (by omega), if_pos (Nat.le_refl _), upd_s]
      · rw [upd_n e]
        by_cases c : k + 1 ≤ s
        · rw [if_pos c, if_pos (by omega)]
        · rw [if_neg c, if_neg (by omega)]
theorem gather_sim (R : Reg t u S I P Wd) (H : Hal t 44 (u 150) S I) (L : Led t u S Np Ne) : ∃ t2, fX0_gather 3 44 t = some t2 ∧ Chs t u t2 (2 ^ S) := by
  have hp := pow_7 (show S ≤ 7 from R.2.2.2.2.2.2.2.2.1)
  unfold fX0_gather
  rw [bind_s, bind_s]
  obtain ⟨t', a1, a2, a3⟩ := gather13 7 0 (up (up t 25 0 0) 25 1 (-1)) fuelN (by omega) (fuel_gt (by omega))
  have C : Chs t u t' 0 := by
    refine ⟨fun o z1 z2 => by rw [a2 o z2, up_n z1, up_n z1], ?_, ?_, fun s hs => ?_⟩
    · rw [a2 25 (by decide), up_s, upd_n (by decide), up_s, upd_s]; rfl
    · rw [a2 25 (by decide), up_s, upd_s]; rfl
    · rw [a3 s hs, if_pos (Nat.zero_le s)]; rfl
  obtain ⟨t2, b1, b2⟩ := gather37 R H L (2 ^ S) 0 t' fuelN C (by omega) (fuel_gt (by omega))
  exact ⟨t2, a1.trans b1, b2⟩
theorem lip_sim (R : Reg t u S I P Wd) (H : Hal t 44 (u 150) S I) (L : Led t u S Np Ne) {t2 : St} (C : Chs t u t2 (2 ^ S)) : OK1 (fX0_bestLip 3 t2) (fX11_lip u) := by
  have hSb : S ≤ 7 := R.2.2.2.2.2.2.2.2.1
  have hp := pow_7 hSb
  have R2 := Chs_R C R
  have hS1 : t2 3 3 = nI S := R2.2.2.2.2.2.2.1
  have hS2 : u 144 3 = nI S := R.2.2.2.2.2.2.2.1
  obtain ⟨N, hN⟩ : ∃ N, N = cwN u 0 (2 ^ S) := ⟨_, rfl⟩
  have c25 : t2 25 0 = nI N := by rw [hN]; exact C.2.1
  have hN2 : N ≤ 128 := by have := cwN_le u 0 (2 ^ S); omega
  have key : ∀ (d k : Nat) (b z : Int32) (f g : Nat), k + d = S → d < f → d < g → OK1 (fX0_bestLip_10 3 t2 f b z (nI k)) (fX11_lip_12 u g (nI N) b z (nI k)) := by
    intro d
    induction d with
    | zero =>
      intro k b z f g hk hf hg
      obtain ⟨f, rfl⟩ : ∃ z, f = z + 1 := ⟨f - 1, by omega⟩
      obtain ⟨g, rfl⟩ : ∃ z, g = z + 1 := ⟨g - 1, by omega⟩
      rw [fX0_bestLip_10_s, fX11_lip_12_s, hS1, hS2, if_pos (nI_le (by omega) (by omega)), if_pos (nI_le (by omega) (by omega))]
      exact OK1_rf _
    | succ d ih =>
      intro k b z f g hk hf hg
      obtain ⟨f, rfl⟩ : ∃ z, f = z + 1 := ⟨f - 1, by omega⟩
      obtain ⟨g, rfl⟩ : ∃ z, g = z + 1 := ⟨g - 1, by omega⟩
      have hk128 : 2 ^ k < 128 := Nat.pow_lt_pow_right (a := 2) (m := k) (n := 7) (by decide) (by omega)
      rw [fX0_bestLip_10_s, fX11_lip_12_s, hS1, hS2, if_neg (nI_ge (by omega) (by omega)), if_neg (nI_ge (by omega) (by omega)), gd_k (by omega) (by omega), gd_k (by omega) (by omega), cl_k (by omega), c25, C.2.2.2 k (by omega), shl_k k (by omega), choirsW R H L hk128, bind_s, bind_s]
      obtain ⟨q, hq⟩ : ∃ q, q = nI (cwN u (2 ^ k) (2 ^ S)) := ⟨_, rfl⟩
      rw [← hq]
      unfold fX11_lip_49 fX11_lip_63
      rw [nI_1]
      by_cases c : q < nI N - q
      · rw [if_pos c, if_pos (show q ≤ nI N - q by rw [le_i]; rw [lt_i] at c; omega)]
        by_cases c2 : z ≤ nI N - q
        · rw [if_pos c2, if_pos c2, if_pos c2]
          exact ih _ _ _ _ _ (by omega) (by omega) (by omega)
        · rw [if_neg c2, if_neg c2, if_neg c2]
          exact ih _ _ _ _ _ (by omega) (by omega) (by omega)
      · rw [if_neg c]
        by_cases c3 : q ≤ nI N - q
        · have e : nI N - q = q := ext_i (by rw [lt_i] at c; rw [le_i] at c3; omega)
          rw [if_pos c3, e]
          by_cases c2 : z ≤ q
          · rw [if_pos c2, if_pos c2, if_pos c2]
            exact ih _ _ _ _ _ (by omega) (by omega) (by omega)
          · rw [if_neg c2, if_neg c2, if_neg c2]
            exact ih _ _ _ _ _ (by omega) (by omega) (by omega)
        · rw [if_neg c3]
          by_cases c2 : z ≤ q
          · rw [if_pos c2, if_pos c2, if_pos c2]
            exact ih _ _ _ _ _ (by omega) (by omega) (by omega)
          · rw [if_neg c2, if_neg c2, if_neg c2]
            exact ih _ _ _ _ _ (by omega) (by omega) (by omega)
  unfold fX0_bestLip fX11_lip fX11_choirs
  have h0 := choirsW R H L (w := 0) (by decide)
  rw [← hN] at h0
  rw [show (0 : Int32) = nI 0 from rfl, h0, bind_s, bind_s, bind_s, show t2 25 0 = nI N from c25]
  exact key S 0 (-1) (nI N) fuelN fuelN (by omega) (fuel_gt (by omega)) (fuel_gt (by omega))
theorem Inv_chs {t2 : St} {k U T n : Nat} (V : InvP t u S I P Wd U T Np Ne n) (C : Chs t u t2 k) : InvP t2 u S I P Wd U T Np Ne n := by
  obtain ⟨h1, R, H, B, Q, h6, h7, h8⟩ := V
  have f := C.1
  refine ⟨?_, Chs_R C R, ?_, B, ?_, ?_, ?_, ?_⟩
  · exact Txt_c h1 (f _ (by omega) (by omega)) (f _ (by omega) (by omega)) rfl rfl rfl
  · exact Hal_t H (fun o z1 z2 => f o (by omega) (by omega))
  · exact Pst_c Q (f _ (by omega) (by omega)) (fun o z1 z2 => f _ (by omega) (by omega)) rfl rfl
  · exact Img_c h6 (f _ (by omega) (by omega)) (f _ (by omega) (by omega)) (fun o z1 z2 => f _ (by omega) (by omega)) rfl rfl
  · exact Led_c h7 (fun o z1 z2 => f _ (by omega) (by omega)) (fun o z1 z2 => rfl) rfl rfl
  · exact Drw_c h8 (f _ (by omega) (by omega)) rfl
theorem told_ok (V : Inv t u) (x : Int32) : OK3 t u (fX10_told t x) (fX11_told u x) := by
  have V0 := V
  obtain ⟨S, I, P, Wd, U, T, Np, Ne, n, V⟩ := V
  obtain ⟨h1, R, H, B, Q, h6, L, h8⟩ := id V
  have hp := pow_7 (show S ≤ 7 from R.2.2.2.2.2.2.2.2.1)
  obtain ⟨b, -, b1, b2⟩ := who_sim R H.x
  obtain ⟨p, p1, p2⟩ := owedAll_sim R H.x
  obtain ⟨q, q1, q2⟩ := deaf_sim R H.x
  obtain ⟨ri, ri1, ri2⟩ := rich_sim R H.x B
  obtain ⟨fw, fw1, fw2⟩ := fewest_sim R
  obtain ⟨t2, g1, C⟩ := gather_sim R H L
  obtain ⟨lp, lp1, lp2⟩ := lip_sim R H L C
  have V2 : Inv t2 u := ⟨S, I, P, Wd, U, T, Np, Ne, n, Inv_chs V C⟩
  have cl2 : Cl t t2 := fun o ho => C.1 o (by omega) (by omega)
  have k15 : OK3 t u (bd2 (fX10_toldOfChoirs t 15) (fun r_28 t_29 => some (r_28, t_29))) ((fX11_choirs u).bind (fun r_28 => some r_28)) := by
    unfold fX10_toldOfChoirs fX11_choirs
    rw [g1, bind_s, show (0 : Int32) = nI 0 from rfl, choirsW R H L (w := 0) (by decide), bind_s, bind_s, if_pos rfl, bd2_s]
    exact ⟨_, t2, rfl, congrArg some C.2.1.symm, V2, cl2⟩
  have k16 : OK3 t u (bd2 (fX10_toldOfChoirs t 16) (fun r_28 t_29 => some (r_28, t_29))) ((fX11_inEach u).bind (fun r_28 => some r_28)) := by
    unfold fX10_toldOfChoirs
    rw [g1, bind_s, inEach_eq R H L, bind_s, if_neg (by decide), if_pos rfl, bd2_s]
    exact ⟨_, t2, rfl, congrArg some C.2.2.1.symm, V2, cl2⟩
  have k17 : OK3 t u (bd2 (fX10_toldOfChoirs t 17) (fun r_28 t_29 => some (r_28, t_29))) ((fX11_lip u).bind (fun r_28 => some r_28)) := by
    unfold fX10_toldOfChoirs
    rw [g1, bind_s, lp1, lp2, bind_s, bind_s, if_neg (by decide), if_neg (by decide), bd2_s]
    exact ⟨_, t2, rfl, rfl, V2, cl2⟩
  unfold fX10_told fX11_told
  rw [b1, b2, p1, p2, q1, q2, ri1, ri2, fw1, fw2]
  simp only [bind_s]
  rw [l25, l26, l27, l28, H.1, H.2.1, H.2.2.1, H.2.2.2.1, R.1, R.2.1, R.2.2.2.1, R.2.2.2.2.1, R.2.2.2.2.2.2.1, R.2.2.2.2.2.2.2.1, R.2.2.2.2.2.2.2.2.2.1, R.2.2.2.2.2.2.2.2.2.2.1, h1.1, h1.2.1, L.1, L.2.1, L.2.2.2.2.1, L.2.2.2.2.2.1, Q.2.2.1, Q.2.2.2.1]
  refine OK3_ite (ok3_id V0 _) (OK3_ite (ok3_id V0 _) (OK3_ite (ok3_id V0 _) (OK3_ite (ok3_id V0 _) (OK3_ite (ok3_id V0 _) (OK3_ite (ok3_id V0 _) (OK3_ite (ok3_id V0 _) (OK3_ite (ok3_id V0 _) (OK3_ite (ok3_id V0 _) (OK3_ite (ok3_id V0 _) (OK3_ite (ok3_id V0 _) (OK3_ite (ok3_id V0 _) (OK3_ite (ok3_id V0 _) (OK3_ite (ok3_id V0 _) (OK3_ite (ok3_id V0 _) ?_))))))))))))))
  by_cases c15 : x = 15
  · rw [if_pos c15, if_pos c15, c15]
    exact k15
  · rw [if_neg c15, if_neg c15]
    by_cases c16 : x = 16
    · rw [if_pos c16, if_pos c16, c16]
      exact k16
    · rw [if_neg c16, if_neg c16]
      by_cases c17 : x = 17
      · rw [if_pos c17, if_pos c17, c17]
        exact k17
      · rw [if_neg c17, if_neg c17]
        exact OK3_ite (ok3_id V0 _) (OK3_ite (ok3_id V0 _) (ok3_id V0 _))
end CH
