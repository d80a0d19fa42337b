/-! a text is read: numbers -/
theorem up_up (t : St) (o k : Nat) (x y : Int32) : up (up t o k x) o k y = up t o k y := by
  rw [up_def, up_def, upR_s, upR_upR, upd_upd, ← up_def]
theorem up_id' {t : St} {o k : Nat} {x : Int32} (h : t o k = x) : up t o k x = t := by
  rw [up_def, ← h, upd_id, upR_id]
/-- both readers stand at the same place of the same text, without a fault -/
def Syn (t u : St) (n p : Nat) : Prop := t 1 1 = nI n ∧ u 144 13 = nI n ∧ n ≤ 240 ∧ (∀ i, i < n → t 2 i = u 151 i ∧ ∃ k, k ≤ 255 ∧ t 2 i = nI k) ∧ t 1 2 = nI p ∧ u 144 15 = nI p ∧ p ≤ n ∧ t 1 3 = 0 ∧ t 1 4 = -1 ∧ u 144 14 = -1
def D1 (t t' : St) : Prop := (∀ o, o ≠ 1 → t' o = t o) ∧ t' 1 1 = t 1 1
def D2 (u u' : St) : Prop := (∀ o, o ≠ 144 → u' o = u o) ∧ ∀ k, (k < 14 ∨ 17 < k) → u' 144 k = u 144 k
section NU
variable {t u : St} {n p : Nat}
theorem D1_rf : D1 t t := ⟨fun _ _ => rfl, rfl⟩
theorem D2_rf : D2 u u := ⟨fun _ _ => rfl, fun _ _ => rfl⟩
theorem D1_tr {a b c : St} (h : D1 a b) (k : D1 b c) : D1 a c := ⟨fun o ho => (k.1 o ho).trans (h.1 o ho), k.2.trans h.2⟩
theorem D2_tr {a b c : St} (h : D2 a b) (k : D2 b c) : D2 a c := ⟨fun o ho => (k.1 o ho).trans (h.1 o ho), fun i hi => (k.2 i hi).trans (h.2 i hi)⟩
theorem D1_up (t : St) {k : Nat} (hk : k ≠ 1) (x : Int32) : D1 t (up t 1 k x) := ⟨fun o ho => up_n ho, by rw [up_s, upd_n (Ne.symm hk)]⟩
theorem D2_up (u : St) {k : Nat} (h1 : 14 ≤ k) (h2 : k ≤ 17) (x : Int32) : D2 u (up u 144 k x) := ⟨fun o ho => up_n ho, fun i hi => by rw [up_s, upd_n (by omega)]⟩
theorem Syn_at (Y : Syn t u n p) {q : Nat} (hq : q ≤ n) : Syn (up t 1 2 (nI q)) (up u 144 15 (nI q)) n q := by
  obtain ⟨y1, y2, y3, y4, y5, y6, y7, y8, y9, y10⟩ := Y
  refine ⟨by rw [up_s, upd_n (by decide)]; exact y1, by rw [up_s, upd_n (by decide)]; exact y2, y3, fun i hi => ?_, by rw [up_s, upd_s], by rw [up_s, upd_s], hq, by rw [up_s, upd_n (by decide)]; exact y8, by rw [up_s, upd_n (by decide)]; exact y9, by rw [up_s, upd_n (by decide)]; exact y10⟩
  rw [up_n (by decide), up_n (by decide)]
  exact y4 i hi
theorem letter_eq (Y : Syn t u n p) : fX7_letterHere t = some (if p < n then u 151 p else -1) := by
  obtain ⟨y1, y2, y3, y4, y5, y6, y7, y8, y9, y10⟩ := Y
  unfold fX7_letterHere
  rw [y5, y1, if_neg (nI_pos (by omega))]
  by_cases c : p < n
  · rw [if_neg (nI_ge c (by omega)), if_neg (show ¬ (240 : Int32) ≤ nI p from nI_ge (b := 240) (by omega) (by omega)), gd_k (by omega) (by omega), cl_k (by omega), if_pos c, (y4 p c).1]
  · rw [if_pos (nI_le (by omega) (by omega)), if_neg c]
theorem skip_sim : ∀ (d p : Nat) (t u : St) (f g : Nat), Syn t u n p → p + d = n → d < f → d < g → ∃ q, p ≤ q ∧ q ≤ n ∧ (q < n → u 151 q ≠ 32) ∧ fX7_skipBlanks_0 f t = some (up t 1 2 (nI q)) ∧ fX11_here_0 g u = some (if q < n then u 151 q else -1, up u 144 15 (nI q)) := by
  intro d
  induction d with
  | zero =>
    intro p t u f g Y hd hf hg
    obtain ⟨f, rfl⟩ : ∃ z, f = z + 1 := ⟨f - 1, by omega⟩
    obtain ⟨g, rfl⟩ : ∃ z, g = z + 1 := ⟨g - 1, by omega⟩
    obtain ⟨y1, y2, y3, y4, y5, y6, y7, y8, y9, y10⟩ := Y
    obtain rfl : p = n := by omega
    refine ⟨p, Nat.le_refl _, Nat.le_refl _, fun h => absurd h (Nat.lt_irrefl _), ?_, ?_⟩
    · rw [fX7_skipBlanks_0_s, y1, y5, if_pos (nI_le (Nat.le_refl _) (by omega)), up_id' y5]
    · rw [fX11_here_0_s, y2, y6, if_pos (nI_le (Nat.le_refl _) (by omega))]
      unfold fX11_here_38
      rw [y2, y6, if_pos (nI_le (Nat.le_refl _) (by omega)), if_neg (Nat.lt_irrefl _), up_id' y6]
  | succ d ih =>
    intro p t u f g Y hd hf hg
    obtain ⟨f, rfl⟩ : ∃ z, f = z + 1 := ⟨f - 1, by omega⟩
    obtain ⟨g, rfl⟩ : ∃ z, g = z + 1 := ⟨g - 1, by omega⟩
    have hl := letter_eq Y
    rw [if_pos (show p < n by omega)] at hl
    obtain ⟨y1, y2, y3, y4, y5, y6, y7, y8, y9, y10⟩ := id Y
    rw [fX7_skipBlanks_0_s, fX11_here_0_s, y1, y5, y2, y6, if_neg (nI_ge (by omega) (by omega)), if_neg (nI_ge (by omega) (by omega)), hl, bind_s, gd_k (by omega) (by omega), cl_k (by omega), bind_s, bind_s, nI_1]
    by_cases c : u 151 p = 32
    · rw [if_pos c, if_pos c]
      obtain ⟨q, q1, q2, q3, q4, q5⟩ := ih (p + 1) _ _ f g (Syn_at Y (q := p + 1) (by omega)) (by omega) (by omega) (by omega)
      rw [up_n (by decide)] at q3 q5
      rw [up_up] at q4 q5
      exact ⟨q, by omega, q2, q3, q4, q5⟩
    · rw [if_neg c, if_neg c]
      refine ⟨p, Nat.le_refl _, by omega, fun _ => c, by rw [up_id' y5], ?_⟩
      unfold fX11_here_38
      rw [y2, y6, if_neg (nI_ge (by omega) (by omega)), gd_k (by omega) (by omega), cl_k (by omega), if_pos (by omega), up_id' y6]
theorem skip_st (Y : Syn t u n p) : ∃ q, p ≤ q ∧ q ≤ n ∧ (q < n → u 151 q ≠ 32) ∧ fX7_skipBlanks t = some (up t 1 2 (nI q)) ∧ fX11_here u = some (if q < n then u 151 q else -1, up u 144 15 (nI q)) := by
  have hn := Y.2.2.1
  have hp := Y.2.2.2.2.2.2.1
  exact skip_sim (n - p) p t u fuelN fuelN Y (by omega) (fuel_gt (by omega)) (fuel_gt (by omega))
/-- here again: nothing moves -/
theorem here_again (Y : Syn t u n p) (h : p < n → u 151 p ≠ 32) : fX11_here u = some (if p < n then u 151 p else -1, u) := by
  obtain ⟨y1, y2, y3, y4, y5, y6, y7, y8, y9, y10⟩ := Y
  unfold fX11_here
  rw [show fuelN = 19999 + 1 from rfl, fX11_here_0_s, y2, y6]
  unfold fX11_here_38
  rw [y2, y6]
  by_cases c : p < n
  · rw [if_neg (nI_ge c (by omega)), if_neg (nI_ge c (by omega)), gd_k (by omega) (by omega), cl_k (by omega), if_neg (h c), if_pos c, gd_k (by omega) (by omega)]
  · rw [if_pos (nI_le (by omega) (by omega)), if_pos (nI_le (by omega) (by omega)), if_neg c]
theorem rn_flaw {fl : Nat} (h : t 1 3 = nI fl) (h0 : 0 < fl) (h3 : fl ≤ 3) (lo hi : Int32) : fX7_readNumber t lo hi = some (lo, t) := by
  unfold fX7_readNumber
  rw [h, if_neg (nI_ne0 h0 (by omega))]
theorem re_flaw {fl : Nat} (h : t 1 3 = nI fl) (h0 : 0 < fl) (h3 : fl ≤ 3) : fX7_readEnd t = some t := by
  unfold fX7_readEnd
  rw [h, if_neg (nI_ne0 h0 (by omega))]
/-- what becomes of a number -/
def NumR (t u : St) (n p : Nat) (lo hi : Int32) (a b : Option (Int32 × St)) : Prop :=
  ∃ r t' u', D1 t t' ∧ D2 u u' ∧ a = some (r, t') ∧ ((∃ fl, 0 < fl ∧ fl ≤ 3 ∧ b = some (nI fl, u') ∧ t' 1 3 = nI fl ∧ t' 1 4 = u' 144 14 ∧ ∃ q, q ≤ n ∧ t' 1 2 = nI q) ∨ (∃ q, p ≤ q ∧ b = some (0, u') ∧ u' 144 16 = r ∧ lo.toInt ≤ r.toInt ∧ r.toInt ≤ hi.toInt ∧ Syn t' u' n q))
theorem num_end {lo hi x4 : Int32} {st : Nat} (Y : Syn t u n p) (hst : st < p) (h17 : u 144 17 = nI st) (h16 : p - st ≤ 3 → u 144 16 = x4) : NumR t u n p lo hi (fX7_readNumber_85 t lo hi (nI st) x4) (fX11_takeNumber_129 u lo hi) := by
  obtain ⟨y1, y2, y3, y4, y5, y6, y7, y8, y9, y10⟩ := id Y
  have e1 : nI p - nI st = nI (p - st) := pk_sub (by omega)
  have hfail : ∃ t' u', D1 t t' ∧ D2 u u' ∧ fX7_readNumber_124 t lo (nI st) x4 = some (lo, t') ∧ fX11_takeNumber_157 u = some (nI 2, u') ∧ t' 1 3 = nI 2 ∧ t' 1 4 = u' 144 14 ∧ ∃ q, q ≤ n ∧ t' 1 2 = nI q := by
    unfold fX7_readNumber_124 fX11_takeNumber_157 fX7_fail fX11_fails fX7_readNumber_130
    simp only [bind_s, bd2_s]
    refine ⟨up (up t 1 3 2) 1 4 (nI st), up u 144 14 (u 144 17), D1_tr (D1_up t (by decide) _) (D1_up _ (by decide) _), D2_up u (by decide) (by decide) _, ?_, rfl, ?_, ?_, p, y7, by rw [up_s, upd_n (by decide), up_s, upd_n (by decide)]; exact y5⟩
    · rw [if_neg (show ¬ up (up t 1 3 2) 1 4 (nI st) 1 3 = 0 by rw [up_s, upd_n (by decide), up_s, upd_s]; decide)]
    · rw [up_s, upd_n (by decide), up_s, upd_s]
      rfl
    · rw [up_s, upd_s, up_s, upd_s, h17]
  unfold fX7_readNumber_85 fX11_takeNumber_129
  rw [y5, y6, h17, e1, if_neg (by rw [nI_eq (by omega) (by omega)]; omega)]
  by_cases c1 : 3 < p - st
  · rw [if_pos (show (3 : Int32) < nI (p - st) from nI_lt (a := 3) c1 (by omega)), if_pos (show (3 : Int32) < nI (p - st) from nI_lt (a := 3) c1 (by omega))]
    obtain ⟨t', u', d1, d2, f1, f2, f3, f4⟩ := hfail
    exact ⟨lo, t', u', d1, d2, f1, Or.inl ⟨2, by omega, by omega, f2, f3, f4⟩⟩
  · have c2 : ¬ (3 : Int32) < nI (p - st) := by
      have : ¬ nI 3 < nI (p - st) := nI_nlt (by omega) (by omega)
      exact this
    rw [if_neg c2, if_neg c2, h16 (by omega), in_eq, i2l_toInt, i2l_toInt, i2l_toInt]
    by_cases c3 : lo.toInt ≤ x4.toInt ∧ x4.toInt ≤ hi.toInt
    · rw [if_pos c3, bind_s, i10, if_neg (by rw [lt_i]; omega), if_pos (by rw [le_i]; omega)]
      unfold fX7_readNumber_130
      rw [if_pos y8]
      exact ⟨x4, t, u, D1_rf, D2_rf, rfl, Or.inr ⟨p, Nat.le_refl _, rfl, h16 (by omega), c3.1, c3.2, Y⟩⟩
    · rw [if_neg c3, bind_s, i00]
      obtain ⟨t', u', d1, d2, f1, f2, f3, f4⟩ := hfail
      refine ⟨lo, t', u', d1, d2, ?_, Or.inl ⟨2, by omega, by omega, f2, f3, f4⟩⟩
      by_cases c4 : x4 < lo
      · rw [if_pos c4]
        exact f1
      · rw [if_neg c4, if_neg (by rw [le_i]; rw [lt_i] at c4; omega)]
        exact f1
theorem NumR_tr {t1 u1 : St} {p1 : Nat} {lo hi : Int32} {a b : Option (Int32 × St)} (hp : p ≤ p1) (d1 : D1 t t1) (d2 : D2 u u1) (h : NumR t1 u1 n p1 lo hi a b) : NumR t u n p lo hi a b := by
  obtain ⟨r, t', u', e1, e2, e3, e4⟩ := h
  refine ⟨r, t', u', D1_tr d1 e1, D2_tr d2 e2, e3, ?_⟩
  rcases e4 with e4 | ⟨q, hq, e5⟩
  · exact Or.inl e4
  · exact Or.inr ⟨q, by omega, e5⟩
theorem fig_eq (t u : St) (c : Int32) : ∃ r, (r = 0 ∨ r = 1) ∧ fX7_isFigure t c = some r ∧ fX11_in u c.toInt64 48 57 = some r ∧ (r = 1 → 48 ≤ c.toInt ∧ c.toInt ≤ 57) := by
  unfold fX7_isFigure
  by_cases h : 48 ≤ c.toInt ∧ c.toInt ≤ 57
  · refine ⟨1, Or.inr rfl, ?_, in_ok (lo := 48) (hi := 57) rfl rfl h, fun _ => h⟩
    rw [if_neg (by rw [c_lt (v := 48) rfl]; omega), if_neg (by rw [c_gt (v := 57) rfl]; omega)]
  · refine ⟨0, Or.inl rfl, ?_, in_no (lo := 48) (hi := 57) rfl rfl (by omega), fun e => absurd e (by decide)⟩
    by_cases c1 : c < 48
    · rw [if_pos c1]
    · rw [if_neg c1, if_pos (by rw [c_gt (v := 57) rfl]; rw [c_lt (v := 48) rfl] at c1; omega)]
theorem digits {lo hi : Int32} {st : Nat} : ∀ (d p : Nat) (t u : St) (x4 : Int32) (f g : Nat), Syn t u n p → st < p → p + d = n → d < f → d < g → u 144 17 = nI st → (p - st ≤ 3 → ∃ v, v ≤ 999 ∧ (p - st ≤ 2 → v ≤ 99) ∧ (p - st ≤ 1 → v ≤ 9) ∧ x4 = nI v ∧ u 144 16 = nI v) → NumR t u n p lo hi (fX7_readNumber_21 f t lo hi (nI st) x4) (fX11_takeNumber_42 g u lo hi) := by
  intro d
  induction d with
  | zero =>
    intro p t u x4 f g Y hst hd hf hg h17 h16
    obtain ⟨f, rfl⟩ : ∃ z, f = z + 1 := ⟨f - 1, by omega⟩
    obtain ⟨g, rfl⟩ : ∃ z, g = z + 1 := ⟨g - 1, by omega⟩
    have hn := Y.2.2.1
    rw [fX7_readNumber_21_s, fX11_takeNumber_42_s, Y.1, Y.2.1, Y.2.2.2.2.1, Y.2.2.2.2.2.1, if_pos (nI_le (by omega) (by omega)), if_pos (nI_le (by omega) (by omega))]
    exact num_end Y hst h17 (fun h => by obtain ⟨v, -, -, -, v1, v2⟩ := h16 h; rw [v1, v2])
  | succ d ih =>
    intro p t u x4 f g Y hst hd hf hg h17 h16
    obtain ⟨f, rfl⟩ : ∃ z, f = z + 1 := ⟨f - 1, by omega⟩
    obtain ⟨g, rfl⟩ : ∃ z, g = z + 1 := ⟨g - 1, by omega⟩
    have hl := letter_eq Y
    rw [if_pos (show p < n by omega)] at hl
    obtain ⟨y1, y2, y3, y4, y5, y6, y7, y8, y9, y10⟩ := id Y
    obtain ⟨r, hr, r1, r2, r3⟩ := fig_eq t u (u 151 p)
    have e1 : nI p - nI st = nI (p - st) := pk_sub (by omega)
    rw [fX7_readNumber_21_s, fX11_takeNumber_42_s, y1, y2, y5, y6, if_neg (nI_ge (by omega) (by omega)), if_neg (nI_ge (by omega) (by omega)), hl, bind_s, bind_s, r1, gd_k (by omega) (by omega), cl_k (by omega), r2, bind_s, bind_s, gd_k (by omega) (by omega), e1]
    rcases hr with rfl | rfl
    · rw [i00, i00]
      exact num_end Y hst h17 (fun h => by obtain ⟨v, -, -, -, v1, v2⟩ := h16 h; rw [v1, v2])
    · rw [i10, i10]
      obtain ⟨k, hk, k1⟩ := (y4 p (by omega)).2
      have k2 : u 151 p = nI k := by rw [← (y4 p (by omega)).1]; exact k1
      have k3 := r3 rfl
      rw [k2, nI_int (by omega)] at k3
      unfold fX7_readNumber_70 fX11_takeNumber_113
      simp only [bind_s]
      rw [y5, nI_1]
      have e15 : ∀ z, up u 144 16 z 144 15 = nI p := fun z => by rw [up_s, upd_n (by decide)]; exact y6
      rw [e15, e15, nI_1]
      have Y1 : ∀ z, Syn (up t 1 2 (nI (p + 1))) (up (up u 144 16 z) 144 15 (nI (p + 1))) n (p + 1) := fun z => by
        refine Syn_at (p := p) ?_ (by omega)
        refine ⟨y1, by rw [up_s, upd_n (by decide)]; exact y2, y3, fun i hi => by rw [up_n (by decide)]; exact y4 i hi, y5, e15 z, y7, y8, y9, by rw [up_s, upd_n (by decide)]; exact y10⟩
      have go : ∀ (z x4' : Int32), (p + 1 - st ≤ 3 → ∃ v, v ≤ 999 ∧ (p + 1 - st ≤ 2 → v ≤ 99) ∧ (p + 1 - st ≤ 1 → v ≤ 9) ∧ x4' = nI v ∧ z = nI v) → NumR t u n p lo hi (fX7_readNumber_21 f (up t 1 2 (nI (p + 1))) lo hi (nI st) x4') (fX11_takeNumber_42 g (up (up u 144 16 z) 144 15 (nI (p + 1))) lo hi) := by
        intro z x4' hz
        refine NumR_tr (p1 := p + 1) (by omega) (D1_up t (k := 2) (by decide) (nI (p + 1))) (D2_tr (D2_up u (k := 16) (by decide) (by decide) z) (D2_up _ (k := 15) (by decide) (by decide) (nI (p + 1)))) ?_
        refine ih (p + 1) _ _ x4' f g (Y1 z) (by omega) (by omega) (by omega) (by omega) (by rw [up_s, upd_n (by decide), up_s, upd_n (by decide)]; exact h17) (fun h => ?_)
        obtain ⟨v, v1, v2, v3, v4, v5⟩ := hz h
        exact ⟨v, v1, v2, v3, v4, by rw [up_s, upd_n (by decide), up_s, upd_s]; exact v5⟩
      by_cases c1 : 3 ≤ p - st
      · rw [if_pos (show (3 : Int32) ≤ nI (p - st) from nI_le (a := 3) c1 (by omega))]
        by_cases c2 : u 144 16 ≤ 10000
        · rw [if_pos c2]
          exact go _ _ (fun h => by omega)
        · rw [if_neg c2]
          exact go _ _ (fun h => by omega)
      · obtain ⟨v, v1, v2, v3, v4, v5⟩ := h16 (by omega)
        have hv : v ≤ 99 := v2 (by omega)
        rw [if_neg (show ¬ (3 : Int32) ≤ nI (p - st) from nI_ge (b := 3) (by omega) (by omega)), v5, if_pos (show nI v ≤ (10000 : Int32) from nI_le (b := 10000) (by omega) (by omega)), k2, v4]
        have z1 : nI v * 10 + nI k - 48 = nI (10 * v + (k - 48)) := by
          rw [show (10 : Int32) = nI 10 from rfl, pk_mul, nI_add, show (48 : Int32) = nI 48 from rfl, pk_sub (by omega), show v * 10 + k - 48 = 10 * v + (k - 48) by omega]
        have z2 : (10 : Int32) * nI v + nI k - 48 = nI (10 * v + (k - 48)) := by
          rw [show (10 : Int32) = nI 10 from rfl, pk_mul, nI_add, show (48 : Int32) = nI 48 from rfl, pk_sub (by omega), show 10 * v + k - 48 = 10 * v + (k - 48) by omega]
        rw [z1, z2]
        refine go _ _ (fun h => ⟨10 * v + (k - 48), by omega, fun h2 => ?_, fun h2 => ?_, rfl, rfl⟩)
        · have := v3 (by omega)
          omega
        · omega
theorem number_sim (Y : Syn t u n p) (lo hi : Int32) : NumR t u n p lo hi (fX7_readNumber t lo hi) (fX11_takeNumber u lo hi) := by
  obtain ⟨q, q1, q2, q3, q4, q5⟩ := skip_st Y
  have Yq := Syn_at Y q2
  have hn := Y.2.2.1
  unfold fX7_readNumber fX11_takeNumber
  rw [if_pos Y.2.2.2.2.2.2.2.1, q4, q5, bind_s, bd2_s, bind_s]
  refine NumR_tr (p1 := q) q1 (D1_up t (k := 2) (by decide) (nI q)) (D2_up u (k := 15) (by decide) (by decide) (nI q)) ?_
  obtain ⟨t1, ht1⟩ : ∃ z, z = up t 1 2 (nI q) := ⟨_, rfl⟩
  obtain ⟨u1, hu1⟩ : ∃ z, z = up u 144 15 (nI q) := ⟨_, rfl⟩
  have e151 : u 151 = u1 151 := by rw [hu1, up_n (by decide)]
  rw [e151] at q3 ⊢
  rw [← ht1, ← hu1] at Yq ⊢
  have hl := letter_eq Yq
  obtain ⟨y1, y2, y3, y4, y5, y6, y7, y8, y9, y10⟩ := id Yq
  obtain ⟨r, hr, r1, r2, r3⟩ := fig_eq t1 u1 (if q < n then u1 151 q else -1)
  rw [r2, bind_s, y5]
  -- no figure here
  have nofig : r = 0 → NumR t1 u1 n q lo hi (fX7_readNumber_85 t1 lo hi (nI q) 0) (bd2 (fX11_fails u1 1 (u1 144 15)) (fun r_9 t_10 => some (r_9, t_10))) := by
    intro _
    unfold fX7_readNumber_85 fX11_fails fX7_fail fX7_readNumber_130
    rw [if_pos y5]
    simp only [bind_s, bd2_s]
    rw [if_neg (show ¬ up (up t1 1 3 1) 1 4 (nI q) 1 3 = 0 by rw [up_s, upd_n (by decide), up_s, upd_s]; decide)]
    refine ⟨lo, _, _, D1_tr (D1_up t1 (k := 3) (by decide) 1) (D1_up _ (k := 4) (by decide) _), D2_up u1 (k := 14) (by decide) (by decide) _, rfl, Or.inl ⟨1, by omega, by omega, rfl, ?_, ?_⟩⟩
    · rw [up_s, upd_n (by decide), up_s, upd_s]
      rfl
    · exact ⟨by rw [up_s, upd_s, up_s, upd_s, y6], q, y7, by rw [up_s, upd_n (by decide), up_s, upd_n (by decide)]; exact y5⟩
  rw [show fuelN = 19999 + 1 from rfl, fX7_readNumber_21_s, y1, y5]
  by_cases c : q < n
  · rw [if_neg (nI_ge c (by omega)), hl, bind_s, r1, bind_s]
    rcases hr with rfl | rfl
    · rw [i00, i00]
      exact nofig rfl
    · rw [i10, i10]
      have k3 := r3 rfl
      rw [if_pos c] at k3
      obtain ⟨k, hk, k1⟩ := (y4 q c).2
      have k2 : u1 151 q = nI k := by rw [← (y4 q c).1]; exact k1
      rw [k2, nI_int (by omega)] at k3
      unfold fX7_readNumber_70
      simp only [bind_s]
      have e0 : nI q - nI q = nI 0 := by rw [pk_sub (Nat.le_refl q), Nat.sub_self]
      rw [e0, if_neg (show ¬ (3 : Int32) ≤ nI 0 by decide), if_pos c, k2, y5, nI_1]
      -- the reference's first figure
      obtain ⟨u2, hu2⟩ : ∃ z, z = up (up u1 144 17 (u1 144 15)) 144 16 0 := ⟨_, rfl⟩
      rw [← hu2]
      have d2 : D2 u1 u2 := by
        rw [hu2]
        exact D2_tr (D2_up u1 (k := 17) (by decide) (by decide) _) (D2_up _ (k := 16) (by decide) (by decide) _)
      have f13 : u2 144 13 = nI n := by rw [d2.2 13 (by omega)]; exact y2
      have f15 : u2 144 15 = nI q := by rw [hu2, up_s, upd_n (by decide), up_s, upd_n (by decide)]; exact y6
      have f16 : u2 144 16 = nI 0 := by rw [hu2, up_s, upd_s]; rfl
      have f17 : u2 144 17 = nI q := by rw [hu2, up_s, upd_n (by decide), up_s, upd_s]; exact y6
      have f14 : u2 144 14 = -1 := by rw [hu2, up_s, upd_n (by decide), up_s, upd_n (by decide)]; exact y10
      have f151 : u2 151 = u1 151 := d2.1 151 (by decide)
      rw [fX11_takeNumber_42_s, f13, f15, if_neg (nI_ge c (by omega)), gd_k (by omega) (by omega), cl_k (by omega), f151, k2, in_ok (lo := 48) (hi := 57) rfl rfl (by rw [nI_int (by omega)]; omega), bind_s, i10, f16, if_pos (by decide), gd_k (by omega) (by omega)]
      unfold fX11_takeNumber_113
      simp only [bind_s]
      have z1 : (0 : Int32) * 10 + nI k - 48 = nI (k - 48) := by
        rw [show (0 : Int32) * 10 = nI 0 from rfl, nI_add, Nat.zero_add, show (48 : Int32) = nI 48 from rfl, pk_sub (by omega)]
      have z2 : (10 : Int32) * nI 0 + nI k - 48 = nI (k - 48) := by
        rw [show (10 : Int32) * nI 0 = nI 0 from rfl, nI_add, Nat.zero_add, show (48 : Int32) = nI 48 from rfl, pk_sub (by omega)]
      have e15 : ∀ z, up u2 144 16 z 144 15 = nI q := fun z => by rw [up_s, upd_n (by decide)]; exact f15
      rw [z1, z2, e15, nI_1]
      refine NumR_tr (p1 := q + 1) (by omega) (D1_up t1 (k := 2) (by decide) (nI (q + 1))) (D2_tr d2 (D2_tr (D2_up u2 (k := 16) (by decide) (by decide) (nI (k - 48))) (D2_up _ (k := 15) (by decide) (by decide) (nI (q + 1))))) ?_
      refine digits (n - (q + 1)) (q + 1) _ _ _ 19999 19999 ?_ (by omega) (by omega) (by omega) (by omega) (by rw [up_s, upd_n (by decide), up_s, upd_n (by decide)]; exact f17) (fun _ => ⟨k - 48, by omega, fun _ => by omega, fun _ => by omega, rfl, by rw [up_s, upd_n (by decide), up_s, upd_s]⟩)
      refine Syn_at (p := q) ?_ (by omega)
      refine ⟨y1, by rw [up_s, upd_n (by decide)]; exact f13, y3, fun i hi => by rw [up_n (by decide), f151]; exact y4 i hi, y5, e15 _, y7, y8, y9, by rw [up_s, upd_n (by decide)]; exact f14⟩
  · rw [if_pos (nI_le (by omega) (by omega))]
    have hr0 : r = 0 := by
      rcases hr with h | h
      · exact h
      · have := r3 h
        rw [if_neg c] at this
        have m1 : (-1 : Int32).toInt = -1 := rfl
        omega
    rw [hr0, i00]
    exact nofig hr0
end NU
