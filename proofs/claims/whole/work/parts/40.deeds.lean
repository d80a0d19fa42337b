/-! the calls that do something -/
section DE
variable {t u : St} {S I P Wd U T Np Ne n : Nat}
theorem fin_ok {r : Int32} {t1 u1 t2 u2 : St} {U1 T1 : Nat} (V1 : InvP t1 u1 S I P Wd U1 T1 Np Ne n) (c1 : Cl t t1) (c2 : Mo u u1) (a : Step 44 S I t1 u1 t2 u2) : OK2 t u (some (r, t2)) (some (r, u2)) :=
  ⟨r, t2, u2, rfl, rfl, ⟨S, I, P, Wd, U1, T1, Np, Ne, n, Inv_step V1 a⟩, Cl_tr c1 (Step_cl a).1, Mo_tr c2 (Step_cl a).2⟩
theorem join_ok (V : Inv t u) (s : Int32) : OK2 t u (fX10_join t s) (fX11_join u s) := by
  have V0 := V
  obtain ⟨S, I, P, Wd, U, T, Np, Ne, n, V⟩ := V
  obtain ⟨h1, R, H, B, -⟩ := id V
  have hSb : S ≤ 7 := R.2.2.2.2.2.2.2.2.1
  unfold fX10_join fX11_join
  rcases ix_cases s (n := S) (by omega) with h | ⟨s, hs, rfl⟩
  · rw [(hS_bad R h).1, (hS_bad R h).2]
    exact ok2_id V0 _
  · rw [(hS_good R hs).1, (hS_good R hs).2, bind_s, bind_s, i10, i10, (sings_eq R H.x hs).1, (sings_eq R H.x hs).2, bind_s, bind_s]
    by_cases c : u 150 (14 + s) = -1
    · rw [if_pos c, i00, i00]
      obtain ⟨t1, u1, m1, m2, V1, c1, c2, -, e150⟩ := mark_all V
      obtain ⟨t2, u2, a1, a2, a3⟩ := letIn_st V1.2.1 (by omega) V1.2.2.1 V1.2.2.2.1 hs (by rw [e150]; exact c)
      rw [m1, m2, bind_s, bind_s, a1, a2, bind_s, bind_s, gd_k (by omega) (by omega), off14, gd_k (by omega) (by omega), cl_k (by omega), cl_k (by omega), show t2 47 s = u2 150 (14 + s) from (a3.2.2.1.2.2.2.2.1 s hs).2.2]
      exact fin_ok V1 c1 c2 a3
    · rw [if_neg c, i10, i10]
      exact ok2_id V0 _
theorem hush_ok (V : Inv t u) (s : Int32) : OK2 t u (fX10_hush t s) (fX11_hush u s) := by
  have V0 := V
  obtain ⟨S, I, P, Wd, U, T, Np, Ne, n, V⟩ := V
  obtain ⟨h1, R, H, B, -⟩ := id V
  have hSb : S ≤ 7 := R.2.2.2.2.2.2.2.2.1
  unfold fX10_hush fX11_hush
  rcases ix_cases s (n := S) (by omega) with h | ⟨s, hs, rfl⟩
  · rw [(hS_bad R h).1, (hS_bad R h).2]
    exact ok2_id V0 _
  · rw [(hS_good R hs).1, (hS_good R hs).2, bind_s, bind_s, i10, i10, (sings_eq R H.x hs).1, (sings_eq R H.x hs).2, bind_s, bind_s]
    by_cases c : u 150 (14 + s) = -1
    · rw [if_pos c, i00, i00]
      exact ok2_id V0 _
    · rw [if_neg c, i10, i10]
      obtain ⟨t1, u1, m1, m2, V1, c1, c2, -, e150⟩ := mark_all V
      obtain ⟨t2, u2, a1, a2, a3⟩ := silence_st V1.2.1 (by omega) V1.2.2.1 V1.2.2.2.1 hs
      obtain ⟨v, -, v1, v2⟩ := voices_sim (Step_R V1.2.1 (by omega) a3) a3.2.2.1.x (u2 150 s)
      rw [m1, m2, bind_s, bind_s, a1, a2, bind_s, bind_s, gd_k (by omega) (by omega), gd_k (by omega) (by omega), cl_k (by omega), show t2 45 s = u2 150 s from (a3.2.2.1.2.2.2.2.1 s hs).1, v1, v2, bind_s, bind_s]
      exact fin_ok V1 c1 c2 a3
theorem go_ok (V : Inv t u) (s x : Int32) : OK2 t u (fX10_go t s x) (fX11_go u s x) := by
  have V0 := V
  obtain ⟨S, I, P, Wd, U, T, Np, Ne, n, V⟩ := V
  obtain ⟨h1, R, H, B, -⟩ := id V
  have hSb : S ≤ 7 := R.2.2.2.2.2.2.2.2.1
  have hPb : P ≤ 4 := R.2.2.1
  unfold fX10_go fX11_go
  rcases ix_cases s (n := S) (by omega) with h | ⟨s, hs, rfl⟩
  · rw [(hS_bad R h).1, (hS_bad R h).2]
    exact ok2_id V0 _
  · rw [(hS_good R hs).1, (hS_good R hs).2, bind_s, bind_s, bind_s, i10, i10]
    rcases ix_cases x (n := P) (by omega) with h | ⟨x, hx, rfl⟩
    · rw [(hP_bad R h).1, (hP_bad R h).2]
      exact ok2_id V0 _
    · rw [(hP_good R hx).1, (hP_good R hx).2, bind_s, bind_s, i10, i10, gd_k (by omega) (by omega), gd_k (by omega) (by omega), cl_k (by omega), show t 45 s = u 150 s from (H.2.2.2.2.1 s hs).1]
      by_cases c : u 150 s = nI x
      · rw [if_pos c, if_pos c]
        exact ok2_id V0 _
      · rw [if_neg c, if_neg c]
        obtain ⟨t1, u1, m1, m2, V1, c1, c2, -, e150⟩ := mark_all V
        obtain ⟨t2, u2, a1, a2, a3⟩ := move_st V1.2.1 (by omega) V1.2.2.1 V1.2.2.2.1 hs (x := nI x) (by rw [e150]; exact c)
        rw [m1, m2, bind_s, bind_s, a1, gd_k (by omega) (by omega), bind_s, bind_s, a2, bind_s, e150]
        exact fin_ok V1 c1 c2 a3
theorem give_ok (V : Inv t u) (s x : Int32) : OK2 t u (fX10_give t s x) (fX11_give u s x) := by
  have V0 := V
  obtain ⟨S, I, P, Wd, U, T, Np, Ne, n, V⟩ := V
  obtain ⟨h1, R, H, B, -⟩ := id V
  have hSb : S ≤ 7 := R.2.2.2.2.2.2.2.2.1
  unfold fX10_give fX11_give
  rcases ix_cases s (n := S) (by omega) with h | ⟨s, hs, rfl⟩
  · rw [(hS_bad R h).1, (hS_bad R h).2]
    exact ok2_id V0 _
  · rw [(hS_good R hs).1, (hS_good R hs).2, bind_s, bind_s, i10, i10]
    rcases rng (α := Option (Int32 × St)) (u := u) (x := x) (a := 1) (b := 999) (A := 1) (B := 999) (lo := 1) (hi := 999) rfl rfl rfl rfl with ⟨e1, e2⟩ | ⟨b1, b2, e1, e2⟩
    · rw [e1, e2]
      exact ok2_id V0 _
    · rw [e1, e2, bind_s, i10]
      obtain ⟨k, hk, rfl, hk2⟩ := int_nI (x := x) (by omega)
      obtain ⟨t1, u1, m1, m2, V1, c1, c2, -, e150⟩ := mark_all V
      obtain ⟨t2, u2, a1, a2, a3⟩ := fill_st V1.2.1 (by omega) V1.2.2.1 V1.2.2.2.1 hs (n := k) (by omega)
      rw [m1, m2, bind_s, bind_s, a1, a2, bind_s, bind_s, gd_k (by omega) (by omega), off7, gd_k (by omega) (by omega), cl_k (by omega), cl_k (by omega), show t2 46 s = u2 150 (7 + s) from (a3.2.2.1.2.2.2.2.1 s hs).2.1]
      exact fin_ok V1 c1 c2 a3
theorem rate_ok (V : Inv t u) (x : Int32) : OK2 t u (fX10_rate t x) (fX11_rate u x) := by
  have V0 := V
  obtain ⟨S, I, P, Wd, U, T, Np, Ne, n, V⟩ := V
  obtain ⟨h1, R, H, B, -⟩ := id V
  unfold fX10_rate fX11_rate
  rcases rng (α := Option (Int32 × St)) (u := u) (x := x) (a := 1) (b := 9) (A := 1) (B := 9) (lo := 1) (hi := 9) rfl rfl rfl rfl with ⟨e1, e2⟩ | ⟨b1, b2, e1, e2⟩
  · rw [e1, e2]
    exact ok2_id V0 _
  · rw [e1, e2, bind_s, bind_s, i10]
    obtain ⟨k, hk, rfl, hk2⟩ := int_nI (x := x) (by omega)
    rcases isE R with ⟨-, q1, q2⟩ | ⟨-, q1, q2⟩
    · rw [q1, if_pos q2, bind_s, i10]
      exact ok2_id V0 _
    · rw [q1, if_neg q2, bind_s, i00]
      obtain ⟨t1, u1, m1, m2, V1, c1, c2, -, e150⟩ := mark_all V
      rw [m1, m2]
      simp only [bind_s]
      rw [l25, H.1, e150]
      exact fin_ok V1 c1 c2 ((step_fld V1.2.1 (by omega) V1.2.2.1 V1.2.2.2.1 (nI k)).2.1 ⟨k, by omega, rfl⟩)
theorem inspect_ok (V : Inv t u) (i x : Int32) : OK2 t u (fX10_inspect t i x) (fX11_inspect u i x) := by
  have V0 := V
  obtain ⟨S, I, P, Wd, U, T, Np, Ne, n, V⟩ := V
  obtain ⟨h1, R, H, B, -⟩ := id V
  have hIb : I ≤ 4 := R.2.2.2.2.2.2.2.2.2.2.2.1
  have hI1 : t 3 4 = nI I := R.2.2.2.2.2.2.2.2.2.1
  have hI2 : u 144 8 = nI I := R.2.2.2.2.2.2.2.2.2.2.1
  have hPb : P ≤ 4 := R.2.2.1
  unfold fX10_inspect fX11_inspect
  rcases ix_cases i (n := I) (by omega) with h | ⟨i, hi, rfl⟩
  · rw [show fX8_hasInspector 3 t i = some 0 from has_bad (t := t) hI1 (by omega) h, in_bad hI2 (by omega) h]
    exact ok2_id V0 _
  · rw [show fX8_hasInspector 3 t (nI i) = some 1 from has_good hI1 (by omega) hi, in_good hI2 (by omega) hi, bind_s, bind_s, bind_s, i10, i10]
    rcases ix_cases x (n := P) (by omega) with h | ⟨x, hx, rfl⟩
    · rw [(hP_bad R h).1, (hP_bad R h).2]
      exact ok2_id V0 _
    · rw [(hP_good R hx).1, (hP_good R hx).2, bind_s, bind_s, i10, i10, gd_k (by omega) (by omega), off21, gd_k (by omega) (by omega), cl_k (by omega), cl_k (by omega), show t 48 i = u 150 (21 + i) from H.2.2.2.2.2 i hi]
      by_cases c : u 150 (21 + i) = nI x
      · rw [if_pos c, if_pos c]
        exact ok2_id V0 _
      · rw [if_neg c, if_neg c]
        obtain ⟨t1, u1, m1, m2, V1, c1, c2, -, e150⟩ := mark_all V
        simp only [m1, m2, bind_s, gd_k (show i < 4 by omega) (show 4 < 2 ^ 31 by decide), gd_k (show 21 + i < 29 by omega) (show 29 < 2 ^ 31 by decide)]
        rw [e150]
        exact fin_ok V1 c1 c2 (step_post V1.2.1 (by omega) V1.2.2.1 V1.2.2.2.1 hi (nI x))
theorem refuse_sim (V : InvP t u S I P Wd U T Np Ne n) (x : Int32) : ∃ r, fX10_refusalOfVerses t x = some r ∧ fX11_versesRefused u x = some r ∧ (r = 0 → ∃ m, m ≤ 60 ∧ x = nI m) := by
  obtain ⟨h1, R, H, B, -⟩ := id V
  unfold fX10_refusalOfVerses fX11_versesRefused
  rcases rng (α := Option Int32) (u := u) (x := x) (a := 1) (b := 60) (A := 1) (B := 60) (lo := 1) (hi := 60) rfl rfl rfl rfl with ⟨e1, e2⟩ | ⟨b1, b2, e1, e2⟩
  · rw [e1, e2]
    exact ⟨_, rfl, rfl, fun h => absurd h (by decide)⟩
  · rw [e1, e2, bind_s, i10]
    obtain ⟨k, hk, rfl, hk2⟩ := int_nI (x := x) (by omega)
    rcases isE R with ⟨-, q1, q2⟩ | ⟨-, q1, q2⟩
    · rw [q1, if_pos q2, bind_s, i10]
      exact ⟨_, rfl, rfl, fun h => absurd h (by decide)⟩
    · rw [q1, if_neg q2, bind_s, i00, l28, H.2.1]
      by_cases c : u 150 28 ≤ 9000
      · rw [if_pos c]
        exact ⟨_, rfl, rfl, fun _ => ⟨k, by omega, rfl⟩⟩
      · rw [if_neg c]
        exact ⟨_, rfl, rfl, fun h => absurd h (by decide)⟩
theorem verses_st {m : Nat} (hm : m ≤ 60) : ∀ (d k : Nat) (t u : St) (f g : Nat), InvP t u S I P Wd U T Np Ne n → k + d = m → d < f → d < g → OK2 t u (fX10_verse_25 f t (nI m) (nI k)) (fX11_verse_18 g u (nI m) (nI k)) := by
  intro d
  induction d with
  | zero =>
    intro k t u f g V hk hf hg
    obtain ⟨f, rfl⟩ : ∃ z, f = z + 1 := ⟨f - 1, by omega⟩
    obtain ⟨g, rfl⟩ : ∃ z, g = z + 1 := ⟨g - 1, by omega⟩
    rw [fX10_verse_25_s, fX11_verse_18_s, if_pos (nI_le (by omega) (by omega)), if_pos (nI_le (by omega) (by omega))]
    unfold fX11_verse_33
    rw [l26, V.2.2.1.2.2.1]
    exact ok2_id ⟨S, I, P, Wd, U, T, Np, Ne, n, V⟩ _
  | succ d ih =>
    intro k t u f g V hk hf hg
    obtain ⟨f, rfl⟩ : ∃ z, f = z + 1 := ⟨f - 1, by omega⟩
    obtain ⟨g, rfl⟩ : ∃ z, g = z + 1 := ⟨g - 1, by omega⟩
    obtain ⟨t1, u1, a1, a2, a3⟩ := verse_st V.2.1 (by omega) V.2.2.1 V.2.2.2.1
    rw [fX10_verse_25_s, fX11_verse_18_s, if_neg (nI_ge (by omega) (by omega)), if_neg (nI_ge (by omega) (by omega)), a1, a2, bind_s, bind_s, nI_1]
    obtain ⟨r, t2, u2, b1, b2, b3, b4, b5⟩ := ih (k + 1) t1 u1 f g (Inv_step V a3) (by omega) (by omega) (by omega)
    exact ⟨r, t2, u2, b1, b2, b3, Cl_tr (Step_cl a3).1 b4, Mo_tr (Step_cl a3).2 b5⟩
theorem verse_ok (V : Inv t u) (x : Int32) : OK2 t u (fX10_verse t x) (fX11_verse u x) := by
  have V0 := V
  obtain ⟨S, I, P, Wd, U, T, Np, Ne, n, V⟩ := V
  obtain ⟨r, r1, r2, r3⟩ := refuse_sim V x
  unfold fX10_verse fX11_verse
  rw [r1, r2, bind_s, bind_s]
  by_cases c : r = 0
  · rw [if_pos c, if_pos c]
    obtain ⟨m, hm, rfl⟩ := r3 c
    obtain ⟨t1, u1, m1, m2, V1, c1, c2, -, e150⟩ := mark_all V
    rw [m1, m2, bind_s, bind_s]
    obtain ⟨r, t2, u2, b1, b2, b3, b4, b5⟩ := verses_st hm m 0 t1 u1 fuelN fuelN V1 (by omega) (fuel_gt (by omega)) (fuel_gt (by omega))
    exact ⟨r, t2, u2, b1, b2, b3, Cl_tr c1 b4, Mo_tr c2 b5⟩
  · rw [if_neg c, if_neg c]
    exact ok2_id V0 _
theorem drifts_st {m : Nat} (hm : m ≤ 60) : ∀ (d k : Nat) (t u : St) (f g : Nat), InvP t u S I P Wd U T Np Ne n → k + d = m → d < f → d < g → OK2 t u (fX10_drift_25 f t (nI m) (nI k)) (fX11_drift_18 g u (nI m) (nI k)) := by
  intro d
  induction d with
  | zero =>
    intro k t u f g V hk hf hg
    obtain ⟨f, rfl⟩ : ∃ z, f = z + 1 := ⟨f - 1, by omega⟩
    obtain ⟨g, rfl⟩ : ∃ z, g = z + 1 := ⟨g - 1, by omega⟩
    rw [fX10_drift_25_s, fX11_drift_18_s, if_pos (nI_le (by omega) (by omega)), if_pos (nI_le (by omega) (by omega))]
    unfold fX11_drift_44
    rw [l26, V.2.2.1.2.2.1]
    exact ok2_id ⟨S, I, P, Wd, U, T, Np, Ne, n, V⟩ _
  | succ d ih =>
    intro k t u f g V hk hf hg
    obtain ⟨f, rfl⟩ : ∃ z, f = z + 1 := ⟨f - 1, by omega⟩
    obtain ⟨g, rfl⟩ : ∃ z, g = z + 1 := ⟨g - 1, by omega⟩
    have hSb : S ≤ 7 := V.2.1.2.2.2.2.2.2.2.2.1
    have hS1 : t 3 3 = nI S := V.2.1.2.2.2.2.2.2.1
    have hS2 : u 144 3 = nI S := V.2.1.2.2.2.2.2.2.2.1
    rw [fX10_drift_25_s, fX11_drift_18_s, if_neg (nI_ge (by omega) (by omega)), if_neg (nI_ge (by omega) (by omega)), hS2]
    unfold fX11_drift_34
    rcases Nat.eq_zero_or_pos S with e | hS0
    · subst e
      obtain ⟨t1, u1, a1, a2, a3⟩ := verse_st V.2.1 (by omega) V.2.2.1 V.2.2.2.1
      unfold fX10_stirByDraws
      rw [hS1, if_pos (show nI 0 = (0 : Int32) from rfl), if_pos (show nI 0 ≤ (0 : Int32) by decide), bind_s, a1, a2, bind_s, bind_s, nI_1]
      obtain ⟨r, t2, u2, b1, b2, b3, b4, b5⟩ := ih (k + 1) t1 u1 f g (Inv_step V a3) (by omega) (by omega) (by omega)
      exact ⟨r, t2, u2, b1, b2, b3, Cl_tr (Step_cl a3).1 b4, Mo_tr (Step_cl a3).2 b5⟩
    · obtain ⟨gr, hgr, g1, g2⟩ := V.2.2.2.2.2.2.2
      obtain ⟨t0', u0', d1, d2, d3⟩ := chance_st V.2.1 V.2.2.1 V.2.2.2.1 hgr g1 g2 hS0
      have V1 := Inv_ds V d3
      obtain ⟨t1, u1, a1, a2, a3⟩ := verse_st V1.2.1 (by omega) V1.2.2.1 V1.2.2.2.1
      rw [d1, bind_s, if_neg (nI_nle hS0 (by omega)), d2, bind_s, a1, a2, bind_s, bind_s, nI_1]
      obtain ⟨r, t2, u2, b1, b2, b3, b4, b5⟩ := ih (k + 1) t1 u1 f g (Inv_step V1 a3) (by omega) (by omega) (by omega)
      exact ⟨r, t2, u2, b1, b2, b3, Cl_tr (DS_cl d3).1 (Cl_tr (Step_cl a3).1 b4), Mo_tr (DS_cl d3).2 (Mo_tr (Step_cl a3).2 b5)⟩
theorem drift_ok (V : Inv t u) (x : Int32) : OK2 t u (fX10_drift t x) (fX11_drift u x) := by
  have V0 := V
  obtain ⟨S, I, P, Wd, U, T, Np, Ne, n, V⟩ := V
  obtain ⟨r, r1, r2, r3⟩ := refuse_sim V x
  unfold fX10_drift fX11_drift
  rw [r1, r2, bind_s, bind_s]
  by_cases c : r = 0
  · rw [if_pos c, if_pos c]
    obtain ⟨m, hm, rfl⟩ := r3 c
    obtain ⟨t1, u1, m1, m2, V1, c1, c2, -, e150⟩ := mark_all V
    rw [m1, m2, bind_s, bind_s]
    obtain ⟨r, t2, u2, b1, b2, b3, b4, b5⟩ := drifts_st hm m 0 t1 u1 fuelN fuelN V1 (by omega) (fuel_gt (by omega)) (fuel_gt (by omega))
    exact ⟨r, t2, u2, b1, b2, b3, Cl_tr c1 b4, Mo_tr c2 b5⟩
  · rw [if_neg c, if_neg c]
    exact ok2_id V0 _
/-! rates -/
theorem paid_sim (R : Reg t u S I P Wd) (H : Hal t 44 (u 150) S I) (r : Int32) : ∃ q, fX3_paidByAll 44 t r = some q ∧ ∀ k17 x1, fX11_rates_28 u k17 fuelN x1 r 0 0 = fX11_rates_115 u k17 x1 r q := by
  have hSb : S ≤ 7 := R.2.2.2.2.2.2.2.2.1
  have hS1 : t 3 3 = nI S := R.2.2.2.2.2.2.1
  have hS2 : u 144 3 = nI S := R.2.2.2.2.2.2.2.1
  have key : ∀ (d k : Nat) (c : Int32) (f g : Nat), k + d = S → d < f → d < g → ∃ q, fX3_paidByAll_4 44 t f r c (nI k) = some q ∧ ∀ k17 x1, fX11_rates_28 u k17 g x1 r c (nI k) = fX11_rates_115 u k17 x1 r q := by
    intro d
    induction d with
    | zero =>
      intro k c f g hk hf hg
      obtain ⟨f, rfl⟩ : ∃ z, f = z + 1 := ⟨f - 1, by omega⟩
      obtain ⟨g, rfl⟩ : ∃ z, g = z + 1 := ⟨g - 1, by omega⟩
      refine ⟨c, ?_, fun k17 x1 => ?_⟩
      · rw [fX3_paidByAll_4_s, hS1, if_pos (nI_le (by omega) (by omega))]
      · rw [fX11_rates_28_s, hS2, if_pos (nI_le (by omega) (by omega))]
    | succ d ih =>
      intro k c f g hk hf hg
      obtain ⟨f, rfl⟩ : ∃ z, f = z + 1 := ⟨f - 1, by omega⟩
      obtain ⟨g, rfl⟩ : ∃ z, g = z + 1 := ⟨g - 1, by omega⟩
      obtain ⟨p, p1, p2⟩ := owed_sim R H.x (s := k) (by omega) r
      obtain ⟨q, q1, q2⟩ := ih (k + 1) (c + (if p < u 150 (7 + k) then p else u 150 (7 + k))) f g (by omega) (by omega) (by omega)
      refine ⟨q, ?_, fun k17 x1 => ?_⟩
      · rw [fX3_paidByAll_4_s, hS1, if_neg (nI_ge (by omega) (by omega)), gd_k (by omega) (by omega), p1, bind_s, bind_s, cl_k (by omega), (H.2.2.2.2.1 k (by omega)).2.1, nI_1]
        exact q1
      · have tail : fX11_rates_74 u k17 (fX11_rates_28 u k17 g) x1 r c (nI k) p = fX11_rates_115 u k17 x1 r q := by
          unfold fX11_rates_74
          rw [off7, gd_k (by omega) (by omega), gd_k (by omega) (by omega), cl_k (by omega), bind_s, bind_s, nI_1, ← q2 k17 x1]
          by_cases e : p < u 150 (7 + k)
          · rw [if_pos e, if_neg (by rw [le_i]; rw [lt_i] at e; omega)]
          · rw [if_neg e, if_pos (by rw [le_i]; rw [lt_i] at e; omega)]
        rw [fX11_rates_28_s, hS2, if_neg (nI_ge (by omega) (by omega)), (sings_eq R H.x (by omega)).2, bind_s]
        rcases p2 with ⟨z1, rfl⟩ | ⟨z1, z2⟩
        · rw [if_pos z1, i00]
          exact tail
        · rw [if_neg z1, i10, gd_k (by omega) (by omega), off14, gd_k (by omega) (by omega), cl_k (by omega), cl_k (by omega), z2, bind_s]
          exact tail
  exact key S 0 0 fuelN fuelN (by omega) (fuel_gt (by omega)) (fuel_gt (by omega))
theorem rates_ok (V : Inv t u) (x : Int32) : OK1 (fX10_rates t x) (fX11_rates u x) := by
  obtain ⟨S, I, P, Wd, U, T, Np, Ne, n, V⟩ := V
  obtain ⟨h1, R, H, B, -⟩ := id V
  have key : ∀ (d k : Nat) (f g : Nat), k + d = 10 → d < f → d < g → OK1 (fX10_rates_16 t f x (nI k)) (fX11_rates_17 u g x (nI k)) := by
    intro d
    induction d with
    | zero =>
      intro k f g hk hf hg
      obtain ⟨f, rfl⟩ : ∃ z, f = z + 1 := ⟨f - 1, by omega⟩
      obtain ⟨g, rfl⟩ : ∃ z, g = z + 1 := ⟨g - 1, by omega⟩
      rw [fX10_rates_16_s, fX11_rates_17_s, if_pos (show (9 : Int32) < nI k from nI_lt (a := 9) (by omega) (by omega)), if_pos (show (9 : Int32) < nI k from nI_lt (a := 9) (by omega) (by omega))]
      exact OK1_rf _
    | succ d ih =>
      intro k f g hk hf hg
      obtain ⟨f, rfl⟩ : ∃ z, f = z + 1 := ⟨f - 1, by omega⟩
      obtain ⟨g, rfl⟩ : ∃ z, g = z + 1 := ⟨g - 1, by omega⟩
      obtain ⟨q, q1, q2⟩ := paid_sim R H (nI k)
      rw [fX10_rates_16_s, fX11_rates_17_s, if_neg (show ¬ (9 : Int32) < nI k from (show ¬ nI 9 < nI k from nI_nlt (by omega) (by omega))), if_neg (show ¬ (9 : Int32) < nI k from (show ¬ nI 9 < nI k from nI_nlt (by omega) (by omega))), q1, q2, bind_s]
      unfold fX11_rates_115
      rw [nI_1]
      exact OK1_ite (ih _ _ _ (by omega) (by omega) (by omega)) (OK1_rf _)
  unfold fX10_rates fX11_rates
  rcases rng (α := Option Int32) (u := u) (x := x) (a := 0) (b := 999999) (A := 0) (B := 999999) (lo := 0) (hi := 999999) rfl rfl rfl rfl with ⟨e1, e2⟩ | ⟨b1, b2, e1, e2⟩
  · rw [e1, e2]
    exact OK1_rf _
  · rw [e1, e2, bind_s, i10]
    exact key 9 1 fuelN fuelN (by omega) (fuel_gt (by omega)) (fuel_gt (by omega))
end DE
