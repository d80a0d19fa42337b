/-! a verse, on both sides -/
theorem upd_upd (f : Nat → Int32) (a : Nat) (x y : Int32) : upd (upd f a x) a y = upd f a y := by
  funext j
  by_cases h : j = a <;> simp [upd, h]
theorem upd_comm (f : Nat → Int32) {a b : Nat} (hab : a ≠ b) (x y : Int32) : upd (upd f a x) b y = upd (upd f b y) a x := by
  funext j
  by_cases h1 : j = a
  · by_cases h2 : j = b
    · omega
    · simp [upd, h1, hab]
  · by_cases h2 : j = b
    · simp [upd, h1, h2, Ne.symm hab]
    · simp [upd, h1, h2]
theorem upd_id (f : Nat → Int32) (a : Nat) : upd f a (f a) = f := by
  funext j
  by_cases h : j = a <;> simp [upd, h]
theorem isIn_has (t u : St) (k b : Int32) : fX10_isIn t k b = fX11_has u b k := rfl
theorem has_01 (u : St) (b k : Int32) : fX11_has u b k = some 0 ∨ fX11_has u b k = some 1 := by
  unfold fX11_has
  by_cases h : ((b >>> (k &&& 31)) &&& (1 : Int32)) = 1
  · rw [if_pos h]; exact Or.inr rfl
  · rw [if_neg h]; exact Or.inl rfl
theorem gd_l26 {α : Type} (K : Option α) : gd (26 : Int32) 29 K = K := gd_k (k := 26) (by decide) (by decide)
theorem gd_l27 {α : Type} (K : Option α) : gd (27 : Int32) 29 K = K := gd_k (k := 27) (by decide) (by decide)
section VS
variable {t u : St} {S I P Wd h : Nat}
/-- both sides hush those who could not pay, and count the verse -/
theorem hushAll_st (hh : 44 ≤ h) (b : Int32) : ∀ (d k : Nat) (t u : St) (f g : Nat), Reg t u S I P Wd → Hal t h (u 150) S I → HalB (u 150) S → k + d = S → d < f → d < g → ∃ t' u', fX3_singVerse_64 h f t b (nI k) = some t' ∧ fX11_pass_198 g u b (nI k) = some u' ∧ Step h S I t u t' u' := by
  intro d
  induction d with
  | zero =>
    intro k t u f g R H B hk hf hg
    have hSb : S ≤ 7 := R.2.2.2.2.2.2.2.2.1
    have hS1 : t 3 3 = nI S := R.2.2.2.2.2.2.1
    have hS2 : u 144 3 = nI S := R.2.2.2.2.2.2.2.1
    obtain ⟨f, rfl⟩ : ∃ z, f = z + 1 := ⟨f - 1, by omega⟩
    obtain ⟨g, rfl⟩ : ∃ z, g = z + 1 := ⟨g - 1, by omega⟩
    refine ⟨_, _, ?_, ?_, (step_fld R hh H B (u 150 28 + 1)).1⟩
    · rw [fX3_singVerse_64_s, hS1, if_pos (nI_le (by omega) (by omega))]
      unfold fX3_singVerse_94
      rw [bind_s, H.2.1]
    · rw [fX11_pass_198_s, hS2, if_pos (nI_le (by omega) (by omega))]
      unfold fX11_pass_225
      rw [bind_s, l28]
  | succ d ih =>
    intro k t u f g R H B hk hf hg
    have hSb : S ≤ 7 := R.2.2.2.2.2.2.2.2.1
    have hS1 : t 3 3 = nI S := R.2.2.2.2.2.2.1
    have hS2 : u 144 3 = nI S := R.2.2.2.2.2.2.2.1
    obtain ⟨f, rfl⟩ : ∃ z, f = z + 1 := ⟨f - 1, by omega⟩
    obtain ⟨g, rfl⟩ : ∃ z, g = z + 1 := ⟨g - 1, by omega⟩
    rw [fX3_singVerse_64_s, fX11_pass_198_s, hS1, hS2, if_neg (nI_ge (by omega) (by omega)), if_neg (nI_ge (by omega) (by omega)), isIn_has t u, nI_1]
    rcases has_01 u b (nI k) with e | e
    · rw [e, bind_s, bind_s, if_pos rfl, if_pos rfl]
      exact ih _ _ _ _ _ R H B (by omega) (by omega) (by omega)
    · rw [e, bind_s, bind_s, if_neg (by decide), if_neg (by decide)]
      obtain ⟨t1, u1, a1, a2, a3⟩ := silence_st R hh H B (s := k) (by omega)
      rw [a1, a2, bind_s, bind_s]
      obtain ⟨t2, u2, c1, c2, c3⟩ := ih (k + 1) t1 u1 f g (Step_R R hh a3) a3.2.2.1 a3.2.2.2 (by omega) (by omega) (by omega)
      exact ⟨t2, u2, c1, c2, Step_tr a3 c3⟩
theorem min_nI {q r : Nat} (hq : q < 2 ^ 31) (hr : r < 2 ^ 31) : (if nI q < nI r then nI q else nI r) = nI (min q r) := by
  by_cases c : q < r
  · rw [if_pos (nI_lt c hr), Nat.min_eq_left (by omega)]
  · rw [if_neg (nI_nlt (by omega) hq), Nat.min_eq_right (by omega)]
theorem cap_nI {a M : Nat} {m : Int32} (hm : m = nI M) (ha : a < 2 ^ 31) (hM : M < 2 ^ 31) : (if nI a < m then nI a else m) = nI (min a M) := by
  rw [hm]
  exact min_nI ha hM
/-- what one singer pays: the class's cells, and the reference's row with the class's treasury -/
theorem pence_sim (R : Reg t u S I P Wd) (hh : 44 ≤ h) {w : Nat → Int32} (H : Hal t h w S I) (B : HalB w S) {s m r T c : Nat} (hs : s < S) (hr : w (7 + s) = nI r) (hm : m ≤ r) (hrb : r ≤ 9999) (hp : ∀ i, i < I → w (21 + i) = u 150 (21 + i)) (ha : w s = u 150 s) (hT : w 26 = nI T) (hTb : T ≤ 999999) (hc : w 27 = nI c) (hcb : c ≤ 9999) (hcu : u 150 27 = nI c) :
    ∃ t' y, fX3_takePence h t (nI s) (nI m) = some t' ∧ Fr h t t' ∧ Hal t' h (upd (upd (upd w (7 + s) (nI (r - m))) 26 (nI (min (T + m) 999999))) 27 (nI c + y)) S I ∧ HalB (upd (upd (upd w (7 + s) (nI (r - m))) 26 (nI (min (T + m) 999999))) 27 (nI c + y)) S ∧
      ∀ (k6 : St → Int32 → Int32 → Int32 → Option St) (x2 y0 y1 : Int32), fX11_pass_66 k6 u x2 (nI s) (nI m) y0 y1 = fX11_pass_134 k6 u (y0 ||| y1) x2 (nI s) (nI m) 27 (u 150 27) y := by
  have hSb : S ≤ 7 := R.2.2.2.2.2.2.2.2.1
  have hIb : I ≤ 4 := R.2.2.2.2.2.2.2.2.2.2.2.1
  obtain ⟨hk, -⟩ := R.2.2.2.2.2.2.2.2.2.2.2.2.2.2 s hs
  -- the shadow
  have R0 : Reg t (upR u 150 w) S I P Wd := Reg_u150 R w
  have H0 : Hal t h (upR u 150 w 150) S I := by rw [upR_s]; exact H
  have B0 : HalB (upR u 150 w 150) S := by rw [upR_s]; exact B
  have s1 := step_purse R0 hh H0 B0 hs (x := nI (r - m)) ⟨r - m, by omega, rfl⟩
  have R1 := Step_R R0 hh s1
  have s2 := (step_fld R1 hh s1.2.2.1 s1.2.2.2 (nI (min (T + m) 999999))).2.2.1 ⟨_, Nat.min_le_right _ _, rfl⟩
  have R2 := Step_R R1 hh s2
  have s12 := Step_tr s1 s2
  rw [up_upR, up_upR] at s12 s2
  have hrow2 : upR u 150 (upd (upd w (7 + s) (nI (r - m))) 26 (nI (min (T + m) 999999))) 150 = upd (upd w (7 + s) (nI (r - m))) 26 (nI (min (T + m) 999999)) := upR_s _ _ _
  -- the class
  have e3 : up t (h + 2) s (nI (r - m)) h 3 = nI T := by rw [up_n (by omega), H.2.2.1, hT]
  obtain ⟨t2, ht2⟩ : ∃ z, z = up (up t (h + 2) s (nI (r - m))) h 3 (nI (min (T + m) 999999)) := ⟨_, rfl⟩
  have f2 : Fr h t t2 := by rw [ht2]; exact s12.1
  have k4 : t2 4 = t 4 := f2 4 (by omega)
  have k1 : t2 (h + 1) = t (h + 1) := by rw [ht2, up_n (by omega), up_n (by omega)]
  have k4' : t2 (h + 4) = t (h + 4) := by rw [ht2, up_n (by omega), up_n (by omega)]
  have k44 : t2 h 4 = nI c := by
    rw [ht2, up_s, upd_n (by omega), up_n (by omega), H.2.2.2.1, hc]
  have R2u : Reg t2 u S I P Wd := Reg_fr R hh f2
  obtain ⟨ci, ci1, ci2⟩ := insp_sim (h := h) R2u (fun i hi => by rw [k4', H.2.2.2.2.2 i hi, hp i hi]) (u 150 s)
  have H2 : Hal t2 h (upd (upd w (7 + s) (nI (r - m))) 26 (nI (min (T + m) 999999))) S I := by
    have := s12.2.2.1
    rw [hrow2, ← ht2] at this
    exact this
  have B2 : HalB (upd (upd w (7 + s) (nI (r - m))) 26 (nI (min (T + m) 999999))) S := by
    have := s12.2.2.2
    rw [hrow2] at this
    exact this
  have hrow27 : (upd (upd w (7 + s) (nI (r - m))) 26 (nI (min (T + m) 999999))) 27 = nI c := by rw [upd_n (by omega), upd_n (by omega), hc]
  have hcls : fX3_takePence h t (nI s) (nI m) = if nI m ≤ 0 then some t2 else if u 145 s = 3 then (if ci ≤ 0 then some t2 else some (up t2 h 4 (nI (min (c + 1) 9999)))) else some t2 := by
    unfold fX3_takePence
    rw [gd_k (by omega) (by omega), gd_k (by omega) (by omega), cl_k (by omega), (H.2.2.2.2.1 s hs).2.1, hr, pk_sub hm, bind_s, e3, nI_add, cap_nI (a := T + m) (m := (999999 : Int32)) (M := 999999) rfl (by omega) (by omega), ← ht2, bind_s, gd_k (by omega) (by omega), k4, hk, gd_k (by omega) (by omega), k1, (H.2.2.2.2.1 s hs).1, ha, ci1, bind_s, k44, nI_1, cap_nI (a := c + 1) (m := (9999 : Int32)) (M := 9999) rfl (by omega) (by omega), bind_s]
  have hmod : ∀ (k6 : St → Int32 → Int32 → Int32 → Option St) (x2 y0 y1 : Int32), fX11_pass_66 k6 u x2 (nI s) (nI m) y0 y1 = if u 145 s = 3 then (if nI m ≤ 0 then fX11_pass_134 k6 u (y0 ||| y1) x2 (nI s) (nI m) 27 (u 150 27) 0 else if ci ≤ 0 then fX11_pass_134 k6 u (y0 ||| y1) x2 (nI s) (nI m) 27 (u 150 27) 0 else if (9999 : Int32) ≤ u 150 27 then fX11_pass_134 k6 u (y0 ||| y1) x2 (nI s) (nI m) 27 (u 150 27) 0 else fX11_pass_134 k6 u (y0 ||| y1) x2 (nI s) (nI m) 27 (u 150 27) 1) else fX11_pass_134 k6 u (y0 ||| y1) x2 (nI s) (nI m) 27 (u 150 27) 0 := by
    intro k6 x2 y0 y1
    unfold fX11_pass_66 fX11_pass_100
    rw [bind_s, gd_k (by omega) (by omega), cl_k (by omega), gd_k (by omega) (by omega), ci2, bind_s]
    unfold fX11_pass_101 fX11_pass_133
    simp only [l27, if_true, show ¬ (1 : Int32) = 0 by decide, if_false]
  have no : ∀ (hno : fX3_takePence h t (nI s) (nI m) = some t2) (hmo : ∀ (k6 : St → Int32 → Int32 → Int32 → Option St) (x2 y0 y1 : Int32), fX11_pass_66 k6 u x2 (nI s) (nI m) y0 y1 = fX11_pass_134 k6 u (y0 ||| y1) x2 (nI s) (nI m) 27 (u 150 27) 0), ∃ t' y, fX3_takePence h t (nI s) (nI m) = some t' ∧ Fr h t t' ∧ Hal t' h (upd (upd (upd w (7 + s) (nI (r - m))) 26 (nI (min (T + m) 999999))) 27 (nI c + y)) S I ∧ HalB (upd (upd (upd w (7 + s) (nI (r - m))) 26 (nI (min (T + m) 999999))) 27 (nI c + y)) S ∧
      ∀ (k6 : St → Int32 → Int32 → Int32 → Option St) (x2 y0 y1 : Int32), fX11_pass_66 k6 u x2 (nI s) (nI m) y0 y1 = fX11_pass_134 k6 u (y0 ||| y1) x2 (nI s) (nI m) 27 (u 150 27) y := by
    intro hno hmo
    refine ⟨t2, 0, hno, f2, ?_, ?_, hmo⟩
    · rw [add0, ← hrow27, upd_id]
      exact H2
    · rw [add0, ← hrow27, upd_id]
      exact B2
  by_cases c1 : u 145 s = 3
  · by_cases c2 : nI m ≤ (0 : Int32)
    · exact no (by rw [hcls, if_pos c2]) (fun k6 x2 y0 y1 => by rw [hmod, if_pos c1, if_pos c2])
    · by_cases c3 : ci ≤ 0
      · exact no (by rw [hcls, if_neg c2, if_pos c1, if_pos c3]) (fun k6 x2 y0 y1 => by rw [hmod, if_pos c1, if_neg c2, if_pos c3])
      · by_cases c4 : c < 9999
        · have hmin : min (c + 1) 9999 = c + 1 := Nat.min_eq_left (by omega)
          rw [hmin] at hcls
          have s3 := (step_fld (u := upR u 150 (upd (upd w (7 + s) (nI (r - m))) 26 (nI (min (T + m) 999999)))) (Reg_u150 R2u _) hh (by rw [hrow2]; exact H2) (by rw [hrow2]; exact B2) (nI (c + 1))).2.2.2 ⟨c + 1, by omega, rfl⟩
          rw [up_upR] at s3
          refine ⟨up t2 h 4 (nI (c + 1)), 1, by rw [hcls, if_neg c2, if_pos c1, if_neg c3], Fr_tr f2 s3.1, ?_, ?_, fun k6 x2 y0 y1 => ?_⟩
          · have := s3.2.2.1
            rw [upR_s] at this
            rw [nI_1]
            exact this
          · have := s3.2.2.2
            rw [upR_s] at this
            rw [nI_1]
            exact this
          · rw [hmod, if_pos c1, if_neg c2, if_neg c3, if_neg (by rw [hcu]; exact nI_ge (b := 9999) c4 (by omega))]
        · have hc9 : c = 9999 := by omega
          have hmin : min (c + 1) 9999 = c := by omega
          rw [hmin] at hcls
          have hup : up t2 h 4 (nI c) = t2 := by rw [up_def, ← k44, upd_id, upR_id]
          rw [hup] at hcls
          exact no (by rw [hcls, if_neg c2, if_pos c1, if_neg c3]) (fun k6 x2 y0 y1 => by rw [hmod, if_pos c1, if_neg c2, if_neg c3, if_pos (by rw [hcu]; exact nI_le (a := 9999) (by omega) (by omega))])
  · by_cases c2 : nI m ≤ (0 : Int32)
    · exact no (by rw [hcls, if_pos c2]) (fun k6 x2 y0 y1 => by rw [hmod, if_neg c1])
    · exact no (by rw [hcls, if_neg c2, if_neg c1]) (fun k6 x2 y0 y1 => by rw [hmod, if_neg c1])
theorem verse_st (R : Reg t u S I P Wd) (hh : 44 ≤ h) (H : Hal t h (u 150) S I) (B : HalB (u 150) S) : ∃ t' u', fX3_singVerse h t = some t' ∧ fX11_pass u = some u' ∧ Step h S I t u t' u' := by
  have hSb : S ≤ 7 := R.2.2.2.2.2.2.2.2.1
  have hIb : I ≤ 4 := R.2.2.2.2.2.2.2.2.2.2.2.1
  obtain ⟨T0, hT0b, hT0⟩ := B.2.1
  have key : ∀ (d k b q : Nat) (t1 : St) (w : Nat → Int32) (f g : Nat), k + d = S → d < f → d < g → b < 2 ^ k → q ≤ 882 * k → Fr h t t1 → Hal t1 h w S I → HalB w S → w 26 = nI (min (T0 + q) 999999) →
      ∃ t' u', fX3_singVerse_4 h f t1 (nI b) (nI k) = some t' ∧ fX11_pass_6 g (upR u 150 (upd w 26 (nI T0))) (nI b) (nI q) (nI k) = some u' ∧ Fr h t t' ∧ (∃ w', u' = upR u 150 w') ∧ Hal t' h (u' 150) S I ∧ HalB (u' 150) S := by
    intro d
    induction d with
    | zero =>
      intro k b q t1 w f g hk hf hg hb hq F H1 B1 hw
      have R1 : Reg t1 u S I P Wd := Reg_fr R hh F
      have hS1 : t1 3 3 = nI S := R1.2.2.2.2.2.2.1
      have hS2 : u 144 3 = nI S := R.2.2.2.2.2.2.2.1
      obtain ⟨f, rfl⟩ : ∃ z, f = z + 1 := ⟨f - 1, by omega⟩
      obtain ⟨g, rfl⟩ : ∃ z, g = z + 1 := ⟨g - 1, by omega⟩
      have R2 : Reg t1 (upR u 150 w) S I P Wd := Reg_u150 R1 w
      obtain ⟨t2, u2, a1, a2, a3⟩ := hushAll_st (P := P) (Wd := Wd) hh (nI b) S 0 t1 (upR u 150 w) fuelN fuelN R2 (by rw [upR_s]; exact H1) (by rw [upR_s]; exact B1) (by omega) (fuel_gt (by omega)) (fuel_gt (by omega))
      refine ⟨t2, u2, ?_, ?_, Fr_tr F a3.1, ?_, a3.2.2.1, a3.2.2.2⟩
      · rw [fX3_singVerse_4_s, hS1, if_pos (nI_le (by omega) (by omega))]
        exact a1
      · rw [fX11_pass_6_s, upR_n (by decide), hS2, if_pos (nI_le (by omega) (by omega))]
        unfold fX11_pass_161 fX11_pass_195
        have e26 : upR u 150 (upd w 26 (nI T0)) 150 26 = nI T0 := by rw [upR_s, upd_s]
        rw [l26, e26, nI_add, gd_l26, gd_l26, bind_s, bind_s, up_upR, up_upR, upd_upd, upd_upd]
        have hval : (if (999999 : Int32) ≤ nI (T0 + q) then fX11_pass_198 fuelN (upR u 150 (upd w 26 999999)) (nI b) 0 else fX11_pass_198 fuelN (upR u 150 (upd w 26 (nI (T0 + q)))) (nI b) 0) = fX11_pass_198 fuelN (upR u 150 w) (nI b) 0 := by
          by_cases c : (999999 : Int32) ≤ nI (T0 + q)
          · have hle : 999999 ≤ T0 + q := by
              rcases Nat.lt_or_ge (T0 + q) 999999 with z | z
              · exact absurd c (nI_ge (b := 999999) z (by omega))
              · exact z
            rw [if_pos c, show (999999 : Int32) = w 26 by rw [hw, Nat.min_eq_right hle]; rfl, upd_id]
          · have hle : T0 + q < 999999 := by
              rcases Nat.lt_or_ge (T0 + q) 999999 with z | z
              · exact z
              · exact absurd (nI_le (a := 999999) z (by omega)) c
            rw [if_neg c, show nI (T0 + q) = w 26 by rw [hw, Nat.min_eq_left (by omega)], upd_id]
        exact hval.trans a2
      · obtain ⟨-, ⟨w2, hw2⟩, -, -⟩ := a3
        exact ⟨w2, by rw [hw2, upR_upR]⟩
    | succ d ih =>
      intro k b q t1 w f g hk hf hg hb hq F H1 B1 hw
      have R1 : Reg t1 u S I P Wd := Reg_fr R hh F
      have hS1 : t1 3 3 = nI S := R1.2.2.2.2.2.2.1
      have hS2 : u 144 3 = nI S := R.2.2.2.2.2.2.2.1
      have hb2 : 2 ^ (k + 1) = 2 ^ k + 2 ^ k := by rw [Nat.pow_succ]; omega
      obtain ⟨f, rfl⟩ : ∃ z, f = z + 1 := ⟨f - 1, by omega⟩
      obtain ⟨g, rfl⟩ : ∃ z, g = z + 1 := ⟨g - 1, by omega⟩
      obtain ⟨U, hU⟩ : ∃ z, z = upR u 150 (upd w 26 (nI T0)) := ⟨_, rfl⟩
      have hU150 : U 150 = upd w 26 (nI T0) := by rw [hU, upR_s]
      have RU : Reg t1 U S I P Wd := by rw [hU]; exact Reg_u150 R1 _
      have HX : HalX t1 h (U 150) S I := by
        rw [hU150]
        refine ⟨by rw [upd_n (by omega)]; exact H1.1, trivial, trivial, trivial, fun s hs => ⟨?_, ?_, ?_⟩, fun i hi => ?_⟩
        · rw [upd_n (by omega)]; exact (H1.2.2.2.2.1 s hs).1
        · rw [upd_n (by omega)]; exact (H1.2.2.2.2.1 s hs).2.1
        · rw [upd_n (by omega)]; exact (H1.2.2.2.2.1 s hs).2.2
        · rw [upd_n (by omega)]; exact H1.2.2.2.2.2 i hi
      have BU : HalB (U 150) S := by
        rw [hU150]
        obtain ⟨b1, b2, b3, b4⟩ := B1
        refine ⟨by rw [upd_n (by omega)]; exact b1, ⟨T0, hT0b, by rw [upd_s]⟩, by rw [upd_n (by omega)]; exact b3, fun s hs => ⟨?_, ?_⟩⟩
        · rw [upd_n (by omega)]; exact (b4 s hs).1
        · rw [upd_n (by omega)]; exact (b4 s hs).2
      obtain ⟨p, p1, p2⟩ := owed_sim RU HX (s := k) (by omega) (t1 h 1)
      rw [HX.1] at p1 p2
      have p3 := owes_eq RU HX (by omega) p2
      obtain ⟨rt, hrt, hrt2⟩ := BU.1
      obtain ⟨pq, hpq, rfl⟩ := owed_bd RU HX BU (s := k) (by omega) hrt (by rw [← hrt2]; exact p2)
      obtain ⟨r, hr, hr2⟩ := (B1.2.2.2 k (by omega)).1
      obtain ⟨c, hc, hc2⟩ := B1.2.2.1
      have hcu : U 150 27 = nI c := by rw [hU150, upd_n (by omega)]; exact hc2
      obtain ⟨t2, y, a1, a2, a3, a4, a5⟩ := pence_sim (m := min pq r) RU hh H1 B1 (s := k) (by omega) hr2 (Nat.min_le_right _ _) hr (fun i hi => by rw [hU150, upd_n (by omega)]) (by rw [hU150, upd_n (by omega)]) hw (Nat.min_le_right _ _) hc2 hc hcu
      have hpu : t1 (h + 2) k = nI r := by rw [(H1.2.2.2.2.1 k (by omega)).2.1]; exact hr2
      have hpU : U 150 (7 + k) = nI r := by rw [hU150, upd_n (by omega)]; exact hr2
      -- the reference's row after the payment
      have hrow : up (up U 150 27 (nI c + y)) 150 (7 + k) (nI (r - min pq r)) = upR u 150 (upd (upd (upd (upd w (7 + k) (nI (r - min pq r))) 26 (nI (min (min (T0 + q) 999999 + min pq r) 999999))) 27 (nI c + y)) 26 (nI T0)) := by
        rw [hU, up_upR, up_upR]
        congr 1
        rw [upd_comm _ (show (27 : Nat) ≠ 26 by decide), upd_upd, upd_comm _ (show (27 : Nat) ≠ 7 + k by omega), upd_comm _ (show (26 : Nat) ≠ 7 + k by omega), upd_comm _ (show (7 + k : Nat) ≠ 26 by omega)]
      have hmodel : ∀ (k6 : St → Int32 → Int32 → Int32 → Option St) (x1 : Int32), fX11_pass_134 k6 U x1 (nI q) (nI k) (nI (min pq r)) 27 (U 150 27) y = k6 (upR u 150 (upd (upd (upd (upd w (7 + k) (nI (r - min pq r))) 26 (nI (min (min (T0 + q) 999999 + min pq r) 999999))) 27 (nI c + y)) 26 (nI T0))) x1 (nI (q + min pq r)) (nI (k + 1)) := by
        intro k6 x1
        unfold fX11_pass_134
        have e7 : up U 150 27 (nI c + y) 150 (7 + k) = nI r := by rw [up_s, upd_n (by omega)]; exact hpU
        rw [gd_l27, l27, hcu, bind_s, off7, gd_k (by omega) (by omega), gd_k (by omega) (by omega), cl_k (by omega), e7, pk_sub (Nat.min_le_right _ _), bind_s, bind_s, nI_add, nI_1, hrow]
      have hmin : min (min (T0 + q) 999999 + min pq r) 999999 = min (T0 + (q + min pq r)) 999999 := by omega
      have hw' : (upd (upd (upd w (7 + k) (nI (r - min pq r))) 26 (nI (min (min (T0 + q) 999999 + min pq r) 999999))) 27 (nI c + y)) 26 = nI (min (T0 + (q + min pq r)) 999999) := by
        rw [upd_n (by decide), upd_s, hmin]
      have hq' : q + min pq r ≤ 882 * (k + 1) := by
        have := Nat.min_le_left pq r
        omega
      have hpay : (if nI pq < nI r then nI pq else nI r) = nI (min pq r) := min_nI (by omega) (by omega)
      rw [fX3_singVerse_4_s, ← hU, fX11_pass_6_s, hS1, (show U 144 3 = nI S from RU.2.2.2.2.2.2.2.1), if_neg (nI_ge (by omega) (by omega)), if_neg (nI_ge (by omega) (by omega)), HX.1, p1, p3, bind_s, bind_s, bind_s, gd_k (by omega) (by omega), cl_k (by omega), hpu, off7, gd_k (by omega) (by omega), gd_k (by omega) (by omega), cl_k (by omega), hpU]
      unfold fX3_singVerse_41 fX11_pass_49
      simp only [gd_k (show k < 7 by omega) (show 7 < 2 ^ 31 by decide), cl_k (show k < 2 ^ 31 by omega), hpu, hpay, a1, bind_s, nI_1]
      by_cases c1 : pq ≤ r
      · have hm : min pq r = pq := Nat.min_eq_left c1
        have e1 : (nI pq ≤ nI r) := nI_le c1 (by omega)
        rw [if_pos e1]
        obtain ⟨t', u', g1, g2, g3⟩ := ih (k + 1) b (q + min pq r) t2 _ f g (by omega) (by omega) (by omega) (by omega) hq' (Fr_tr F a2) a3 a4 hw'
        refine ⟨t', u', g1, ?_, g3⟩
        by_cases c2 : nI r ≤ nI pq
        · have hrp : r = pq := by
            rcases Nat.lt_or_ge pq r with z | z
            · exact absurd c2 (nI_ge z (by omega))
            · omega
          rw [if_pos c2, if_pos (show nI pq ≤ nI r from e1)]
          have := a5 (fX11_pass_6 g) (nI q) (nI b) 0
          rw [hm, ← hrp] at this
          rw [this, or0]
          have hm2 := hmodel (fX11_pass_6 g) (nI b)
          rw [show min pq r = r by omega] at hm2 g2
          rw [hm2]
          exact g2
        · rw [if_neg c2, if_pos (nI_le (Nat.le_refl pq) (by omega))]
          have := a5 (fX11_pass_6 g) (nI q) (nI b) 0
          rw [hm] at this
          rw [this, or0]
          have hm2 := hmodel (fX11_pass_6 g) (nI b)
          rw [hm] at hm2 g2
          rw [hm2]
          exact g2
      · have hm : min pq r = r := Nat.min_eq_right (by omega)
        rw [if_neg (nI_ge (by omega) (by omega)), or_bit k (by omega) b hb]
        obtain ⟨t', u', g1, g2, g3⟩ := ih (k + 1) (b + 2 ^ k) (q + min pq r) t2 _ f g (by omega) (by omega) (by omega) (by omega) hq' (Fr_tr F a2) a3 a4 hw'
        refine ⟨t', u', g1, ?_, g3⟩
        rw [if_pos (show nI r ≤ nI pq from nI_le (by omega) (by omega)), if_neg (nI_ge (by omega) (by omega))]
        have := a5 (fX11_pass_6 g) (nI q) (nI b) ((1 : Int32) <<< (nI k &&& 31))
        rw [hm] at this
        rw [this, or_bit k (by omega) b hb]
        have hm2 := hmodel (fX11_pass_6 g) (nI (b + 2 ^ k))
        rw [hm] at hm2 g2
        rw [hm2]
        exact g2
  obtain ⟨t', u', g1, g2, g3, g4, g5, g6⟩ := key S 0 0 0 t (u 150) fuelN fuelN (by omega) (fuel_gt (by omega)) (fuel_gt (by omega)) (by decide) (by omega) Fr_rf H B (by rw [hT0, Nat.min_eq_left (by omega)]; rfl)
  rw [← hT0, upd_id, upR_id] at g2
  exact ⟨t', u', g1, g2, g3, g4, g5, g6⟩
end VS
