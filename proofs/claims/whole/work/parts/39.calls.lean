/-! the calls, one by one: small ones -/
def OK1 (a b : Option Int32) : Prop := ∃ r, a = some r ∧ b = some r
def OK2 (t u : St) (a b : Option (Int32 × St)) : Prop := ∃ r t1 u1, a = some (r, t1) ∧ b = some (r, u1) ∧ Inv t1 u1 ∧ Cl t t1 ∧ Mo u u1
theorem i10 {α : Type} (a b : α) : (if (1 : Int32) = 0 then a else b) = b := if_neg (show ¬ (1 : Int32) = 0 by decide)
theorem i00 {α : Type} (a b : α) : (if (0 : Int32) = 0 then a else b) = a := if_pos rfl
theorem OK1_ite {p : Prop} [Decidable p] {a b a' b' : Option Int32} (h1 : OK1 a b) (h2 : OK1 a' b') : OK1 (if p then a else a') (if p then b else b') := by
  by_cases c : p
  · rw [if_pos c, if_pos c]; exact h1
  · rw [if_neg c, if_neg c]; exact h2
theorem OK1_rf (r : Int32) : OK1 (some r) (some r) := ⟨r, rfl, rfl⟩
theorem in_no {u : St} {x : Int32} {a b : Int64} {lo hi : Int} (ha : a.toInt = lo) (hb : b.toInt = hi) (h : x.toInt < lo ∨ hi < x.toInt) : fX11_in u x.toInt64 a b = some 0 := by
  rw [in_eq, i2l_toInt, ha, hb, if_neg (by omega)]
theorem in_ok {u : St} {x : Int32} {a b : Int64} {lo hi : Int} (ha : a.toInt = lo) (hb : b.toInt = hi) (h : lo ≤ x.toInt ∧ x.toInt ≤ hi) : fX11_in u x.toInt64 a b = some 1 := by
  rw [in_eq, i2l_toInt, ha, hb, if_pos (by omega)]
theorem c_lt {x y : Int32} {v : Int} (hv : y.toInt = v) : (x < y) = (x.toInt < v) := by rw [← hv]; exact propext lt_i
theorem c_le {x y : Int32} {v : Int} (hv : y.toInt = v) : (x ≤ y) = (x.toInt ≤ v) := by rw [← hv]; exact propext le_i
theorem c_gt {x y : Int32} {v : Int} (hv : y.toInt = v) : (y < x) = (v < x.toInt) := by rw [← hv]; exact propext lt_i
/-- a number between bounds, on both sides -/
theorem rng {α : Type} {u : St} {x a b : Int32} {A B : Int64} {lo hi : Int} (h1 : a.toInt = lo) (h2 : b.toInt = hi) (h3 : A.toInt = lo) (h4 : B.toInt = hi) : ((∀ (p q : α), (if x < a then p else if x ≤ b then q else p) = p) ∧ fX11_in u x.toInt64 A B = some 0) ∨ (lo ≤ x.toInt ∧ x.toInt ≤ hi ∧ (∀ (p q : α), (if x < a then p else if x ≤ b then q else p) = q) ∧ fX11_in u x.toInt64 A B = some 1) := by
  by_cases h : lo ≤ x.toInt ∧ x.toInt ≤ hi
  · refine Or.inr ⟨h.1, h.2, fun p q => ?_, in_ok h3 h4 h⟩
    rw [if_neg (by rw [c_lt h1]; omega), if_pos (by rw [c_le h2]; omega)]
  · refine Or.inl ⟨fun p q => ?_, in_no h3 h4 (by omega)⟩
    by_cases c : x < a
    · rw [if_pos c]
    · rw [if_neg c, if_neg (by rw [c_le h2]; rw [c_lt h1] at c; omega)]
theorem isE {t u : St} {S I P Wd : Nat} (R : Reg t u S I P Wd) : (P = 0 ∧ fX8_isEmpty 3 t = some 1 ∧ u 144 1 = 0) ∨ (0 < P ∧ fX8_isEmpty 3 t = some 0 ∧ u 144 1 ≠ 0) := by
  have h1 := R.1
  have h2 := R.2.1
  have h3 := R.2.2.1
  unfold fX8_isEmpty
  rcases Nat.eq_zero_or_pos P with e | e
  · subst e
    exact Or.inl ⟨rfl, by rw [h1]; rfl, h2⟩
  · exact Or.inr ⟨e, by rw [h1, if_neg (nI_ne0 e (by omega))], by rw [h2]; exact nI_ne0 e (by omega)⟩
section CG
variable {t u t1 u1 : St} {S I P Wd U T Np Ne n : Nat}
theorem Txt_c (h : Txt t u n) (a : t1 1 = t 1) (b : t1 2 = t 2) (c : u1 151 = u 151) (d : u1 144 13 = u 144 13) (e : u1 144 14 = u 144 14) : Txt t1 u1 n := by
  unfold Txt at h ⊢
  rw [a, b, c, d, e]
  exact h
theorem Reg_c (h : Reg t u S I P Wd) (a : t1 3 = t 3) (b : t1 4 = t 4) (c : t1 7 = t 7) (d : u1 145 = u 145) (e : u1 148 = u 148) (f : ∀ k, (k = 1 ∨ k = 2 ∨ k = 3 ∨ k = 8) → u1 144 k = u 144 k) : Reg t1 u1 S I P Wd :=
  Reg_u (Reg_t h a b c) d e (f 1 (by omega)) (f 2 (by omega)) (f 3 (by omega)) (f 8 (by omega))
theorem Pst_c (h : Pst t u S I U T) (a : t1 15 = t 15) (b : ∀ o, 54 ≤ o → o ≤ 133 → t1 o = t o) (c : u1 157 = u 157) (d : u1 144 28 = u 144 28) : Pst t1 u1 S I U T := by
  obtain ⟨a1, a2, a3, a4, a5, a6⟩ := h
  refine ⟨by rw [a]; exact a1, a2, by rw [a]; exact a3, by rw [d]; exact a4, a5, fun j hj => ?_⟩
  rw [c]
  exact ⟨Hal_t (a6 j hj).1 (fun o q1 q2 => b o (by omega) (by omega)), (a6 j hj).2⟩
theorem Pst_0 (T0 : T < 16) (a : t 15 1 = nI T) (b : t 15 2 = 0) (c : u 144 28 = 0) : Pst t u S I 0 T := ⟨a, T0, b, c, by omega, fun j hj => absurd hj (by omega)⟩
theorem Img_c (h : Img t u S I) (a : t1 18 = t 18) (b : t1 19 = t 19) (c : ∀ o, 134 ≤ o → o ≤ 143 → t1 o = t o) (d : u1 164 = u 164) (e : u1 165 = u 165) : Img t1 u1 S I := by
  intro i hi
  have hi2 : t1 (18 + i) = t (18 + i) := by
    rcases (show i = 0 ∨ i = 1 by omega) with rfl | rfl
    · exact a
    · exact b
  obtain ⟨a1, a2⟩ := h i hi
  rw [hi2, d, e]
  refine ⟨a1, ?_⟩
  rcases a2 with a2 | ⟨a2, a3, a4⟩
  · exact Or.inl a2
  · exact Or.inr ⟨a2, Hal_t a3 (fun o q1 q2 => c o (by omega) (by omega)), a4⟩
theorem Led_c (h : Led t u S Np Ne) (a : ∀ o, 20 ≤ o → o ≤ 24 → t1 o = t o) (b : ∀ o, 160 ≤ o → o ≤ 163 → u1 o = u o) (c : u1 144 32 = u 144 32) (d : u1 144 35 = u 144 35) : Led t1 u1 S Np Ne := by
  unfold Led at h ⊢
  rw [a 20 (by omega) (by omega), a 21 (by omega) (by omega), a 22 (by omega) (by omega), a 23 (by omega) (by omega), a 24 (by omega) (by omega), b 160 (by omega) (by omega), b 161 (by omega) (by omega), b 162 (by omega) (by omega), b 163 (by omega) (by omega), c, d]
  exact h
theorem Drw_c (h : Drw t u) (a : t1 43 = t 43) (b : u1 144 11 = u 144 11) : Drw t1 u1 := by
  unfold Drw at h ⊢
  rw [a, b]
  exact h
end CG
section C1
variable {t u : St}
theorem ok2_id (V : Inv t u) (r : Int32) : OK2 t u (some (r, t)) (some (r, u)) := ⟨r, t, u, rfl, rfl, V, Cl_rf, Mo_rf⟩
theorem fault_ok (V : Inv t u) : OK1 (fX10_fault t) (fX11_fault u) := by
  obtain ⟨S, I, P, Wd, U, T, Np, Ne, n, h⟩ := V
  exact ⟨_, rfl, by unfold fX11_fault; rw [h.1.2.2.2.2]⟩
theorem feed_ok (V : Inv t u) (x : Int32) : OK2 t u (fX10_feed t x) (fX11_feed u x) := by
  have V0 := V
  obtain ⟨S, I, P, Wd, U, T, Np, Ne, n, h1, h2, h3, h4, h5, h6, h7, h8⟩ := V
  unfold fX10_feed fX11_feed
  rcases rng (α := Option (Int32 × St)) (u := u) (x := x) (a := 0) (b := 255) (A := 0) (B := 255) (lo := 0) (hi := 255) rfl rfl rfl rfl with ⟨e1, e2⟩ | ⟨z1, z2, e1, e2⟩
  · rw [e1, e2]
    exact ok2_id V0 _
  · rw [e1, e2, bind_s, i10]
    obtain ⟨xk, hxk, hxe, hxi⟩ := int_nI z1
    obtain ⟨a1, a2, a3, a4, a5⟩ := id h1
    unfold fX7_append
    rw [a1, a2]
    by_cases c : n = 240
    · subst c
      exact ok2_id V0 _
    · have e240 : (nI n < (240 : Int32)) := nI_lt (b := 240) (by omega) (by omega)
      rw [if_pos e240, gd_k (by omega) (by omega), if_neg (by rw [show (240 : Int32) = nI 240 from rfl, nI_eq (by omega) (by omega)]; exact c), gd_k (by omega) (by omega), cl_k (by omega)]
      simp only [bind_s]
      rw [bd2_s, i10]
      have k1 : up t 2 n x 1 1 = nI n := by rw [up_n (by decide)]; exact a1
      have k2 : up u 151 n x 144 13 = nI n := by rw [up_n (by decide)]; exact a2
      rw [k1, k2, nI_1]
      refine ⟨nI (n + 1), _, _, by rw [up_s, upd_s], by rw [up_s, upd_s], ⟨S, I, P, Wd, U, T, Np, Ne, n + 1, ?_, ?_, ?_, ?_, ?_, ?_, ?_, ?_⟩, fun o ho => by rw [up_n (by omega), up_n (by omega)], fun o ho => by rw [up_n (by omega), up_n (by omega)]⟩
      · refine ⟨by rw [up_s, upd_s], by rw [up_s, upd_s], by omega, fun i hi => ?_, ?_⟩
        · rw [up_n (by decide), up_s, up_n (by decide), up_s]
          by_cases e : i = n
          · subst e; rw [upd_s, upd_s]; exact ⟨rfl, xk, by omega, hxe⟩
          · rw [upd_n e, upd_n e]; exact a4 i (by omega)
        · rw [up_s, upd_n (by decide), up_n (by decide), up_s, upd_n (by decide), up_n (by decide)]; exact a5
      · exact Reg_c h2 (by rw [up_n (by decide), up_n (by decide)]) (by rw [up_n (by decide), up_n (by decide)]) (by rw [up_n (by decide), up_n (by decide)]) (by rw [up_n (by decide), up_n (by decide)]) (by rw [up_n (by decide), up_n (by decide)]) (fun k hk => by rw [up_s, upd_n (by omega), up_n (by decide)])
      · rw [up_n (by decide), up_n (by decide)]
        exact Hal_t h3 (fun o q1 q2 => by rw [up_n (by omega), up_n (by omega)])
      · rw [up_n (by decide), up_n (by decide)]
        exact h4
      · exact Pst_c h5 (by rw [up_n (by decide), up_n (by decide)]) (fun o q1 q2 => by rw [up_n (by omega), up_n (by omega)]) (by rw [up_n (by decide), up_n (by decide)]) (by rw [up_s, upd_n (by decide), up_n (by decide)])
      · exact Img_c h6 (by rw [up_n (by decide), up_n (by decide)]) (by rw [up_n (by decide), up_n (by decide)]) (fun o q1 q2 => by rw [up_n (by omega), up_n (by omega)]) (by rw [up_n (by decide), up_n (by decide)]) (by rw [up_n (by decide), up_n (by decide)])
      · exact Led_c h7 (fun o q1 q2 => by rw [up_n (by omega), up_n (by omega)]) (fun o q1 q2 => by rw [up_n (by omega), up_n (by omega)]) (by rw [up_s, upd_n (by decide), up_n (by decide)]) (by rw [up_s, upd_n (by decide), up_n (by decide)])
      · exact Drw_c h8 (by rw [up_n (by decide), up_n (by decide)]) (by rw [up_s, upd_n (by decide), up_n (by decide)])
theorem singer_ok (V : Inv t u) (s x : Int32) : OK1 (fX10_singer t s x) (fX11_singer u s x) := by
  obtain ⟨S, I, P, Wd, U, T, Np, Ne, n, h1, R, H, B, -⟩ := V
  have hSb : S ≤ 7 := R.2.2.2.2.2.2.2.2.1
  unfold fX10_singer fX11_singer
  rcases ix_cases s (n := S) (by omega) with h | ⟨s, hs, rfl⟩
  · rw [(hS_bad R h).1, (hS_bad R h).2]
    exact ⟨_, rfl, rfl⟩
  · obtain ⟨a1, a2, a3⟩ := H.2.2.2.2.1 s hs
    obtain ⟨b1, b2, -⟩ := R.2.2.2.2.2.2.2.2.2.2.2.2.2.2 s hs
    obtain ⟨p, p1, p2⟩ := owesOf_sim R H.x hs
    rw [(hS_good R hs).1, (hS_good R hs).2, bind_s, bind_s, i10, i10, off7, off14, p1, p2]
    simp only [gd_k (show s < 7 by omega) (show 7 < 2 ^ 31 by decide), gd_k (show s < 29 by omega) (show 29 < 2 ^ 31 by decide), gd_k (show 7 + s < 29 by omega) (show 29 < 2 ^ 31 by decide), gd_k (show 14 + s < 29 by omega) (show 29 < 2 ^ 31 by decide), cl_k (show s < 2 ^ 31 by omega), cl_k (show 7 + s < 2 ^ 31 by omega), cl_k (show 14 + s < 2 ^ 31 by omega), bind_s]
    rw [← a1, ← a2, ← a3, b1, b2]
    repeat' apply OK1_ite
    all_goals exact OK1_rf _
theorem place_ok (V : Inv t u) (s x : Int32) : OK1 (fX10_place t s x) (fX11_place u s x) := by
  obtain ⟨S, I, P, Wd, U, T, Np, Ne, n, h1, R, H, B, -⟩ := V
  have hPb : P ≤ 4 := R.2.2.1
  unfold fX10_place fX11_place
  rcases ix_cases s (n := P) (by omega) with h | ⟨s, hs, rfl⟩
  · rw [(hP_bad R h).1, (hP_bad R h).2]
    exact ⟨_, rfl, rfl⟩
  · obtain ⟨a, -, a1, a2⟩ := isin_sim R H.x (nI s)
    obtain ⟨b, -, b1, b2⟩ := who_sim R H.x
    obtain ⟨p, p1, p2⟩ := owedIn_sim R H.x (nI s)
    obtain ⟨c, c1, c2⟩ := insp_sim (h := 44) R H.2.2.2.2.2 (nI s)
    rw [(hP_good R hs).1, (hP_good R hs).2, bind_s, bind_s, i10, i10, a1, a2, b1, b2, p1, p2, c1, c2]
    simp only [bind_s]
    repeat' apply OK1_ite
    all_goals exact OK1_rf _
theorem more_ok (V : Inv t u) (s x : Int32) : OK1 (fX10_more t s x) (fX11_more u s x) := by
  obtain ⟨S, I, P, Wd, U, T, Np, Ne, n, h1, R, H, B, -⟩ := V
  have hPb : P ≤ 4 := R.2.2.1
  have hSb : S ≤ 7 := R.2.2.2.2.2.2.2.2.1
  unfold fX10_more fX11_more
  rcases ix_cases s (n := S) (by omega) with h | ⟨s, hs, rfl⟩
  · rw [(hS_bad R h).1, (hS_bad R h).2]
    exact ⟨_, rfl, rfl⟩
  · rw [(hS_good R hs).1, (hS_good R hs).2, bind_s, bind_s, i10, i10]
    rcases ix_cases x (n := P) (by omega) with h | ⟨x, hx, rfl⟩
    · rw [(hP_bad R h).1, (hP_bad R h).2]
      exact ⟨_, rfl, rfl⟩
    · rw [(hP_good R hx).1, (hP_good R hx).2, bind_s, bind_s, i10, i10, (sings_eq R H.x hs).1, (sings_eq R H.x hs).2, bind_s, bind_s]
      obtain ⟨v, -, v1, v2⟩ := voices_sim R H.x (nI x)
      obtain ⟨p, p1, p2⟩ := price_sim R H.x hs (t 44 1) (nI v) (nI x)
      rw [v1, v2, bind_s, bind_s, l25, ← H.1, p1, p2]
      by_cases c : u 150 (14 + s) = -1
      · rw [if_pos c]
        exact ⟨_, rfl, rfl⟩
      · rw [if_neg c]
        exact ⟨_, rfl, rfl⟩
theorem dry_ok (a b : Int32) : OK1 (fX10_dry t a b) (fX11_dry u a b) := by
  have key : ∀ (d k m : Nat) (x : Int64) (f g : Nat), k + d = m → m ≤ 60 → d < f → d < g → ∃ r, fX10_dry_30 t f (nI m) b x (nI k) = some r ∧ fX11_dry_34 u g (nI m) b x (nI k) = some r := by
    intro d
    induction d with
    | zero =>
      intro k m x f g hk hm hf hg
      obtain ⟨f, rfl⟩ : ∃ z, f = z + 1 := ⟨f - 1, by omega⟩
      obtain ⟨g, rfl⟩ : ∃ z, g = z + 1 := ⟨g - 1, by omega⟩
      refine ⟨x.toInt32, ?_, ?_⟩
      · rw [fX10_dry_30_s, if_pos (nI_le (by omega) (by omega))]
      · rw [fX11_dry_34_s, if_pos (nI_le (by omega) (by omega))]
    | succ d ih =>
      intro k m x f g hk hm hf hg
      obtain ⟨f, rfl⟩ : ∃ z, f = z + 1 := ⟨f - 1, by omega⟩
      obtain ⟨g, rfl⟩ : ∃ z, g = z + 1 := ⟨g - 1, by omega⟩
      rw [fX10_dry_30_s, fX11_dry_34_s, if_neg (nI_ge (by omega) (by omega)), if_neg (nI_ge (by omega) (by omega)), bind_s, bind_s, nI_1]
      exact ih _ _ _ _ _ (by omega) hm (by omega) (by omega)
  unfold fX10_dry fX11_dry
  by_cases h1 : 0 ≤ a.toInt ∧ a.toInt ≤ 60
  · rw [in_ok (lo := 0) (hi := 60) rfl rfl h1, bind_s, if_neg (show ¬ a < 0 by rw [c_lt (v := 0) rfl]; omega), if_neg (show ¬ (60 : Int32) < a by rw [c_gt (v := 60) rfl]; omega), i10]
    rcases rng (α := Option Int32) (u := u) (x := b) (a := 0) (b := 100) (A := 0) (B := 100) (lo := 0) (hi := 100) rfl rfl rfl rfl with ⟨e1, e2⟩ | ⟨-, -, e1, e2⟩
    · rw [e1, e2]
      exact ⟨_, rfl, rfl⟩
    · rw [e1, e2, bind_s, i10]
      obtain ⟨m, hm, rfl, hm2⟩ := int_nI h1.1
      exact key m 0 m _ fuelN fuelN (by omega) (by omega) (fuel_gt (by omega)) (fuel_gt (by omega))
  · rw [in_no (lo := 0) (hi := 60) rfl rfl (by omega), bind_s, if_pos rfl]
    by_cases h2 : a < 0
    · rw [if_pos h2]
      exact ⟨_, rfl, rfl⟩
    · rw [if_neg h2, if_pos (by rw [c_gt (v := 60) rfl]; rw [c_lt (v := 0) rfl] at h2; omega)]
      exact ⟨_, rfl, rfl⟩
theorem judge_ok (V : Inv t u) : OK1 (fX10_judge t) (fX11_judge u) := by
  obtain ⟨S, I, P, Wd, U, T, Np, Ne, n, -, R, H, -, -, -, L, -⟩ := V
  have hSb : S ≤ 7 := R.2.2.2.2.2.2.2.2.1
  obtain ⟨-, -, -, -, e1, e2, e3, e4⟩ := L
  have key : ∀ (d k : Nat) (f g : Nat), k + d = Ne → d < f → d < g → ∃ r, fX5_firstWrong_2 44 t f (nI k) = some r ∧ fX11_judge_2 u g (nI k) = some r := by
    intro d
    induction d with
    | zero =>
      intro k f g hk hf hg
      obtain ⟨f, rfl⟩ : ∃ z, f = z + 1 := ⟨f - 1, by omega⟩
      obtain ⟨g, rfl⟩ : ∃ z, g = z + 1 := ⟨g - 1, by omega⟩
      refine ⟨-1, ?_, ?_⟩
      · rw [fX5_firstWrong_2_s, e1, if_pos (nI_le (by omega) (by omega))]
      · rw [fX11_judge_2_s, e2, if_pos (nI_le (by omega) (by omega))]
    | succ d ih =>
      intro k f g hk hf hg
      obtain ⟨f, rfl⟩ : ∃ z, f = z + 1 := ⟨f - 1, by omega⟩
      obtain ⟨g, rfl⟩ : ∃ z, g = z + 1 := ⟨g - 1, by omega⟩
      obtain ⟨k1, k2, s, hs, k3⟩ := e4 k (by omega)
      rw [fX5_firstWrong_2_s, fX11_judge_2_s, e1, e2, if_neg (nI_ge (by omega) (by omega)), if_neg (nI_ge (by omega) (by omega)), gd_k (by omega) (by omega), gd_k (by omega) (by omega), cl_k (by omega), ← k1, ← k2, k3, bind_s, (hS_good R hs).1, bind_s, i10, off7, gd_k (by omega) (by omega), gd_k (by omega) (by omega), gd_k (by omega) (by omega), gd_k (by omega) (by omega), cl_k (by omega), cl_k (by omega), (H.2.2.2.2.1 s hs).2.1, nI_1]
      by_cases c : u 150 (7 + s) = t 24 k
      · rw [if_pos c, if_pos c]
        exact ih _ _ _ (by omega) (by omega) (by omega)
      · rw [if_neg c, if_neg c]
        exact ⟨_, rfl, rfl⟩
  obtain ⟨r, r1, r2⟩ := key Ne 0 fuelN fuelN (by omega) (fuel_gt (by omega)) (fuel_gt (by omega))
  refine ⟨r, ?_, r2⟩
  unfold fX10_judge fX5_firstWrong
  rw [show (0 : Int32) = nI 0 from rfl, r1]
  rfl
theorem seed_ok (V : Inv t u) (x : Int32) : OK2 t u (fX10_seed t x) (fX11_seed u x) := by
  have V0 := V
  obtain ⟨S, I, P, Wd, U, T, Np, Ne, n, h1, h2, h3, h4, h5, h6, h7, h8⟩ := V
  unfold fX10_seed fX11_seed
  by_cases c : 0 ≤ x
  · rw [if_pos c, if_pos c]
    simp only [bind_s]
    obtain ⟨g, hg, g1, g2⟩ := h8
    obtain ⟨k, hk, rfl, -⟩ := int_nI (x := x) (by rw [le_i] at c; exact c)
    refine ⟨nI g, _, _, by rw [g1], by rw [g2], ⟨S, I, P, Wd, U, T, Np, Ne, n, ?_, ?_, ?_, ?_, ?_, ?_, ?_, ?_⟩, fun o ho => by rw [up_n (by omega)], fun o ho => by rw [up_n (by omega)]⟩
    · exact Txt_c h1 (up_n (by decide)) (up_n (by decide)) (up_n (by decide)) (by rw [up_s, upd_n (by decide)]) (by rw [up_s, upd_n (by decide)])
    · exact Reg_c h2 (up_n (by decide)) (up_n (by decide)) (up_n (by decide)) (up_n (by decide)) (up_n (by decide)) (fun k hk => by rw [up_s, upd_n (by omega)])
    · rw [up_n (by decide)]
      exact Hal_t h3 (fun o q1 q2 => by rw [up_n (by omega)])
    · rw [up_n (by decide)]
      exact h4
    · exact Pst_c h5 (up_n (by decide)) (fun o q1 q2 => up_n (by omega)) (up_n (by decide)) (by rw [up_s, upd_n (by decide)])
    · exact Img_c h6 (up_n (by decide)) (up_n (by decide)) (fun o q1 q2 => up_n (by omega)) (up_n (by decide)) (up_n (by decide))
    · exact Led_c h7 (fun o q1 q2 => up_n (by omega)) (fun o q1 q2 => up_n (by omega)) (by rw [up_s, upd_n (by decide)]) (by rw [up_s, upd_n (by decide)])
    · exact ⟨k, hk, by rw [up_s, upd_s], by rw [up_s, upd_s]⟩
  · rw [if_neg c, if_neg c]
    exact ok2_id V0 _
theorem tear_ok (V : Inv t u) : OK2 t u (fX10_tear t) (fX11_tear u) := by
  obtain ⟨S, I, P, Wd, U, T, Np, Ne, n, h1, h2, h3, h4, h5, h6, h7, h8⟩ := V
  obtain ⟨l1, l2, -, -, l3, l4, -, -⟩ := h7
  unfold fX10_tear fX11_tear fX5_clear
  simp only [bind_s]
  refine ⟨nI Np + nI Ne, _, _, by rw [l1, l3], by rw [l2, l4], ⟨S, I, P, Wd, U, T, 0, 0, n, ?_, ?_, ?_, ?_, ?_, ?_, ?_, ?_⟩, fun o ho => by rw [up_n (by omega), up_n (by omega)], fun o ho => by rw [up_n (by omega), up_n (by omega)]⟩
  · exact Txt_c h1 (by rw [up_n (by decide), up_n (by decide)]) (by rw [up_n (by decide), up_n (by decide)]) (by rw [up_n (by decide), up_n (by decide)]) (by rw [up_s, upd_n (by decide), up_s, upd_n (by decide)]) (by rw [up_s, upd_n (by decide), up_s, upd_n (by decide)])
  · exact Reg_c h2 (by rw [up_n (by decide), up_n (by decide)]) (by rw [up_n (by decide), up_n (by decide)]) (by rw [up_n (by decide), up_n (by decide)]) (by rw [up_n (by decide), up_n (by decide)]) (by rw [up_n (by decide), up_n (by decide)]) (fun k hk => by rw [up_s, upd_n (by omega), up_s, upd_n (by omega)])
  · rw [up_n (by decide), up_n (by decide)]
    exact Hal_t h3 (fun o q1 q2 => by rw [up_n (by omega), up_n (by omega)])
  · rw [up_n (by decide), up_n (by decide)]
    exact h4
  · exact Pst_c h5 (by rw [up_n (by decide), up_n (by decide)]) (fun o q1 q2 => by rw [up_n (by omega), up_n (by omega)]) (by rw [up_n (by decide), up_n (by decide)]) (by rw [up_s, upd_n (by decide), up_s, upd_n (by decide)])
  · exact Img_c h6 (by rw [up_n (by decide), up_n (by decide)]) (by rw [up_n (by decide), up_n (by decide)]) (fun o q1 q2 => by rw [up_n (by omega), up_n (by omega)]) (by rw [up_n (by decide), up_n (by decide)]) (by rw [up_n (by decide), up_n (by decide)])
  · exact ⟨by rw [up_s, upd_n (by decide), up_s, upd_s]; rfl, by rw [up_s, upd_n (by decide), up_s, upd_s]; rfl, by omega, fun i hi => absurd hi (by omega), by rw [up_s, upd_s]; rfl, by rw [up_s, upd_s]; rfl, by omega, fun i hi => absurd hi (by omega)⟩
  · exact Drw_c h8 (by rw [up_n (by decide), up_n (by decide)]) (by rw [up_s, upd_n (by decide), up_s, upd_n (by decide)])
theorem pay_ok (V : Inv t u) (x v : Int32) : OK2 t u (fX10_pay t x v) (fX11_pay u x v) := by
  have V0 := V
  obtain ⟨S, I, P, Wd, U, T, Np, Ne, n, h1, R, h3, h4, h5, h6, h7, h8⟩ := V
  have hPb : P ≤ 4 := R.2.2.1
  unfold fX10_pay fX11_pay
  rcases ix_cases x (n := P) (by omega) with h | ⟨x, hx, rfl⟩
  · rw [(hP_bad R h).1, (hP_bad R h).2]
    exact ok2_id V0 _
  · rw [(hP_good R hx).1, (hP_good R hx).2, bind_s, bind_s, i10, i10]
    rcases rng (α := Option (Int32 × St)) (u := u) (x := v) (a := 0) (b := 9999) (A := 0) (B := 9999) (lo := 0) (hi := 9999) rfl rfl rfl rfl with ⟨e1, e2⟩ | ⟨-, -, e1, e2⟩
    · rw [e1, e2]
      exact ok2_id V0 _
    · rw [e1, e2, bind_s, i10]
      obtain ⟨l1, l2, l3, l4, l5⟩ := h7
      unfold fX5_addPayment
      rw [l1, l2]
      by_cases c : Np = 6
      · subst c
        exact ok2_id V0 _
      · rw [if_pos (show nI Np < (6 : Int32) from nI_lt (b := 6) (by omega) (by omega)), if_neg (by rw [show (6 : Int32) = nI 6 from rfl, nI_eq (by omega) (by omega)]; exact c), gd_k (by omega) (by omega), gd_k (by omega) (by omega), cl_k (by omega)]
        simp only [bind_s]
        have k1 : up t 21 Np (nI x) 20 4 = nI Np := by rw [up_n (by decide)]; exact l1
        have k2 : up u 160 Np (nI x) 144 32 = nI Np := by rw [up_n (by decide)]; exact l2
        rw [k1, k2, gd_k (by omega) (by omega), gd_k (by omega) (by omega), cl_k (by omega)]
        have k3 : up (up t 21 Np (nI x)) 22 Np v 20 4 = nI Np := by rw [up_n (by decide)]; exact k1
        have k4 : up (up u 160 Np (nI x)) 161 Np v 144 32 = nI Np := by rw [up_n (by decide)]; exact k2
        rw [k3, k4, nI_1, bd2_s, i10]
        refine ⟨nI (Np + 1), _, _, by rw [up_s, upd_s], by rw [up_s, upd_s], ⟨S, I, P, Wd, U, T, Np + 1, Ne, n, ?_, ?_, ?_, ?_, ?_, ?_, ?_, ?_⟩, fun o ho => by rw [up_n (by omega), up_n (by omega), up_n (by omega)], fun o ho => by rw [up_n (by omega), up_n (by omega), up_n (by omega)]⟩
        · exact Txt_c h1 (by rw [up_n (by decide), up_n (by decide), up_n (by decide)]) (by rw [up_n (by decide), up_n (by decide), up_n (by decide)]) (by rw [up_n (by decide), up_n (by decide), up_n (by decide)]) (by rw [up_s, upd_n (by decide), up_n (by decide), up_n (by decide)]) (by rw [up_s, upd_n (by decide), up_n (by decide), up_n (by decide)])
        · exact Reg_c R (by rw [up_n (by decide), up_n (by decide), up_n (by decide)]) (by rw [up_n (by decide), up_n (by decide), up_n (by decide)]) (by rw [up_n (by decide), up_n (by decide), up_n (by decide)]) (by rw [up_n (by decide), up_n (by decide), up_n (by decide)]) (by rw [up_n (by decide), up_n (by decide), up_n (by decide)]) (fun k hk => by rw [up_s, upd_n (by omega), up_n (by decide), up_n (by decide)])
        · rw [up_n (by decide), up_n (by decide), up_n (by decide)]
          exact Hal_t h3 (fun o q1 q2 => by rw [up_n (by omega), up_n (by omega), up_n (by omega)])
        · rw [up_n (by decide), up_n (by decide), up_n (by decide)]
          exact h4
        · exact Pst_c h5 (by rw [up_n (by decide), up_n (by decide), up_n (by decide)]) (fun o q1 q2 => by rw [up_n (by omega), up_n (by omega), up_n (by omega)]) (by rw [up_n (by decide), up_n (by decide), up_n (by decide)]) (by rw [up_s, upd_n (by decide), up_n (by decide), up_n (by decide)])
        · exact Img_c h6 (by rw [up_n (by decide), up_n (by decide), up_n (by decide)]) (by rw [up_n (by decide), up_n (by decide), up_n (by decide)]) (fun o q1 q2 => by rw [up_n (by omega), up_n (by omega), up_n (by omega)]) (by rw [up_n (by decide), up_n (by decide), up_n (by decide)]) (by rw [up_n (by decide), up_n (by decide), up_n (by decide)])
        · have r20 : up (up (up t 21 Np (nI x)) 22 Np v) 20 4 (nI (Np + 1)) 20 5 = t 20 5 := by rw [up_s, upd_n (by decide), up_n (by decide), up_n (by decide)]
          have r144 : up (up (up u 160 Np (nI x)) 161 Np v) 144 32 (nI (Np + 1)) 144 35 = u 144 35 := by rw [up_s, upd_n (by decide), up_n (by decide), up_n (by decide)]
          have m23 : up (up (up t 21 Np (nI x)) 22 Np v) 20 4 (nI (Np + 1)) 23 = t 23 := by rw [up_n (by decide), up_n (by decide), up_n (by decide)]
          have m24 : up (up (up t 21 Np (nI x)) 22 Np v) 20 4 (nI (Np + 1)) 24 = t 24 := by rw [up_n (by decide), up_n (by decide), up_n (by decide)]
          have m21 : up (up (up t 21 Np (nI x)) 22 Np v) 20 4 (nI (Np + 1)) 21 = upd (t 21) Np (nI x) := by rw [up_n (by decide), up_n (by decide), up_s]
          have m22 : up (up (up t 21 Np (nI x)) 22 Np v) 20 4 (nI (Np + 1)) 22 = upd (t 22) Np v := by rw [up_n (by decide), up_s, up_n (by decide)]
          have n23 : up (up (up u 160 Np (nI x)) 161 Np v) 144 32 (nI (Np + 1)) 162 = u 162 := by rw [up_n (by decide), up_n (by decide), up_n (by decide)]
          have n24 : up (up (up u 160 Np (nI x)) 161 Np v) 144 32 (nI (Np + 1)) 163 = u 163 := by rw [up_n (by decide), up_n (by decide), up_n (by decide)]
          have n21 : up (up (up u 160 Np (nI x)) 161 Np v) 144 32 (nI (Np + 1)) 160 = upd (u 160) Np (nI x) := by rw [up_n (by decide), up_n (by decide), up_s]
          have n22 : up (up (up u 160 Np (nI x)) 161 Np v) 144 32 (nI (Np + 1)) 161 = upd (u 161) Np v := by rw [up_n (by decide), up_s, up_n (by decide)]
          unfold Led
          rw [r20, r144, m21, m22, m23, m24, n21, n22, n23, n24]
          refine ⟨by rw [up_s, upd_s], by rw [up_s, upd_s], by omega, fun i hi => ?_, l5⟩
          by_cases e : i = Np
          · subst e
            rw [upd_s, upd_s, upd_s, upd_s]
            exact ⟨rfl, rfl⟩
          · rw [upd_n e, upd_n e, upd_n e, upd_n e]
            exact l4 i (by omega)
        · exact Drw_c h8 (by rw [up_n (by decide), up_n (by decide), up_n (by decide)]) (by rw [up_s, upd_n (by decide), up_n (by decide), up_n (by decide)])
theorem write_ok (V : Inv t u) (x v : Int32) : OK2 t u (fX10_write t x v) (fX11_write u x v) := by
  have V0 := V
  obtain ⟨S, I, P, Wd, U, T, Np, Ne, n, h1, R, h3, h4, h5, h6, h7, h8⟩ := V
  have hSb : S ≤ 7 := R.2.2.2.2.2.2.2.2.1
  unfold fX10_write fX11_write
  rcases ix_cases x (n := S) (by omega) with h | ⟨x, hx, rfl⟩
  · rw [(hS_bad R h).1, (hS_bad R h).2]
    exact ok2_id V0 _
  · rw [(hS_good R hx).1, (hS_good R hx).2, bind_s, bind_s, i10, i10]
    rcases rng (α := Option (Int32 × St)) (u := u) (x := v) (a := 0) (b := 9999) (A := 0) (B := 9999) (lo := 0) (hi := 9999) rfl rfl rfl rfl with ⟨e1, e2⟩ | ⟨-, -, e1, e2⟩
    · rw [e1, e2]
      exact ok2_id V0 _
    · rw [e1, e2, bind_s, i10]
      obtain ⟨l1, l2, l3, l4, l5, l6, l7, l8⟩ := h7
      unfold fX5_addEntry
      rw [l5, l6]
      by_cases c : Ne = 15
      · subst c
        exact ok2_id V0 _
      · rw [if_pos (show nI Ne < (15 : Int32) from nI_lt (b := 15) (by omega) (by omega)), if_neg (by rw [show (15 : Int32) = nI 15 from rfl, nI_eq (by omega) (by omega)]; exact c), gd_k (by omega) (by omega), gd_k (by omega) (by omega), cl_k (by omega)]
        simp only [bind_s]
        have k1 : up t 23 Ne (nI x) 20 5 = nI Ne := by rw [up_n (by decide)]; exact l5
        have k2 : up u 162 Ne (nI x) 144 35 = nI Ne := by rw [up_n (by decide)]; exact l6
        rw [k1, k2, gd_k (by omega) (by omega), gd_k (by omega) (by omega), cl_k (by omega)]
        have k3 : up (up t 23 Ne (nI x)) 24 Ne v 20 5 = nI Ne := by rw [up_n (by decide)]; exact k1
        have k4 : up (up u 162 Ne (nI x)) 163 Ne v 144 35 = nI Ne := by rw [up_n (by decide)]; exact k2
        rw [k3, k4, nI_1, bd2_s, i10]
        refine ⟨nI (Ne + 1), _, _, by rw [up_s, upd_s], by rw [up_s, upd_s], ⟨S, I, P, Wd, U, T, Np, Ne + 1, n, ?_, ?_, ?_, ?_, ?_, ?_, ?_, ?_⟩, fun o ho => by rw [up_n (by omega), up_n (by omega), up_n (by omega)], fun o ho => by rw [up_n (by omega), up_n (by omega), up_n (by omega)]⟩
        · exact Txt_c h1 (by rw [up_n (by decide), up_n (by decide), up_n (by decide)]) (by rw [up_n (by decide), up_n (by decide), up_n (by decide)]) (by rw [up_n (by decide), up_n (by decide), up_n (by decide)]) (by rw [up_s, upd_n (by decide), up_n (by decide), up_n (by decide)]) (by rw [up_s, upd_n (by decide), up_n (by decide), up_n (by decide)])
        · exact Reg_c R (by rw [up_n (by decide), up_n (by decide), up_n (by decide)]) (by rw [up_n (by decide), up_n (by decide), up_n (by decide)]) (by rw [up_n (by decide), up_n (by decide), up_n (by decide)]) (by rw [up_n (by decide), up_n (by decide), up_n (by decide)]) (by rw [up_n (by decide), up_n (by decide), up_n (by decide)]) (fun k hk => by rw [up_s, upd_n (by omega), up_n (by decide), up_n (by decide)])
        · rw [up_n (by decide), up_n (by decide), up_n (by decide)]
          exact Hal_t h3 (fun o q1 q2 => by rw [up_n (by omega), up_n (by omega), up_n (by omega)])
        · rw [up_n (by decide), up_n (by decide), up_n (by decide)]
          exact h4
        · exact Pst_c h5 (by rw [up_n (by decide), up_n (by decide), up_n (by decide)]) (fun o q1 q2 => by rw [up_n (by omega), up_n (by omega), up_n (by omega)]) (by rw [up_n (by decide), up_n (by decide), up_n (by decide)]) (by rw [up_s, upd_n (by decide), up_n (by decide), up_n (by decide)])
        · exact Img_c h6 (by rw [up_n (by decide), up_n (by decide), up_n (by decide)]) (by rw [up_n (by decide), up_n (by decide), up_n (by decide)]) (fun o q1 q2 => by rw [up_n (by omega), up_n (by omega), up_n (by omega)]) (by rw [up_n (by decide), up_n (by decide), up_n (by decide)]) (by rw [up_n (by decide), up_n (by decide), up_n (by decide)])
        · have r20 : up (up (up t 23 Ne (nI x)) 24 Ne v) 20 5 (nI (Ne + 1)) 20 4 = t 20 4 := by rw [up_s, upd_n (by decide), up_n (by decide), up_n (by decide)]
          have r144 : up (up (up u 162 Ne (nI x)) 163 Ne v) 144 35 (nI (Ne + 1)) 144 32 = u 144 32 := by rw [up_s, upd_n (by decide), up_n (by decide), up_n (by decide)]
          have m21 : up (up (up t 23 Ne (nI x)) 24 Ne v) 20 5 (nI (Ne + 1)) 21 = t 21 := by rw [up_n (by decide), up_n (by decide), up_n (by decide)]
          have m22 : up (up (up t 23 Ne (nI x)) 24 Ne v) 20 5 (nI (Ne + 1)) 22 = t 22 := by rw [up_n (by decide), up_n (by decide), up_n (by decide)]
          have m23 : up (up (up t 23 Ne (nI x)) 24 Ne v) 20 5 (nI (Ne + 1)) 23 = upd (t 23) Ne (nI x) := by rw [up_n (by decide), up_n (by decide), up_s]
          have m24 : up (up (up t 23 Ne (nI x)) 24 Ne v) 20 5 (nI (Ne + 1)) 24 = upd (t 24) Ne v := by rw [up_n (by decide), up_s, up_n (by decide)]
          have n21 : up (up (up u 162 Ne (nI x)) 163 Ne v) 144 35 (nI (Ne + 1)) 160 = u 160 := by rw [up_n (by decide), up_n (by decide), up_n (by decide)]
          have n22 : up (up (up u 162 Ne (nI x)) 163 Ne v) 144 35 (nI (Ne + 1)) 161 = u 161 := by rw [up_n (by decide), up_n (by decide), up_n (by decide)]
          have n23 : up (up (up u 162 Ne (nI x)) 163 Ne v) 144 35 (nI (Ne + 1)) 162 = upd (u 162) Ne (nI x) := by rw [up_n (by decide), up_n (by decide), up_s]
          have n24 : up (up (up u 162 Ne (nI x)) 163 Ne v) 144 35 (nI (Ne + 1)) 163 = upd (u 163) Ne v := by rw [up_n (by decide), up_s, up_n (by decide)]
          unfold Led
          rw [r20, r144, m21, m22, m23, m24, n21, n22, n23, n24]
          refine ⟨l1, l2, l3, l4, by rw [up_s, upd_s], by rw [up_s, upd_s], by omega, fun i hi => ?_⟩
          by_cases e : i = Ne
          · subst e
            rw [upd_s, upd_s, upd_s, upd_s]
            exact ⟨rfl, rfl, x, hx, rfl⟩
          · rw [upd_n e, upd_n e, upd_n e, upd_n e]
            exact l8 i (by omega)
        · exact Drw_c h8 (by rw [up_n (by decide), up_n (by decide), up_n (by decide)]) (by rw [up_s, upd_n (by decide), up_n (by decide), up_n (by decide)])
end C1
