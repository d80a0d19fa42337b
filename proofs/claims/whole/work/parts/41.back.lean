/-! undone, kept, gone back to; tried -/
theorem undo22 (u : St) {U : Nat} (hU : u 144 28 = nI U) (hUb : U < 16) : ∀ (d k : Nat) (row : Nat → Int32) (f : Nat), k + d = 29 → d < f → fX11_undo_22 f (upR u 150 row) (nI k) = some (nI U, upR u 150 (cpk row (u 157) (29 * U) 0 k 29)) := by
  intro d
  induction d with
  | zero =>
    intro k row f hk hf
    obtain ⟨f, rfl⟩ : ∃ z, f = z + 1 := ⟨f - 1, by omega⟩
    obtain rfl : k = 29 := by omega
    rw [fX11_undo_22_s, if_pos (show (29 : Int32) ≤ nI 29 from nI_le (a := 29) (by omega) (by omega)), cpk_end, upR_n (by decide), hU]
  | succ d ih =>
    intro k row f hk hf
    obtain ⟨f, rfl⟩ : ∃ z, f = z + 1 := ⟨f - 1, by omega⟩
    have e1 : (29 : Int32) * nI U + nI k = nI (29 * U + k) := by rw [show (29 : Int32) = nI 29 from rfl, pk_mul, nI_add]
    rw [fX11_undo_22_s, if_neg (show ¬ (29 : Int32) ≤ nI k from nI_ge (b := 29) (by omega) (by omega)), upR_n (by decide), hU, e1, gd_k (by omega) (by omega), gd_k (by omega) (by omega), cl_k (by omega), cl_k (by omega), upR_n (by decide), bind_s, up_upR, nI_1, ih _ _ _ (by omega) (by omega)]
    have := cpk_step (row := row) (w := u 157) (a := 29 * U) (b := 0) (k := k) (m := 29) (by omega)
    rw [Nat.zero_add] at this
    rw [this]
theorem goBack27 (u : St) {i : Nat} (hi : i < 2) : ∀ (d k : Nat) (row : Nat → Int32) (f : Nat), k + d = 29 → d < f → fX11_goBack_27 f (upR u 150 row) (nI i) (nI k) = fX11_goBack_56 (upR u 150 (cpk row (u 164) (30 * i) 0 k 29)) (nI i) := by
  intro d
  induction d with
  | zero =>
    intro k row f hk hf
    obtain ⟨f, rfl⟩ : ∃ z, f = z + 1 := ⟨f - 1, by omega⟩
    obtain rfl : k = 29 := by omega
    rw [fX11_goBack_27_s, if_pos (show (29 : Int32) ≤ nI 29 from nI_le (a := 29) (by omega) (by omega)), cpk_end]
  | succ d ih =>
    intro k row f hk hf
    obtain ⟨f, rfl⟩ : ∃ z, f = z + 1 := ⟨f - 1, by omega⟩
    have e1 : (30 : Int32) * nI i + nI k = nI (30 * i + k) := by rw [show (30 : Int32) = nI 30 from rfl, pk_mul, nI_add]
    rw [fX11_goBack_27_s, if_neg (show ¬ (29 : Int32) ≤ nI k from nI_ge (b := 29) (by omega) (by omega)), e1, gd_k (by omega) (by omega), gd_k (by omega) (by omega), cl_k (by omega), cl_k (by omega), upR_n (by decide), bind_s, up_upR, nI_1, ih _ _ _ (by omega) (by omega)]
    have := cpk_step (row := row) (w := u 164) (a := 30 * i) (b := 0) (k := k) (m := 29) (by omega)
    rw [Nat.zero_add] at this
    rw [this]
theorem keep15 (u : St) {i : Nat} (hi : i < 2) : ∀ (d k : Nat) (row : Nat → Int32) (f : Nat), k + d = 29 → d < f → fX11_keep_15 f (upR u 164 row) (nI i) (nI k) = fX11_keep_44 (upR u 164 (cpk row (u 150) 0 (30 * i) k 29)) (nI i) := by
  intro d
  induction d with
  | zero =>
    intro k row f hk hf
    obtain ⟨f, rfl⟩ : ∃ z, f = z + 1 := ⟨f - 1, by omega⟩
    obtain rfl : k = 29 := by omega
    rw [fX11_keep_15_s, if_pos (show (29 : Int32) ≤ nI 29 from nI_le (a := 29) (by omega) (by omega)), cpk_end]
  | succ d ih =>
    intro k row f hk hf
    obtain ⟨f, rfl⟩ : ∃ z, f = z + 1 := ⟨f - 1, by omega⟩
    have e1 : (30 : Int32) * nI i + nI k = nI (30 * i + k) := by rw [show (30 : Int32) = nI 30 from rfl, pk_mul, nI_add]
    rw [fX11_keep_15_s, if_neg (show ¬ (29 : Int32) ≤ nI k from nI_ge (b := 29) (by omega) (by omega)), e1, gd_k (by omega) (by omega), gd_k (by omega) (by omega), cl_k (by omega), cl_k (by omega), upR_n (by decide), bind_s, up_upR, nI_1, ih _ _ _ (by omega) (by omega)]
    have := cpk_step (row := row) (w := u 150) (a := 0) (b := 30 * i) (k := k) (m := 29) (by omega)
    rw [Nat.zero_add] at this
    rw [this]
section BK
variable {t u : St} {S I P Wd U T Np Ne n : Nat}
theorem undo_ok (V : Inv t u) : OK2 t u (fX10_undo t) (fX11_undo u) := by
  have V0 := V
  obtain ⟨S, I, P, Wd, U, T, Np, Ne, n, V⟩ := V
  obtain ⟨h1, R, H, B, Q, h6, h7, h8⟩ := id V
  have hSb : S ≤ 7 := R.2.2.2.2.2.2.2.2.1
  have hIb : I ≤ 4 := R.2.2.2.2.2.2.2.2.2.2.2.1
  obtain ⟨q1, q2, q3, q4, q5, q6⟩ := id Q
  unfold fX10_undo fX11_undo fX6_restore
  rw [q3, q4]
  rcases Nat.eq_zero_or_pos U with e | hU
  · subst e
    exact ok2_id V0 _
  · obtain ⟨Uu, rfl⟩ : ∃ z, U = z + 1 := ⟨U - 1, by omega⟩
    rw [if_neg (nI_ne0 hU (by omega)), if_neg (nI_ne0 hU (by omega))]
    have e1 : (t 15 1 + (16 : Int32)) - (1 : Int32) = nI (T + 15) := by rw [q1, show (16 : Int32) = nI 16 from rfl, nI_add, show T + 16 = (T + 15) + 1 from rfl, nI_pred]
    have e2 : nI (T + 15) - nI (T + 15) / (16 : Int32) * (16 : Int32) = nI ((T + 15) % 16) := pk_rem (d := 16) (by omega) (by decide) (by decide)
    simp only [bind_s]
    rw [e1, e2]
    have k15 : up t 15 1 (nI ((T + 15) % 16)) 15 2 = nI (Uu + 1) := by rw [up_s, upd_n (by decide)]; exact q3
    rw [k15, nI_pred]
    obtain ⟨t2, ht2⟩ : ∃ z, z = up (up t 15 1 (nI ((T + 15) % 16))) 15 2 (nI Uu) := ⟨_, rfl⟩
    rw [← ht2]
    have k1 : t2 15 1 = nI ((T + 15) % 16) := by rw [ht2, up_s, upd_n (by decide), up_s, upd_s]
    have k2 : t2 15 2 = nI Uu := by rw [ht2, up_s, upd_s]
    have ko : ∀ o, o ≠ 15 → t2 o = t o := fun o ho => by rw [ht2, up_n ho, up_n ho]
    rw [k1, gd_k (by omega) (by omega), cl_k (by omega)]
    obtain ⟨t3, a1, a2, a3⟩ := takeFrom_ok t2 (h0 := 44) (h1 := 54 + 5 * ((T + 15) % 16)) (S := S) (I := I) (by omega) hSb hIb
    have b1 := undo22 (up u 144 28 (nI Uu)) (U := Uu) (by rw [up_s, upd_s]) (by omega) 29 0 (up u 144 28 (nI Uu) 150) fuelN (by omega) (fuel_gt (by omega))
    rw [upR_id, up_n (by decide), up_n (by decide)] at b1
    rw [a1, bind_s, bd2_s, i10, show (0 : Int32) = nI 0 from rfl, b1, a2 15 (by omega), k2]
    obtain ⟨g1, g2⟩ := q6 Uu (by omega)
    have ei : (T + 16 - (Uu + 1) + Uu) % 16 = (T + 15) % 16 := by omega
    rw [ei] at g1
    have hrow : ∀ k, k < 29 → cpk (u 150) (u 157) (29 * Uu) 0 0 29 k = u 157 (29 * Uu + k) := fun k hk => by
      have := cpk_in (row := u 150) (w := u 157) (a := 29 * Uu) (b := 0) (m := 29) hk
      rw [Nat.zero_add] at this
      exact this
    refine ⟨nI Uu, t3, _, rfl, rfl, ⟨S, I, P, Wd, Uu, (T + 15) % 16, Np, Ne, n, ?_, ?_, ?_, ?_, ?_, ?_, ?_, ?_⟩, fun o ho => by rw [a2 o (by omega), ko o (by omega)], fun o ho => by rw [upR_n (by omega), up_n (by omega)]⟩
    · exact Txt_c h1 (by rw [a2 _ (by omega), ko _ (by omega)]) (by rw [a2 _ (by omega), ko _ (by omega)]) (by rw [upR_n (by decide), up_n (by decide)]) (by rw [upR_n (by decide), up_s, upd_n (by decide)]) (by rw [upR_n (by decide), up_s, upd_n (by decide)])
    · exact Reg_c R (by rw [a2 _ (by omega), ko _ (by omega)]) (by rw [a2 _ (by omega), ko _ (by omega)]) (by rw [a2 _ (by omega), ko _ (by omega)]) (by rw [upR_n (by decide), up_n (by decide)]) (by rw [upR_n (by decide), up_n (by decide)]) (fun k hk => by rw [upR_n (by decide), up_s, upd_n (by omega)])
    · rw [upR_s]
      refine Hal_w hSb hIb (a3 _ (Hal_t g1 (fun o z1 z2 => ko o (by omega)))) hrow
    · rw [upR_s]
      exact HalB_w hSb g2 hrow
    · refine ⟨by rw [a2 15 (by omega)]; exact k1, by omega, by rw [a2 15 (by omega)]; exact k2, by rw [upR_n (by decide), up_s, upd_s], by omega, fun j hj => ?_⟩
      rw [upR_n (by decide), up_n (by decide)]
      obtain ⟨z1, z2⟩ := q6 j (by omega)
      have ej : (T + 16 - (Uu + 1) + j) % 16 = ((T + 15) % 16 + 16 - Uu + j) % 16 := by omega
      rw [ej] at z1
      exact ⟨Hal_t z1 (fun o y1 y2 => by rw [a2 o (by omega), ko o (by omega)]), z2⟩
    · exact Img_c h6 (by rw [a2 _ (by omega), ko _ (by omega)]) (by rw [a2 _ (by omega), ko _ (by omega)]) (fun o z1 z2 => by rw [a2 _ (by omega), ko _ (by omega)]) (by rw [upR_n (by decide), up_n (by decide)]) (by rw [upR_n (by decide), up_n (by decide)])
    · exact Led_c h7 (fun o z1 z2 => by rw [a2 _ (by omega), ko _ (by omega)]) (fun o z1 z2 => by rw [upR_n (by omega), up_n (by omega)]) (by rw [upR_n (by decide), up_s, upd_n (by decide)]) (by rw [upR_n (by decide), up_s, upd_n (by decide)])
    · exact Drw_c h8 (by rw [a2 _ (by omega), ko _ (by omega)]) (by rw [upR_n (by decide), up_s, upd_n (by decide)])
/-- both ways of asking for an image -/
theorem img_cases (u : St) (x : Int32) : ((∀ (p q : Option (Int32 × St)), (if x < 0 then p else if x < (2 : Int32) then q else p) = p) ∧ fX11_in u x.toInt64 0 1 = some 0) ∨ ∃ i, i < 2 ∧ x = nI i ∧ (∀ (p q : Option (Int32 × St)), (if x < 0 then p else if x < (2 : Int32) then q else p) = q) ∧ fX11_in u x.toInt64 0 1 = some 1 := by
  by_cases h : 0 ≤ x.toInt ∧ x.toInt ≤ 1
  · obtain ⟨i, hi, rfl, hi2⟩ := int_nI h.1
    refine Or.inr ⟨i, by omega, rfl, fun p q => ?_, in_ok (lo := 0) (hi := 1) rfl rfl h⟩
    rw [if_neg (by rw [c_lt (v := 0) rfl]; omega), if_pos (by rw [c_lt (v := 2) rfl]; omega)]
  · refine Or.inl ⟨fun p q => ?_, in_no (lo := 0) (hi := 1) rfl rfl (by omega)⟩
    by_cases c : x < 0
    · rw [if_pos c]
    · rw [if_neg c, if_neg (by rw [c_lt (v := 2) rfl]; rw [c_lt (v := 0) rfl] at c; omega)]
theorem imgH_eq (i : Nat) (hi : i < 2) : imgH (18 + i) = 134 + 5 * i := by
  rcases (show i = 0 ∨ i = 1 by omega) with rfl | rfl <;> rfl
theorem keep_ok (V : Inv t u) (x : Int32) : OK2 t u (fX10_keep t x) (fX11_keep u x) := by
  have V0 := V
  obtain ⟨S, I, P, Wd, U, T, Np, Ne, n, V⟩ := V
  obtain ⟨h1, R, H, B, Q, h6, h7, h8⟩ := id V
  have hSb : S ≤ 7 := R.2.2.2.2.2.2.2.2.1
  have hIb : I ≤ 4 := R.2.2.2.2.2.2.2.2.2.2.2.1
  unfold fX10_keep fX11_keep
  rcases img_cases u x with ⟨e1, e2⟩ | ⟨i, hi, rfl, e1, e2⟩
  · rw [e1, e2]
    exact ok2_id V0 _
  · have b1 := keep15 u hi 29 0 (u 164) fuelN (by omega) (fuel_gt (by omega))
    rw [upR_id] at b1
    rw [e1, e2, bind_s, i10, show (0 : Int32) = nI 0 from rfl, b1, cl_k (by omega), imgH_eq i hi, gd_k (by omega) (by omega)]
    obtain ⟨t3, a1, a2, a3⟩ := takeFrom_ok t (h0 := 134 + 5 * i) (h1 := 44) (S := S) (I := I) (by omega) hSb hIb
    obtain ⟨g, hg, g1, g2⟩ := h8
    rw [a1, bind_s]
    simp only [gd_k (show i < 2 by omega) (show 2 < 2 ^ 31 by decide), bind_s]
    unfold fX6_forget fX11_keep_44
    have e3 : (30 : Int32) * nI i + (29 : Int32) = nI (30 * i + 29) := by rw [show (30 : Int32) = nI 30 from rfl, pk_mul, show (29 : Int32) = nI 29 from rfl, nI_add]
    have e43 : t3 43 0 = nI g := by rw [a2 43 (by omega)]; exact g1
    rw [e3, gd_k (by omega) (by omega), cl_k (by omega)]
    simp only [gd_k (show i < 2 by omega) (show 2 < 2 ^ 31 by decide), bind_s]
    rw [cl_k (by omega), e43, upR_n (show 144 ≠ 164 by decide), g2]
    obtain ⟨t4, ht4⟩ : ∃ z, z = up (up (up t3 (18 + i) 1 (nI g)) (18 + i) 2 (1 : Int32)) 15 2 (0 : Int32) := ⟨_, rfl⟩
    obtain ⟨u4, hu4⟩ : ∃ z, z = up (up (up (upR u 164 (cpk (u 164) (u 150) 0 (30 * i) 0 29)) 164 (30 * i + 29) (nI g)) 165 i (1 : Int32)) 144 28 (0 : Int32) := ⟨_, rfl⟩
    rw [← ht4, ← hu4]
    have f4 : ∀ o, o ≠ 18 + i → o ≠ 15 → (o < 134 + 5 * i ∨ 138 + 5 * i < o) → t4 o = t o := fun o z1 z2 z3 => by
      rw [ht4, up_n z2, up_n z1, up_n z1, a2 o (by omega)]
    have f5 : ∀ o, 134 + 5 * i ≤ o → o ≤ 138 + 5 * i → t4 o = t3 o := fun o z1 z2 => by
      rw [ht4, up_n (by omega), up_n (by omega), up_n (by omega)]
    have w4 : ∀ o, o ≠ 144 → o ≠ 164 → o ≠ 165 → u4 o = u o := fun o z1 z2 z3 => by
      rw [hu4, up_n z1, up_n z3, up_n z2, upR_n z2]
    have w5 : ∀ k, k ≠ 28 → u4 144 k = u 144 k := fun k hk => by
      rw [hu4, up_s, upd_n hk, up_n (by decide), up_n (by decide), upR_n (by decide)]
    have w6 : u4 165 = upd (u 165) i 1 := by rw [hu4, up_n (by decide), up_s, up_n (by decide), upR_n (by decide)]
    have w7 : u4 164 = upd (cpk (u 164) (u 150) 0 (30 * i) 0 29) (30 * i + 29) (nI g) := by rw [hu4, up_n (by decide), up_n (by decide), up_upR, upR_s]
    refine ⟨1, t4, u4, rfl, rfl, ⟨S, I, P, Wd, 0, T, Np, Ne, n, ?_, ?_, ?_, ?_, ?_, ?_, ?_, ?_⟩, fun o ho => f4 o (by omega) (by omega) (by omega), fun o ho => w4 o (by omega) (by omega) (by omega)⟩
    · exact Txt_c h1 (f4 _ (by omega) (by omega) (by omega)) (f4 _ (by omega) (by omega) (by omega)) (w4 _ (by omega) (by omega) (by omega)) (w5 _ (by omega)) (w5 _ (by omega))
    · exact Reg_c R (f4 _ (by omega) (by omega) (by omega)) (f4 _ (by omega) (by omega) (by omega)) (f4 _ (by omega) (by omega) (by omega)) (w4 _ (by omega) (by omega) (by omega)) (w4 _ (by omega) (by omega) (by omega)) (fun k hk => w5 k (by omega))
    · rw [w4 _ (by omega) (by omega) (by omega)]
      exact Hal_t H (fun o z1 z2 => f4 o (by omega) (by omega) (by omega))
    · rw [w4 _ (by omega) (by omega) (by omega)]
      exact B
    · exact Pst_0 Q.2.1 (by rw [ht4, up_s, upd_n (by decide), up_n (by omega), up_n (by omega), a2 15 (by omega)]; exact Q.1) (by rw [ht4, up_s, upd_s]) (by rw [hu4, up_s, upd_s])
    · intro j hj
      by_cases e : j = i
      · subst e
        rw [w6, w7, upd_s]
        have hrow : ∀ k, k < 29 → upd (cpk (u 164) (u 150) 0 (30 * j) 0 29) (30 * j + 29) (nI g) (30 * j + k) = u 150 k := fun k hk => by
          rw [upd_n (by omega), cpk_in hk, Nat.zero_add]
        have e1 : t4 (18 + j) 2 = 1 := by rw [ht4, up_n (by omega), up_s, upd_s]
        have e2 : t4 (18 + j) 1 = nI g := by rw [ht4, up_n (by omega), up_s, upd_n (by decide), up_s, upd_s]
        exact ⟨e1, Or.inr ⟨rfl, Hal_w hSb hIb (Hal_t (a3 _ H) (fun o z1 z2 => f5 o (by omega) (by omega))) hrow, HalB_w hSb B hrow, by rw [e2, upd_s], g, hg, e2⟩⟩
      · obtain ⟨z1, z2⟩ := h6 j hj
        rw [w6, w7, upd_n e, f4 (18 + j) (by omega) (by omega) (by omega)]
        refine ⟨z1, ?_⟩
        rcases z2 with z2 | ⟨y1, y2, y3, y4, y5⟩
        · exact Or.inl z2
        · have hrow : ∀ k, k < 30 → upd (cpk (u 164) (u 150) 0 (30 * i) 0 29) (30 * i + 29) (nI g) (30 * j + k) = u 164 (30 * j + k) := fun k hk => by
            rw [upd_n (by omega), cpk_out (by omega)]
          exact Or.inr ⟨y1, Hal_w hSb hIb (Hal_t y2 (fun o z1 z2 => f4 o (by omega) (by omega) (by omega))) (fun k hk => hrow k (by omega)), HalB_w hSb y3 (fun k hk => hrow k (by omega)), by rw [hrow 29 (by omega)]; exact y4, y5⟩
    · exact Led_c h7 (fun o z1 z2 => f4 o (by omega) (by omega) (by omega)) (fun o z1 z2 => w4 o (by omega) (by omega) (by omega)) (w5 _ (by omega)) (w5 _ (by omega))
    · exact ⟨g, hg, by rw [f4 43 (by omega) (by omega) (by omega)]; exact g1, by rw [w5 11 (by omega)]; exact g2⟩
theorem goBack_ok (V : Inv t u) (x : Int32) : OK2 t u (fX10_goBack t x) (fX11_goBack u x) := by
  have V0 := V
  obtain ⟨S, I, P, Wd, U, T, Np, Ne, n, V⟩ := V
  obtain ⟨h1, R, H, B, Q, h6, h7, h8⟩ := id V
  have hSb : S ≤ 7 := R.2.2.2.2.2.2.2.2.1
  have hIb : I ≤ 4 := R.2.2.2.2.2.2.2.2.2.2.2.1
  unfold fX10_goBack fX11_goBack
  rcases img_cases u x with ⟨e1, e2⟩ | ⟨i, hi, rfl, e1, e2⟩
  · rw [e1, e2]
    exact ok2_id V0 _
  · have b1 := goBack27 u hi 29 0 (u 150) fuelN (by omega) (fuel_gt (by omega))
    rw [upR_id] at b1
    obtain ⟨z1, z2⟩ := h6 i hi
    rw [e1, e2, bind_s, i10, gd_k (by omega) (by omega), gd_k (by omega) (by omega), cl_k (by omega), z1]
    rcases z2 with z2 | ⟨y1, y2, y3, y4, g, hg, y5⟩
    · rw [if_pos z2, if_pos z2]
      first
        | exact ok2_id V0 _
        | (rw [gd_k (by omega) (by omega)]; exact ok2_id V0 _)
    · have hne : ¬ u 165 i = 0 := by rw [y1]; decide
      rw [if_neg hne, if_neg hne, imgH_eq i hi, show (0 : Int32) = nI 0 from rfl, b1, gd_k (by omega) (by omega)]
      obtain ⟨t3, a1, a2, a3⟩ := takeFrom_ok t (h0 := 44) (h1 := 134 + 5 * i) (S := S) (I := I) (by omega) hSb hIb
      rw [a1, bind_s, gd_k (by omega) (by omega), a2 (18 + i) (by omega), y5, bind_s]
      unfold fX6_forget fX11_goBack_56
      have e3 : (30 : Int32) * nI i + (29 : Int32) = nI (30 * i + 29) := by rw [show (30 : Int32) = nI 30 from rfl, pk_mul, show (29 : Int32) = nI 29 from rfl, nI_add]
      rw [e3, gd_k (by omega) (by omega), cl_k (by omega)]
      simp only [bind_s]
      rw [upR_n (show 164 ≠ 150 by decide), ← y4, y5]
      obtain ⟨t4, ht4⟩ : ∃ z, z = up (up t3 43 0 (nI g)) 15 2 (0 : Int32) := ⟨_, rfl⟩
      obtain ⟨u4, hu4⟩ : ∃ z, z = up (up (upR u 150 (cpk (u 150) (u 164) (30 * i) 0 0 29)) 144 11 (nI g)) 144 28 (0 : Int32) := ⟨_, rfl⟩
      rw [← ht4, ← hu4]
      have f4 : ∀ o, o ≠ 43 → o ≠ 15 → (o < 44 ∨ 48 < o) → t4 o = t o := fun o z1 z2 z3 => by
        rw [ht4, up_n z2, up_n z1, a2 o (by omega)]
      have f5 : ∀ o, 44 ≤ o → o ≤ 48 → t4 o = t3 o := fun o z1 z2 => by
        rw [ht4, up_n (by omega), up_n (by omega)]
      have w4 : ∀ o, o ≠ 144 → o ≠ 150 → u4 o = u o := fun o z1 z2 => by
        rw [hu4, up_n z1, up_n z1, upR_n z2]
      have w5 : ∀ k, k ≠ 28 → k ≠ 11 → u4 144 k = u 144 k := fun k hk hk2 => by
        rw [hu4, up_s, upd_n hk, up_s, upd_n hk2, upR_n (by decide)]
      have w6 : u4 150 = cpk (u 150) (u 164) (30 * i) 0 0 29 := by rw [hu4, up_n (by decide), up_n (by decide), upR_s]
      have hrow : ∀ k, k < 29 → cpk (u 150) (u 164) (30 * i) 0 0 29 k = u 164 (30 * i + k) := fun k hk => by
        have := cpk_in (row := u 150) (w := u 164) (a := 30 * i) (b := 0) (m := 29) hk
        rw [Nat.zero_add] at this
        exact this
      refine ⟨1, t4, u4, rfl, rfl, ⟨S, I, P, Wd, 0, T, Np, Ne, n, ?_, ?_, ?_, ?_, ?_, ?_, ?_, ?_⟩, fun o ho => f4 o (by omega) (by omega) (by omega), fun o ho => w4 o (by omega) (by omega)⟩
      · exact Txt_c h1 (f4 _ (by omega) (by omega) (by omega)) (f4 _ (by omega) (by omega) (by omega)) (w4 _ (by omega) (by omega)) (w5 _ (by omega) (by omega)) (w5 _ (by omega) (by omega))
      · exact Reg_c R (f4 _ (by omega) (by omega) (by omega)) (f4 _ (by omega) (by omega) (by omega)) (f4 _ (by omega) (by omega) (by omega)) (w4 _ (by omega) (by omega)) (w4 _ (by omega) (by omega)) (fun k hk => w5 k (by omega) (by omega))
      · rw [w6]
        exact Hal_w hSb hIb (Hal_t (a3 _ y2) (fun o z1 z2 => f5 o (by omega) (by omega))) hrow
      · rw [w6]
        exact HalB_w hSb y3 hrow
      · exact Pst_0 Q.2.1 (by rw [ht4, up_s, upd_n (by decide), up_n (by omega), a2 15 (by omega)]; exact Q.1) (by rw [ht4, up_s, upd_s]) (by rw [hu4, up_s, upd_s])
      · exact Img_c h6 (f4 _ (by omega) (by omega) (by omega)) (f4 _ (by omega) (by omega) (by omega)) (fun o z1 z2 => f4 o (by omega) (by omega) (by omega)) (w4 _ (by omega) (by omega)) (w4 _ (by omega) (by omega))
      · exact Led_c h7 (fun o z1 z2 => f4 o (by omega) (by omega) (by omega)) (fun o z1 z2 => w4 o (by omega) (by omega)) (w5 _ (by omega) (by omega)) (w5 _ (by omega) (by omega))
      · exact ⟨g, hg, by rw [ht4, up_n (by omega), up_s, upd_s], by rw [hu4, up_s, upd_n (by decide), up_s, upd_s]⟩
theorem Inv_trial (V : InvP t u S I P Wd U T Np Ne n) {t1 u1 : St} (f : Fr 49 t t1) (g : ∀ o, o ≠ 150 → o ≠ 158 → u1 o = u o) (w : ∀ k, k < 29 → u1 150 k = u 150 k) : InvP t1 u1 S I P Wd U T Np Ne n := by
  obtain ⟨h1, R, H, B, Q, h6, h7, h8⟩ := V
  have hSb : S ≤ 7 := R.2.2.2.2.2.2.2.2.1
  have hIb : I ≤ 4 := R.2.2.2.2.2.2.2.2.2.2.2.1
  have g4 : u1 144 = u 144 := g 144 (by omega) (by omega)
  refine ⟨?_, ?_, ?_, ?_, ?_, ?_, ?_, ?_⟩
  · exact Txt_c h1 (f _ (by omega)) (f _ (by omega)) (g _ (by omega) (by omega)) (by rw [g4]) (by rw [g4])
  · exact Reg_c R (f _ (by omega)) (f _ (by omega)) (f _ (by omega)) (g _ (by omega) (by omega)) (g _ (by omega) (by omega)) (fun k hk => by rw [g4])
  · exact Hal_w hSb hIb (Hal_t H (fun o z1 z2 => f o (by omega))) w
  · exact HalB_w hSb B w
  · exact Pst_c Q (f _ (by omega)) (fun o z1 z2 => f _ (by omega)) (g _ (by omega) (by omega)) (by rw [g4])
  · exact Img_c h6 (f _ (by omega)) (f _ (by omega)) (fun o z1 z2 => f _ (by omega)) (g _ (by omega) (by omega)) (g _ (by omega) (by omega))
  · exact Led_c h7 (fun o z1 z2 => f _ (by omega)) (fun o z1 z2 => g _ (by omega) (by omega)) (by rw [g4]) (by rw [g4])
  · exact Drw_c h8 (f _ (by omega)) (by rw [g4])
/-- the reference's row is put back -/
theorem back_ok {u1 u2 : St} (e1 : u1 = upR u 158 (cpk (u 158) (u 150) 0 0 0 29)) {w : Nat → Int32} (e2 : u2 = upR u1 150 w) : ∃ u3, fX11_copyRow 158 29 150 29 u2 (29 : Int32) = some u3 ∧ (∀ o, o ≠ 150 → o ≠ 158 → u3 o = u o) ∧ ∀ k, k < 29 → u3 150 k = u 150 k := by
  refine ⟨_, copyRow_eq u2 (h0 := 158) (n0 := 29) (h1 := 150) (n1 := 29) (m := 29) (by decide) (by omega) (by omega) (by omega) (by omega), fun o z1 z2 => ?_, fun k hk => ?_⟩
  · rw [upR_n z1, e2, upR_n z1, e1, upR_n z2]
  · have h1 := cpk_in (row := u2 150) (w := u2 158) (a := 0) (b := 0) (m := 29) hk
    have h2 := cpk_in (row := u 158) (w := u 150) (a := 0) (b := 0) (m := 29) hk
    rw [Nat.zero_add] at h1 h2
    rw [upR_s, h1, e2, upR_n (by decide), e1, upR_s, h2]
theorem trial_st {m : Nat} (hm : m ≤ 200) : ∀ (d k : Nat) (t u : St) (f g : Nat), Reg t u S I P Wd → Hal t 49 (u 150) S I → HalB (u 150) S → k + d = m → d < f → d < g → ∃ t' u', fX10_treasury_40 f t (nI m) (nI k) = some (t' 49 3, t') ∧ fX11_treasury_40 g u (nI m) (nI k) = fX11_treasury_55 u' ∧ Step 49 S I t u t' u' := by
  intro d
  induction d with
  | zero =>
    intro k t u f g R H B hk hf hg
    obtain ⟨f, rfl⟩ : ∃ z, f = z + 1 := ⟨f - 1, by omega⟩
    obtain ⟨g, rfl⟩ : ∃ z, g = z + 1 := ⟨g - 1, by omega⟩
    refine ⟨t, u, ?_, ?_, Step_rf H B⟩
    · rw [fX10_treasury_40_s, if_pos (nI_le (by omega) (by omega))]
    · rw [fX11_treasury_40_s, if_pos (nI_le (by omega) (by omega))]
  | succ d ih =>
    intro k t u f g R H B hk hf hg
    obtain ⟨f, rfl⟩ : ∃ z, f = z + 1 := ⟨f - 1, by omega⟩
    obtain ⟨g, rfl⟩ : ∃ z, g = z + 1 := ⟨g - 1, by omega⟩
    obtain ⟨t1, u1, a1, a2, a3⟩ := verse_st R (by omega) H B
    obtain ⟨t2, u2, b1, b2, b3⟩ := ih (k + 1) t1 u1 f g (Step_R R (by omega) a3) a3.2.2.1 a3.2.2.2 (by omega) (by omega) (by omega)
    refine ⟨t2, u2, ?_, ?_, Step_tr a3 b3⟩
    · rw [fX10_treasury_40_s, if_neg (nI_ge (by omega) (by omega)), a1, bind_s, nI_1]
      exact b1
    · rw [fX11_treasury_40_s, if_neg (nI_ge (by omega) (by omega)), a2, bind_s, nI_1]
      exact b2
/-- the trial hall and the reference's row, both as they are now -/
theorem trial_0 (V : InvP t u S I P Wd U T Np Ne n) : ∃ t1 u1, fX3_takeFrom 49 44 t = some t1 ∧ fX11_copyRow 150 29 158 29 u (29 : Int32) = some u1 ∧ u1 = upR u 158 (cpk (u 158) (u 150) 0 0 0 29) ∧ Fr 49 t t1 ∧ Reg t1 u1 S I P Wd ∧ Hal t1 49 (u1 150) S I ∧ HalB (u1 150) S := by
  obtain ⟨h1, R, H, B, Q, h6, h7, h8⟩ := V
  have hSb : S ≤ 7 := R.2.2.2.2.2.2.2.2.1
  have hIb : I ≤ 4 := R.2.2.2.2.2.2.2.2.2.2.2.1
  obtain ⟨t1, a1, a2, a3⟩ := takeFrom_ok t (h0 := 49) (h1 := 44) (S := S) (I := I) (by omega) hSb hIb
  refine ⟨t1, _, a1, copyRow_eq u (h0 := 150) (n0 := 29) (h1 := 158) (n1 := 29) (m := 29) (by decide) (by omega) (by omega) (by omega) (by omega), rfl, a2, ?_, ?_, ?_⟩
  · exact Reg_c R (a2 _ (by omega)) (a2 _ (by omega)) (a2 _ (by omega)) (upR_n (by decide)) (upR_n (by decide)) (fun k hk => by rw [upR_n (by decide)])
  · rw [upR_n (by decide)]
    exact a3 _ H
  · rw [upR_n (by decide)]
    exact B
theorem treasury_ok (V : Inv t u) (x : Int32) : OK2 t u (fX10_treasury t x) (fX11_treasury u x) := by
  have V0 := V
  obtain ⟨S, I, P, Wd, U, T, Np, Ne, n, V⟩ := V
  unfold fX10_treasury fX11_treasury
  rcases rng (α := Option (Int32 × St)) (u := u) (x := x) (a := 0) (b := 200) (A := 0) (B := 200) (lo := 0) (hi := 200) rfl rfl rfl rfl with ⟨e1, e2⟩ | ⟨b1, b2, e1, e2⟩
  · rw [e1, e2]
    exact ok2_id V0 _
  · rw [e1, e2, bind_s, i10]
    obtain ⟨m, hm, rfl, hm2⟩ := int_nI b1
    rcases isE V.2.1 with ⟨-, q1, q2⟩ | ⟨-, q1, q2⟩
    · rw [q1, if_pos q2, bind_s, i10]
      exact ok2_id V0 _
    · rw [q1, if_neg q2, bind_s, i00]
      obtain ⟨t1, u1, a1, a2, a3, a4, a5, a6, a7⟩ := trial_0 V
      rw [a1, a2, bind_s, bind_s]
      obtain ⟨t2, u2, d1, d2, d3⟩ := trial_st (m := m) (by omega) m 0 t1 u1 fuelN fuelN a5 a6 a7 (by omega) (fuel_gt (by omega)) (fuel_gt (by omega))
      obtain ⟨f1, ⟨w, hw⟩, k1, -⟩ := d3
      obtain ⟨u3, c1, c2, c3⟩ := back_ok a3 hw
      rw [show (0 : Int32) = nI 0 from rfl, d1, d2]
      unfold fX11_treasury_55
      rw [c1, bind_s, bind_s, l26, k1.2.2.1]
      have F := Fr_tr a4 f1
      exact ⟨_, t2, u3, rfl, rfl, ⟨S, I, P, Wd, U, T, Np, Ne, n, Inv_trial V F c2 c3⟩, fun o ho => F o (by omega), fun o ho => c2 o (by omega) (by omega)⟩
theorem lasts_st {s : Nat} (hs : s < S) : ∀ (d k : Nat) (t u : St) (f g : Nat), Reg t u S I P Wd → Hal t 49 (u 150) S I → HalB (u 150) S → k + d = 500 → d + 1 < f → d < g → ∃ r t' u', fX10_lasts_27 f t (nI s) (nI k) = some (r, t') ∧ fX11_lasts_26 g u (nI s) (nI k) = fX11_lasts_64 u' r ∧ Fr 49 t t' ∧ ∃ w, u' = upR u 150 w := by
  intro d
  induction d with
  | zero =>
    intro k t u f g R H B hk hf hg
    obtain ⟨f, rfl⟩ : ∃ z, f = z + 1 := ⟨f - 1, by omega⟩
    obtain ⟨f, rfl⟩ : ∃ z, f = z + 1 := ⟨f - 1, by omega⟩
    obtain ⟨g, rfl⟩ : ∃ z, g = z + 1 := ⟨g - 1, by omega⟩
    obtain rfl : k = 500 := by omega
    rw [fX10_lasts_27_s, fX11_lasts_26_s, if_neg (show ¬ (500 : Int32) < nI 500 by decide), if_pos (show (500 : Int32) ≤ nI 500 by decide), (sings_eq R H.x hs).1, bind_s]
    unfold fX11_lasts_51
    rw [(sings_eq R H.x hs).2, bind_s]
    by_cases c : u 150 (14 + s) = -1
    · rw [if_pos c, i00, i00]
      exact ⟨_, t, u, rfl, rfl, Fr_rf, u 150, (upR_id _ _).symm⟩
    · rw [if_neg c, i10, i10]
      obtain ⟨t1, u1, a1, a2, a3⟩ := verse_st R (by omega) H B
      rw [a1, bind_s, nI_1, fX10_lasts_27_s, if_pos (show (500 : Int32) < nI (500 + 1) by decide)]
      exact ⟨_, t1, u, rfl, rfl, a3.1, u 150, (upR_id _ _).symm⟩
  | succ d ih =>
    intro k t u f g R H B hk hf hg
    obtain ⟨f, rfl⟩ : ∃ z, f = z + 1 := ⟨f - 1, by omega⟩
    obtain ⟨g, rfl⟩ : ∃ z, g = z + 1 := ⟨g - 1, by omega⟩
    rw [fX10_lasts_27_s, fX11_lasts_26_s, if_neg (show ¬ (500 : Int32) < nI k from (show ¬ nI 500 < nI k from nI_nlt (by omega) (by omega))), if_neg (show ¬ (500 : Int32) ≤ nI k from nI_ge (b := 500) (by omega) (by omega)), (sings_eq R H.x hs).1, (sings_eq R H.x hs).2, bind_s, bind_s]
    by_cases c : u 150 (14 + s) = -1
    · rw [if_pos c, i00, i00]
      unfold fX11_lasts_51
      rw [(sings_eq R H.x hs).2, bind_s, if_pos c, i00]
      exact ⟨_, t, u, rfl, rfl, Fr_rf, u 150, (upR_id _ _).symm⟩
    · rw [if_neg c, i10, i10]
      obtain ⟨t1, u1, a1, a2, a3⟩ := verse_st R (by omega) H B
      obtain ⟨r, t2, u2, b1, b2, b3, w2, b4⟩ := ih (k + 1) t1 u1 f g (Step_R R (by omega) a3) a3.2.2.1 a3.2.2.2 (by omega) (by omega) (by omega)
      obtain ⟨f1, ⟨w1, e1⟩, -⟩ := a3
      rw [a1, a2, bind_s, bind_s, nI_1, b1, b2]
      exact ⟨r, t2, u2, rfl, rfl, Fr_tr f1 b3, w2, by rw [b4, e1, upR_upR]⟩
theorem lasts_ok (V : Inv t u) (s : Int32) : OK2 t u (fX10_lasts t s) (fX11_lasts u s) := by
  have V0 := V
  obtain ⟨S, I, P, Wd, U, T, Np, Ne, n, V⟩ := V
  obtain ⟨h1, R, -⟩ := id V
  have hSb : S ≤ 7 := R.2.2.2.2.2.2.2.2.1
  unfold fX10_lasts fX11_lasts
  rcases ix_cases s (n := S) (by omega) with h | ⟨s, hs, rfl⟩
  · rw [(hS_bad R h).1, (hS_bad R h).2]
    exact ok2_id V0 _
  · rw [(hS_good R hs).1, (hS_good R hs).2, bind_s, bind_s, i10, i10]
    obtain ⟨t1, u1, a1, a2, a3, a4, a5, a6, a7⟩ := trial_0 V
    rw [a1, a2, bind_s, bind_s]
    obtain ⟨r, t2, u2, d1, d2, d3, w, hw⟩ := lasts_st hs 500 0 t1 u1 fuelN fuelN a5 a6 a7 (by omega) (fuel_gt (by omega)) (fuel_gt (by omega))
    obtain ⟨u3, c1, c2, c3⟩ := back_ok a3 hw
    rw [show (0 : Int32) = nI 0 from rfl, d1, d2]
    unfold fX11_lasts_64
    rw [c1, bind_s]
    have F := Fr_tr a4 d3
    exact ⟨r, t2, u3, rfl, rfl, ⟨S, I, P, Wd, U, T, Np, Ne, n, Inv_trial V F c2 c3⟩, fun o ho => F o (by omega), fun o ho => c2 o (by omega) (by omega)⟩
end BK
