/-! what is done in a hall, on both sides -/
section OP
variable {t u : St} {S I P Wd h : Nat}
theorem Reg_t {t' : St} (R : Reg t u S I P Wd) (h3 : t' 3 = t 3) (h4 : t' 4 = t 4) (h7 : t' 7 = t 7) : Reg t' u S I P Wd := by
  unfold Reg at R ⊢
  rw [h3, h4, h7]
  exact R
theorem Reg_u {u' : St} (R : Reg t u S I P Wd) (h5 : u' 145 = u 145) (h8 : u' 148 = u 148) (a1 : u' 144 1 = u 144 1) (a2 : u' 144 2 = u 144 2) (a3 : u' 144 3 = u 144 3) (a8 : u' 144 8 = u 144 8) : Reg t u' S I P Wd := by
  unfold Reg at R ⊢
  rw [h5, h8, a1, a2, a3, a8]
  exact R
theorem Reg_u150 (R : Reg t u S I P Wd) (w : Nat → Int32) : Reg t (upR u 150 w) S I P Wd := Reg_u R (upR_n (by decide)) (upR_n (by decide)) (by rw [upR_n (by decide)]) (by rw [upR_n (by decide)]) (by rw [upR_n (by decide)]) (by rw [upR_n (by decide)])
theorem Reg_th (R : Reg t u S I P Wd) {o : Nat} (ho : 9 ≤ o) (r : Nat → Int32) : Reg (upR t o r) u S I P Wd := Reg_t R (upR_n (by omega)) (upR_n (by omega)) (upR_n (by omega))
/-- voices -/
def TB (w : Nat → Int32) (S : Nat) : Prop := ∀ q, q < S → w (14 + q) = -1 ∨ ∃ r, r ≤ 7 ∧ w (14 + q) = nI r
theorem Hal_turn (hh : 44 ≤ h) (hS : S ≤ 7) {w0 w : Nat → Int32} (H : Hal t h w0 S I) {row : Nat → Int32} (h1 : ∀ q, q < S → row q = w (14 + q)) (h2 : ∀ j, (j < 14 ∨ 14 + S ≤ j) → w j = w0 j) : Hal (upR t (h + 3) row) h w S I := by
  obtain ⟨a1, a2, a3, a4, a5, a6⟩ := H
  refine ⟨?_, ?_, ?_, ?_, fun s hs => ⟨?_, ?_, ?_⟩, fun i hi => ?_⟩
  · rw [upR_n (by omega), h2 25 (by omega)]; exact a1
  · rw [upR_n (by omega), h2 28 (by omega)]; exact a2
  · rw [upR_n (by omega), h2 26 (by omega)]; exact a3
  · rw [upR_n (by omega), h2 27 (by omega)]; exact a4
  · rw [upR_n (by omega), h2 s (by omega)]; exact (a5 s hs).1
  · rw [upR_n (by omega), h2 (7 + s) (by omega)]; exact (a5 s hs).2.1
  · rw [upR_s]; exact h1 s hs
  · rw [upR_n (by omega), h2 (21 + i) (by omega)]; exact a6 i hi
theorem HalB_turn (hS : S ≤ 7) {w0 w : Nat → Int32} (B : HalB w0 S) (h2 : ∀ j, (j < 14 ∨ 14 + S ≤ j) → w j = w0 j) (h3 : TB w S) : HalB w S := by
  obtain ⟨b1, b2, b3, b4⟩ := B
  refine ⟨?_, ?_, ?_, fun s hs => ⟨?_, h3 s hs⟩⟩
  · rw [h2 25 (by omega)]; exact b1
  · rw [h2 26 (by omega)]; exact b2
  · rw [h2 27 (by omega)]; exact b3
  · rw [h2 (7 + s) (by omega)]; exact (b4 s hs).1
theorem silence_sim (R : Reg t u S I P Wd) (hh : 44 ≤ h) (H : Hal t h (u 150) S I) (B : HalB (u 150) S) {s : Nat} (hs : s < S) : ∃ row w, fX3_silence h t (nI s) = some (upR t (h + 3) row) ∧ fX11_hushNow u (nI s) = some (upR u 150 w) ∧ (∀ q, q < S → row q = w (14 + q)) ∧ (∀ j, (j < 14 ∨ 14 + S ≤ j) → w j = u 150 j) ∧ TB w S := by
  have hSb : S ≤ 7 := R.2.2.2.2.2.2.2.2.1
  have hS1 : t 3 3 = nI S := R.2.2.2.2.2.2.1
  have hS2 : u 144 3 = nI S := R.2.2.2.2.2.2.2.1
  have hat := H.2.2.2.2.1
  unfold fX3_silence fX11_hushNow
  rw [(sings_eq R H.x hs).1, bind_s, off14, gd_k (by omega) (by omega), cl_k (by omega), bind_s]
  by_cases hc : u 150 (14 + s) = -1
  · rw [if_pos hc, if_pos rfl, hc]
    obtain ⟨g, hg⟩ : ∃ z, fuelN = z + 1 := ⟨19999, rfl⟩
    refine ⟨t (h + 3), upd (u 150) (14 + s) (-1), by rw [upR_id], ?_, ?_, ?_, ?_⟩
    · rw [hg, fX11_hushNow_12_s, hS2, if_neg (nI_nle (by omega) (by omega)), if_pos rfl]
      unfold fX11_hushNow_76
      rw [off14, gd_k (by omega) (by omega), bind_s, cl_k (by omega)]
      rfl
    · intro q hq
      by_cases e : q = s
      · subst e
        rw [upd_s, (hat q hq).2.2, hc]
      · rw [upd_n (by omega), (hat q hq).2.2]
    · intro j hj
      rw [upd_n (by omega)]
    · intro q hq
      by_cases e : q = s
      · subst e
        rw [upd_s]
        exact Or.inl rfl
      · rw [upd_n (by omega)]
        exact (B.2.2.2 q hq).2
  · rw [if_neg hc, if_neg (by decide)]
    obtain ⟨kv, hkv, hv⟩ : ∃ kv, kv ≤ 7 ∧ u 150 (14 + s) = nI kv := by
      rcases (B.2.2.2 s hs).2 with e | e
      · exact absurd e hc
      · exact e
    have key : ∀ (d k : Nat) (row w : Nat → Int32) (f g : Nat), k + d = S → d < f → d < g → (∀ q, q < S → row q = w (14 + q)) → (∀ j, (j < 14 ∨ 14 + S ≤ j) → w j = u 150 j) → w (14 + s) = nI kv → TB w S → ∃ row' w', fX3_silence_11 h f (upR t (h + 3) row) (nI s) (nI k) = some (upR t (h + 3) row') ∧ fX11_hushNow_12 g (upR u 150 w) (nI s) (nI kv) (nI k) = some (upR u 150 w') ∧ (∀ q, q < S → row' q = w' (14 + q)) ∧ (∀ j, (j < 14 ∨ 14 + S ≤ j) → w' j = u 150 j) ∧ TB w' S := by
      intro d
      induction d with
      | zero =>
        intro k row w f g hk hf hg h1 h2 h3 h4
        obtain ⟨f, rfl⟩ : ∃ z, f = z + 1 := ⟨f - 1, by omega⟩
        obtain ⟨g, rfl⟩ : ∃ z, g = z + 1 := ⟨g - 1, by omega⟩
        refine ⟨upd row s (-1), upd w (14 + s) (-1), ?_, ?_, ?_, ?_, ?_⟩
        · rw [fX3_silence_11_s, upR_n (by omega), hS1, if_pos (nI_le (by omega) (by omega))]
          unfold fX3_silence_68
          rw [gd_k (by omega) (by omega), bind_s, cl_k (by omega), up_upR]
        · rw [fX11_hushNow_12_s, upR_n (by omega), hS2, if_pos (nI_le (by omega) (by omega))]
          unfold fX11_hushNow_76
          rw [off14, gd_k (by omega) (by omega), bind_s, cl_k (by omega), up_upR]
        · intro q hq
          by_cases e : q = s
          · subst e
            rw [upd_s, upd_s]
          · rw [upd_n e, upd_n (by omega), h1 q hq]
        · intro j hj
          rw [upd_n (by omega), h2 j hj]
        · intro q hq
          by_cases e : q = s
          · subst e
            rw [upd_s]
            exact Or.inl rfl
          · rw [upd_n (by omega)]
            exact h4 q hq
      | succ d ih =>
        intro k row w f g hk hf hg h1 h2 h3 h4
        obtain ⟨f, rfl⟩ : ∃ z, f = z + 1 := ⟨f - 1, by omega⟩
        obtain ⟨g, rfl⟩ : ∃ z, g = z + 1 := ⟨g - 1, by omega⟩
        have e1 : upR t (h + 3) row 3 = t 3 := upR_n (by omega)
        have e2 : upR t (h + 3) row (h + 1) = t (h + 1) := upR_n (by omega)
        have e3 : upR t (h + 3) row (h + 3) = row := upR_s _ _ _
        have e4 : upR u 150 w 144 = u 144 := upR_n (by omega)
        have e5 : upR u 150 w 150 = w := upR_s _ _ _
        have hkv0 : ¬ nI kv = (-1 : Int32) := fun e => hc (hv.trans e)
        rw [fX3_silence_11_s, fX11_hushNow_12_s, e1, e2, e3, e4, e5, hS1, hS2, if_neg (nI_ge (by omega) (by omega)), if_neg (nI_ge (by omega) (by omega)), if_neg hkv0]
        unfold fX11_hushNow_67 fX11_hushNow_68
        simp only [off14]
        rw [gd_k (show k < 7 by omega) (by omega), gd_k (show s < 7 by omega) (by omega), gd_k (show k < 7 by omega) (by omega), gd_k (show s < 7 by omega) (by omega), gd_k (show k < 7 by omega) (by omega), gd_k (show k < 7 by omega) (by omega)]
        simp only [gd_k (show 14 + k < 29 by omega) (by omega), gd_k (show k < 29 by omega) (by omega), gd_k (show s < 29 by omega) (by omega), cl_k (show k < 2 ^ 31 by omega), cl_k (show s < 2 ^ 31 by omega), cl_k (show 14 + k < 2 ^ 31 by omega), bind_s, up_upR, nI_1]
        rw [(hat k (by omega)).1, (hat s hs).1, h2 k (by omega), h2 s (by omega), h1 k (by omega), h1 s hs, h3]
        have hz : w (14 + k) - 0 = w (14 + k) := Int32.sub_zero _
        have hid : upd w (14 + k) (w (14 + k)) = w := by
          funext j
          by_cases e : j = 14 + k
          · rw [e, upd_s]
          · rw [upd_n e]
        rw [hz, hid]
        by_cases c1 : u 150 k = u 150 s
        · rw [if_pos c1, if_pos c1]
          by_cases c2 : w (14 + k) ≤ nI kv
          · rw [if_pos c2, if_pos c2]
            exact ih _ _ _ _ _ (by omega) (by omega) (by omega) h1 h2 h3 h4
          · rw [if_neg c2, if_neg c2]
            have hne : k ≠ s := by
              intro e
              subst e
              rw [h3] at c2
              exact c2 (Int32.le_refl _)
            refine ih _ _ _ _ _ (by omega) (by omega) (by omega) ?_ ?_ ?_ ?_
            · intro q hq
              by_cases e : q = k
              · subst e
                rw [upd_s, upd_s]
              · rw [upd_n e, upd_n (by omega), h1 q hq]
            · intro j hj
              rw [upd_n (by omega), h2 j hj]
            · rw [upd_n (by omega)]
              exact h3
            · intro q hq
              by_cases e : q = k
              · subst e
                rw [upd_s]
                rcases h4 q hq with e2 | ⟨r, hr, e2⟩
                · rw [e2] at c2
                  exact absurd (show (-1 : Int32) ≤ nI kv by rw [le_i, nI_int (by omega)]; have : (-1 : Int32).toInt = -1 := rfl; omega) c2
                · rw [e2] at c2 ⊢
                  have hr0 : kv < r := by
                    rcases Nat.lt_or_ge kv r with q9 | q9
                    · exact q9
                    · exact absurd (nI_le q9 (by omega)) c2
                  obtain ⟨r, rfl⟩ : ∃ z, r = z + 1 := ⟨r - 1, by omega⟩
                  exact Or.inr ⟨r, by omega, nI_pred r⟩
              · rw [upd_n (by omega)]
                exact h4 q hq
        · rw [if_neg c1, if_neg c1]
          exact ih _ _ _ _ _ (by omega) (by omega) (by omega) h1 h2 h3 h4
    rw [hv]
    have hk := key S 0 (t (h + 3)) (u 150) fuelN fuelN (by omega) (fuel_gt (by omega)) (fuel_gt (by omega)) (fun q hq => (hat q hq).2.2) (fun _ _ => rfl) hv (fun q hq => (B.2.2.2 q hq).2)
    rw [upR_id, upR_id] at hk
    exact hk
theorem letIn_sim (R : Reg t u S I P Wd) (hh : 44 ≤ h) (H : Hal t h (u 150) S I) (B : HalB (u 150) S) {s : Nat} (hs : s < S) (hc : u 150 (14 + s) = -1) : ∃ row w, fX3_letIn h t (nI s) = some (upR t (h + 3) row) ∧ fX11_joinNow u (nI s) = some (upR u 150 w) ∧ (∀ q, q < S → row q = w (14 + q)) ∧ (∀ j, (j < 14 ∨ 14 + S ≤ j) → w j = u 150 j) ∧ TB w S := by
  have hSb : S ≤ 7 := R.2.2.2.2.2.2.2.2.1
  have hat := H.2.2.2.2.1
  obtain ⟨c, hcb, c1, c2⟩ := voices_sim R H.x (u 150 s)
  refine ⟨upd (t (h + 3)) s (nI c), upd (u 150) (14 + s) (nI c), ?_, ?_, ?_, ?_, ?_⟩
  · unfold fX3_letIn
    rw [(hS_good R hs).1, bind_s, if_neg (by decide), gd_k (by omega) (by omega), cl_k (by omega), (hat s hs).2.2, if_pos hc, gd_k (by omega) (by omega), (hat s hs).1, c1, bind_s, gd_k (by omega) (by omega), bind_s]
    rfl
  · unfold fX11_joinNow
    rw [gd_k (by omega) (by omega), cl_k (by omega), c2, bind_s, off14, gd_k (by omega) (by omega), cl_k (by omega), bind_s]
    rfl
  · intro q hq
    by_cases e : q = s
    · subst e
      rw [upd_s, upd_s]
    · rw [upd_n e, upd_n (by omega), (hat q hq).2.2]
  · intro j hj
    rw [upd_n (by omega)]
  · intro q hq
    by_cases e : q = s
    · subst e
      rw [upd_s]
      exact Or.inr ⟨c, hcb, rfl⟩
    · rw [upd_n (by omega)]
      exact (B.2.2.2 q hq).2
theorem letIn_no (R : Reg t u S I P Wd) (H : Hal t h (u 150) S I) {s : Nat} (hs : s < S) (hc : u 150 (14 + s) ≠ -1) : fX3_letIn h t (nI s) = some t := by
  have hSb : S ≤ 7 := R.2.2.2.2.2.2.2.2.1
  unfold fX3_letIn
  rw [(hS_good R hs).1, bind_s, if_neg (by decide), gd_k (by omega) (by omega), cl_k (by omega), (H.2.2.2.2.1 s hs).2.2, if_neg hc]
/-- a hall's cells alone -/
def Fr (h : Nat) (t t' : St) : Prop := ∀ o, (o < h ∨ h + 4 < o) → t' o = t o
theorem Fr_rf : Fr h t t := fun _ _ => rfl
theorem Fr_tr {t1 t2 : St} (a : Fr h t t1) (b : Fr h t1 t2) : Fr h t t2 := fun o ho => (b o ho).trans (a o ho)
theorem Fr_up {k : Nat} (hk : k ≤ 4) (r : Nat → Int32) : Fr h t (upR t (h + k) r) := fun o ho => upR_n (by omega)
theorem Reg_fr (R : Reg t u S I P Wd) (hh : 44 ≤ h) {t' : St} (F : Fr h t t') : Reg t' u S I P Wd := Reg_t R (F 3 (by omega)) (F 4 (by omega)) (F 7 (by omega))
/-- a step of both sides within a hall -/
def Step (h S I : Nat) (t u t' u' : St) : Prop := Fr h t t' ∧ (∃ w, u' = upR u 150 w) ∧ Hal t' h (u' 150) S I ∧ HalB (u' 150) S
theorem Step_rf (H : Hal t h (u 150) S I) (B : HalB (u 150) S) : Step h S I t u t u := ⟨Fr_rf, ⟨u 150, (upR_id _ _).symm⟩, H, B⟩
theorem Step_tr {t1 u1 t2 u2 : St} (a : Step h S I t u t1 u1) (b : Step h S I t1 u1 t2 u2) : Step h S I t u t2 u2 := by
  obtain ⟨a1, ⟨w, rfl⟩, -, -⟩ := a
  obtain ⟨b1, ⟨w2, rfl⟩, b3, b4⟩ := b
  exact ⟨Fr_tr a1 b1, ⟨w2, by rw [upR_upR]⟩, b3, b4⟩
theorem Step_R (R : Reg t u S I P Wd) (hh : 44 ≤ h) {t' u' : St} (a : Step h S I t u t' u') : Reg t' u' S I P Wd := by
  obtain ⟨a1, ⟨w, rfl⟩, -, -⟩ := a
  exact Reg_u150 (Reg_fr R hh a1) w
theorem step_turn (R : Reg t u S I P Wd) (hh : 44 ≤ h) (H : Hal t h (u 150) S I) (B : HalB (u 150) S) {row w : Nat → Int32} (h1 : ∀ q, q < S → row q = w (14 + q)) (h2 : ∀ j, (j < 14 ∨ 14 + S ≤ j) → w j = u 150 j) (h3 : TB w S) : Step h S I t u (upR t (h + 3) row) (upR u 150 w) := by
  have hSb : S ≤ 7 := R.2.2.2.2.2.2.2.2.1
  refine ⟨Fr_up (by omega) _, ⟨w, rfl⟩, ?_, ?_⟩
  · rw [upR_s]
    exact Hal_turn hh hSb H h1 h2
  · rw [upR_s]
    exact HalB_turn hSb B h2 h3
theorem silence_st (R : Reg t u S I P Wd) (hh : 44 ≤ h) (H : Hal t h (u 150) S I) (B : HalB (u 150) S) {s : Nat} (hs : s < S) : ∃ t' u', fX3_silence h t (nI s) = some t' ∧ fX11_hushNow u (nI s) = some u' ∧ Step h S I t u t' u' := by
  obtain ⟨row, w, a1, a2, a3, a4, a5⟩ := silence_sim R hh H B hs
  exact ⟨_, _, a1, a2, step_turn R hh H B a3 a4 a5⟩
theorem letIn_st (R : Reg t u S I P Wd) (hh : 44 ≤ h) (H : Hal t h (u 150) S I) (B : HalB (u 150) S) {s : Nat} (hs : s < S) (hc : u 150 (14 + s) = -1) : ∃ t' u', fX3_letIn h t (nI s) = some t' ∧ fX11_joinNow u (nI s) = some u' ∧ Step h S I t u t' u' := by
  obtain ⟨row, w, a1, a2, a3, a4, a5⟩ := letIn_sim R hh H B hs hc
  exact ⟨_, _, a1, a2, step_turn R hh H B a3 a4 a5⟩
theorem step_at (R : Reg t u S I P Wd) (hh : 44 ≤ h) (H : Hal t h (u 150) S I) (B : HalB (u 150) S) {s : Nat} (hs : s < S) (x : Int32) : Step h S I t u (up t (h + 1) s x) (up u 150 s x) := by
  have hSb : S ≤ 7 := R.2.2.2.2.2.2.2.2.1
  have hIb : I ≤ 4 := R.2.2.2.2.2.2.2.2.2.2.2.1
  obtain ⟨a1, a2, a3, a4, a5, a6⟩ := H
  refine ⟨Fr_up (by omega) _, ⟨_, rfl⟩, ?_, ?_⟩
  · rw [up_s]
    refine ⟨?_, ?_, ?_, ?_, fun q hq => ⟨?_, ?_, ?_⟩, fun i hi => ?_⟩
    · rw [up_n (by omega), upd_n (by omega)]; exact a1
    · rw [up_n (by omega), upd_n (by omega)]; exact a2
    · rw [up_n (by omega), upd_n (by omega)]; exact a3
    · rw [up_n (by omega), upd_n (by omega)]; exact a4
    · rw [up_s]
      by_cases e : q = s
      · subst e; rw [upd_s, upd_s]
      · rw [upd_n e, upd_n e]; exact (a5 q hq).1
    · rw [up_n (by omega), upd_n (by omega)]; exact (a5 q hq).2.1
    · rw [up_n (by omega), upd_n (by omega)]; exact (a5 q hq).2.2
    · rw [up_n (by omega), upd_n (by omega)]; exact a6 i hi
  · rw [up_s]
    obtain ⟨b1, b2, b3, b4⟩ := B
    refine ⟨?_, ?_, ?_, fun q hq => ⟨?_, ?_⟩⟩
    · rw [upd_n (by omega)]; exact b1
    · rw [upd_n (by omega)]; exact b2
    · rw [upd_n (by omega)]; exact b3
    · rw [upd_n (by omega)]; exact (b4 q hq).1
    · rw [upd_n (by omega)]; exact (b4 q hq).2
theorem step_purse (R : Reg t u S I P Wd) (hh : 44 ≤ h) (H : Hal t h (u 150) S I) (B : HalB (u 150) S) {s : Nat} (hs : s < S) {x : Int32} (hx : ∃ r, r ≤ 9999 ∧ x = nI r) : Step h S I t u (up t (h + 2) s x) (up u 150 (7 + s) x) := by
  have hSb : S ≤ 7 := R.2.2.2.2.2.2.2.2.1
  have hIb : I ≤ 4 := R.2.2.2.2.2.2.2.2.2.2.2.1
  obtain ⟨a1, a2, a3, a4, a5, a6⟩ := H
  refine ⟨Fr_up (by omega) _, ⟨_, rfl⟩, ?_, ?_⟩
  · rw [up_s]
    refine ⟨?_, ?_, ?_, ?_, fun q hq => ⟨?_, ?_, ?_⟩, fun i hi => ?_⟩
    · rw [up_n (by omega), upd_n (by omega)]; exact a1
    · rw [up_n (by omega), upd_n (by omega)]; exact a2
    · rw [up_n (by omega), upd_n (by omega)]; exact a3
    · rw [up_n (by omega), upd_n (by omega)]; exact a4
    · rw [up_n (by omega), upd_n (by omega)]; exact (a5 q hq).1
    · rw [up_s]
      by_cases e : q = s
      · subst e; rw [upd_s, upd_s]
      · rw [upd_n e, upd_n (by omega)]; exact (a5 q hq).2.1
    · rw [up_n (by omega), upd_n (by omega)]; exact (a5 q hq).2.2
    · rw [up_n (by omega), upd_n (by omega)]; exact a6 i hi
  · rw [up_s]
    obtain ⟨b1, b2, b3, b4⟩ := B
    refine ⟨?_, ?_, ?_, fun q hq => ⟨?_, ?_⟩⟩
    · rw [upd_n (by omega)]; exact b1
    · rw [upd_n (by omega)]; exact b2
    · rw [upd_n (by omega)]; exact b3
    · by_cases e : q = s
      · subst e; rw [upd_s]; exact hx
      · rw [upd_n (by omega)]; exact (b4 q hq).1
    · rw [upd_n (by omega)]; exact (b4 q hq).2
theorem step_post (R : Reg t u S I P Wd) (hh : 44 ≤ h) (H : Hal t h (u 150) S I) (B : HalB (u 150) S) {k : Nat} (hk : k < I) (x : Int32) : Step h S I t u (up t (h + 4) k x) (up u 150 (21 + k) x) := by
  have hSb : S ≤ 7 := R.2.2.2.2.2.2.2.2.1
  have hIb : I ≤ 4 := R.2.2.2.2.2.2.2.2.2.2.2.1
  obtain ⟨a1, a2, a3, a4, a5, a6⟩ := H
  refine ⟨Fr_up (by omega) _, ⟨_, rfl⟩, ?_, ?_⟩
  · rw [up_s]
    refine ⟨?_, ?_, ?_, ?_, fun q hq => ⟨?_, ?_, ?_⟩, fun i hi => ?_⟩
    · rw [up_n (by omega), upd_n (by omega)]; exact a1
    · rw [up_n (by omega), upd_n (by omega)]; exact a2
    · rw [up_n (by omega), upd_n (by omega)]; exact a3
    · rw [up_n (by omega), upd_n (by omega)]; exact a4
    · rw [up_n (by omega), upd_n (by omega)]; exact (a5 q hq).1
    · rw [up_n (by omega), upd_n (by omega)]; exact (a5 q hq).2.1
    · rw [up_n (by omega), upd_n (by omega)]; exact (a5 q hq).2.2
    · rw [up_s]
      by_cases e : i = k
      · subst e; rw [upd_s, upd_s]
      · rw [upd_n e, upd_n (by omega)]; exact a6 i hi
  · rw [up_s]
    obtain ⟨b1, b2, b3, b4⟩ := B
    refine ⟨?_, ?_, ?_, fun q hq => ⟨?_, ?_⟩⟩
    · rw [upd_n (by omega)]; exact b1
    · rw [upd_n (by omega)]; exact b2
    · rw [upd_n (by omega)]; exact b3
    · rw [upd_n (by omega)]; exact (b4 q hq).1
    · rw [upd_n (by omega)]; exact (b4 q hq).2
/-- rate, verses, treasury, caught -/
theorem step_fld (R : Reg t u S I P Wd) (hh : 44 ≤ h) (H : Hal t h (u 150) S I) (B : HalB (u 150) S) (x : Int32) : Step h S I t u (up t h 2 x) (up u 150 28 x) ∧ ((∃ r, r ≤ 9 ∧ x = nI r) → Step h S I t u (up t h 1 x) (up u 150 25 x)) ∧ ((∃ r, r ≤ 999999 ∧ x = nI r) → Step h S I t u (up t h 3 x) (up u 150 26 x)) ∧ ((∃ r, r ≤ 9999 ∧ x = nI r) → Step h S I t u (up t h 4 x) (up u 150 27 x)) := by
  have hSb : S ≤ 7 := R.2.2.2.2.2.2.2.2.1
  have hIb : I ≤ 4 := R.2.2.2.2.2.2.2.2.2.2.2.1
  obtain ⟨a1, a2, a3, a4, a5, a6⟩ := H
  obtain ⟨b1, b2, b3, b4⟩ := B
  have fr : ∀ k, Fr h t (up t h k x) := fun k o ho => up_n (by omega)
  have rows : ∀ k j, 25 ≤ j → (∀ q, q < S → up t h k x (h + 1) q = upd (u 150) j x q ∧ up t h k x (h + 2) q = upd (u 150) j x (7 + q) ∧ up t h k x (h + 3) q = upd (u 150) j x (14 + q)) ∧ ∀ i, i < I → up t h k x (h + 4) i = upd (u 150) j x (21 + i) := by
    intro k j hj
    refine ⟨fun q hq => ⟨?_, ?_, ?_⟩, fun i hi => ?_⟩
    · rw [up_n (by omega), upd_n (by omega)]; exact (a5 q hq).1
    · rw [up_n (by omega), upd_n (by omega)]; exact (a5 q hq).2.1
    · rw [up_n (by omega), upd_n (by omega)]; exact (a5 q hq).2.2
    · rw [up_n (by omega), upd_n (by omega)]; exact a6 i hi
  have bds : ∀ j, 25 ≤ j → ∀ q, q < S → (∃ r, r ≤ 9999 ∧ upd (u 150) j x (7 + q) = nI r) ∧ (upd (u 150) j x (14 + q) = -1 ∨ ∃ r, r ≤ 7 ∧ upd (u 150) j x (14 + q) = nI r) := by
    intro j hj q hq
    rw [upd_n (by omega), upd_n (by omega)]
    exact b4 q hq
  refine ⟨⟨fr 2, ⟨_, rfl⟩, ?_, ?_⟩, fun hx => ⟨fr 1, ⟨_, rfl⟩, ?_, ?_⟩, fun hx => ⟨fr 3, ⟨_, rfl⟩, ?_, ?_⟩, fun hx => ⟨fr 4, ⟨_, rfl⟩, ?_, ?_⟩⟩
  · rw [up_s, Hal, up_s]
    exact ⟨a1, rfl, a3, a4, (rows 2 28 (by omega)).1, (rows 2 28 (by omega)).2⟩
  · rw [up_s]
    exact ⟨b1, b2, b3, bds 28 (by omega)⟩
  · rw [up_s, Hal, up_s]
    exact ⟨rfl, a2, a3, a4, (rows 1 25 (by omega)).1, (rows 1 25 (by omega)).2⟩
  · rw [up_s]
    exact ⟨hx, b2, b3, bds 25 (by omega)⟩
  · rw [up_s, Hal, up_s]
    exact ⟨a1, a2, rfl, a4, (rows 3 26 (by omega)).1, (rows 3 26 (by omega)).2⟩
  · rw [up_s]
    exact ⟨b1, hx, b3, bds 26 (by omega)⟩
  · rw [up_s, Hal, up_s]
    exact ⟨a1, a2, a3, rfl, (rows 4 27 (by omega)).1, (rows 4 27 (by omega)).2⟩
  · rw [up_s]
    exact ⟨b1, b2, hx, bds 27 (by omega)⟩
theorem move_st (R : Reg t u S I P Wd) (hh : 44 ≤ h) (H : Hal t h (u 150) S I) (B : HalB (u 150) S) {s : Nat} (hs : s < S) {x : Int32} (hx : u 150 s ≠ x) : ∃ t' u', fX3_move h t (nI s) x = some t' ∧ fX11_goNow u (nI s) x = some u' ∧ Step h S I t u t' u' := by
  have hSb : S ≤ 7 := R.2.2.2.2.2.2.2.2.1
  obtain ⟨t1, u1, a1, a2, a3⟩ := silence_st R hh H B hs
  have R1 := Step_R R hh a3
  refine ⟨up t1 (h + 1) s x, up u1 150 s x, ?_, ?_, Step_tr a3 (step_at R1 hh a3.2.2.1 a3.2.2.2 hs x)⟩
  · unfold fX3_move
    rw [(hS_good R hs).1, bind_s, if_neg (by decide), gd_k (by omega) (by omega), cl_k (by omega), (H.2.2.2.2.1 s hs).1, if_neg hx, a1, bind_s, gd_k (by omega) (by omega), bind_s]
  · unfold fX11_goNow
    rw [a2, bind_s, gd_k (by omega) (by omega), bind_s, cl_k (by omega)]
theorem move_no (R : Reg t u S I P Wd) (H : Hal t h (u 150) S I) {s : Nat} (hs : s < S) {x : Int32} (hx : u 150 s = x) : fX3_move h t (nI s) x = some t := by
  have hSb : S ≤ 7 := R.2.2.2.2.2.2.2.2.1
  unfold fX3_move
  rw [(hS_good R hs).1, bind_s, if_neg (by decide), gd_k (by omega) (by omega), cl_k (by omega), (H.2.2.2.2.1 s hs).1, if_pos hx]
theorem fill_st (R : Reg t u S I P Wd) (hh : 44 ≤ h) (H : Hal t h (u 150) S I) (B : HalB (u 150) S) {s n : Nat} (hs : s < S) (hn : n ≤ 9999) : ∃ t' u', fX3_fill h t (nI s) (nI n) = some t' ∧ fX11_giveNow u (nI s) (nI n) = some u' ∧ Step h S I t u t' u' := by
  have hSb : S ≤ 7 := R.2.2.2.2.2.2.2.2.1
  obtain ⟨p, hp, hp2⟩ := (B.2.2.2 s hs).1
  have hmax : ∃ r, r ≤ 9999 ∧ (if nI (p + n) < (9999 : Int32) then nI (p + n) else (9999 : Int32)) = nI r := by
    by_cases c : nI (p + n) < (9999 : Int32)
    · rw [if_pos c]
      have : p + n < 9999 := by
        rcases Nat.lt_or_ge (p + n) 9999 with q | q
        · exact q
        · exact absurd c (nI_nlt (b := 9999) q (by omega))
      exact ⟨p + n, by omega, rfl⟩
    · rw [if_neg c]
      exact ⟨9999, by omega, rfl⟩
  refine ⟨_, _, ?_, ?_, step_purse R hh H B hs hmax⟩
  · unfold fX3_fill
    rw [(hS_good R hs).1, bind_s, if_neg (by decide), gd_k (by omega) (by omega), gd_k (by omega) (by omega), cl_k (by omega), (H.2.2.2.2.1 s hs).2.1, hp2, nI_add, bind_s]
  · unfold fX11_giveNow fX11_giveNow_42
    rw [off7, gd_k (by omega) (by omega), gd_k (by omega) (by omega), gd_k (by omega) (by omega), gd_k (by omega) (by omega), cl_k (by omega), hp2, nI_add, bind_s, bind_s]
    by_cases c : nI (p + n) < (9999 : Int32)
    · rw [if_pos c, if_neg (by rw [le_i]; rw [lt_i] at c; omega)]
    · rw [if_neg c, if_pos (by rw [le_i]; rw [lt_i] at c; omega)]
end OP
