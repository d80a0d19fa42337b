/-! words shared out: both rows are made, both ways are read -/
section SH2
variable {t u : St} {S I P Wd A : Nat}
/-- what the sharing may change -/
def ShF (t0 u0 t u : St) : Prop := (∀ o, o ≠ 27 → (o < 29 ∨ 38 < o) → t o = t0 o) ∧ ∀ o, o ≠ 159 → u o = u0 o
theorem ShF_R {t0 u0 : St} (R : Reg t0 u0 S I P Wd) (F : ShF t0 u0 t u) : Reg t u S I P Wd := by
  have e : u 144 = u0 144 := F.2 144 (by omega)
  exact Reg_c R (F.1 _ (by omega) (by omega)) (F.1 _ (by omega) (by omega)) (F.1 _ (by omega) (by omega)) (F.2 _ (by omega)) (F.2 _ (by omega)) (fun k hk => by rw [e])
theorem row_inner {t0 u0 : St} (R0 : Reg t0 u0 S I P Wd) (hA : A < 2 ^ S) {w : Nat} (hw : w < Wd) (k10 : St → Int32 → Int32 → Option St) (k7 : St → Int32 → Int32 → Option St) :
    ∀ (d k : Nat) (t u : St) (f g : Nat), k + d = S → d < f → d < g → ShF t0 u0 t u → (∀ v, w < v → v < Wd → RowOK u0 t u S Wd A v) → (∀ s, s < k → (canB u0 A w s = true → ∃ a, t (29 + w) s = nI a ∧ u 159 (7 * w + s) = nI a ∧ ((allG u0 A S Wd (w + 1) ∧ a ≤ Wd - 1 - w) ∨ (¬ allG u0 A S Wd (w + 1) ∧ a = 1000000))) ∧ (canB u0 A w s = false → t (29 + w) s = nI 1000000)) →
    ∃ t' u', fX9_share_16 k10 f t (nI A) (nI w) (nI k) = k10 t' (nI A) (nI w + -1) ∧ fX11_findChanges_13 k7 g u (nI A) (nI w) (nI k) = k7 u' (nI A) (nI w + -1) ∧ ShF t0 u0 t' u' ∧ ∀ v, w ≤ v → v < Wd → RowOK u0 t' u' S Wd A v := by
  have hSb : S ≤ 7 := R0.2.2.2.2.2.2.2.2.1
  have hWb : Wd ≤ 9 := R0.2.2.2.2.2.1
  have hp := pow_7 hSb
  intro d
  induction d with
  | zero =>
    intro k t u f g hk hf hg F O C
    obtain ⟨f, rfl⟩ : ∃ z, f = z + 1 := ⟨f - 1, by omega⟩
    obtain ⟨g, rfl⟩ : ∃ z, g = z + 1 := ⟨g - 1, by omega⟩
    have R := ShF_R R0 F
    obtain rfl : k = S := by omega
    refine ⟨t, u, ?_, ?_, F, fun v h1 h2 => ?_⟩
    · rw [fX9_share_16_s, R.2.2.2.2.2.2.1, if_pos (nI_le (by omega) (by omega))]
    · rw [fX11_findChanges_13_s, R.2.2.2.2.2.2.2.1, if_pos (nI_le (by omega) (by omega))]
    · by_cases e : v = w
      · subst e
        exact C
      · exact O v (by omega) h2
  | succ d ih =>
    intro k t u f g hk hf hg F O C
    obtain ⟨f, rfl⟩ : ∃ z, f = z + 1 := ⟨f - 1, by omega⟩
    obtain ⟨g, rfl⟩ : ∃ z, g = z + 1 := ⟨g - 1, by omega⟩
    have R := ShF_R R0 F
    have hS1 : t 3 3 = nI S := R.2.2.2.2.2.2.1
    have hS2 : u 144 3 = nI S := R.2.2.2.2.2.2.2.1
    have hW2 : u 144 2 = nI Wd := R.2.2.2.2.1
    have e148 : u0 148 = u 148 := (F.2 148 (by omega)).symm
    have e7 : (7 : Int32) * nI w + nI k = nI (7 * w + k) := by rw [show (7 : Int32) = nI 7 from rfl, pk_mul, nI_add]
    -- what is behind this word
    obtain ⟨m, hm1, hm2, hm3⟩ : ∃ m, fX9_fewestBehind t (nI (w + 1)) (nI k) = some (nI m) ∧ (∀ kk, (if nI w = nI Wd - 1 then fX11_findChanges_54 k7 kk u (nI A) (nI w) (nI k) (nI (7 * w + k)) 0 else (fX11_leastAt u (nI A) (nI (w + 1)) (nI k)).bind (fun r_2 => fX11_findChanges_54 k7 kk u (nI A) (nI w) (nI k) (nI (7 * w + k)) r_2)) = fX11_findChanges_54 k7 kk u (nI A) (nI w) (nI k) (nI (7 * w + k)) (nI m)) ∧ ((allG u0 A S Wd (w + 1) ∧ m ≤ Wd - 1 - w) ∨ (¬ allG u0 A S Wd (w + 1) ∧ m = 1000000)) := by
      obtain ⟨W1, rfl⟩ : ∃ z, Wd = z + 1 := ⟨Wd - 1, by omega⟩
      by_cases e : w = W1
      · subst e
        refine ⟨0, ?_, fun kk => ?_, Or.inl ⟨fun v h1 h2 => by omega, by omega⟩⟩
        · unfold fX9_fewestBehind
          have hb : fX8_hasWord 3 t (nI (w + 1)) = some 0 := has_bad (t := t) R.2.2.2.1 (by omega) (Or.inr (by rw [nI_int (by omega)]; omega))
          rw [hb, bind_s, i00]
          rfl
        · rw [nI_pred, if_pos rfl]
          rfl
      · have O1 := O (w + 1) (by omega) (by omega)
        refine ⟨mnv (cst t (w + 1) (nI k)) S, behind_eq R (by omega) O1 _, fun kk => ?_, ?_⟩
        · rw [nI_pred, if_neg (by rw [nI_eq (by omega) (by omega)]; exact e), least_eq R hA e148 (by omega) O1 (Or.inr ⟨k, by omega, rfl⟩), bind_s]
        · rcases least_bd hWb (w := w + 1) (by omega) hSb O1 (nI k) with ⟨g1, g2⟩ | g1
          · exact Or.inl ⟨g1, by omega⟩
          · exact Or.inr g1
    have hmb : m ≤ 1000000 := by omega
    -- the class
    obtain ⟨K, -, hK, k1, k2, k3⟩ := kn_lt R (s := k) (by omega)
    have kc : canB u0 A w k = (A.testBit k && K.testBit w) := by
      unfold canB
      rw [e148, k3]
    have hcls : fX9_share_16 k10 (f + 1) t (nI A) (nI w) (nI k) = fX9_share_16 k10 f (up t (29 + w) k (if canB u0 A w k then nI m else nI 1000000)) (nI A) (nI w) (nI (k + 1)) := by
      rw [fX9_share_16_s, hS1, if_neg (nI_ge (by omega) (by omega)), isIn_has t u, isIn_has t u, has_b u (show k < 9 by omega) (show A < 512 by omega), bind_s, gd_k (by omega) (by omega), cl_k (by omega), k1, has_b u (show w < 9 by omega) hK, bind_s, kc]
      unfold fX9_share_55 fX9_share_56 fX9_share_83
      simp only [gd_k (show w < 9 by omega) (show 9 < 2 ^ 31 by decide), gd_k (show k < 7 by omega) (show 7 < 2 ^ 31 by decide), cl_k (show w < 2 ^ 31 by omega), cl_k (show k < 2 ^ 31 by omega), nI_1, hm1, bind_s]
      cases A.testBit k <;> cases K.testBit w <;> rfl
    have hmod : fX11_findChanges_13 k7 (g + 1) u (nI A) (nI w) (nI k) = fX11_findChanges_13 k7 g (up u 159 (7 * w + k) (nI m)) (nI A) (nI w) (nI (k + 1)) := by
      rw [fX11_findChanges_13_s, hS2, hW2, if_neg (nI_ge (by omega) (by omega)), e7, nI_1, hm2]
      unfold fX11_findChanges_54
      rw [gd_k (by omega) (by omega), cl_k (by omega), bind_s, nI_1]
    rw [hcls, hmod]
    refine ih (k + 1) _ _ f g (by omega) (by omega) (by omega) ⟨fun o z1 z2 => by rw [up_n (by omega)]; exact F.1 o z1 z2, fun o z1 => by rw [up_n z1]; exact F.2 o z1⟩ ?_ ?_
    · intro v h1 h2 s hs
      rw [up_n (by omega), up_s, upd_n (by omega)]
      exact O v h1 h2 s hs
    · intro s hs
      rw [up_s, up_s]
      by_cases e : s = k
      · subst e
        rw [upd_s, upd_s]
        refine ⟨fun hc => ⟨m, by rw [if_pos hc], rfl, hm3⟩, fun hc => by rw [if_neg (by rw [hc]; decide)]⟩
      · rw [upd_n e, upd_n (by omega)]
        exact C s (by omega)
theorem row_outer {t0 u0 : St} (R0 : Reg t0 u0 S I P Wd) (hA : A < 2 ^ S) :
    ∀ (w : Nat) (t u : St) (f g : Nat), w ≤ Wd → w < f → w < g → ShF t0 u0 t u → (∀ v, w ≤ v → v < Wd → RowOK u0 t u S Wd A v) →
    ∃ t' u', fX9_share_10 f t (nI A) (nI w - 1) = fX9_share_96 t' ∧ fX11_findChanges_7 g u (nI A) (nI w - 1) = some u' ∧ ShF t0 u0 t' u' ∧ ∀ v, v < Wd → RowOK u0 t' u' S Wd A v := by
  have hSb : S ≤ 7 := R0.2.2.2.2.2.2.2.2.1
  have hWb : Wd ≤ 9 := R0.2.2.2.2.2.1
  intro w
  induction w with
  | zero =>
    intro t u f g hw hf hg F O
    obtain ⟨f, rfl⟩ : ∃ z, f = z + 1 := ⟨f - 1, by omega⟩
    obtain ⟨g, rfl⟩ : ∃ z, g = z + 1 := ⟨g - 1, by omega⟩
    refine ⟨t, u, ?_, ?_, F, fun v h => O v (by omega) h⟩
    · rw [fX9_share_10_s, if_pos (by decide)]
    · rw [fX11_findChanges_7_s, if_pos (by decide)]
  | succ w ih =>
    intro t u f g hw hf hg F O
    obtain ⟨f, rfl⟩ : ∃ z, f = z + 1 := ⟨f - 1, by omega⟩
    obtain ⟨g, rfl⟩ : ∃ z, g = z + 1 := ⟨g - 1, by omega⟩
    obtain ⟨t1, u1, a1, a2, a3, a4⟩ := row_inner R0 hA (w := w) (by omega) (fX9_share_10 f) (fX11_findChanges_7 g) S 0 t u fuelN fuelN (by omega) (fuel_gt (by omega)) (fuel_gt (by omega)) F (fun v h1 h2 => O v (by omega) h2) (fun s hs => absurd hs (by omega))
    obtain ⟨t2, u2, b1, b2, b3, b4⟩ := ih t1 u1 f g (by omega) (by omega) (by omega) a3 (fun v h1 h2 => a4 v h1 h2)
    have e : nI w + -1 = nI w - 1 := (Int32.sub_eq_add_neg _ _).symm
    refine ⟨t2, u2, ?_, ?_, b3, b4⟩
    · rw [fX9_share_10_s, nI_pred, if_neg (nI_pos (by omega)), show (0 : Int32) = nI 0 from rfl, a1, e, b1]
    · rw [fX11_findChanges_7_s, nI_pred, if_neg (nI_pos (by omega)), show (0 : Int32) = nI 0 from rfl, a2, e, b2]
end SH2
