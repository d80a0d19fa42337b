/-! every run of calls: both sides answer alike -/
theorem lim_eq {L p : Nat} (hL : L ≤ 2048) (hp : p ≤ 4096) : (Int32.ofNat L - (4 : Int32) < nI p) = (L < p + 4) := by
  show (nI L - 4 < nI p) = (L < p + 4)
  by_cases h : 4 ≤ L
  · rw [show (4 : Int32) = nI 4 from rfl, pk_sub h, lt_k (by omega) (by omega)]
    exact propext ⟨fun _ => by omega, fun _ => by omega⟩
  · have hlt : nI L - 4 < nI p := by
      rw [lt_i, nI_int (by omega)]
      rcases (show L = 0 ∨ L = 1 ∨ L = 2 ∨ L = 3 by omega) with rfl | rfl | rfl | rfl
      · have : (nI 0 - 4).toInt = -4 := rfl
        omega
      · have : (nI 1 - 4).toInt = -3 := rfl
        omega
      · have : (nI 2 - 4).toInt = -2 := rfl
        omega
      · have : (nI 3 - 4).toInt = -1 := rfl
        omega
    exact propext ⟨fun _ => by omega, fun _ => hlt⟩
theorem comb2 {t : St} {A : Option (Int32 × St)} {B : St → Option (Int32 × St)} (V : Inv t t) (h : ∀ u, Inv t u → OK2 t u A (B u)) : ∃ r t1 u1, A = some (r, t1) ∧ B t1 = some (r, u1) ∧ Inv u1 u1 := by
  obtain ⟨r, t1, -, a1, -, -, c1, -⟩ := h t V
  obtain ⟨r2, t2, u2, b1, b2, b3, -, b5⟩ := h t1 (Inv_u V c1)
  have e := a1.symm.trans b1
  injection e with e
  injection e with e1 e2
  subst e1
  subst e2
  exact ⟨r, t1, u2, a1, b2, Inv_t b3 b5⟩
theorem comb3 {t : St} {A : Option (Int32 × St)} {B : St → Option Int32} (V : Inv t t) (h : ∀ u, Inv t u → OK3 t u A (B u)) : ∃ r t1, A = some (r, t1) ∧ B t1 = some r ∧ Inv t1 t1 := by
  obtain ⟨r, t1, a1, -, -, c1⟩ := h t V
  obtain ⟨r2, t2, b1, b2, b3, -⟩ := h t1 (Inv_u V c1)
  have e := a1.symm.trans b1
  injection e with e
  injection e with e1 e2
  subst e1
  subst e2
  exact ⟨r, t1, a1, b2, b3⟩
theorem law1 {A B : Option Int32} {K : Option Int32} (h : OK1 A B) (hk : K = some 1) : (A.bind (fun r => B.bind (fun q => if r = q then K else some 0))) = some 1 := by
  obtain ⟨r, a, b⟩ := h
  rw [a, b, bind_s, bind_s, if_pos rfl, hk]
theorem law2 {t : St} {A : Option (Int32 × St)} {B : St → Option (Int32 × St)} {K : St → Option Int32} (V : Inv t t) (h : ∀ u, Inv t u → OK2 t u A (B u)) (hk : ∀ u, Inv u u → K u = some 1) : (bd2 A (fun r t1 => bd2 (B t1) (fun q u1 => if r = q then K u1 else some 0))) = some 1 := by
  obtain ⟨r, t1, u1, a, b, c⟩ := comb2 V h
  rw [a, bd2_s, b, bd2_s, if_pos rfl, hk u1 c]
theorem law3 {t : St} {A : Option (Int32 × St)} {B : St → Option Int32} {K : St → Option Int32} (V : Inv t t) (h : ∀ u, Inv t u → OK3 t u A (B u)) (hk : ∀ u, Inv u u → K u = some 1) : (bd2 A (fun r t1 => (B t1).bind (fun q => if r = q then K t1 else some 0))) = some 1 := by
  obtain ⟨r, t1, a, b, c⟩ := comb3 V h
  rw [a, bd2_s, b, bind_s, if_pos rfl, hk t1 c]
theorem ite_1 {p : Prop} [Decidable p] {A B : Option Int32} (a : A = some 1) (b : B = some 1) : (if p then A else B) = some 1 := by
  by_cases c : p
  · rw [if_pos c]; exact a
  · rw [if_neg c]; exact b
theorem runs (xs : Nat → Int32) {L : Nat} (hL : L ≤ 2048) : ∀ (d p : Nat) (t : St) (f : Nat), Inv t t → L < p + 4 * d + 4 → p ≤ 4096 - 4 * d → d ≤ 600 → d < f → fL_law_18 xs L f t (nI p) = some 1 := by
  intro d
  induction d with
  | zero =>
    intro p t f V h1 h2 h3 hf
    obtain ⟨f, rfl⟩ : ∃ z, f = z + 1 := ⟨f - 1, by omega⟩
    rw [fL_law_18_s, if_pos (by rw [lim_eq hL (by omega)]; omega)]
  | succ d ih =>
    intro p t f V h1 h2 h3 hf
    obtain ⟨f, rfl⟩ : ∃ z, f = z + 1 := ⟨f - 1, by omega⟩
    rw [fL_law_18_s]
    by_cases c : L < p + 4
    · rw [if_pos (by rw [lim_eq hL (by omega)]; exact c)]
    · rw [if_neg (by rw [lim_eq hL (by omega)]; exact c)]
      have b2 : nI p + 2 = nI (p + 2) := nI_add p 2
      have b3 : nI p + 3 = nI (p + 3) := nI_add p 3
      have b4 : nI p + 4 = nI (p + 4) := nI_add p 4
      have hk : ∀ u, Inv u u → fL_law_18 xs L f u (nI (p + 4)) = some 1 := fun u W => ih (p + 4) u f W (by omega) (by omega) (by omega) (by omega)
      rw [gd_k (by omega) (by omega), bind_s]
      simp only [nI_1, b2, b3, b4, gd_k (show p + 1 < L by omega) (show L < 2 ^ 31 by omega), gd_k (show p + 2 < L by omega) (show L < 2 ^ 31 by omega), gd_k (show p + 3 < L by omega) (show L < 2 ^ 31 by omega)]
      refine ite_1 (law2 V (fun u W => feed_ok W _) hk) ?_
      refine ite_1 (law2 V (fun u W => duchy_ok W) hk) ?_
      refine ite_1 (law1 (fault_ok V) (hk t V)) ?_
      refine ite_1 (law3 V (fun u W => told_ok W _) hk) ?_
      refine ite_1 (law1 (singer_ok V _ _) (hk t V)) ?_
      refine ite_1 (law1 (place_ok V _ _) (hk t V)) ?_
      refine ite_1 (law2 V (fun u W => verse_ok W _) hk) ?_
      refine ite_1 (law2 V (fun u W => join_ok W _) hk) ?_
      refine ite_1 (law2 V (fun u W => hush_ok W _) hk) ?_
      refine ite_1 (law2 V (fun u W => go_ok W _ _) hk) ?_
      refine ite_1 (law2 V (fun u W => give_ok W _ _) hk) ?_
      refine ite_1 (law2 V (fun u W => rate_ok W _) hk) ?_
      refine ite_1 (law2 V (fun u W => inspect_ok W _ _) hk) ?_
      refine ite_1 (law2 V (fun u W => drift_ok W _) hk) ?_
      refine ite_1 (law2 V (fun u W => undo_ok W) hk) ?_
      refine ite_1 (law2 V (fun u W => treasury_ok W _) hk) ?_
      refine ite_1 (law2 V (fun u W => lasts_ok W _) hk) ?_
      refine ite_1 (law1 (more_ok V _ _) (hk t V)) ?_
      refine ite_1 (law1 (bears_ok V _ _ _) (hk t V)) ?_
      refine ite_1 (law2 V (fun u W => shared_ok W _ _) hk) ?_
      refine ite_1 (law3 V (fun u W => groups_ok W _ _) hk) ?_
      refine ite_1 (law1 (rates_ok V _) (hk t V)) ?_
      refine ite_1 (law1 (dry_ok _ _) (hk t V)) ?_
      refine ite_1 (law2 V (fun u W => pay_ok W _ _) hk) ?_
      refine ite_1 (law2 V (fun u W => write_ok W _ _) hk) ?_
      refine ite_1 (law2 V (fun u W => tear_ok W) hk) ?_
      refine ite_1 (law1 (judge_ok V) (hk t V)) ?_
      refine ite_1 (law2 V (fun u W => seed_ok W _) hk) ?_
      refine ite_1 (law2 V (fun u W => keep_ok W _) hk) ?_
      refine ite_1 (law2 V (fun u W => goBack_ok W _) hk) ?_
      exact hk t V
theorem pure_all (xs : Nat → Int32) (L : Nat) (hL : L ≤ 2048) : fL_law_18 xs L fuelN t0 0 = some 1 := by
  have h := runs xs hL 600 0 t0 fuelN Inv_0 (by omega) (by omega) (by omega) (fuel_gt (by omega))
  rw [show (0 : Int32) = nI 0 from rfl]
  exact h
