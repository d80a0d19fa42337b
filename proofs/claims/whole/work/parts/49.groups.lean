/-! groups: the class goes by codes -/
/-- the grouping's cells alone -/
def GF (t0 t : St) : Prop := ∀ o, (o < 39 ∨ 42 < o) → t o = t0 o
section GC
variable {t u : St} {S I P Wd A N : Nat} {mm : Nat → Nat}
theorem GF_R {t0 : St} (R : Reg t0 u S I P Wd) (F : GF t0 t) : Reg t u S I P Wd := Reg_t R (F _ (by omega)) (F _ (by omega)) (F _ (by omega))
theorem GF_H {t0 : St} {w : Nat → Int32} (H : Hal t0 44 w S I) (F : GF t0 t) : Hal t 44 w S I := Hal_t H (fun o z1 z2 => F o (by omega))
theorem mem_loop {t0 : St} (R0 : Reg t0 u S I P Wd) (hA : A < 2 ^ S) : ∀ (d s : Nat) (t : St) (f : Nat), s + d = S → d < f → GF t0 t → t 39 4 = nI (rk A s) → (∀ q, q < s → A.testBit q = true → t 40 (rk A q) = nI q) → (∀ q, q < s → t 42 q = -1) → ∃ t', fX2_group_7 44 f t (nI A) (nI s) = fX2_group_59 44 t' ∧ GF t0 t' ∧ t' 39 4 = nI (rk A S) ∧ (∀ q, q < S → A.testBit q = true → t' 40 (rk A q) = nI q) ∧ ∀ q, q < S → t' 42 q = -1 := by
  have hSb : S ≤ 7 := R0.2.2.2.2.2.2.2.2.1
  have h7 := pow_7 hSb
  intro d
  induction d with
  | zero =>
    intro s t f hs hf F h1 h2 h3
    obtain ⟨f, rfl⟩ : ∃ z, f = z + 1 := ⟨f - 1, by omega⟩
    obtain rfl : s = S := by omega
    refine ⟨t, ?_, F, h1, h2, h3⟩
    rw [fX2_group_7_s, (GF_R R0 F).2.2.2.2.2.2.1, if_pos (nI_le (by omega) (by omega))]
  | succ d ih =>
    intro s t f hs hf F h1 h2 h3
    obtain ⟨f, rfl⟩ : ∃ z, f = z + 1 := ⟨f - 1, by omega⟩
    have hrk := rk_le A s
    have e39 : up t 42 s (-1) 39 4 = nI (rk A s) := by rw [up_n (by decide)]; exact h1
    rw [fX2_group_7_s, (GF_R R0 F).2.2.2.2.2.2.1, if_neg (nI_ge (by omega) (by omega)), gd_k (by omega) (by omega), cl_k (by omega), bind_s, isIn_has _ u, has_b u (show s < 9 by omega) (show A < 512 by omega), bind_s, e39, gd_k (by omega) (by omega), cl_k (by omega), bind_s, bind_s, nI_1]
    have e392 : up (up t 42 s (-1)) 40 (rk A s) (nI s) 39 4 = nI (rk A s) := by rw [up_n (by decide)]; exact e39
    rw [e392, nI_1]
    cases hb : A.testBit s
    · have hr : rk A (s + 1) = rk A s := by rw [rk_s, hb]; rfl
      refine ih (s + 1) (up t 42 s (-1)) f (by omega) (by omega) (fun o ho => by rw [up_n (by omega)]; exact F o ho) (by rw [hr]; exact e39) (fun q hq hqb => ?_) (fun q hq => ?_)
      · rw [up_n (by decide)]
        by_cases e : q = s
        · subst e
          rw [hb] at hqb
          exact absurd hqb (by decide)
        · exact h2 q (by omega) hqb
      · rw [up_s]
        by_cases e : q = s
        · subst e
          rw [upd_s]
        · rw [upd_n e]
          exact h3 q (by omega)
    · have hr : rk A (s + 1) = rk A s + 1 := by rw [rk_s, hb]; rfl
      refine ih (s + 1) _ f (by omega) (by omega) (fun o ho => by rw [up_n (by omega), up_n (by omega), up_n (by omega)]; exact F o ho) (by rw [up_s, upd_s, hr]) (fun q hq hqb => ?_) (fun q hq => ?_)
      · rw [up_n (by decide), up_s, up_n (by decide)]
        by_cases e : q = s
        · subst e
          rw [upd_s]
        · have hne : rk A q ≠ rk A s := by
            have h4 := rk_mono A (q + 1) (s - (q + 1))
            rw [show q + 1 + (s - (q + 1)) = s by omega, rk_s, hqb] at h4
            simp at h4
            omega
          rw [upd_n hne]
          exact h2 q (by omega) hqb
      · rw [up_n (by decide), up_n (by decide), up_s]
        by_cases e : q = s
        · subst e
          rw [upd_s]
        · rw [upd_n e]
          exact h3 q (by omega)
/-- members are there, and the halls are as they were -/
def GS (t0 u t : St) (S A N : Nat) (mm : Nat → Nat) : Prop := GF t0 t ∧ t 39 4 = nI N ∧ ∀ k, k < N → t 40 k = nI (mm k) ∧ mm k < S ∧ rk A (mm k) = k ∧ A.testBit (mm k) = true
/-- the least from a code on -/
def BOK (u t : St) (P N : Nat) (mm : Nat → Nat) (c : Nat) : Prop := dsum c ≤ N → ∃ y, isMin (cwc (prN u mm) P (N - dsum c) (dsum c) c) (P ^ (N - dsum c)) y ∧ t 41 c = nI (cwc (prN u mm) P (N - dsum c) (dsum c) c y)
theorem cost_g {t0 : St} (R0 : Reg t0 u S I P Wd) (H0 : Hal t0 44 (u 150) S I) (B : HalB (u 150) S) (hN7 : N ≤ 7) (g : GS t0 u t S A N mm) {c x v : Nat} (hc : c < 8 ^ P) (hk : dsum c < N) (hx : x < P) (hv : t 41 (c + 8 ^ x) = nI v) : fX2_costOf 44 t (nI c) (nI x) = some (nI (prN u mm (dsum c) (dg c x) x + v)) := by
  have hPb : P ≤ 4 := R0.2.2.1
  have h8 := pow8 hPb
  obtain ⟨F, g1, g2⟩ := g
  obtain ⟨m1, m2, m3, m4⟩ := g2 (dsum c) hk
  have hd := dg_le (c := c) (x := x) (by omega)
  have hlt := code_lt hPb hx hc (by omega)
  unfold fX2_costOf
  rw [placed_eq t (by omega), bind_s, bind_s, shl3 x (by omega), nI_add, g1, if_neg (nI_ge hk (by omega)), if_pos (show nI (c + 8 ^ x) < (4096 : Int32) from nI_lt (b := 4096) (by omega) (by omega)), bind_s, dg_i x (by omega) c (by omega), gd_k (by omega) (by omega), cl_k (by omega), m1, (pr_eq (GF_R R0 F) (GF_H H0 F) B m2 rfl (by omega) x).2, bind_s, gd_k (by omega) (by omega), cl_k (by omega), hv, nI_add]
theorem best_g (R : Reg t u S I P Wd) (hP : 0 < P) {c : Nat} {h : Nat → Nat} (hh : ∀ x, x < P → fX2_costOf 44 t (nI c) (nI x) = some (nI (h x))) (hb : ∀ x, h x < 2 ^ 31) : ∃ b, isMin h P b ∧ fX2_bestPlace 44 t (nI c) = some (nI b) := by
  have hPb : P ≤ 4 := R.2.2.1
  have key : ∀ (d k b : Nat) (f : Nat), k + d = P → d < f → isMin h k b → ∃ b', isMin h P b' ∧ fX2_bestPlace_14 44 t f (nI c) (nI b) (nI (h b)) (nI k) = some (nI b') := by
    intro d
    induction d with
    | zero =>
      intro k b f hk hf hm
      obtain ⟨f, rfl⟩ : ∃ z, f = z + 1 := ⟨f - 1, by omega⟩
      refine ⟨b, by rw [← hk]; exact hm, ?_⟩
      rw [fX2_bestPlace_14_s, R.1, if_pos (nI_le (by omega) (by omega))]
    | succ d ih =>
      intro k b f hk hf hm
      obtain ⟨f, rfl⟩ : ∃ z, f = z + 1 := ⟨f - 1, by omega⟩
      have hbk := hb k
      have hbb := hb b
      rw [fX2_bestPlace_14_s, R.1, if_neg (nI_ge (by omega) (by omega)), hh k (by omega), bind_s, nI_1]
      by_cases e : h b ≤ h k
      · rw [if_pos (nI_le e (by omega))]
        exact ih (k + 1) b f (by omega) (by omega) (isMin_k hm e)
      · rw [if_neg (nI_ge (by omega) (by omega))]
        exact ih (k + 1) k f (by omega) (by omega) (isMin_n hm (by omega))
  obtain ⟨P1, rfl⟩ : ∃ z, P = z + 1 := ⟨P - 1, by omega⟩
  obtain ⟨b, b1, b2⟩ := key P1 1 0 fuelN (by omega) (fuel_gt (by omega)) (isMin_1 h)
  refine ⟨b, b1, ?_⟩
  unfold fX2_bestPlace
  rw [show (0 : Int32) = nI 0 from rfl, hh 0 (by omega), bind_s]
  exact b2
/-- a place is chosen from a code whose followers are known -/
theorem place_g {t0 : St} (R0 : Reg t0 u S I P Wd) (H0 : Hal t0 44 (u 150) S I) (B : HalB (u 150) S) (hP : 0 < P) (hN7 : N ≤ 7) (g : GS t0 u t S A N mm) {c : Nat} (hc : c < 8 ^ P) (hk : dsum c < N) (O : ∀ x, x < P → BOK u t P N mm (c + 8 ^ x)) :
    ∃ x y, x < P ∧ fX2_bestPlace 44 t (nI c) = some (nI x) ∧ isMin (cwc (prN u mm) P (N - dsum c) (dsum c) c) (P ^ (N - dsum c)) y ∧ fX2_costOf 44 t (nI c) (nI x) = some (nI (cwc (prN u mm) P (N - dsum c) (dsum c) c y)) ∧ y / P ^ (N - 1 - dsum c) = x ∧ isMin (cwc (prN u mm) P (N - 1 - dsum c) (dsum c + 1) (c + 8 ^ x)) (P ^ (N - 1 - dsum c)) (y % P ^ (N - 1 - dsum c)) := by
  have hPb : P ≤ 4 := R0.2.2.1
  obtain ⟨r, hr⟩ : ∃ r, r = N - 1 - dsum c := ⟨_, rfl⟩
  have hr1 : N - dsum c = r + 1 := by omega
  have hstep : ∀ x, x < P → dsum (c + 8 ^ x) = dsum c + 1 := fun x hx => dsum_step (by omega) (by have := dg_le (c := c) (x := x) (by omega); omega)
  have hO : ∀ x, ∃ y, x < P → isMin (cwc (prN u mm) P r (dsum c + 1) (c + 8 ^ x)) (P ^ r) y ∧ t 41 (c + 8 ^ x) = nI (cwc (prN u mm) P r (dsum c + 1) (c + 8 ^ x) y) := by
    intro x
    by_cases hx : x < P
    · have h1 := O x hx
      unfold BOK at h1
      rw [hstep x hx, show N - (dsum c + 1) = r by omega] at h1
      obtain ⟨y, y1⟩ := h1 (by omega)
      exact ⟨y, fun _ => y1⟩
    · exact ⟨0, fun h => absurd h hx⟩
  obtain ⟨ys, hys⟩ : ∃ ys : Nat → Nat, ∀ x, x < P → isMin (cwc (prN u mm) P r (dsum c + 1) (c + 8 ^ x)) (P ^ r) (ys x) ∧ t 41 (c + 8 ^ x) = nI (cwc (prN u mm) P r (dsum c + 1) (c + 8 ^ x) (ys x)) := ⟨fun x => Classical.choose (hO x), fun x => Classical.choose_spec (hO x)⟩
  have hcost : ∀ x, x < P → fX2_costOf 44 t (nI c) (nI x) = some (nI (prN u mm (dsum c) (dg c x) x + cwc (prN u mm) P r (dsum c + 1) (c + 8 ^ x) (ys x))) := fun x hx => cost_g R0 H0 B hN7 g hc hk hx (hys x hx).2
  obtain ⟨x, hx, hb⟩ := best_g (h := fun x => prN u mm (dsum c) (dg c x) x + cwc (prN u mm) P r (dsum c + 1) (c + 8 ^ x) (ys x)) (GF_R R0 g.1) hP hcost (fun x => by
    have h1 := prN_le u mm (dsum c) (dg c x) x
    have h2 := cwc_le (prN_le u mm) P r (dsum c + 1) (c + 8 ^ x) (ys x)
    show prN u mm (dsum c) (dg c x) x + cwc (prN u mm) P r (dsum c + 1) (c + 8 ^ x) (ys x) < 2 ^ 31
    omega)
  obtain ⟨s1, s2, s3, s4⟩ := isMin_step hP (fun x hx => (hys x hx).1) hx
  rw [hr1, ← hr]
  refine ⟨x, ys x + x * P ^ r, hx.1, hb, s1, ?_, s3, ?_⟩
  · rw [hcost x hx.1, s2]
  · rw [s4]
    exact (hys x hx.1).1
theorem GS_41 {t0 : St} (g : GS t0 u t S A N mm) (o k : Nat) (v : Int32) (ho : o = 41 ∨ o = 42) : GS t0 u (up t o k v) S A N mm := by
  obtain ⟨F, g1, g2⟩ := g
  refine ⟨fun q hq => by rw [up_n (by omega)]; exact F q hq, by rw [up_n (by omega)]; exact g1, fun k hk => by rw [up_n (by omega)]; exact g2 k hk⟩
theorem fill_loop {t0 : St} (R0 : Reg t0 u S I P Wd) (H0 : Hal t0 44 (u 150) S I) (B : HalB (u 150) S) (hP : 0 < P) (hN7 : N ≤ 7) : ∀ (c : Nat) (t : St) (f : Nat), c ≤ 8 ^ P → c < f → GS t0 u t S A N mm → (∀ c', c ≤ c' → c' < 8 ^ P → BOK u t P N mm c') → ∃ t', fX2_group_73 44 f t (nI c - 1) = fX2_group_95 44 t' ∧ GS t0 u t' S A N mm ∧ t' 42 = t 42 ∧ ∀ c', c' < 8 ^ P → BOK u t' P N mm c' := by
  have hPb : P ≤ 4 := R0.2.2.1
  have h8 := pow8 hPb
  intro c
  induction c with
  | zero =>
    intro t f hc hf g O
    obtain ⟨f, rfl⟩ : ∃ z, f = z + 1 := ⟨f - 1, by omega⟩
    refine ⟨t, ?_, g, rfl, fun c' h => O c' (Nat.zero_le _) h⟩
    rw [fX2_group_73_s, if_pos (by decide)]
  | succ c ih =>
    intro t f hc hf g O
    obtain ⟨f, rfl⟩ : ∃ z, f = z + 1 := ⟨f - 1, by omega⟩
    have em : nI c + -1 = nI c - 1 := (Int32.sub_eq_add_neg _ _).symm
    obtain ⟨v, v1, v2⟩ : ∃ v, fX2_leastFrom 44 t (nI c) = some v ∧ (dsum c ≤ N → ∃ y, isMin (cwc (prN u mm) P (N - dsum c) (dsum c) c) (P ^ (N - dsum c)) y ∧ v = nI (cwc (prN u mm) P (N - dsum c) (dsum c) c y)) := by
      unfold fX2_leastFrom
      have hds : dsum c ≤ 28 := by
        have : ∀ x, dg c x < 8 := fun x => Nat.mod_lt _ (by decide)
        unfold dsum
        have h0 := this 0
        have h1 := this 1
        have h2 := this 2
        have h3 := this 3
        omega
      rw [placed_eq t (by omega), bind_s, g.2.1]
      by_cases c1 : dsum c < N
      · obtain ⟨x, y, x1, x2, x3, x4, -, -⟩ := place_g R0 H0 B hP hN7 g (by omega) c1 (fun x hx => O (c + 8 ^ x) (by have := Nat.pow_pos (n := x) (show 0 < 8 by decide); omega) (code_lt hPb hx (by omega) (by have := dg_le (c := c) (x := x) (by omega); omega)))
        rw [if_pos (nI_lt c1 (by omega)), x2, bind_s, x4, bind_s]
        exact ⟨_, rfl, fun _ => ⟨y, x3, rfl⟩⟩
      · rw [if_neg (nI_nlt (by omega) (by omega))]
        by_cases c2 : dsum c = N
        · rw [if_pos (by rw [c2])]
          refine ⟨0, rfl, fun _ => ⟨0, ?_, ?_⟩⟩
          · rw [c2, Nat.sub_self, Nat.pow_zero]
            exact isMin_1 _
          · rw [c2, Nat.sub_self]
            rfl
        · rw [if_neg (by rw [nI_eq (by omega) (by omega)]; exact c2)]
          exact ⟨_, rfl, fun h => by omega⟩
    obtain ⟨t', a1, a2, a3, a4⟩ := ih (up t 41 c v) f (by omega) (by omega) (GS_41 g 41 c v (Or.inl rfl)) (fun c' h1 h2 => by
      by_cases e : c' = c
      · subst e
        intro h
        obtain ⟨y, y1, y2⟩ := v2 h
        exact ⟨y, y1, by rw [up_s, upd_s]; exact y2⟩
      · intro h
        rw [up_s, upd_n e]
        exact O c' (by omega) h2 h)
    refine ⟨t', ?_, a2, by rw [a3, up_n (by decide)], a4⟩
    rw [fX2_group_73_s, nI_pred, if_neg (nI_pos (by omega)), v1, bind_s, gd_k (by omega) (by omega), cl_k (by omega), bind_s, em]
    exact a1
theorem choose_loop {t0 : St} (R0 : Reg t0 u S I P Wd) (H0 : Hal t0 44 (u 150) S I) (B : HalB (u 150) S) (hP : 0 < P) (hN7 : N ≤ 7) : ∀ (d k : Nat) (t : St) (c y : Nat) (f : Nat), k + d = N → d < f → GS t0 u t S A N mm → (∀ c', c' < 8 ^ P → BOK u t P N mm c') → c < 8 ^ P → dsum c = k → isMin (cwc (prN u mm) P (N - k) k c) (P ^ (N - k)) y → ∃ t', fX2_group_110 44 f t (nI c) (nI k) = some t' ∧ (∀ o, o ≠ 42 → t' o = t o) ∧ (∀ q, (∀ j, k ≤ j → j < N → mm j ≠ q) → t' 42 q = t 42 q) ∧ ∀ j, k ≤ j → j < N → t' 42 (mm j) = nI (pd P N y j) := by
  have hSb : S ≤ 7 := R0.2.2.2.2.2.2.2.2.1
  have hPb : P ≤ 4 := R0.2.2.1
  have h8 := pow8 hPb
  intro d
  induction d with
  | zero =>
    intro k t c y f hk hf g O hc hd hy
    obtain ⟨f, rfl⟩ : ∃ z, f = z + 1 := ⟨f - 1, by omega⟩
    refine ⟨t, ?_, fun _ _ => rfl, fun _ _ => rfl, fun j h1 h2 => by omega⟩
    rw [fX2_group_110_s, g.2.1, if_pos (nI_le (by omega) (by omega))]
  | succ d ih =>
    intro k t c y f hk hf g O hc hd hy
    obtain ⟨f, rfl⟩ : ∃ z, f = z + 1 := ⟨f - 1, by omega⟩
    subst hd
    have hdl : ∀ x, x < P → dg c x < 7 := fun x hx => by have := dg_le (c := c) (x := x) (by omega); omega
    obtain ⟨x, y2, x1, x2, x3, -, x5, x6⟩ := place_g R0 H0 B hP hN7 g hc (show dsum c < N by omega) (fun x hx => O (c + 8 ^ x) (code_lt hPb hx hc (hdl x hx)))
    have hyy := isMin_u hy x3
    subst hyy
    obtain ⟨m1, m2, m3, m4⟩ := g.2.2 (dsum c) (by omega)
    obtain ⟨t', a1, a2, a3, a4⟩ := ih (dsum c + 1) (up t 42 (mm (dsum c)) (nI x)) (c + 8 ^ x) (y % P ^ (N - 1 - dsum c)) f (by omega) (by omega) (GS_41 g 42 _ _ (Or.inr rfl)) (fun c' h => by
      intro h2
      rw [up_n (by decide)]
      exact O c' h h2) (code_lt hPb x1 hc (hdl x x1)) (dsum_step (by omega) (hdl x x1)) (by rw [show N - (dsum c + 1) = N - 1 - dsum c by omega]; exact x6)
    refine ⟨t', ?_, fun o ho => by rw [a2 o ho, up_n ho], fun q hq => ?_, fun j h1 h2 => ?_⟩
    · rw [fX2_group_110_s, g.2.1, if_neg (nI_ge (by omega) (by omega)), x2, bind_s, gd_k (by omega) (by omega), cl_k (by omega), m1, gd_k (by omega) (by omega), cl_k (by omega), bind_s, bind_s, shl3 x (by omega), nI_add, nI_1]
      exact a1
    · rw [a3 q (fun j h1 h2 => hq j (by omega) h2), up_s, upd_n (fun e => hq (dsum c) (Nat.le_refl _) (by omega) e.symm)]
    · by_cases e : j = dsum c
      · subst e
        rw [a3 _ (fun i h3 h4 h5 => by
          have h6 := (g.2.2 i h4).2.2.1
          rw [h5, m3] at h6
          omega), up_s, upd_s]
        unfold pd
        rw [x5, Nat.mod_eq_of_lt x1]
      · rw [a4 j (by omega) h2]
        unfold pd
        rw [pd_mod (show N - 1 - j < N - 1 - dsum c by omega)]
theorem groups_core {U T Np Ne n : Nat} (V : InvP t u S I P Wd U T Np Ne n) (hA : A < 2 ^ S) {x : Int32} (hx : x = -1 ∨ ∃ s, s < S ∧ x = nI s) : OK3 t u (fX10_groups_30 t (nI A) x) (fX11_groups_24 u (nI A) x) := by
  have V0 : Inv t u := ⟨S, I, P, Wd, U, T, Np, Ne, n, V⟩
  obtain ⟨h1, R, H, B, Q, h6, h7, h8⟩ := id V
  have hSb : S ≤ 7 := R.2.2.2.2.2.2.2.2.1
  have hPb : P ≤ 4 := R.2.2.1
  have hp8 := pow8 hPb
  unfold fX10_groups_30 fX11_groups_24
  rcases isE R with ⟨-, q1, q2⟩ | ⟨hP, q1, q2⟩
  · rw [q1, if_pos q2, bind_s, i10]
    exact ok3_id V0 _
  · rw [q1, if_neg q2, bind_s, i00]
    obtain ⟨N, hN⟩ : ∃ N, N = rk A S := ⟨_, rfl⟩
    have hN7 : N ≤ 7 := by
      have := rk_le A S
      omega
    obtain ⟨t1, a1, a2, a3, a4, a5⟩ := mem_loop (t0 := t) R hA S 0 (up t 39 4 0) fuelN (by omega) (fuel_gt (by omega)) (fun o ho => up_n (by omega)) (by rw [up_s, upd_s]; rfl) (fun q hq => absurd hq (by omega)) (fun q hq => absurd hq (by omega))
    obtain ⟨mm, hmm⟩ : ∃ mm : Nat → Nat, mm = fun k => (t1 40 k).toNatClampNeg := ⟨_, rfl⟩
    have hm1 : ∀ s, s < S → A.testBit s = true → mm (rk A s) = s := fun s hs hb => by
      rw [hmm]
      show (t1 40 (rk A s)).toNatClampNeg = s
      rw [a4 s hs hb, cl_k (by omega)]
    have g1 : GS t u t1 S A N mm := by
      refine ⟨a2, by rw [hN]; exact a3, fun k hk => ?_⟩
      obtain ⟨q, hq, hqb, hqr⟩ := rk_sur A S k (by omega)
      have h2 := hm1 q hq hqb
      rw [hqr] at h2
      rw [h2]
      exact ⟨by rw [← hqr]; exact a4 q hq hqb, hq, hqr, hqb⟩
    obtain ⟨t2, b1, b2, b3, b4⟩ := fill_loop R H B hP hN7 (8 ^ P) t1 fuelN (Nat.le_refl _) (fuel_gt (by omega)) g1 (fun c' h1 h2 => by omega)
    obtain ⟨b, hb, w1⟩ := ways_ok R H B hP ⟨hA, hN, hm1⟩ x
    have hPN := pow_PN hPb hN7
    have hd0 : dsum 0 = 0 := by decide
    have hO0 := b4 0 (Nat.pow_pos (by decide))
    unfold BOK at hO0
    rw [hd0, Nat.sub_zero] at hO0
    obtain ⟨y, y1, y2⟩ := hO0 (Nat.zero_le _)
    have hyb := isMin_u y1 hb
    subst hyb
    obtain ⟨t3, c1, c2, c3, c4⟩ := choose_loop R H B hP hN7 N 0 (up t2 39 5 (t2 41 0)) 0 y fuelN (by omega) (fuel_gt (by omega)) ⟨fun o ho => by rw [up_n (by omega)]; exact b2.1 o ho, by rw [up_s, upd_n (by decide)]; exact b2.2.1, fun k hk => by rw [up_n (by decide)]; exact b2.2.2 k hk⟩ (fun c' h => by
      intro h2
      rw [up_n (by decide)]
      exact b4 c' h h2) (Nat.pow_pos (by decide)) hd0 (by rw [Nat.sub_zero]; exact y1)
    have hcls : fX2_group 44 t (nI A) = some t3 := by
      unfold fX2_group
      rw [bind_s, show (0 : Int32) = nI 0 from rfl]
      have a1' : fX2_group_7 44 fuelN (up t 39 4 (nI 0)) (nI A) (nI 0) = fX2_group_59 44 t1 := a1
      rw [a1']
      unfold fX2_group_59
      rw [bind_s, (GF_R R a2).1, shl3 P (by omega), b1]
      unfold fX2_group_95
      rw [bind_s]
      exact c1
    rw [hcls, bind_s, ways_N R hA hN, w1]
    have F3 : GF t t3 := fun o ho => by rw [c2 o (by omega), up_n (by omega)]; exact b2.1 o ho
    have V3 : Inv t3 u := by
      refine ⟨S, I, P, Wd, U, T, Np, Ne, n, ?_, GF_R R F3, GF_H H F3, B, ?_, ?_, ?_, ?_⟩
      · exact Txt_c h1 (F3 _ (by omega)) (F3 _ (by omega)) rfl rfl rfl
      · exact Pst_c Q (F3 _ (by omega)) (fun o z1 z2 => F3 _ (by omega)) rfl rfl
      · exact Img_c h6 (F3 _ (by omega)) (F3 _ (by omega)) (fun o z1 z2 => F3 _ (by omega)) rfl rfl
      · exact Led_c h7 (fun o z1 z2 => F3 _ (by omega)) (fun o z1 z2 => rfl) rfl rfl
      · exact Drw_c h8 (F3 _ (by omega)) rfl
    have cl3 : Cl t t3 := fun o ho => F3 o (by omega)
    unfold fX11_groups_125 fX11_groups_138
    rcases hx with rfl | ⟨s, hs, rfl⟩
    · rw [if_pos rfl, if_pos rfl, if_pos rfl, c2 39 (by decide), up_s, upd_s, y2]
      exact ⟨_, t3, rfl, rfl, V3, cl3⟩
    · have hne : ¬ nI s = (-1 : Int32) := fun h => by
        have h2 := congrArg Int32.toInt h
        rw [nI_int (by omega)] at h2
        have : (-1 : Int32).toInt = -1 := rfl
        omega
      have h7 := pow_7 hSb
      rw [if_neg hne, if_neg hne, if_neg hne, gd_k (by omega) (by omega), cl_k (by omega), has_b u (show s < 9 by omega) (show A < 512 by omega), bind_s, bind_s]
      cases hbit : A.testBit s
      · rw [if_pos (show (if false = true then (1 : Int32) else 0) = 0 from rfl), c3 s (fun j h1 h2 h3 => by
          have h4 := (g1.2.2 j h2).2.2.2
          rw [h3, hbit] at h4
          exact absurd h4 (by decide)), up_n (by decide), b3, a5 s hs]
        exact ⟨_, t3, rfl, rfl, V3, cl3⟩
      · have hrk : rk A s < N := by
          have h4 := rk_mono A (s + 1) (S - (s + 1))
          rw [show s + 1 + (S - (s + 1)) = S by omega, rk_s, hbit] at h4
          simp at h4
          omega
        have h5 := c4 (rk A s) (Nat.zero_le _) hrk
        rw [hm1 s hs hbit] at h5
        have hyb := y1.1
        have h6 := place_of R hP hA hN hs hbit (b := y) (by omega) S fuelN hs (Nat.le_refl _) (fuel_gt (by omega))
        rw [← hN, Nat.sub_self, Nat.pow_zero, Nat.div_one] at h6
        rw [if_neg (show ¬ (if true = true then (1 : Int32) else 0) = 0 by decide), R.2.2.2.2.2.2.2.1, h6, h5]
        exact ⟨_, t3, rfl, rfl, V3, cl3⟩
theorem groups_ok (V : Inv t u) (a x : Int32) : OK3 t u (fX10_groups t a x) (fX11_groups u a x) := by
  have V0 := V
  obtain ⟨S, I, P, Wd, U, T, Np, Ne, n, V⟩ := V
  obtain ⟨h1, R, -⟩ := id V
  have hSb : S ≤ 7 := R.2.2.2.2.2.2.2.2.1
  unfold fX10_groups fX11_groups
  rcases set_cases hSb a with h | ⟨A, hA, rfl⟩
  · rw [(set_bad R h).1, (set_bad R h).2]
    exact ok3_id V0 _
  · rw [(set_good R hA).1, (set_good R hA).2, bind_s, bind_s, i10, i10]
    by_cases c : x = -1
    · rw [if_pos c, if_pos c]
      exact groups_core V hA (Or.inl c)
    · rw [if_neg c, if_neg c]
      rcases ix_cases x (n := S) (by omega) with h | ⟨s, hs, rfl⟩
      · rw [(hS_bad R h).1, (hS_bad R h).2]
        exact ok3_id V0 _
      · rw [(hS_good R hs).1, (hS_good R hs).2, bind_s, bind_s, i10, i10]
        exact groups_core V hA (Or.inr ⟨s, hs, rfl⟩)
end GC
