/-! groups: the reference goes through all ways -/
def cntW (P N w x : Nat) : Nat → Nat
  | 0 => 0
  | k + 1 => cntW P N w x k + (if pd P N w k = x then 1 else 0)
def codeW (P N w : Nat) : Nat → Nat
  | 0 => 0
  | k + 1 => codeW P N w k + 8 ^ (pd P N w k)
def TW (pr : Nat → Nat → Nat → Nat) (P N w x : Nat) : Nat → Nat
  | 0 => 0
  | k + 1 => TW pr P N w x k + (if pd P N w k = x then pr k (cntW P N w x k) x else 0)
def ZW (pr : Nat → Nat → Nat → Nat) (P N w : Nat) : Nat → Nat
  | 0 => 0
  | k + 1 => ZW pr P N w k + pr k (cntW P N w (pd P N w k) k) (pd P N w k)
def sumT (f : Nat → Nat) : Nat → Nat
  | 0 => 0
  | x + 1 => sumT f x + f x
theorem cntW_s (P N w x k : Nat) : cntW P N w x (k + 1) = cntW P N w x k + (if pd P N w k = x then 1 else 0) := rfl
theorem codeW_s (P N w k : Nat) : codeW P N w (k + 1) = codeW P N w k + 8 ^ (pd P N w k) := rfl
theorem TW_s (pr : Nat → Nat → Nat → Nat) (P N w x k : Nat) : TW pr P N w x (k + 1) = TW pr P N w x k + (if pd P N w k = x then pr k (cntW P N w x k) x else 0) := rfl
theorem ZW_s (pr : Nat → Nat → Nat → Nat) (P N w k : Nat) : ZW pr P N w (k + 1) = ZW pr P N w k + pr k (cntW P N w (pd P N w k) k) (pd P N w k) := rfl
theorem sumT_s (f : Nat → Nat) (x : Nat) : sumT f (x + 1) = sumT f x + f x := rfl
theorem cntW_le (P N w x : Nat) : ∀ k, cntW P N w x k ≤ k := by
  intro k
  induction k with
  | zero => exact Nat.le_refl _
  | succ k ih =>
    rw [cntW_s]
    split <;> omega
theorem sumT_add (f g : Nat → Nat) (p : Nat) : ∀ n, sumT (fun x => f x + if p = x then g x else 0) n = sumT f n + (if p < n then g p else 0) := by
  intro n
  induction n with
  | zero => rfl
  | succ n ih =>
    rw [sumT_s, sumT_s, ih]
    by_cases e : p = n
    · subst e
      rw [if_neg (Nat.lt_irrefl p), if_pos rfl, if_pos (Nat.lt_succ_self p)]
      omega
    · rw [if_neg e]
      by_cases c : p < n
      · rw [if_pos c, if_pos (show p < n + 1 by omega)]
        omega
      · rw [if_neg c, if_neg (show ¬ p < n + 1 by omega)]
        omega
theorem sumT_0 : ∀ n, sumT (fun _ => 0) n = 0 := by
  intro n
  induction n with
  | zero => rfl
  | succ n ih => rw [sumT_s, ih]
theorem sum_TZ (pr : Nat → Nat → Nat → Nat) {P : Nat} (hP : 0 < P) (N w : Nat) : ∀ k, sumT (fun x => TW pr P N w x k) P = ZW pr P N w k := by
  intro k
  induction k with
  | zero => exact sumT_0 P
  | succ k ih =>
    have h := sumT_add (fun x => TW pr P N w x k) (fun x => pr k (cntW P N w x k) x) (pd P N w k) P
    rw [ih, if_pos (show pd P N w k < P from Nat.mod_lt _ hP)] at h
    exact h
theorem code_dg {P N w : Nat} (hP : 0 < P) (hP4 : P ≤ 4) (hN : N ≤ 7) : ∀ k, k ≤ N → (∀ x, x < 4 → dg (codeW P N w k) x = cntW P N w x k) ∧ dsum (codeW P N w k) = k ∧ codeW P N w k < 8 ^ P := by
  intro k
  induction k with
  | zero =>
    intro _
    refine ⟨fun x _ => ?_, (show dsum 0 = 0 by decide), Nat.pow_pos (by decide)⟩
    show 0 / 8 ^ x % 8 = 0
    rw [Nat.zero_div]
  | succ k ih =>
    intro hk
    obtain ⟨h1, h2, h3⟩ := ih (by omega)
    have hp : pd P N w k < P := Nat.mod_lt _ hP
    have hd : dg (codeW P N w k) (pd P N w k) < 7 := by
      have := dg_le (c := codeW P N w k) (x := pd P N w k) (by omega)
      omega
    refine ⟨fun x hx => ?_, ?_, ?_⟩
    · rw [codeW_s, dg_step (by omega) hx hd, h1 x hx, cntW_s]
    · rw [codeW_s, dsum_step (by omega) hd, h2]
    · rw [codeW_s]
      exact code_lt hP4 hp h3 hd
theorem Z_cwc (pr : Nat → Nat → Nat → Nat) {P N w : Nat} (hP : 0 < P) (hP4 : P ≤ 4) (hN : N ≤ 7) : ∀ r k, k + r = N → ZW pr P N w k + cwc pr P r k (codeW P N w k) (w % P ^ r) = ZW pr P N w N := by
  intro r
  induction r with
  | zero =>
    intro k hk
    rw [show k = N by omega]
    rfl
  | succ r ih =>
    intro k hk
    have hp : pd P N w k < P := Nat.mod_lt _ hP
    have e1 : w % P ^ (r + 1) / P ^ r = pd P N w k := by
      rw [Nat.pow_succ, Nat.mod_mul_right_div_self]
      unfold pd
      rw [show N - 1 - k = r by omega]
    have e2 : w % P ^ (r + 1) % P ^ r = w % P ^ r := by
      rw [Nat.pow_succ, Nat.mod_mul_right_mod]
    have h := ih (k + 1) (by omega)
    rw [ZW_s, codeW_s] at h
    rw [cwc_s, e1, e2, (code_dg hP hP4 hN k (by omega)).1 _ (by omega)]
    omega
/-- the price of a member as a voice in a place -/
def prN (u : St) (mm : Nat → Nat) (k v x : Nat) : Nat := min 882 ((fX11_owesBy u (nI (mm k)) (nI x) (nI v) (u 150 25)).getD 0).toNatClampNeg
theorem prN_le (u : St) (mm : Nat → Nat) (k v x : Nat) : prN u mm k v x ≤ 882 := Nat.min_le_left _ _
section GW
variable {t u : St} {S I P Wd A N : Nat} {mm : Nat → Nat}
theorem pr_eq (R : Reg t u S I P Wd) (H : Hal t 44 (u 150) S I) (B : HalB (u 150) S) {k s v : Nat} (hs : s < S) (hm : mm k = s) (hv : v ≤ 7) (x : Nat) : fX11_owesBy u (nI s) (nI x) (nI v) (u 150 25) = some (nI (prN u mm k v x)) ∧ fX3_priceBy 44 t (t 44 1) (nI s) (nI v) (nI x) = some (nI (prN u mm k v x)) := by
  obtain ⟨p, p1, p2⟩ := price_sim R H.x hs (t 44 1) (nI v) (nI x)
  rw [H.1] at p1 p2
  obtain ⟨r, hr, er⟩ := B.1
  obtain ⟨q, hq, rfl⟩ := price_bd R H.x hs hr hv (by rw [← er]; exact p2)
  have e : prN u mm k v x = q := by
    unfold prN
    rw [hm, p2]
    show min 882 (nI q).toNatClampNeg = q
    rw [cl_k (by omega), Nat.min_eq_right hq]
  rw [e, H.1]
  exact ⟨p2, p1⟩
/-- members of a set, in their order -/
def Grp (u : St) (S A N : Nat) (mm : Nat → Nat) : Prop := A < 2 ^ S ∧ N = rk A S ∧ ∀ s, s < S → A.testBit s = true → mm (rk A s) = s
theorem part_sum (R : Reg t u S I P Wd) (H : Hal t 44 (u 150) S I) (B : HalB (u 150) S) (G : Grp u S A N mm) {w x p : Nat} (hp : p < 128) (hb : ∀ s, s < S → p.testBit s = (A.testBit s && decide (pd P N w (rk A s) = x))) : fX11_owedBy u (nI p) (nI x) = some (nI (TW (prN u mm) P N w x N)) := by
  have hSb : S ≤ 7 := R.2.2.2.2.2.2.2.2.1
  have hS2 : u 144 3 = nI S := R.2.2.2.2.2.2.2.1
  obtain ⟨hA, hN, hmm⟩ := G
  have key : ∀ (d s : Nat) (g : Nat), s + d = S → d < g → fX11_owedBy_8 u g (nI p) (nI x) (nI (TW (prN u mm) P N w x (rk A s))) (nI (cntW P N w x (rk A s))) (nI s) = some (nI (TW (prN u mm) P N w x N)) := by
    intro d
    induction d with
    | zero =>
      intro s g hs hg
      obtain ⟨g, rfl⟩ : ∃ z, g = z + 1 := ⟨g - 1, by omega⟩
      rw [fX11_owedBy_8_s, hS2, if_pos (nI_le (by omega) (by omega)), show s = S by omega, ← hN]
    | succ d ih =>
      intro s g hs hg
      obtain ⟨g, rfl⟩ : ∃ z, g = z + 1 := ⟨g - 1, by omega⟩
      have h := ih (s + 1) g (by omega) (by omega)
      rw [rk_s] at h
      rw [fX11_owedBy_8_s, hS2, if_neg (nI_ge (by omega) (by omega)), has_b u (show s < 9 by omega) (show p < 512 by omega), bind_s, hb s (by omega), l25, nI_1, nI_1]
      cases ha : A.testBit s
      · rw [ha] at h
        exact h
      · rw [ha, if_pos rfl, TW_s, cntW_s] at h
        by_cases c : pd P N w (rk A s) = x
        · have hv : cntW P N w x (rk A s) ≤ 7 := by
            have h1 := cntW_le P N w x (rk A s)
            have h2 := rk_le A s
            omega
          rw [if_pos c, if_pos c] at h
          rw [(pr_eq R H B (show s < S by omega) (hmm s (by omega) ha) hv x).1, bind_s, bind_s, nI_add]
          rw [decide_eq_true c]
          exact h
        · rw [if_neg c, if_neg c] at h
          rw [decide_eq_false c]
          exact h
  exact key S 0 fuelN (by omega) (fuel_gt (by omega))
theorem gz_P (R : Reg t u S I P Wd) (hP : 0 < P) {α : Type} (K : Option α) : gz (u 144 1) K = K := by
  unfold gz
  rw [R.2.1, if_neg (nI_ne0 hP (by have : P ≤ 4 := R.2.2.1; omega))]
/-- the reference finds the part of a way that goes to a place -/
theorem part_loop (R : Reg t u S I P Wd) (hP : 0 < P) (hA : A < 2 ^ S) (hN : N = rk A S) {w x : Nat} (hw : w < 2 ^ 31) (hx : x < 4) (k5 : Int32 → Int32 → Int32 → Int32 → Option Int32) (X1 X3 : Int32) : ∀ (d p : Nat) (g : Nat), d ≤ S → d < g → p < 128 → (∀ s, s < S → p.testBit s = (decide (d ≤ s) && (A.testBit s && decide (pd P N w (rk A s) = x)))) → ∃ p', p' < 128 ∧ (∀ s, s < S → p'.testBit s = (A.testBit s && decide (pd P N w (rk A s) = x))) ∧ fX11_owedByWay_28 u k5 g X1 (nI A) X3 (nI x) (nI p) (nI (w / P ^ (N - rk A d))) (nI d - 1) = fX11_owedByWay_82 u k5 X1 (nI A) X3 (nI x) (nI p') := by
  have hSb : S ≤ 7 := R.2.2.2.2.2.2.2.2.1
  have hPb : P ≤ 4 := R.2.2.1
  have h7 := pow_7 hSb
  intro d
  induction d with
  | zero =>
    intro p g hd hg hp hb
    obtain ⟨g, rfl⟩ : ∃ z, g = z + 1 := ⟨g - 1, by omega⟩
    refine ⟨p, hp, fun s hs => ?_, ?_⟩
    · rw [hb s hs, decide_eq_true (Nat.zero_le s), Bool.true_and]
    · rw [fX11_owedByWay_28_s, if_pos (by decide)]
  | succ d ih =>
    intro p g hd hg hp hb
    obtain ⟨g, rfl⟩ : ∃ z, g = z + 1 := ⟨g - 1, by omega⟩
    have em : nI d + -1 = nI d - 1 := (Int32.sub_eq_add_neg _ _).symm
    have hle : ∀ e, w / P ^ e < 2 ^ 31 := fun e => Nat.lt_of_le_of_lt (Nat.div_le_self _ _) hw
    rw [fX11_owedByWay_28_s, nI_pred, if_neg (nI_pos (by omega)), has_b u (show d < 9 by omega) (show A < 512 by omega), bind_s, gz_P R hP, em]
    unfold fX11_owedByWay_64
    simp only [gz_P R hP, bind_s, em, or0]
    rw [R.2.1, shl_k d (by omega), nx_or, pk_rem (hle _) hP (by omega), pk_div (hle _) hP (by omega)]
    cases ha : A.testBit d
    · have hr : rk A (d + 1) = rk A d := by rw [rk_s, ha]; rfl
      rw [hr, if_pos (show (if false = true then (1 : Int32) else 0) = 0 from rfl)]
      refine ih p g (by omega) (by omega) hp (fun s hs => ?_)
      rw [hb s hs]
      by_cases e : s = d
      · subst e
        rw [ha, Bool.false_and, Bool.and_false, Bool.and_false]
      · by_cases c : d + 1 ≤ s
        · rw [decide_eq_true c, decide_eq_true (show d ≤ s by omega)]
        · rw [decide_eq_false c, decide_eq_false (show ¬ d ≤ s by omega)]
    · have hr : rk A (d + 1) = rk A d + 1 := by rw [rk_s, ha]; rfl
      have hlt : rk A d + 1 ≤ N := by
        have := rk_mono A (d + 1) (S - (d + 1))
        rw [show d + 1 + (S - (d + 1)) = S by omega, ← hN] at this
        omega
      have hdiv : w / P ^ (N - rk A (d + 1)) / P = w / P ^ (N - rk A d) := by
        rw [Nat.div_div_eq_div_mul, ← Nat.pow_succ, show (N - rk A (d + 1)).succ = N - rk A d by omega]
      have hmod : w / P ^ (N - rk A (d + 1)) % P = pd P N w (rk A d) := by
        unfold pd
        rw [show N - rk A (d + 1) = N - 1 - rk A d by omega]
      rw [hdiv, hmod, if_neg (show ¬ (if true = true then (1 : Int32) else 0) = 0 by decide)]
      have hpx : pd P N w (rk A d) < 2 ^ 31 := Nat.lt_of_lt_of_le (Nat.mod_lt _ hP) (by omega)
      by_cases c : pd P N w (rk A d) = x
      · rw [if_pos (by rw [c])]
        have hd7 : 2 ^ d < 128 := Nat.pow_lt_pow_right (a := 2) (m := d) (n := 7) (by decide) (by omega)
        refine ih (p ||| 2 ^ d) g (by omega) (by omega) (Nat.or_lt_two_pow (n := 7) hp hd7) (fun s hs => ?_)
        rw [Nat.testBit_or, hb s hs, Nat.testBit_two_pow]
        by_cases e : d = s
        · subst e
          rw [ha, decide_eq_true c, decide_eq_true (rfl : d = d), decide_eq_true (Nat.le_refl d), Bool.or_true]
          rfl
        · rw [decide_eq_false e, Bool.or_false]
          by_cases c2 : d + 1 ≤ s
          · rw [decide_eq_true c2, decide_eq_true (show d ≤ s by omega)]
          · rw [decide_eq_false c2, decide_eq_false (show ¬ d ≤ s by omega)]
      · rw [if_neg (by rw [nI_eq hpx (by omega)]; exact c)]
        refine ih p g (by omega) (by omega) hp (fun s hs => ?_)
        rw [hb s hs]
        by_cases e : d = s
        · subst e
          rw [decide_eq_false c, Bool.and_false, Bool.and_false, Bool.and_false]
        · by_cases c2 : d + 1 ≤ s
          · rw [decide_eq_true c2, decide_eq_true (show d ≤ s by omega)]
          · rw [decide_eq_false c2, decide_eq_false (show ¬ d ≤ s by omega)]
theorem way_eq (R : Reg t u S I P Wd) (H : Hal t 44 (u 150) S I) (B : HalB (u 150) S) (hP : 0 < P) (G : Grp u S A N mm) {w : Nat} (hw : w < 2 ^ 31) (hwP : w < P ^ N) : fX11_owedByWay u (nI w) (nI A) = some (nI (cwc (prN u mm) P N 0 0 w)) := by
  have hSb : S ≤ 7 := R.2.2.2.2.2.2.2.2.1
  have hPb : P ≤ 4 := R.2.2.1
  obtain ⟨hA, hN, hmm⟩ := id G
  have hN7 : N ≤ 7 := by
    have := rk_le A S
    omega
  have key : ∀ (e x : Nat) (g : Nat), x + e = P → e < g → fX11_owedByWay_5 u g (nI w) (nI A) (nI (sumT (fun x => TW (prN u mm) P N w x N) x)) (nI x) = some (nI (sumT (fun x => TW (prN u mm) P N w x N) P)) := by
    intro e
    induction e with
    | zero =>
      intro x g hx hg
      obtain ⟨g, rfl⟩ : ∃ z, g = z + 1 := ⟨g - 1, by omega⟩
      rw [fX11_owedByWay_5_s, R.2.1, if_pos (nI_le (by omega) (by omega)), show x = P by omega]
    | succ e ih =>
      intro x g hx hg
      obtain ⟨g, rfl⟩ : ∃ z, g = z + 1 := ⟨g - 1, by omega⟩
      have h := ih (x + 1) g (by omega) (by omega)
      rw [sumT_s] at h
      obtain ⟨p, hp, hb, h1⟩ := part_loop R hP hA hN (w := w) (x := x) hw (by omega) (fX11_owedByWay_5 u g) (nI w) (nI (sumT (fun x => TW (prN u mm) P N w x N) x)) S 0 fuelN (Nat.le_refl _) (fuel_gt (by omega)) (by decide) (fun s hs => by
        rw [Nat.zero_testBit, decide_eq_false (show ¬ S ≤ s by omega), Bool.false_and])
      rw [← hN, Nat.sub_self, Nat.pow_zero, Nat.div_one] at h1
      rw [fX11_owedByWay_5_s, R.2.1, if_neg (nI_ge (by omega) (by omega)), bind_s, R.2.2.2.2.2.2.2.1, show (0 : Int32) = nI 0 from rfl, h1]
      unfold fX11_owedByWay_82
      rw [part_sum R H B G hp hb, bind_s, bind_s, nI_add, nI_1]
      exact h
  have h0 := key P 0 fuelN (by omega) (fuel_gt (by omega))
  rw [sum_TZ _ hP] at h0
  have h1 := Z_cwc (prN u mm) hP hPb hN7 (w := w) N 0 (by omega)
  rw [Nat.mod_eq_of_lt hwP] at h1
  have h2 : cwc (prN u mm) P N 0 0 w = ZW (prN u mm) P N w N := by
    rw [← h1]
    show _ = 0 + cwc (prN u mm) P N 0 0 w
    rw [Nat.zero_add]
  rw [h2]
  exact h0
theorem pow_PN {P N : Nat} (hP : P ≤ 4) (hN : N ≤ 7) : P ^ N ≤ 16384 := by
  have h1 : P ^ N ≤ 4 ^ N := Nat.pow_le_pow_left hP N
  have h2 : (4 : Nat) ^ N ≤ 4 ^ 7 := Nat.pow_le_pow_right (by decide) hN
  omega
/-- the reference's result: the first least way -/
theorem ways_ok (R : Reg t u S I P Wd) (H : Hal t 44 (u 150) S I) (B : HalB (u 150) S) (hP : 0 < P) (G : Grp u S A N mm) (x2 : Int32) : ∃ b, isMin (cwc (prN u mm) P N 0 0) (P ^ N) b ∧ fX11_groups_61 u (nI A) x2 (nI (P ^ N)) = fX11_groups_125 u (nI A) x2 (nI b) (nI (cwc (prN u mm) P N 0 0 b)) := by
  have hSb : S ≤ 7 := R.2.2.2.2.2.2.2.2.1
  have hPb : P ≤ 4 := R.2.2.1
  obtain ⟨hA, hN, hmm⟩ := id G
  have hN7 : N ≤ 7 := by
    have := rk_le A S
    omega
  have hM := pow_PN hPb hN7
  have hM0 : 0 < P ^ N := Nat.pow_pos hP
  obtain ⟨F, hF⟩ : ∃ F, F = cwc (prN u mm) P N 0 0 := ⟨_, rfl⟩
  obtain ⟨M, hMe⟩ : ∃ M, M = P ^ N := ⟨_, rfl⟩
  have hFb : ∀ w, F w ≤ 6174 := fun w => by
    rw [hF]
    have := cwc_le (prN_le u mm) P N 0 0 w
    omega
  have hway : ∀ w, w < M → fX11_owedByWay u (nI w) (nI A) = some (nI (F w)) := fun w hw => by
    rw [hF]
    exact way_eq R H B hP G (by omega) (by omega)
  rw [← hF, ← hMe]
  have key : ∀ (d k b l : Nat) (g : Nat), k + d = M → d < g → ((k = 0 ∧ b = 0 ∧ l = 1000000) ∨ (isMin F k b ∧ l = F b)) → ∃ b', isMin F M b' ∧ fX11_groups_72 u g (nI A) x2 (nI M) (nI b) (nI l) (nI k) = fX11_groups_125 u (nI A) x2 (nI b') (nI (F b')) := by
    intro d
    induction d with
    | zero =>
      intro k b l g hk hg h
      obtain ⟨g, rfl⟩ : ∃ z, g = z + 1 := ⟨g - 1, by omega⟩
      rcases h with ⟨h1, -⟩ | ⟨h1, h2⟩
      · omega
      · refine ⟨b, by rw [← hk]; exact h1, ?_⟩
        rw [fX11_groups_72_s, if_pos (nI_le (by omega) (by omega)), h2]
    | succ d ih =>
      intro k b l g hk hg h
      obtain ⟨g, rfl⟩ : ∃ z, g = z + 1 := ⟨g - 1, by omega⟩
      have hl : l ≤ 1000000 := by
        rcases h with h | h
        · omega
        · have := hFb b
          omega
      have hFk := hFb k
      rw [fX11_groups_72_s, if_neg (nI_ge (by omega) (by omega)), hway k (by omega), bind_s]
      unfold fX11_groups_101
      rw [nI_1]
      by_cases c : l ≤ F k
      · rw [if_pos (nI_le c (by omega)), if_pos (nI_le c (by omega))]
        refine ih (k + 1) b l g (by omega) (by omega) (Or.inr ?_)
        rcases h with ⟨-, -, h⟩ | ⟨h1, h2⟩
        · omega
        · exact ⟨isMin_k h1 (by omega), h2⟩
      · rw [if_neg (nI_ge (by omega) (by omega)), if_neg (nI_ge (by omega) (by omega))]
        refine ih (k + 1) k (F k) g (by omega) (by omega) (Or.inr ⟨?_, rfl⟩)
        rcases h with ⟨h1, h2, h3⟩ | ⟨h1, h2⟩
        · subst h1
          exact isMin_1 F
        · exact isMin_n h1 (by omega)
  exact key M 0 0 1000000 fuelN (by omega) (fuel_gt (by omega)) (Or.inl ⟨rfl, rfl, rfl⟩)
theorem ways_N (R : Reg t u S I P Wd) (hA : A < 2 ^ S) (hN : N = rk A S) (x2 : Int32) : fX11_groups_39 u fuelN (nI A) x2 1 0 = fX11_groups_61 u (nI A) x2 (nI (P ^ N)) := by
  have hSb : S ≤ 7 := R.2.2.2.2.2.2.2.2.1
  have h7 := pow_7 hSb
  have hN7 : N ≤ 7 := by
    have := rk_le A S
    omega
  have key : ∀ (d k : Nat) (g : Nat), k + d = N → d < g → fX11_groups_39 u g (nI A) x2 (nI (P ^ k)) (nI k) = fX11_groups_61 u (nI A) x2 (nI (P ^ N)) := by
    intro d
    induction d with
    | zero =>
      intro k g hk hg
      obtain ⟨g, rfl⟩ : ∃ z, g = z + 1 := ⟨g - 1, by omega⟩
      rw [fX11_groups_39_s, bt_b (by omega), bind_s, rk_top hA hSb, ← hN, if_pos (nI_le (by omega) (by omega)), show k = N by omega]
    | succ d ih =>
      intro k g hk hg
      obtain ⟨g, rfl⟩ : ∃ z, g = z + 1 := ⟨g - 1, by omega⟩
      rw [fX11_groups_39_s, bt_b (by omega), bind_s, rk_top hA hSb, ← hN, if_neg (nI_ge (by omega) (by omega)), bind_s, R.2.1, pk_mul, ← Nat.pow_succ, nI_1]
      exact ih (k + 1) g (by omega) (by omega)
  exact key N 0 fuelN (by omega) (fuel_gt (by omega))
theorem place_of (R : Reg t u S I P Wd) (hP : 0 < P) (hA : A < 2 ^ S) (hN : N = rk A S) {s b : Nat} (hs : s < S) (ha : A.testBit s = true) (hb : b < 2 ^ 31) : ∀ (d : Nat) (g : Nat), s < d → d ≤ S → d < g → fX11_groups_162 u g (nI A) (nI s) (nI (b / P ^ (N - rk A d))) (nI d - 1) = some (nI (pd P N b (rk A s))) := by
  have hSb : S ≤ 7 := R.2.2.2.2.2.2.2.2.1
  have hPb : P ≤ 4 := R.2.2.1
  have h7 := pow_7 hSb
  have hle : ∀ e, b / P ^ e < 2 ^ 31 := fun e => Nat.lt_of_le_of_lt (Nat.div_le_self _ _) hb
  intro d
  induction d with
  | zero => intro g h; omega
  | succ d ih =>
    intro g h1 h2 h3
    obtain ⟨g, rfl⟩ : ∃ z, g = z + 1 := ⟨g - 1, by omega⟩
    have em : nI d + -1 = nI d - 1 := (Int32.sub_eq_add_neg _ _).symm
    rw [fX11_groups_162_s, nI_pred]
    by_cases e : d = s
    · subst e
      rw [if_pos (nI_le (Nat.le_refl _) (by omega))]
      unfold fX11_groups_196 pd
      have hr : rk A (d + 1) = rk A d + 1 := by rw [rk_s, ha]; rfl
      rw [gz_P R hP, R.2.1, pk_rem (hle _) hP (by omega), show N - rk A (d + 1) = N - 1 - rk A d by omega]
    · rw [if_neg (nI_ge (by omega) (by omega)), has_b u (show d < 9 by omega) (show A < 512 by omega), bind_s, bind_s, gz_P R hP, R.2.1, bind_s, em, show (1 : Int32) = nI 1 from rfl, pk_div (hle _) (by decide) (by decide), pk_div (hle _) hP (by omega)]
      have hlt : rk A (d + 1) ≤ N := by
        have := rk_mono A (d + 1) (S - (d + 1))
        rw [show d + 1 + (S - (d + 1)) = S by omega, ← hN] at this
        omega
      cases hd : A.testBit d
      · have hr : rk A (d + 1) = rk A d := by rw [rk_s, hd]; rfl
        rw [Nat.div_one, hr]
        exact ih g (by omega) (by omega) (by omega)
      · have hr : rk A (d + 1) = rk A d + 1 := by rw [rk_s, hd]; rfl
        have hdiv : b / P ^ (N - rk A (d + 1)) / P = b / P ^ (N - rk A d) := by
          rw [Nat.div_div_eq_div_mul, ← Nat.pow_succ, show (N - rk A (d + 1)).succ = N - rk A d by omega]
        rw [hdiv]
        exact ih g (by omega) (by omega) (by omega)
end GW
