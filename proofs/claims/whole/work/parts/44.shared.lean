/-! words shared out -/
theorem has_nat : ∀ w, w < 9 → ∀ K, K < 512 → decide (((nI K >>> (nI w &&& 31)) &&& (1 : Int32)) = 1) = K.testBit w := by decide +kernel
theorem has_b (u : St) {w K : Nat} (hw : w < 9) (hK : K < 512) : fX11_has u (nI K) (nI w) = some (if K.testBit w then 1 else 0) := by
  have h := has_nat w hw K hK
  unfold fX11_has
  by_cases c : ((nI K >>> (nI w &&& 31)) &&& (1 : Int32)) = 1
  · rw [decide_eq_true c] at h
    rw [if_pos c, ← h]
    rfl
  · rw [decide_eq_false c] at h
    rw [if_neg c, ← h]
    rfl
theorem nx_or (a b : Nat) : nI a ||| nI b = nI (a ||| b) := by
  apply Int32.toBitVec_inj.mp
  show (BitVec.ofNat 32 a) ||| (BitVec.ofNat 32 b) = BitVec.ofNat 32 (a ||| b)
  apply BitVec.eq_of_toNat_eq
  simp [BitVec.toNat_or, Nat.or_mod_two_pow]
/-- may this singer of the set sing this word? -/
def canB (u : St) (A w s : Nat) : Bool := A.testBit s && (u 148 s).toNatClampNeg.testBit w
/-- is every word from w on known to somebody? -/
def allG (u : St) (A S Wd w : Nat) : Prop := ∀ v, w ≤ v → v < Wd → ∃ s, s < S ∧ canB u A v s = true
/-- the least of a row of costs, and where it first is -/
def mnv (c : Nat → Nat) : Nat → Nat
  | 0 => 1000000
  | k + 1 => if mnv c k ≤ c k then mnv c k else c k
def mix (c : Nat → Nat) : Nat → Int32
  | 0 => -1
  | k + 1 => if mnv c k ≤ c k then mix c k else nI k
theorem mnv_s (c : Nat → Nat) (k : Nat) : mnv c (k + 1) = if mnv c k ≤ c k then mnv c k else c k := rfl
theorem mix_s (c : Nat → Nat) (k : Nat) : mix c (k + 1) = if mnv c k ≤ c k then mix c k else nI k := rfl
theorem mnv_le (c : Nat → Nat) : ∀ k, mnv c k ≤ 1000000 := by
  intro k
  induction k with
  | zero => exact Nat.le_refl _
  | succ k ih =>
    rw [mnv_s]
    split <;> omega
theorem mnv_all (c : Nat → Nat) : ∀ k s, s < k → mnv c k ≤ c s := by
  intro k
  induction k with
  | zero => intro s hs; omega
  | succ k ih =>
    intro s hs
    rw [mnv_s]
    by_cases e : s = k
    · subst e
      split <;> omega
    · have := ih s (by omega)
      split <;> omega
theorem mnv_far (c : Nat → Nat) : ∀ k, (∀ s, s < k → 1000000 ≤ c s) → mnv c k = 1000000 := by
  intro k
  induction k with
  | zero => exact fun _ => rfl
  | succ k ih =>
    intro h
    rw [mnv_s, ih (fun s hs => h s (by omega)), if_pos (h k (by omega))]
theorem mix_ok (c : Nat → Nat) : ∀ k, (mix c k = -1 ∧ mnv c k = 1000000) ∨ ∃ s, s < k ∧ mix c k = nI s ∧ c s = mnv c k ∧ mnv c k < 1000000 ∧ ∀ q, q < s → mnv c k < c q := by
  intro k
  induction k with
  | zero => exact Or.inl ⟨rfl, rfl⟩
  | succ k ih =>
    rw [mnv_s, mix_s]
    by_cases h : mnv c k ≤ c k
    · rw [if_pos h, if_pos h]
      rcases ih with ih | ⟨s, hs, h1, h2, h3, h4⟩
      · exact Or.inl ih
      · exact Or.inr ⟨s, by omega, h1, h2, h3, h4⟩
    · rw [if_neg h, if_neg h]
      have := mnv_le c k
      exact Or.inr ⟨k, by omega, rfl, rfl, by omega, fun q hq => by have := mnv_all c k q hq; omega⟩
section SH
variable {t u : St} {S I P Wd A : Nat}
theorem kn_lt (R : Reg t u S I P Wd) {s : Nat} (hs : s < S) : ∃ k, k < 2 ^ Wd ∧ k < 512 ∧ t 7 s = nI k ∧ u 148 s = nI k ∧ (u 148 s).toNatClampNeg = k := by
  obtain ⟨-, h1, k, hk, h2⟩ := R.2.2.2.2.2.2.2.2.2.2.2.2.2.2 s hs
  have hp := pow_9 (show Wd ≤ 9 from R.2.2.2.2.2.1)
  have h3 : u 148 s = nI k := by rw [← h1]; exact h2
  exact ⟨k, hk, by omega, h2, h3, by rw [h3, cl_k (by omega)]⟩
theorem canSing_eq (R : Reg t u S I P Wd) (hA : A < 2 ^ S) {w s : Nat} (hw : w < 9) (hs : s < S) : fX11_canSing u (nI A) (nI w) (nI s) = some (if canB u A w s then 1 else 0) := by
  have hSb : S ≤ 7 := R.2.2.2.2.2.2.2.2.1
  have hp := pow_7 hSb
  obtain ⟨k, -, hk, k1, k2, k3⟩ := kn_lt R hs
  unfold fX11_canSing canB
  rw [has_b u (show s < 9 by omega) (show A < 512 by omega), bind_s, gd_k (by omega) (by omega), cl_k (by omega), k2, has_b u hw hk, bind_s, cl_k (by omega)]
  cases A.testBit s <;> cases k.testBit w <;> rfl
/-- a row of the class and of the reference, for word w -/
def RowOK (u0 t u : St) (S Wd A w : Nat) : Prop := ∀ s, s < S → (canB u0 A w s = true → ∃ a, t (29 + w) s = nI a ∧ u 159 (7 * w + s) = nI a ∧ ((allG u0 A S Wd (w + 1) ∧ a ≤ Wd - 1 - w) ∨ (¬ allG u0 A S Wd (w + 1) ∧ a = 1000000))) ∧ (canB u0 A w s = false → t (29 + w) s = nI 1000000)
/-- what a word costs by a singer behind another -/
def cst (t : St) (w : Nat) (x : Int32) (s : Nat) : Nat := (t (29 + w) s).toNatClampNeg + (if x = -1 ∨ x = nI s then 0 else 1)
theorem cost_eq {w : Nat} (hw : w < 9) {s : Nat} (hs : s < 7) {x : Int32} {a : Nat} (ha : t (29 + w) s = nI a) (hab : a ≤ 1000000) : fX9_costOf t (nI w) (nI s) x = some (nI (cst t w x s)) ∧ cst t w x s = a + (if x = -1 ∨ x = nI s then 0 else 1) := by
  have e : cst t w x s = a + (if x = -1 ∨ x = nI s then 0 else 1) := by
    unfold cst
    rw [ha, cl_k (by omega)]
  refine ⟨?_, e⟩
  rw [e]
  unfold fX9_costOf
  rw [gd_k (by omega) (by omega), gd_k (by omega) (by omega), cl_k (by omega), cl_k (by omega), ha, add0, nI_1]
  by_cases c1 : x = -1
  · rw [if_pos c1, if_pos (Or.inl c1)]
    rfl
  · rw [if_neg c1]
    by_cases c2 : x = nI s
    · rw [if_pos c2, if_pos (Or.inr c2)]
      rfl
    · rw [if_neg c2, if_neg (fun h => h.elim c1 c2)]
/-- a last singer -/
def Lst (S : Nat) (x : Int32) : Prop := x = -1 ∨ ∃ l, l < S ∧ x = nI l
theorem from_eq (hS : S ≤ 7) {x : Int32} (hx : Lst S x) {s : Nat} (hs : s < S) {α : Type} (p q : α) : (if x < 0 then p else if nI s = x then p else q) = if x = -1 ∨ x = nI s then p else q := by
  rcases hx with rfl | ⟨l, hl, rfl⟩
  · rw [if_pos (by decide), if_pos (Or.inl rfl)]
  · rw [if_neg (nI_pos (by omega))]
    by_cases c : s = l
    · subst c
      rw [if_pos rfl, if_pos (Or.inr rfl)]
    · rw [if_neg (by rw [nI_eq (by omega) (by omega)]; exact c), if_neg]
      rintro (h | h)
      · have h2 := congrArg Int32.toInt h
        rw [nI_int (by omega)] at h2
        have : (-1 : Int32).toInt = -1 := rfl
        omega
      · rw [nI_eq (by omega) (by omega)] at h
        omega
theorem row_nat {u0 : St} (hW : Wd ≤ 9) {w : Nat} (O : RowOK u0 t u S Wd A w) {s : Nat} (hs : s < S) : ∃ a, t (29 + w) s = nI a ∧ a ≤ 1000000 := by
  cases h : canB u0 A w s
  · exact ⟨1000000, (O s hs).2 h, Nat.le_refl _⟩
  · obtain ⟨a, a1, -, a3⟩ := (O s hs).1 h
    exact ⟨a, a1, by omega⟩
theorem best_eq {u0 : St} (R : Reg t u S I P Wd) {w : Nat} (hw : w < Wd) (O : RowOK u0 t u S Wd A w) (x : Int32) : fX9_bestFor t (nI w) x = some (mix (cst t w x) S) := by
  have hSb : S ≤ 7 := R.2.2.2.2.2.2.2.2.1
  have hWb : Wd ≤ 9 := R.2.2.2.2.2.1
  have hS1 : t 3 3 = nI S := R.2.2.2.2.2.2.1
  have key : ∀ (d k : Nat) (f : Nat), k + d = S → d < f → fX9_bestFor_9 t f (nI w) x (mix (cst t w x) k) (nI (mnv (cst t w x) k)) (nI k) = some (mix (cst t w x) S) := by
    intro d
    induction d with
    | zero =>
      intro k f hk hf
      obtain ⟨f, rfl⟩ : ∃ z, f = z + 1 := ⟨f - 1, by omega⟩
      rw [fX9_bestFor_9_s, hS1, if_pos (nI_le (by omega) (by omega)), show k = S by omega]
    | succ d ih =>
      intro k f hk hf
      obtain ⟨f, rfl⟩ : ∃ z, f = z + 1 := ⟨f - 1, by omega⟩
      obtain ⟨a, a1, a2⟩ := row_nat hWb O (s := k) (by omega)
      obtain ⟨c1, c2⟩ := cost_eq (w := w) (by omega) (s := k) (by omega) (x := x) a1 a2
      have h1 := ih (k + 1) f (by omega) (by omega)
      have hm := mnv_le (cst t w x) k
      have hc : cst t w x k ≤ 1000001 := by rw [c2]; split <;> omega
      rw [fX9_bestFor_9_s, hS1, if_neg (nI_ge (by omega) (by omega)), c1, bind_s, nI_1]
      rw [mix_s, mnv_s] at h1
      by_cases c : mnv (cst t w x) k ≤ cst t w x k
      · rw [if_pos c, if_pos c] at h1
        rw [if_pos (nI_le c (by omega))]
        exact h1
      · rw [if_neg c, if_neg c] at h1
        rw [if_neg (nI_ge (by omega) (by omega))]
        exact h1
  exact key S 0 fuelN (by omega) (fuel_gt (by omega))
theorem least_eq {u0 : St} (R : Reg t u S I P Wd) (hA : A < 2 ^ S) (hu0 : u0 148 = u 148) {w : Nat} (hw : w < Wd) (O : RowOK u0 t u S Wd A w) {x : Int32} (hx : Lst S x) : fX11_leastAt u (nI A) (nI w) x = some (nI (mnv (cst t w x) S)) := by
  have hSb : S ≤ 7 := R.2.2.2.2.2.2.2.2.1
  have hWb : Wd ≤ 9 := R.2.2.2.2.2.1
  have hS2 : u 144 3 = nI S := R.2.2.2.2.2.2.2.1
  have hcan : ∀ s, canB u A w s = canB u0 A w s := fun s => by unfold canB; rw [hu0]
  have key : ∀ (d k : Nat) (f : Nat), k + d = S → d < f → fX11_leastAt_8 u f (nI A) (nI w) x (nI (mnv (cst t w x) k)) (nI k) = some (nI (mnv (cst t w x) S)) := by
    intro d
    induction d with
    | zero =>
      intro k f hk hf
      obtain ⟨f, rfl⟩ : ∃ z, f = z + 1 := ⟨f - 1, by omega⟩
      rw [fX11_leastAt_8_s, hS2, if_pos (nI_le (by omega) (by omega)), show k = S by omega]
    | succ d ih =>
      intro k f hk hf
      obtain ⟨f, rfl⟩ : ∃ z, f = z + 1 := ⟨f - 1, by omega⟩
      have h1 := ih (k + 1) f (by omega) (by omega)
      have hm := mnv_le (cst t w x) k
      have e7 : (7 : Int32) * nI w + nI k = nI (7 * w + k) := by rw [show (7 : Int32) = nI 7 from rfl, pk_mul, nI_add]
      rw [fX11_leastAt_8_s, hS2, if_neg (nI_ge (by omega) (by omega)), canSing_eq R hA (by omega) (by omega), bind_s, hcan, e7, gd_k (by omega) (by omega), cl_k (by omega)]
      unfold fX11_leastAt_54 fX11_leastAt_55
      rw [from_eq hSb hx (by omega)]
      unfold fX11_leastAt_62
      rw [nI_1]
      rw [mnv_s] at h1
      cases hc : canB u0 A w k
      · obtain ⟨c1, c2⟩ := cost_eq (w := w) (by omega) (s := k) (by omega) (x := x) ((O k (by omega)).2 hc) (Nat.le_refl _)
        rw [if_pos (by rw [c2]; split <;> omega)] at h1
        rw [if_pos (show (if false = true then (1 : Int32) else 0) = 0 from rfl), if_pos (show nI (mnv (cst t w x) k) ≤ (1000000 : Int32) from nI_le (b := 1000000) hm (by omega))]
        exact h1
      · obtain ⟨a, a1, a2, a3⟩ := (O k (by omega)).1 hc
        have ha : a ≤ 1000000 := by omega
        obtain ⟨c1, c2⟩ := cost_eq (w := w) (by omega) (s := k) (by omega) (x := x) a1 ha
        rw [if_pos rfl, i10, a2, add0, nI_1]
        by_cases c3 : x = -1 ∨ x = nI k
        · rw [if_pos c3] at c2
          rw [if_pos c3]
          rw [c2, Nat.add_zero] at h1
          by_cases c : mnv (cst t w x) k ≤ a
          · rw [if_pos c] at h1
            rw [if_pos (nI_le c (by omega))]
            exact h1
          · rw [if_neg c] at h1
            rw [if_neg (nI_ge (by omega) (by omega))]
            exact h1
        · rw [if_neg c3] at c2
          rw [if_neg c3]
          rw [c2] at h1
          by_cases c : mnv (cst t w x) k ≤ a + 1
          · rw [if_pos c] at h1
            rw [if_pos (nI_le c (by omega))]
            exact h1
          · rw [if_neg c] at h1
            rw [if_neg (nI_ge (by omega) (by omega))]
            exact h1
  exact key S 0 fuelN (by omega) (fuel_gt (by omega))
theorem least_bd {u0 : St} (hW : Wd ≤ 9) {w : Nat} (hw : w < Wd) (hS : S ≤ 7) (O : RowOK u0 t u S Wd A w) (x : Int32) : (allG u0 A S Wd w ∧ mnv (cst t w x) S ≤ Wd - w) ∨ (¬ allG u0 A S Wd w ∧ mnv (cst t w x) S = 1000000) := by
  by_cases g : allG u0 A S Wd w
  · refine Or.inl ⟨g, ?_⟩
    obtain ⟨s, hs, hc⟩ := g w (Nat.le_refl _) hw
    obtain ⟨a, a1, a2, a3⟩ := (O s hs).1 hc
    have g1 : allG u0 A S Wd (w + 1) := fun v h1 h2 => g v (by omega) h2
    have ha : a ≤ Wd - 1 - w := by
      rcases a3 with a3 | a3
      · exact a3.2
      · exact absurd g1 a3.1
    obtain ⟨-, c2⟩ := cost_eq (w := w) (by omega) (s := s) (by omega) (x := x) a1 (by omega)
    have h1 := mnv_all (cst t w x) S s hs
    rw [c2] at h1
    split at h1 <;> omega
  · refine Or.inr ⟨g, mnv_far _ _ (fun s hs => ?_)⟩
    cases hc : canB u0 A w s
    · obtain ⟨-, c2⟩ := cost_eq (w := w) (by omega) (s := s) (by omega) (x := x) ((O s hs).2 hc) (Nat.le_refl _)
      rw [c2]
      omega
    · obtain ⟨a, a1, a2, a3⟩ := (O s hs).1 hc
      have ha : a = 1000000 := by
        rcases a3 with a3 | a3
        · refine absurd ?_ g
          intro v h1 h2
          by_cases e : v = w
          · subst e
            exact ⟨s, hs, hc⟩
          · exact a3.1 v (by omega) h2
        · exact a3.2
      obtain ⟨-, c2⟩ := cost_eq (w := w) (by omega) (s := s) (by omega) (x := x) a1 (by omega)
      rw [c2]
      omega
theorem hasW (R : Reg t u S I P Wd) {w : Nat} (hw : w < Wd) : fX8_hasWord 3 t (nI w) = some 1 := has_good R.2.2.2.1 (by have : Wd ≤ 9 := R.2.2.2.2.2.1; omega) hw
theorem behind_eq {u0 : St} (R : Reg t u S I P Wd) {w : Nat} (hw : w < Wd) (O : RowOK u0 t u S Wd A w) (x : Int32) : fX9_fewestBehind t (nI w) x = some (nI (mnv (cst t w x) S)) := by
  have hSb : S ≤ 7 := R.2.2.2.2.2.2.2.2.1
  have hWb : Wd ≤ 9 := R.2.2.2.2.2.1
  unfold fX9_fewestBehind
  rw [hasW R hw, bind_s, i10, best_eq R hw O, bind_s]
  rcases mix_ok (cst t w x) S with ⟨e1, e2⟩ | ⟨s, hs, e1, e2, e3, -⟩
  · rw [e1, e2, (hS_bad R (x := -1) (Or.inl (by decide))).1, bind_s, i00]
    rfl
  · obtain ⟨a, a1, a2⟩ := row_nat hWb O hs
    obtain ⟨c1, c2⟩ := cost_eq (w := w) (by omega) (s := s) (by omega) (x := x) a1 a2
    rw [e1, (hS_good R hs).1, bind_s, i10, c1, bind_s, e2]
end SH
