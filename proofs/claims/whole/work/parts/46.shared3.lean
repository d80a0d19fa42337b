/-! words shared out: who sings which -/
section SH3
variable {t u : St} {S I P Wd A : Nat}
/-- the reference's search for the first singer by whom the least is reached -/
theorem who_loop {u0 : St} (R : Reg t u S I P Wd) (hA : A < 2 ^ S) (hu0 : u0 148 = u 148) {w : Nat} (hw : w < Wd) (O : RowOK u0 t u S Wd A w) {x : Int32} (hx : Lst S x) {s0 : Nat} (hs0 : s0 < S) (hc0 : canB u0 A w s0 = true) (hm : cst t w x s0 = mnv (cst t w x) S) (hfirst : ∀ q, q < s0 → mnv (cst t w x) S < cst t w x q) (k86 : St → Int32 → Int32 → Int32 → Int32 → Option (Int32 × St)) (x2 : Int32) :
    ∀ (d : Nat) (who : Int32) (g : Nat), d ≤ S → d < g → fX11_shared_115 k86 g u (nI A) x2 who (nI w) x (nI (mnv (cst t w x) S)) (nI d - 1) = k86 u (nI A) x2 (if s0 < d then nI s0 else who) (nI (w + 1)) := by
  have hSb : S ≤ 7 := R.2.2.2.2.2.2.2.2.1
  have hWb : Wd ≤ 9 := R.2.2.2.2.2.1
  have hcan : ∀ s, canB u A w s = canB u0 A w s := fun s => by unfold canB; rw [hu0]
  have hmb := mnv_le (cst t w x) S
  intro d
  induction d with
  | zero =>
    intro who g hd hg
    obtain ⟨g, rfl⟩ : ∃ z, g = z + 1 := ⟨g - 1, by omega⟩
    rw [fX11_shared_115_s, if_pos (by decide), if_neg (by omega), nI_1]
  | succ d ih =>
    intro who g hd hg
    obtain ⟨g, rfl⟩ : ∃ z, g = z + 1 := ⟨g - 1, by omega⟩
    have e7 : (7 : Int32) * nI w + nI d = nI (7 * w + d) := by rw [show (7 : Int32) = nI 7 from rfl, pk_mul, nI_add]
    have em : nI d + -1 = nI d - 1 := (Int32.sub_eq_add_neg _ _).symm
    rw [fX11_shared_115_s, nI_pred, if_neg (nI_pos (by omega)), canSing_eq R hA (by omega) (by omega), bind_s, hcan, e7, gd_k (by omega) (by omega), cl_k (by omega)]
    unfold fX11_shared_161
    rw [from_eq hSb hx (by omega)]
    unfold fX11_shared_162 fX11_shared_172 fX11_shared_173
    simp only [i10, if_true, em]
    -- does this singer reach the least?
    have hyes : ∀ (hcd : canB u0 A w d = true), ∃ a, u 159 (7 * w + d) = nI a ∧ a ≤ 1000000 ∧ cst t w x d = a + (if x = -1 ∨ x = nI d then 0 else 1) := by
      intro hcd
      obtain ⟨a, a1, a2, a3⟩ := (O d (by omega)).1 hcd
      have ha : a ≤ 1000000 := by omega
      exact ⟨a, a2, ha, (cost_eq (w := w) (by omega) (s := d) (by omega) (x := x) a1 ha).2⟩
    have skip : (d < s0 ∨ s0 < d) → fX11_shared_115 k86 g u (nI A) x2 who (nI w) x (nI (mnv (cst t w x) S)) (nI d - 1) = k86 u (nI A) x2 (if s0 < d + 1 then nI s0 else who) (nI (w + 1)) := by
      intro h
      rw [ih who g (by omega) (by omega)]
      by_cases c : s0 < d
      · rw [if_pos c, if_pos (by omega)]
      · rw [if_neg c, if_neg (by omega)]
    have take : s0 ≤ d → fX11_shared_115 k86 g u (nI A) x2 (nI d) (nI w) x (nI (mnv (cst t w x) S)) (nI d - 1) = k86 u (nI A) x2 (if s0 < d + 1 then nI s0 else who) (nI (w + 1)) := by
      intro h
      rw [ih (nI d) g (by omega) (by omega), if_pos (show s0 < d + 1 by omega)]
      by_cases c : s0 < d
      · rw [if_pos c]
      · rw [if_neg c, show d = s0 by omega]
    cases hcd : canB u0 A w d
    · have hne : d < s0 ∨ s0 < d := by
        rcases Nat.lt_trichotomy d s0 with h | h | h
        · exact Or.inl h
        · rw [h, hc0] at hcd
          exact absurd hcd (by decide)
        · exact Or.inr h
      rw [if_pos (show (if false = true then (1 : Int32) else 0) = 0 from rfl)]
      exact skip hne
    · obtain ⟨a, a1, a2, a3⟩ := hyes hcd
      rw [if_neg (show ¬ (if true = true then (1 : Int32) else 0) = 0 by decide), a1, add0, nI_1]
      have fin : ∀ z : Nat, z = cst t w x d → z ≤ 1000001 → (if nI z = nI (mnv (cst t w x) S) then fX11_shared_115 k86 g u (nI A) x2 (nI d) (nI w) x (nI (mnv (cst t w x) S)) (nI d - 1) else fX11_shared_115 k86 g u (nI A) x2 who (nI w) x (nI (mnv (cst t w x) S)) (nI d - 1)) = k86 u (nI A) x2 (if s0 < d + 1 then nI s0 else who) (nI (w + 1)) := by
        intro z hz hzb
        by_cases c : z = mnv (cst t w x) S
        · rw [if_pos (by rw [c])]
          refine take ?_
          rcases Nat.lt_or_ge d s0 with h | h
          · have := hfirst d h
            omega
          · exact h
        · rw [if_neg (by rw [nI_eq (by omega) (by omega)]; exact c)]
          refine skip ?_
          rcases Nat.lt_trichotomy d s0 with h | h | h
          · exact Or.inl h
          · subst h
            omega
          · exact Or.inr h
      by_cases c3 : x = -1 ∨ x = nI d
      · rw [if_pos c3] at a3 ⊢
        exact fin a (by omega) (by omega)
      · rw [if_neg c3] at a3 ⊢
        exact fin (a + 1) (by omega) (by omega)
/-- both sides go through the words -/
theorem words_loop {u0 : St} (R0 : Reg t u S I P Wd) (hA : A < 2 ^ S) (hu0 : u0 148 = u 148) (hG : allG u0 A S Wd 0) :
    ∀ (d k : Nat) (t1 : St) (x : Int32) (f : Nat), k + d = Wd → d < f → (∀ o, o ≠ 38 → t1 o = t o) → (∀ v, v < Wd → RowOK u0 t1 u S Wd A v) → Lst S x →
    ∃ t', fX9_share_110 f t1 x (nI k) = some t' ∧ (∀ o, o ≠ 38 → t' o = t1 o) ∧ (∀ v, v < k → t' 38 v = t1 38 v) ∧ ∀ e g, k ≤ e → e < Wd → d < g → fX11_shared_86 g u (nI A) (nI e) x (nI k) = some (t' 38 e, u) := by
  have hSb : S ≤ 7 := R0.2.2.2.2.2.2.2.2.1
  have hWb : Wd ≤ 9 := R0.2.2.2.2.2.1
  intro d
  induction d with
  | zero =>
    intro k t1 x f hk hf F O hx
    obtain ⟨f, rfl⟩ : ∃ z, f = z + 1 := ⟨f - 1, by omega⟩
    have R : Reg t1 u S I P Wd := Reg_t R0 (F _ (by omega)) (F _ (by omega)) (F _ (by omega))
    refine ⟨t1, ?_, fun _ _ => rfl, fun _ _ => rfl, fun e g h1 h2 => by omega⟩
    rw [fX9_share_110_s, R.2.2.2.1, if_pos (nI_le (by omega) (by omega))]
  | succ d ih =>
    intro k t1 x f hk hf F O hx
    obtain ⟨f, rfl⟩ : ∃ z, f = z + 1 := ⟨f - 1, by omega⟩
    have R : Reg t1 u S I P Wd := Reg_t R0 (F _ (by omega)) (F _ (by omega)) (F _ (by omega))
    have Ok := O k (by omega)
    have hb := best_eq R (show k < Wd by omega) Ok x
    have hl := least_eq R hA hu0 (show k < Wd by omega) Ok hx
    have hmS : mnv (cst t1 k x) S < 1000000 := by
      rcases least_bd hWb (show k < Wd by omega) hSb Ok x with g1 | g1
      · omega
      · exact absurd (fun v h1 h2 => hG v (by omega) h2) g1.1
    obtain ⟨s0, hs0, e1, e2, e3, e4⟩ : ∃ s, s < S ∧ mix (cst t1 k x) S = nI s ∧ cst t1 k x s = mnv (cst t1 k x) S ∧ mnv (cst t1 k x) S < 1000000 ∧ ∀ q, q < s → mnv (cst t1 k x) S < cst t1 k x q := by
      rcases mix_ok (cst t1 k x) S with g1 | g1
      · omega
      · exact g1
    have hc0 : canB u0 A k s0 = true := by
      cases h : canB u0 A k s0
      · have := (cost_eq (w := k) (by omega) (s := s0) (by omega) (x := x) ((Ok s0 hs0).2 h) (Nat.le_refl _)).2
        omega
      · rfl
    obtain ⟨t', a1, a2, a3, a4⟩ := ih (k + 1) (up t1 38 k (nI s0)) (nI s0) f (by omega) (by omega) (fun o ho => by rw [up_n ho]; exact F o ho) (fun v hv s hs => by rw [up_n (by omega)]; exact O v hv s hs) (Or.inr ⟨s0, hs0, rfl⟩)
    refine ⟨t', ?_, fun o ho => by rw [a2 o ho, up_n ho], fun v hv => by rw [a3 v (by omega), up_s, upd_n (by omega)], fun e g h1 h2 hg => ?_⟩
    · rw [fX9_share_110_s, R.2.2.2.1, if_neg (nI_ge (by omega) (by omega)), hb, bind_s, gd_k (by omega) (by omega), cl_k (by omega), bind_s, nI_1, e1]
      exact a1
    · obtain ⟨g, rfl⟩ : ∃ z, g = z + 1 := ⟨g - 1, by omega⟩
      rw [fX11_shared_86_s, if_neg (nI_nlt (by omega) (by omega)), hl, bind_s, bind_s, R.2.2.2.2.2.2.2.1, who_loop R hA hu0 (show k < Wd by omega) Ok hx hs0 hc0 e2 e4 _ _ S x fuelN (Nat.le_refl _) (fuel_gt (by omega)), if_pos hs0]
      by_cases c : e = k
      · subst c
        obtain ⟨g, rfl⟩ : ∃ z, g = z + 1 := ⟨g - 1, by omega⟩
        rw [fX11_shared_86_s, if_pos (nI_lt (by omega) (by omega)), a3 e (by omega), up_s, upd_s]
      · exact a4 e g (by omega) h2 (by omega)
/-! what a set knows -/
theorem known_eq (R : Reg t u S I P Wd) (hA : A < 2 ^ S) : ∃ V, V < 2 ^ Wd ∧ fX8_knownBy 3 t (nI A) = some (nI V) ∧ ∀ w, w < 9 → (V.testBit w = true ↔ ∃ s, s < S ∧ canB u A w s = true) := by
  have hSb : S ≤ 7 := R.2.2.2.2.2.2.2.2.1
  have hp := pow_7 hSb
  have hS1 : t 3 3 = nI S := R.2.2.2.2.2.2.1
  have key : ∀ (d k : Nat) (V0 : Nat) (f : Nat), k + d = S → d < f → V0 < 2 ^ Wd → (∀ w, w < 9 → (V0.testBit w = true ↔ ∃ s, s < k ∧ canB u A w s = true)) → ∃ V, V < 2 ^ Wd ∧ fX8_knownBy_4 3 t f (nI A) (nI V0) (nI k) = some (nI V) ∧ ∀ w, w < 9 → (V.testBit w = true ↔ ∃ s, s < S ∧ canB u A w s = true) := by
    intro d
    induction d with
    | zero =>
      intro k V0 f hk hf hV h
      obtain ⟨f, rfl⟩ : ∃ z, f = z + 1 := ⟨f - 1, by omega⟩
      obtain rfl : k = S := by omega
      exact ⟨V0, hV, by rw [fX8_knownBy_4_s, hS1, if_pos (nI_le (by omega) (by omega))], h⟩
    | succ d ih =>
      intro k V0 f hk hf hV h
      obtain ⟨f, rfl⟩ : ∃ z, f = z + 1 := ⟨f - 1, by omega⟩
      obtain ⟨K, hK1, hK2, k1, k2, k3⟩ := kn_lt R (s := k) (by omega)
      have kc : ∀ w, canB u A w k = (A.testBit k && K.testBit w) := fun w => by unfold canB; rw [k3]
      rw [fX8_knownBy_4_s, hS1, if_neg (nI_ge (by omega) (by omega)), isIn_has t u, has_b u (show k < 9 by omega) (show A < 512 by omega), bind_s, bind_s, nI_1, gd_k (by omega) (by omega), cl_k (by omega), show t (3 + 4) k = nI K from k1, nx_or]
      cases hb : A.testBit k
      · rw [if_pos (show (if false = true then (1 : Int32) else 0) = 0 from rfl)]
        refine ih (k + 1) V0 f (by omega) (by omega) hV (fun w hw => ?_)
        rw [h w hw]
        constructor
        · rintro ⟨s, hs, hc⟩
          exact ⟨s, by omega, hc⟩
        · rintro ⟨s, hs, hc⟩
          by_cases e : s = k
          · subst e
            rw [kc w, hb] at hc
            exact absurd hc (by simp)
          · exact ⟨s, by omega, hc⟩
      · rw [if_neg (show ¬ (if true = true then (1 : Int32) else 0) = 0 by decide)]
        refine ih (k + 1) (V0 ||| K) f (by omega) (by omega) (Nat.or_lt_two_pow hV hK1) (fun w hw => ?_)
        rw [Nat.testBit_or, Bool.or_eq_true, h w hw]
        constructor
        · rintro (⟨s, hs, hc⟩ | hc)
          · exact ⟨s, by omega, hc⟩
          · exact ⟨k, by omega, by rw [kc w, hb, hc]; rfl⟩
        · rintro ⟨s, hs, hc⟩
          by_cases e : s = k
          · subst e
            rw [kc w, hb] at hc
            exact Or.inr (by simpa using hc)
          · exact Or.inl ⟨s, by omega, hc⟩
  exact key S 0 0 fuelN (by omega) (fuel_gt (by omega)) (two_pos Wd) (fun w hw => by
    constructor
    · intro h
      rw [Nat.zero_testBit] at h
      exact absurd h (by decide)
    · rintro ⟨s, hs, -⟩
      omega)
theorem known_all (R : Reg t u S I P Wd) (hA : A < 2 ^ S) : ∃ V, V < 2 ^ Wd ∧ fX8_knownBy 3 t (nI A) = some (nI V) ∧ ((nI V = nI (2 ^ Wd - 1)) ↔ allG u A S Wd 0) := by
  have hWb : Wd ≤ 9 := R.2.2.2.2.2.1
  have hp := pow_9 hWb
  obtain ⟨V, h1, h2, h3⟩ := known_eq R hA
  refine ⟨V, h1, h2, ?_⟩
  rw [nI_eq (by omega) (by omega)]
  constructor
  · rintro e v - hv
    rw [← h3 v (by omega), e, Nat.testBit_two_pow_sub_one]
    exact decide_eq_true hv
  · intro g
    apply Nat.eq_of_testBit_eq
    intro i
    rw [Nat.testBit_two_pow_sub_one]
    by_cases hi : i < Wd
    · rw [decide_eq_true hi]
      exact (h3 i (by omega)).mpr (g i (Nat.zero_le _) hi)
    · rw [decide_eq_false hi]
      exact Nat.testBit_lt_two_pow (Nat.lt_of_lt_of_le h1 (Nat.pow_le_pow_right (by decide) (by omega)))
theorem Inv_shf {U T Np Ne n : Nat} (V : InvP t u S I P Wd U T Np Ne n) {t1 u1 : St} (F : ShF t u t1 u1) : InvP t1 u1 S I P Wd U T Np Ne n := by
  obtain ⟨h1, R, H, B, Q, h6, h7, h8⟩ := V
  have e144 : u1 144 = u 144 := F.2 144 (by omega)
  have e150 : u1 150 = u 150 := F.2 150 (by omega)
  refine ⟨?_, ShF_R R F, ?_, ?_, ?_, ?_, ?_, ?_⟩
  · exact Txt_c h1 (F.1 _ (by omega) (by omega)) (F.1 _ (by omega) (by omega)) (F.2 _ (by omega)) (by rw [e144]) (by rw [e144])
  · rw [e150]
    exact Hal_t H (fun o z1 z2 => F.1 o (by omega) (by omega))
  · rw [e150]
    exact B
  · exact Pst_c Q (F.1 _ (by omega) (by omega)) (fun o z1 z2 => F.1 _ (by omega) (by omega)) (F.2 _ (by omega)) (by rw [e144])
  · exact Img_c h6 (F.1 _ (by omega) (by omega)) (F.1 _ (by omega) (by omega)) (fun o z1 z2 => F.1 _ (by omega) (by omega)) (F.2 _ (by omega)) (F.2 _ (by omega))
  · exact Led_c h7 (fun o z1 z2 => F.1 _ (by omega) (by omega)) (fun o z1 z2 => F.2 _ (by omega)) (by rw [e144]) (by rw [e144])
  · exact Drw_c h8 (F.1 _ (by omega) (by omega)) (by rw [e144])
theorem shared_core {U T Np Ne n : Nat} (V : InvP t u S I P Wd U T Np Ne n) (hA : A < 2 ^ S) {x : Int32} (hx : x = -1 ∨ ∃ w, w < Wd ∧ x = nI w) : OK2 t u (fX10_shared_33 t (nI A) x) (if u 144 1 = 0 then some ((-1000000003 : Int32), u) else (fX11_findChanges u (nI A)).bind (fun t_6 => (fX11_leastAt t_6 (nI A) (0 : Int32) (-1 : Int32)).bind (fun r_8 => if (1000000 : Int32) ≤ r_8 then fX11_shared_67 t_6 r_8 else if x = (-1 : Int32) then fX11_shared_67 t_6 r_8 else fX11_shared_86 fuelN t_6 (nI A) x (-1 : Int32) (0 : Int32)))) := by
  obtain ⟨h1, R, -⟩ := id V
  have hSb : S ≤ 7 := R.2.2.2.2.2.2.2.2.1
  have hWb : Wd ≤ 9 := R.2.2.2.2.2.1
  unfold fX10_shared_33
  rcases isE R with ⟨-, q1, q2⟩ | ⟨hP0, q1, q2⟩
  · rw [q1, if_pos q2, bind_s, i10]
    exact ok2_id ⟨S, I, P, Wd, U, T, Np, Ne, n, V⟩ _
  · have hW0 := R.2.2.2.2.2.2.2.2.2.2.2.2.2.1 hP0
    rw [q1, if_neg q2, bind_s, i00]
    obtain ⟨K, hK, k1, k2⟩ := known_all R hA
    rw [k1, bind_s, everyW_eq R, bind_s]
    unfold fX9_share fX11_findChanges
    rw [R.2.2.2.1, R.2.2.2.2.1, bind_s, bind_s]
    obtain ⟨t1, u1, a1, a2, a3, a4⟩ := row_outer R hA Wd t u fuelN fuelN (Nat.le_refl _) (fuel_gt (by omega)) (fuel_gt (by omega)) ⟨fun _ _ _ => rfl, fun _ _ => rfl⟩ (fun v h1 h2 => by omega)
    have R1 := ShF_R R a3
    have e148 : u 148 = u1 148 := (a3.2 148 (by omega)).symm
    have hl := least_eq R1 hA e148 hW0 (a4 0 hW0) (x := -1) (Or.inl rfl)
    have hbd := least_bd hWb hW0 hSb (a4 0 hW0) (-1)
    rw [a1, a2, bind_s, show (0 : Int32) = nI 0 from rfl, hl, bind_s]
    unfold fX11_shared_67
    rcases hbd with ⟨g, hb⟩ | ⟨g, hb⟩
    · rw [if_pos (k2.mpr g), if_neg (show ¬ (1000000 : Int32) ≤ nI (mnv (cst t1 0 (-1)) S) from nI_ge (b := 1000000) (by omega) (by omega)), if_pos (show nI (mnv (cst t1 0 (-1)) S) < (1000000 : Int32) from nI_lt (b := 1000000) (by omega) (by omega))]
      have hbh := behind_eq R1 hW0 (a4 0 hW0) (-1)
      unfold fX9_share_96
      rw [show (0 : Int32) = nI 0 from rfl, hbh, bind_s, bind_s]
      obtain ⟨t2, ht2⟩ : ∃ z, z = up t1 27 3 (nI (mnv (cst t1 0 (-1)) S)) := ⟨_, rfl⟩
      rw [← ht2]
      have f2 : ∀ o, o ≠ 27 → t2 o = t1 o := fun o ho => by rw [ht2, up_n ho]
      have R2 : Reg t2 u1 S I P Wd := Reg_t R1 (f2 _ (by omega)) (f2 _ (by omega)) (f2 _ (by omega))
      obtain ⟨t3, b1, b2, -, b4⟩ := words_loop (u0 := u) R2 hA e148 g Wd 0 t2 (-1) fuelN (by omega) (fuel_gt (by omega)) (fun _ _ => rfl) (fun v hv s hs => by rw [f2 _ (by omega)]; exact a4 v hv s hs) (Or.inl rfl)
      rw [b1, bind_s]
      have F3 : ShF t u t3 u1 := ⟨fun o z1 z2 => by rw [b2 o (by omega), f2 o z1, a3.1 o z1 z2], a3.2⟩
      have I3 : Inv t3 u1 := ⟨S, I, P, Wd, U, T, Np, Ne, n, Inv_shf V F3⟩
      have c1 : Cl t t3 := fun o ho => F3.1 o (by omega) (by omega)
      have c2 : Mo u u1 := fun o ho => F3.2 o (by omega)
      rcases hx with rfl | ⟨w, hw, rfl⟩
      · rw [if_pos rfl, if_pos rfl, b2 27 (by omega), ht2, up_s, upd_s]
        rw [ht2] at b1 b2
        exact ⟨_, t3, u1, rfl, rfl, I3, c1, c2⟩
      · have hne : ¬ nI w = (-1 : Int32) := fun h => by
          have h2 := congrArg Int32.toInt h
          rw [nI_int (by omega)] at h2
          have : (-1 : Int32).toInt = -1 := rfl
          omega
        rw [if_neg hne, if_neg hne, gd_k (by omega) (by omega), cl_k (by omega), b4 w fuelN (Nat.zero_le _) hw (fuel_gt (by omega))]
        exact ⟨_, t3, u1, rfl, rfl, I3, c1, c2⟩
    · rw [if_neg (fun h => g (k2.mp h)), hb, if_pos (show (1000000 : Int32) ≤ nI 1000000 by decide), if_neg (show ¬ nI 1000000 < (1000000 : Int32) by decide)]
      have F1 : ShF t u t u1 := ⟨fun _ _ _ => rfl, a3.2⟩
      exact ⟨-1, t, u1, rfl, rfl, ⟨S, I, P, Wd, U, T, Np, Ne, n, Inv_shf V F1⟩, Cl_rf, fun o ho => a3.2 o (by omega)⟩
theorem shared_ok (V : Inv t u) (a x : Int32) : OK2 t u (fX10_shared t a x) (fX11_shared u a x) := by
  have V0 := V
  obtain ⟨S, I, P, Wd, U, T, Np, Ne, n, V⟩ := V
  obtain ⟨h1, R, -⟩ := id V
  have hSb : S ≤ 7 := R.2.2.2.2.2.2.2.2.1
  have hWb : Wd ≤ 9 := R.2.2.2.2.2.1
  have m1 : (-1 : Int32).toInt = -1 := rfl
  have hWi : (u 144 2 - (1 : Int32)).toInt64.toInt = (Wd : Int) - 1 := by rw [i2l_toInt, R.2.2.2.2.1, pred_int (by omega)]
  unfold fX10_shared fX11_shared
  rcases set_cases hSb a with h | ⟨A, hA, rfl⟩
  · rw [(set_bad R h).1, (set_bad R h).2]
    exact ok2_id V0 _
  · rw [(set_good R hA).1, (set_good R hA).2, bind_s, bind_s, i10, i10]
    by_cases c : x = -1
    · have hin : fX11_in u x.toInt64 (-1) ((u 144 2 - (1 : Int32)).toInt64) = some 1 := in_ok (lo := -1) (hi := (Wd : Int) - 1) rfl hWi (by rw [c, m1]; omega)
      rw [if_pos c, hin, bind_s, i10]
      exact shared_core V hA (Or.inl c)
    · rw [if_neg c]
      rcases ix_cases x (n := Wd) (by omega) with h | ⟨w, hw, rfl⟩
      · have hne : x.toInt ≠ -1 := fun e => c (ext_i (by rw [e, m1]))
        have hin : fX11_in u x.toInt64 (-1) ((u 144 2 - (1 : Int32)).toInt64) = some 0 := in_no (lo := -1) (hi := (Wd : Int) - 1) rfl hWi (by omega)
        rw [hin, show fX8_hasWord 3 t x = some 0 from has_bad (t := t) R.2.2.2.1 (by omega) h, bind_s, bind_s, i00, i00]
        exact ok2_id V0 _
      · have hin : fX11_in u (nI w).toInt64 (-1) ((u 144 2 - (1 : Int32)).toInt64) = some 1 := in_ok (lo := -1) (hi := (Wd : Int) - 1) rfl hWi (by rw [nI_int (by omega)]; omega)
        rw [hin, hasW R hw, bind_s, bind_s, i10, i10]
        exact shared_core V hA (Or.inr ⟨w, hw, rfl⟩)
end SH3
