/-! draws, on both sides -/
theorem land31 (v : Nat) : lN v &&& (2147483647 : Int64) = lN (v % 2 ^ 31) := by
  apply Int64.toBitVec_inj.1
  show BitVec.ofNat 64 v &&& BitVec.ofNat 64 2147483647 = BitVec.ofNat 64 (v % 2 ^ 31)
  apply BitVec.eq_of_toNat_eq
  rw [BitVec.toNat_and, BitVec.toNat_ofNat, BitVec.toNat_ofNat, BitVec.toNat_ofNat, show 2147483647 % 2 ^ 64 = 2 ^ 31 - 1 from rfl, Nat.and_two_pow_sub_one_eq_mod]
  omega
section DR
variable {t u : St} {S I P Wd : Nat}
theorem draw_sim {g n : Nat} (hg : g < 2 ^ 31) (h1 : t 43 0 = nI g) (h2 : u 144 11 = nI g) (hn : 0 < n) (hn2 : n < 2 ^ 31) : ∃ g' r, g' < 2 ^ 31 ∧ r < n ∧ fX1_draw t (nI n) = some (nI r, up t 43 0 (nI g')) ∧ fX11_draw u (nI n) = some (nI r, up u 144 11 (nI g')) := by
  refine ⟨(g * 1103515245 + 12345) % 2 ^ 31, (g * 1103515245 + 12345) % 2 ^ 31 / 65536 % n, Nat.mod_lt _ (by omega), Nat.mod_lt _ hn, ?_, ?_⟩
  · unfold fX1_draw
    rw [h1, nI_l hg, show (1103515245 : Int64) = lN 1103515245 from rfl, lN_mul, show (12345 : Int64) = lN 12345 from rfl, lN_add, land31, lN_i, bind_s, if_neg (nI_nle hn hn2)]
    unfold gz
    rw [if_neg (nI_ne0 hn hn2), up_s, upd_s, show (65536 : Int32) = nI 65536 from rfl, pk_div (Nat.mod_lt _ (by omega)) (by decide) (by decide), pk_rem (by have := Nat.mod_lt (g * 1103515245 + 12345) (show 0 < 2 ^ 31 by omega); omega) hn hn2]
  · unfold fX11_draw
    rw [h2, nI_l hg, show (1103515245 : Int64) = lN 1103515245 from rfl, lN_mul, show (12345 : Int64) = lN 12345 from rfl, lN_add, show (2147483648 : Int64) = lN (2 ^ 31) from rfl, pk_lRem (by omega) (by decide) (by decide), lN_i, bind_s]
    unfold gz
    rw [if_neg (nI_ne0 hn hn2), up_s, upd_s, show (65536 : Int32) = nI 65536 from rfl, pk_div (Nat.mod_lt _ (by omega)) (by decide) (by decide), pk_rem (by have := Nat.mod_lt (g * 1103515245 + 12345) (show 0 < 2 ^ 31 by omega); omega) hn hn2]
/-- what a drawn verse may change -/
def DS (S I P Wd : Nat) (t u t' u' : St) : Prop :=
  (∀ o, o ≠ 43 → (o < 44 ∨ 48 < o) → t' o = t o) ∧ (∀ o, o ≠ 150 → o ≠ 144 → u' o = u o) ∧ (∀ k, k ≠ 11 → u' 144 k = u 144 k) ∧ Reg t' u' S I P Wd ∧ Hal t' 44 (u' 150) S I ∧ HalB (u' 150) S ∧ ∃ g, g < 2 ^ 31 ∧ t' 43 0 = nI g ∧ u' 144 11 = nI g
theorem DS_tr {t1 u1 t2 u2 : St} (a : DS S I P Wd t u t1 u1) (b : DS S I P Wd t1 u1 t2 u2) : DS S I P Wd t u t2 u2 :=
  ⟨fun o h1 h2 => (b.1 o h1 h2).trans (a.1 o h1 h2), fun o h1 h2 => (b.2.1 o h1 h2).trans (a.2.1 o h1 h2), fun k hk => (b.2.2.1 k hk).trans (a.2.2.1 k hk), b.2.2.2⟩
theorem DS_step (R : Reg t u S I P Wd) {g : Nat} (hg : g < 2 ^ 31) (h1 : t 43 0 = nI g) (h2 : u 144 11 = nI g) {t' u' : St} (a : Step 44 S I t u t' u') : DS S I P Wd t u t' u' := by
  have R' := Step_R R (by omega) a
  obtain ⟨a1, ⟨w, rfl⟩, a3, a4⟩ := a
  refine ⟨fun o _ ho => a1 o (by omega), fun o ho _ => upR_n ho, fun k _ => by rw [upR_n (by decide)], R', a3, a4, g, hg, ?_, ?_⟩
  · rw [a1 43 (by omega)]; exact h1
  · rw [upR_n (by decide)]; exact h2
theorem DS_draw (R : Reg t u S I P Wd) (H : Hal t 44 (u 150) S I) (B : HalB (u 150) S) {g : Nat} (hg : g < 2 ^ 31) : DS S I P Wd t u (up t 43 0 (nI g)) (up u 144 11 (nI g)) := by
  refine ⟨fun o ho _ => up_n ho, fun o _ ho => up_n ho, fun k hk => by rw [up_s, upd_n hk], ?_, ?_, ?_, g, hg, by rw [up_s, upd_s], by rw [up_s, upd_s]⟩
  · exact Reg_u (Reg_t R (up_n (by decide)) (up_n (by decide)) (up_n (by decide))) (up_n (by decide)) (up_n (by decide)) (by rw [up_s, upd_n (by decide)]) (by rw [up_s, upd_n (by decide)]) (by rw [up_s, upd_n (by decide)]) (by rw [up_s, upd_n (by decide)])
  · rw [up_n (by decide)]
    unfold Hal at H ⊢
    rw [up_n (by decide), up_n (by decide), up_n (by decide), up_n (by decide), up_n (by decide)]
    exact H
  · rw [up_n (by decide)]; exact B
theorem DS_drawn (R : Reg t u S I P Wd) (H : Hal t 44 (u 150) S I) (B : HalB (u 150) S) {g n : Nat} (hg : g < 2 ^ 31) (h1 : t 43 0 = nI g) (h2 : u 144 11 = nI g) (hn : 0 < n) (hn2 : n < 2 ^ 31) : ∃ r t' u', r < n ∧ fX1_draw t (nI n) = some (nI r, t') ∧ fX11_draw u (nI n) = some (nI r, u') ∧ DS S I P Wd t u t' u' := by
  obtain ⟨g', r, a1, a2, a3, a4⟩ := draw_sim hg h1 h2 hn hn2
  exact ⟨r, _, _, a2, a3, a4, DS_draw R H B a1⟩
theorem chance_st (R : Reg t u S I P Wd) (H : Hal t 44 (u 150) S I) (B : HalB (u 150) S) {g : Nat} (hg : g < 2 ^ 31) (h1 : t 43 0 = nI g) (h2 : u 144 11 = nI g) (hS0 : 0 < S) : ∃ t' u', fX10_stirByDraws t = some t' ∧ fX11_chance u = some u' ∧ DS S I P Wd t u t' u' := by
  have hSb : S ≤ 7 := R.2.2.2.2.2.2.2.2.1
  have hPb : P ≤ 4 := R.2.2.1
  have hIb : I ≤ 4 := R.2.2.2.2.2.2.2.2.2.2.2.1
  have hP0 : 0 < P := by
    rcases Nat.eq_zero_or_pos P with e | e
    · have := (R.2.2.2.2.2.2.2.2.2.2.2.2.1 e).1
      omega
    · exact e
  have hS1 : t 3 3 = nI S := R.2.2.2.2.2.2.1
  obtain ⟨a, t1, u1, ha, a1, a2, d1⟩ := DS_drawn R H B hg h1 h2 (n := 5) (by decide) (by decide)
  obtain ⟨-, -, -, R1, H1, B1, g1, hg1, q1, q2⟩ := id d1
  have hS1' : t1 3 3 = nI S := R1.2.2.2.2.2.2.1
  have hS2' : u1 144 3 = nI S := R1.2.2.2.2.2.2.2.1
  obtain ⟨s, t2, u2, hs, b1, b2, d2⟩ := DS_drawn R1 H1 B1 hg1 q1 q2 (n := S) hS0 (by omega)
  obtain ⟨-, -, -, R2, H2, B2, g2, hg2, r1, r2⟩ := id d2
  have d12 := DS_tr d1 d2
  unfold fX10_stirByDraws fX11_chance
  rw [hS1, if_neg (nI_ne0 hS0 (by omega)), show (5 : Int32) = nI 5 from rfl, a1, a2, bd2_s, bd2_s, hS1', hS2', b1, b2, bd2_s, bd2_s]
  have fin : ∀ {t' u' : St}, Step 44 S I t2 u2 t' u' → DS S I P Wd t u t' u' := fun hst => DS_tr d12 (DS_step R2 hg2 r1 r2 hst)
  have e0 : (nI a = (0 : Int32)) = (a = 0) := eq_k (b := 0) (by omega) (by omega)
  have e1 : (nI a = (1 : Int32)) = (a = 1) := eq_k (b := 1) (by omega) (by omega)
  have e2 : (nI a = (2 : Int32)) = (a = 2) := eq_k (b := 2) (by omega) (by omega)
  have e3 : (nI a = (3 : Int32)) = (a = 3) := eq_k (b := 3) (by omega) (by omega)
  have e4 : (nI a = (4 : Int32)) = (a = 4) := eq_k (b := 4) (by omega) (by omega)
  unfold fX11_chance_35
  simp only [e0, e1, e2, e3, e4]
  rcases (show a = 0 ∨ a = 1 ∨ a = 2 ∨ a = 3 ∨ a = 4 by omega) with rfl | rfl | rfl | rfl | rfl
  · simp only [eq_false (show ¬ (0 : Nat) = 1 by decide), eq_false (show ¬ (0 : Nat) = 2 by decide), eq_false (show ¬ (0 : Nat) = 3 by decide), eq_false (show ¬ (0 : Nat) = 4 by decide), eq_self, if_true, if_false]
    rw [(sings_eq R2 H2.x hs).2, bind_s]
    by_cases c : u2 150 (14 + s) = -1
    · rw [if_pos c, if_pos rfl]
      obtain ⟨t3, u3, c1, c2, c3⟩ := letIn_st R2 (by omega) H2 B2 hs c
      rw [c1, c2]
      exact ⟨t3, u3, rfl, rfl, fin c3⟩
    · rw [if_neg c, if_neg (by decide), letIn_no R2 H2 hs c]
      exact ⟨t2, u2, rfl, rfl, d12⟩
  · simp only [eq_false (show ¬ (1 : Nat) = 0 by decide), eq_false (show ¬ (1 : Nat) = 2 by decide), eq_false (show ¬ (1 : Nat) = 3 by decide), eq_false (show ¬ (1 : Nat) = 4 by decide), eq_self, if_true, if_false]
    obtain ⟨t3, u3, c1, c2, c3⟩ := silence_st R2 (by omega) H2 B2 hs
    rw [c1, c2]
    exact ⟨t3, u3, rfl, rfl, fin c3⟩
  · simp only [eq_false (show ¬ (2 : Nat) = 0 by decide), eq_false (show ¬ (2 : Nat) = 1 by decide), eq_false (show ¬ (2 : Nat) = 3 by decide), eq_false (show ¬ (2 : Nat) = 4 by decide), eq_self, if_true, if_false]
    obtain ⟨x, t3, u3, hx, c1, c2, d3⟩ := DS_drawn R2 H2 B2 hg2 r1 r2 (n := P) hP0 (by omega)
    obtain ⟨-, -, -, R3, H3, B3, g3, hg3, s1, s2⟩ := id d3
    rw [show t2 3 1 = nI P from R2.1, show u2 144 1 = nI P from R2.2.1, c1, c2, bd2_s, bd2_s, gd_k (by omega) (by omega), cl_k (by omega)]
    by_cases c : u3 150 s = nI x
    · rw [move_no R3 H3 hs c, if_pos c.symm]
      exact ⟨t3, u3, rfl, rfl, DS_tr d12 d3⟩
    · obtain ⟨t4, u4, k1, k2, k3⟩ := move_st R3 (by omega) H3 B3 hs c
      rw [k1, if_neg (fun e => c e.symm), k2]
      exact ⟨t4, u4, rfl, rfl, DS_tr (DS_tr d12 d3) (DS_step R3 hg3 s1 s2 k3)⟩
  · simp only [eq_false (show ¬ (3 : Nat) = 0 by decide), eq_false (show ¬ (3 : Nat) = 1 by decide), eq_false (show ¬ (3 : Nat) = 2 by decide), eq_false (show ¬ (3 : Nat) = 4 by decide), eq_self, if_true, if_false]
    obtain ⟨x, t3, u3, hx, c1, c2, d3⟩ := DS_drawn R2 H2 B2 hg2 r1 r2 (n := 50) (by decide) (by decide)
    obtain ⟨-, -, -, R3, H3, B3, g3, hg3, s1, s2⟩ := id d3
    rw [show (50 : Int32) = nI 50 from rfl, c1, c2, bd2_s, bd2_s]
    obtain ⟨t4, u4, k1, k2, k3⟩ := fill_st R3 (by omega) H3 B3 hs (n := x) (by omega)
    rw [k1, k2]
    exact ⟨t4, u4, rfl, rfl, DS_tr (DS_tr d12 d3) (DS_step R3 hg3 s1 s2 k3)⟩
  · simp only [eq_false (show ¬ (4 : Nat) = 0 by decide), eq_false (show ¬ (4 : Nat) = 1 by decide), eq_false (show ¬ (4 : Nat) = 2 by decide), eq_false (show ¬ (4 : Nat) = 3 by decide), eq_self, if_true, if_false]
    unfold fX10_sendByDraws
    rw [show t2 3 4 = nI I from R2.2.2.2.2.2.2.2.2.2.1, show u2 144 8 = nI I from R2.2.2.2.2.2.2.2.2.2.2.1]
    rcases Nat.eq_zero_or_pos I with e | hI0
    · subst e
      exact ⟨t2, u2, rfl, rfl, d12⟩
    · rw [if_neg (nI_ne0 hI0 (by omega)), if_neg (nI_nle hI0 (by omega))]
      obtain ⟨i, t3, u3, hi, c1, c2, d3⟩ := DS_drawn R2 H2 B2 hg2 r1 r2 (n := I) hI0 (by omega)
      obtain ⟨-, -, -, R3, H3, B3, g3, hg3, s1, s2⟩ := id d3
      rw [c1, c2, bd2_s, bd2_s, show t3 3 1 = nI P from R3.1, show u3 144 1 = nI P from R3.2.1]
      obtain ⟨x, t4, u4, hx, k1, k2, d4⟩ := DS_drawn R3 H3 B3 hg3 s1 s2 (n := P) hP0 (by omega)
      obtain ⟨-, -, -, R4, H4, B4, g4, hg4, w1, w2⟩ := id d4
      have hhas : fX8_hasInspector 3 t4 (nI i) = some 1 := has_good R4.2.2.2.2.2.2.2.2.2.1 (by omega) hi
      rw [k1, k2, bd2_s, bd2_s, hhas, bind_s, if_neg (by decide), gd_k (by omega) (by omega), off21, gd_k (by omega) (by omega), cl_k (by omega), cl_k (by omega)]
      exact ⟨_, _, rfl, rfl, DS_tr (DS_tr (DS_tr d12 d3) d4) (DS_step R4 hg4 w1 w2 (step_post R4 (by omega) H4 B4 hi (nI x)))⟩
end DR
