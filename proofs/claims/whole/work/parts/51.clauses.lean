/-! a text is read: clauses -/
def PFr (t t' : St) : Prop := (∀ o, o ≠ 1 → (o < 9 ∨ 14 < o) → t' o = t o) ∧ t' 1 1 = t 1 1
def PFu (u u' : St) : Prop := (∀ o, o ≠ 144 → (o < 152 ∨ 156 < o) → u' o = u o) ∧ ∀ k, (k < 14 ∨ 26 < k) → u' 144 k = u 144 k
theorem PFr_tr {a b c : St} (h : PFr a b) (k : PFr b c) : PFr a c := ⟨fun o h1 h2 => (k.1 o h1 h2).trans (h.1 o h1 h2), k.2.trans h.2⟩
theorem PFu_tr {a b c : St} (h : PFu a b) (k : PFu b c) : PFu a c := ⟨fun o h1 h2 => (k.1 o h1 h2).trans (h.1 o h1 h2), fun i hi => (k.2 i hi).trans (h.2 i hi)⟩
theorem PFr_rf {a : St} : PFr a a := ⟨fun _ _ _ => rfl, rfl⟩
theorem PFu_rf {a : St} : PFu a a := ⟨fun _ _ _ => rfl, fun _ _ => rfl⟩
theorem D1.p {a b : St} (h : D1 a b) : PFr a b := ⟨fun o h1 _ => h.1 o h1, h.2⟩
theorem D2.p {a b : St} (h : D2 a b) : PFu a b := ⟨fun o h1 _ => h.1 o h1, fun i hi => h.2 i (by omega)⟩
theorem PFr_up (t : St) {o : Nat} (h1 : 9 ≤ o) (h2 : o ≤ 14) (k : Nat) (x : Int32) : PFr t (up t o k x) := ⟨fun q z1 z2 => up_n (by omega), by rw [up_n (by omega)]⟩
theorem PFu_up (u : St) {o : Nat} (h1 : 152 ≤ o) (h2 : o ≤ 156) (k : Nat) (x : Int32) : PFu u (up u o k x) := ⟨fun q z1 z2 => up_n (by omega), fun i hi => by rw [up_n (by omega)]⟩
theorem PFu_f (u : St) {k : Nat} (h1 : 14 ≤ k) (h2 : k ≤ 26) (x : Int32) : PFu u (up u 144 k x) := ⟨fun q z1 z2 => up_n z1, fun i hi => by rw [up_s, upd_n (by omega)]⟩
theorem Syn_c {t u t' u' : St} {n p : Nat} (Y : Syn t u n p) (a : t' 1 = t 1) (b : t' 2 = t 2) (c : u' 151 = u 151) (d : ∀ k, 13 ≤ k → k ≤ 15 → u' 144 k = u 144 k) : Syn t' u' n p := by
  unfold Syn at Y ⊢
  rw [a, b, c, d 13 (by omega) (by omega), d 14 (by omega) (by omega), d 15 (by omega) (by omega)]
  exact Y
/-- what has been read so far -/
def Dra (t u : St) (S I P Wd : Nat) : Prop :=
  (∃ r, r ≤ 9 ∧ t 9 0 = nI r ∧ u 144 18 = nI r ∧ (P = 0 → r = 0) ∧ (0 < P → 0 < r)) ∧ t 9 1 = nI P ∧ u 144 19 = nI P ∧ P ≤ 4 ∧ t 9 2 = nI Wd ∧ u 144 20 = nI Wd ∧ Wd ≤ 9 ∧ t 9 3 = nI S ∧ u 144 21 = nI S ∧ S ≤ 7 ∧ t 9 4 = nI I ∧ u 144 26 = nI I ∧ I ≤ 4 ∧ (P = 0 → S = 0 ∧ I = 0 ∧ Wd = 0) ∧ (0 < P → 0 < Wd) ∧
  (∀ s, s < S → t 10 s = u 152 s ∧ t 11 s = u 153 s ∧ t 12 s = u 154 s ∧ t 13 s = u 155 s ∧ (∃ m, m ≤ 9999 ∧ t 12 s = nI m) ∧ ∃ k, k < 2 ^ Wd ∧ t 13 s = nI k) ∧ ∀ i, i < I → t 14 i = u 156 i
section CL
variable {t u : St} {n p S I P Wd : Nat}
theorem Dra_c {t' u' : St} (D : Dra t u S I P Wd) (a : ∀ o, 9 ≤ o → o ≤ 14 → t' o = t o) (b : ∀ k, 18 ≤ k → k ≤ 26 → u' 144 k = u 144 k) (c : ∀ o, 152 ≤ o → o ≤ 156 → u' o = u o) : Dra t' u' S I P Wd := by
  unfold Dra at D ⊢
  rw [a 9 (by omega) (by omega), a 10 (by omega) (by omega), a 11 (by omega) (by omega), a 12 (by omega) (by omega), a 13 (by omega) (by omega), a 14 (by omega) (by omega), b 18 (by omega) (by omega), b 19 (by omega) (by omega), b 20 (by omega) (by omega), b 21 (by omega) (by omega), b 26 (by omega) (by omega), c 152 (by omega) (by omega), c 153 (by omega) (by omega), c 154 (by omega) (by omega), c 155 (by omega) (by omega), c 156 (by omega) (by omega)]
  exact D
theorem Dra_D {t' u' : St} (D : Dra t u S I P Wd) (a : D1 t t') (b : D2 u u') : Dra t' u' S I P Wd :=
  Dra_c D (fun o h1 h2 => a.1 o (by omega)) (fun k h1 h2 => b.2 k (by omega)) (fun o h1 h2 => b.1 o (by omega))
/-- a fault on both sides -/
def Flt (n fl : Nat) (t u : St) : Prop := 0 < fl ∧ fl ≤ 3 ∧ t 1 3 = nI fl ∧ t 1 4 = u 144 14 ∧ ∃ q, q ≤ n ∧ t 1 2 = nI q
def ClO (t u : St) (n p : Nat) (a : Option St) (b : Option (Int32 × St)) : Prop :=
  ∃ t' u', PFr t t' ∧ PFu u u' ∧ a = some t' ∧ ((∃ fl, b = some (nI fl, u') ∧ Flt n fl t' u') ∨ (∃ q, p < q ∧ b = some (0, u') ∧ Syn t' u' n q ∧ ∃ S I P Wd, Dra t' u' S I P Wd))
theorem ClO_tr {t1 u1 : St} {p1 : Nat} {a : Option St} {b : Option (Int32 × St)} (hp : p ≤ p1) (d1 : PFr t t1) (d2 : PFu u u1) (h : ClO t1 u1 n p1 a b) : ClO t u n p a b := by
  obtain ⟨t', u', e1, e2, e3, e4⟩ := h
  refine ⟨t', u', PFr_tr d1 e1, PFu_tr d2 e2, e3, ?_⟩
  rcases e4 with e4 | ⟨q, hq, e5⟩
  · exact Or.inl e4
  · exact Or.inr ⟨q, by omega, e5⟩
theorem Flt_c {t' u' : St} {fl : Nat} (h : Flt n fl t u) (a : t' 1 = t 1) (b : u' 144 14 = u 144 14) : Flt n fl t' u' := by
  unfold Flt at h ⊢
  rw [a, b]
  exact h
theorem c168_f (u : St) {fl : Nat} (h0 : 0 < fl) (h3 : fl ≤ 3) : fX11_takeClause_168 u (nI fl) = some (nI fl, up u 144 15 (u 144 15 + 1)) := by
  unfold fX11_takeClause_168 fX11_takeClause_194
  rw [if_neg (nI_ne0 h0 (by omega)), bind_s]
/-- the end of a clause -/
theorem end_sim (Y : Syn t u n p) (D : Dra t u S I P Wd) : ClO t u n p (fX7_readEnd t) (fX11_takeClause_168 u 0) := by
  obtain ⟨q, q1, q2, q3, q4, q5⟩ := skip_st Y
  have Yq := Syn_at Y q2
  have hl := letter_eq Yq
  have e151 : up u 144 15 (nI q) 151 = u 151 := up_n (by decide)
  rw [e151] at hl
  have Dq : Dra (up t 1 2 (nI q)) (up u 144 15 (nI q)) S I P Wd := Dra_D D (D1_up t (by decide) _) (D2_up u (by decide) (by decide) _)
  unfold fX7_readEnd fX11_takeClause_168
  rw [if_pos Y.2.2.2.2.2.2.2.1, if_pos rfl, q4, q5, bind_s, bd2_s, hl, bind_s]
  refine ClO_tr (p1 := q) q1 (D1_up t (k := 2) (by decide) (nI q)).p (D2_up u (k := 15) (by decide) (by decide) (nI q)).p ?_
  obtain ⟨t1, ht1⟩ : ∃ z, z = up t 1 2 (nI q) := ⟨_, rfl⟩
  obtain ⟨u1, hu1⟩ : ∃ z, z = up u 144 15 (nI q) := ⟨_, rfl⟩
  rw [← ht1, ← hu1] at Yq Dq ⊢
  have y5 : t1 1 2 = nI q := Yq.2.2.2.2.1
  have y6 : u1 144 15 = nI q := Yq.2.2.2.2.2.1
  by_cases c : (if q < n then u 151 q else -1) = 59
  · rw [if_pos c, if_pos c]
    have hqn : q < n := by
      by_cases h : q < n
      · exact h
      · rw [if_neg h] at c
        exact absurd c (by decide)
    unfold fX11_takeClause_194
    rw [y5, y6, nI_1, bind_s, bind_s]
    exact ⟨_, _, (D1_up t1 (k := 2) (by decide) _).p, (D2_up u1 (k := 15) (by decide) (by decide) _).p, rfl, Or.inr ⟨q + 1, by omega, rfl, Syn_at Yq (by omega), S, I, P, Wd, Dra_D Dq (D1_up t1 (by decide) _) (D2_up u1 (by decide) (by decide) _)⟩⟩
  · rw [if_neg c, if_neg c]
    unfold fX7_fail fX11_fails
    simp only [bind_s, bd2_s]
    refine ⟨_, _, (D1_tr (D1_up t1 (k := 3) (by decide) 1) (D1_up _ (k := 4) (by decide) _)).p, (D2_up u1 (k := 14) (by decide) (by decide) _).p, rfl, Or.inl ⟨1, rfl, by omega, by omega, ?_, ?_, q, q2, ?_⟩⟩
    · rw [up_s, upd_n (by decide), up_s, upd_s]
      rfl
    · rw [up_s, upd_s, up_s, upd_s, y5, y6]
    · rw [up_s, upd_n (by decide), up_s, upd_n (by decide)]
      exact y5
theorem nle0 {fl : Nat} (h0 : 0 < fl) (h3 : fl ≤ 3) : ¬ nI fl ≤ 0 := nI_nle h0 (by omega)
/-- 'd': rate, places, words -/
theorem clause_d (Y : Syn t u n p) (D : Dra t u 0 0 0 0) : ClO t u n p (fX7_readNumbers 9 t 100) (bd2 (fX11_takeDuchy u) (fun r_9 t_10 => fX11_takeClause_168 t_10 r_9)) := by
  obtain ⟨-, -, -, -, -, -, -, d3, d21, -, d4, d26, -⟩ := D
  unfold fX7_readNumbers fX11_takeDuchy fX7_readNumbers_113
  rw [if_pos rfl]
  obtain ⟨r1, t1, u1, a1, a2, a3, a4⟩ := number_sim Y 1 9
  rw [a3, bd2_s]
  simp only [bind_s]
  rcases a4 with ⟨fl, f0, f3, b1, b2, b3, b4⟩ | ⟨q1, hq1, b1, b2, b3, b4, b5⟩
  · rw [b1, bd2_s, if_neg (nle0 f0 f3)]
    unfold fX11_takeDuchy_30 fX11_takeDuchy_54
    simp only [bind_s]
    rw [if_neg (nle0 f0 f3), bd2_s, c168_f _ f0 f3]
    have g1 : up t1 9 0 r1 1 3 = nI fl := by rw [up_n (by decide)]; exact b2
    rw [rn_flaw g1 f0 f3, bd2_s]
    have g2 : up (up t1 9 0 r1) 9 1 1 1 3 = nI fl := by rw [up_n (by decide)]; exact g1
    rw [rn_flaw g2 f0 f3, bd2_s]
    have g3 : up (up (up t1 9 0 r1) 9 1 1) 9 2 1 1 3 = nI fl := by rw [up_n (by decide)]; exact g2
    rw [re_flaw g3 f0 f3, bind_s]
    refine ⟨_, _, PFr_tr a1.p (PFr_tr (PFr_up t1 (o := 9) (by decide) (by decide) _ _) (PFr_tr (PFr_up _ (o := 9) (by decide) (by decide) _ _) (PFr_up _ (o := 9) (by decide) (by decide) _ _))), PFu_tr a2.p (PFu_tr (PFu_f u1 (k := 18) (by decide) (by decide) _) (PFu_tr (PFu_f _ (k := 19) (by decide) (by decide) _) (PFu_tr (PFu_f _ (k := 20) (by decide) (by decide) _) (PFu_f _ (k := 15) (by decide) (by decide) _)))), rfl, Or.inl ⟨fl, rfl, ?_⟩⟩
    exact Flt_c (t := t1) (u := u1) ⟨f0, f3, b2, b3, b4⟩ (by rw [up_n (by decide), up_n (by decide), up_n (by decide)]) (by rw [up_s, upd_n (by decide), up_s, upd_n (by decide), up_s, upd_n (by decide), up_s, upd_n (by decide)])
  · rw [b1, bd2_s, if_pos (by decide)]
    obtain ⟨rt, hrt, rfl, hrt2⟩ := int_nI (x := r1) (by have : (1 : Int32).toInt = 1 := rfl; omega)
    have lo1 : (1 : Int32).toInt = 1 := rfl
    have hi9 : (9 : Int32).toInt = 9 := rfl
    have hi4 : (4 : Int32).toInt = 4 := rfl
    obtain ⟨s1, hs1⟩ : ∃ z, z = up t1 9 0 (nI rt) := ⟨_, rfl⟩
    obtain ⟨v1, hv1⟩ : ∃ z, z = up u1 144 18 (u1 144 16) := ⟨_, rfl⟩
    rw [← hs1, ← hv1]
    have Y1 : Syn s1 v1 n q1 := by rw [hs1, hv1]; exact Syn_c b5 (up_n (by decide)) (up_n (by decide)) (up_n (by decide)) (fun k h1 h2 => by rw [up_s, upd_n (by omega)])
    refine ClO_tr (p1 := q1) (t1 := s1) (u1 := v1) hq1 (by rw [hs1]; exact PFr_tr a1.p (PFr_up t1 (o := 9) (by decide) (by decide) _ _)) (by rw [hv1]; exact PFu_tr a2.p (PFu_f u1 (k := 18) (by decide) (by decide) _)) ?_
    have j0 : s1 9 0 = nI rt := by rw [hs1, up_s, upd_s]
    have j18 : v1 144 18 = nI rt := by rw [hv1, up_s, upd_s]; exact b2
    have j3 : s1 9 3 = nI 0 := by rw [hs1, up_s, upd_n (by decide), a1.1 9 (by decide)]; exact d3
    have j4 : s1 9 4 = nI 0 := by rw [hs1, up_s, upd_n (by decide), a1.1 9 (by decide)]; exact d4
    have j21 : v1 144 21 = nI 0 := by rw [hv1, up_s, upd_n (by decide), a2.2 21 (by omega)]; exact d21
    have j26 : v1 144 26 = nI 0 := by rw [hv1, up_s, upd_n (by decide), a2.2 26 (by omega)]; exact d26
    clear hs1 hv1
    obtain ⟨r2, t2, u2, a1', a2', a3', a4'⟩ := number_sim Y1 1 4
    rw [a3', bd2_s]
    unfold fX11_takeDuchy_30 fX11_takeDuchy_54
    simp only [bind_s]
    rcases a4' with ⟨fl, f0, f3, b1', b2', b3', b4'⟩ | ⟨q2, hq2, b1', b2', b3', b4', b5'⟩
    · rw [b1', bd2_s, if_neg (nle0 f0 f3), bd2_s, c168_f _ f0 f3]
      have g2 : up t2 9 1 r2 1 3 = nI fl := by rw [up_n (by decide)]; exact b2'
      rw [rn_flaw g2 f0 f3, bd2_s]
      have g3 : up (up t2 9 1 r2) 9 2 1 1 3 = nI fl := by rw [up_n (by decide)]; exact g2
      rw [re_flaw g3 f0 f3, bind_s]
      refine ⟨_, _, PFr_tr a1'.p (PFr_tr (PFr_up t2 (o := 9) (by decide) (by decide) _ _) (PFr_up _ (o := 9) (by decide) (by decide) _ _)), PFu_tr a2'.p (PFu_tr (PFu_f u2 (k := 19) (by decide) (by decide) _) (PFu_tr (PFu_f _ (k := 20) (by decide) (by decide) _) (PFu_f _ (k := 15) (by decide) (by decide) _))), rfl, Or.inl ⟨fl, rfl, ?_⟩⟩
      exact Flt_c (t := t2) (u := u2) ⟨f0, f3, b2', b3', b4'⟩ (by rw [up_n (by decide), up_n (by decide)]) (by rw [up_s, upd_n (by decide), up_s, upd_n (by decide), up_s, upd_n (by decide)])
    · rw [b1', bd2_s, if_pos (by decide)]
      obtain ⟨pl, hpl, rfl, hpl2⟩ := int_nI (x := r2) (by omega)
      obtain ⟨s2, hs2⟩ : ∃ z, z = up t2 9 1 (nI pl) := ⟨_, rfl⟩
      obtain ⟨v2, hv2⟩ : ∃ z, z = up u2 144 19 (u2 144 16) := ⟨_, rfl⟩
      rw [← hs2, ← hv2]
      have Y2 : Syn s2 v2 n q2 := by rw [hs2, hv2]; exact Syn_c b5' (up_n (by decide)) (up_n (by decide)) (up_n (by decide)) (fun k h1 h2 => by rw [up_s, upd_n (by omega)])
      refine ClO_tr (p1 := q2) (t1 := s2) (u1 := v2) hq2 (by rw [hs2]; exact PFr_tr a1'.p (PFr_up t2 (o := 9) (by decide) (by decide) _ _)) (by rw [hv2]; exact PFu_tr a2'.p (PFu_f u2 (k := 19) (by decide) (by decide) _)) ?_
      have k0 : s2 9 0 = nI rt := by rw [hs2, up_s, upd_n (by decide), a1'.1 9 (by decide)]; exact j0
      have k18 : v2 144 18 = nI rt := by rw [hv2, up_s, upd_n (by decide), a2'.2 18 (by omega)]; exact j18
      have k1 : s2 9 1 = nI pl := by rw [hs2, up_s, upd_s]
      have k19 : v2 144 19 = nI pl := by rw [hv2, up_s, upd_s]; exact b2'
      have k3 : s2 9 3 = nI 0 := by rw [hs2, up_s, upd_n (by decide), a1'.1 9 (by decide)]; exact j3
      have k4 : s2 9 4 = nI 0 := by rw [hs2, up_s, upd_n (by decide), a1'.1 9 (by decide)]; exact j4
      have k21 : v2 144 21 = nI 0 := by rw [hv2, up_s, upd_n (by decide), a2'.2 21 (by omega)]; exact j21
      have k26 : v2 144 26 = nI 0 := by rw [hv2, up_s, upd_n (by decide), a2'.2 26 (by omega)]; exact j26
      clear hs2 hv2
      obtain ⟨r3, t3, u3, a1'', a2'', a3'', a4''⟩ := number_sim Y2 1 9
      rw [a3'', bd2_s]
      rcases a4'' with ⟨fl, f0, f3, b1'', b2'', b3'', b4''⟩ | ⟨q3, hq3, b1'', b2'', b3'', b4'', b5''⟩
      · rw [b1'', bd2_s, bd2_s, c168_f _ f0 f3]
        have g3 : up t3 9 2 r3 1 3 = nI fl := by rw [up_n (by decide)]; exact b2''
        rw [re_flaw g3 f0 f3, bind_s]
        refine ⟨_, _, PFr_tr a1''.p (PFr_up t3 (o := 9) (by decide) (by decide) _ _), PFu_tr a2''.p (PFu_tr (PFu_f u3 (k := 20) (by decide) (by decide) _) (PFu_f _ (k := 15) (by decide) (by decide) _)), rfl, Or.inl ⟨fl, rfl, ?_⟩⟩
        exact Flt_c (t := t3) (u := u3) ⟨f0, f3, b2'', b3'', b4''⟩ (by rw [up_n (by decide)]) (by rw [up_s, upd_n (by decide), up_s, upd_n (by decide)])
      · rw [b1'', bd2_s, bd2_s]
        obtain ⟨wd, hwd, rfl, hwd2⟩ := int_nI (x := r3) (by omega)
        have Y3 : Syn (up t3 9 2 (nI wd)) (up u3 144 20 (u3 144 16)) n q3 := Syn_c b5'' (up_n (by decide)) (up_n (by decide)) (up_n (by decide)) (fun k h1 h2 => by rw [up_s, upd_n (by omega)])
        have D3 : Dra (up t3 9 2 (nI wd)) (up u3 144 20 (u3 144 16)) 0 0 pl wd := by
          refine ⟨⟨rt, by omega, ?_, ?_, fun h => by omega, fun h => by omega⟩, ?_, ?_, by omega, ?_, ?_, by omega, ?_, ?_, by omega, ?_, ?_, by omega, fun h => by omega, fun h => by omega, fun s hs => absurd hs (by omega), fun i hi => absurd hi (by omega)⟩
          · rw [up_s, upd_n (by decide), a1''.1 9 (by decide)]; exact k0
          · rw [up_s, upd_n (by decide), a2''.2 18 (by omega)]; exact k18
          · rw [up_s, upd_n (by decide), a1''.1 9 (by decide)]; exact k1
          · rw [up_s, upd_n (by decide), a2''.2 19 (by omega)]; exact k19
          · rw [up_s, upd_s]
          · rw [up_s, upd_s]; exact b2''
          · rw [up_s, upd_n (by decide), a1''.1 9 (by decide)]; exact k3
          · rw [up_s, upd_n (by decide), a2''.2 21 (by omega)]; exact k21
          · rw [up_s, upd_n (by decide), a1''.1 9 (by decide)]; exact k4
          · rw [up_s, upd_n (by decide), a2''.2 26 (by omega)]; exact k26
        have hend := end_sim Y3 D3
        obtain ⟨t', u', e1, e2, e3, e4⟩ := hend
        rw [e3, bind_s]
        refine ⟨t', u', PFr_tr a1''.p (PFr_tr (PFr_up t3 (o := 9) (by decide) (by decide) _ _) e1), PFu_tr a2''.p (PFu_tr (PFu_f u3 (k := 20) (by decide) (by decide) _) e2), rfl, ?_⟩
        rcases e4 with e4 | ⟨q, hq, e5⟩
        · exact Or.inl e4
        · exact Or.inr ⟨q, by omega, e5⟩
end CL
