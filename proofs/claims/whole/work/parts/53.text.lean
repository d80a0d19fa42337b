/-! a text is read: all of it -/
section TX
variable {t u : St} {n p S I P Wd : Nat}
theorem fail_sim (Y : Syn t u n p) {fl : Nat} (f0 : 0 < fl) (f3 : fl ≤ 3) {a : Option St} {b : Option (Int32 × St)} (ha : a = (fX7_fail t (nI fl) (t 1 2)).bind (fun t_2 => some t_2)) (hb : b = bd2 (fX11_fails u (nI fl) (u 144 15)) (fun r_2 t_3 => some (r_2, t_3))) : ClO t u n p a b := by
  have y5 : t 1 2 = nI p := Y.2.2.2.2.1
  have y6 : u 144 15 = nI p := Y.2.2.2.2.2.1
  unfold fX7_fail at ha
  unfold fX11_fails at hb
  simp only [bind_s, bd2_s] at ha hb
  refine ⟨_, _, (D1_tr (D1_up t (k := 3) (by decide) (nI fl)) (D1_up _ (k := 4) (by decide) (t 1 2))).p, (D2_up u (k := 14) (by decide) (by decide) (u 144 15)).p, ha, Or.inl ⟨fl, hb, f0, f3, ?_, ?_, p, Y.2.2.2.2.2.2.1, ?_⟩⟩
  · rw [up_s, upd_n (by decide), up_s, upd_s]
  · rw [up_s, upd_s, up_s, upd_s, y5, y6]
  · rw [up_s, upd_n (by decide), up_s, upd_n (by decide)]
    exact y5
theorem clause_sim (Y : Syn t u n p) (D : Dra t u S I P Wd) (hpn : p < n) (hnb : u 151 p ≠ 32) : ClO t u n p (fX7_readClause 9 t) (fX11_takeClause u) := by
  have hl := letter_eq Y
  have hh := here_again Y (fun _ => hnb)
  rw [if_pos hpn] at hl hh
  have hn := Y.2.2.1
  have y5 : t 1 2 = nI p := Y.2.2.2.2.1
  have y6 : u 144 15 = nI p := Y.2.2.2.2.2.1
  obtain ⟨⟨rt, hrt, d0, d18, drt1, drt2⟩, d1, d19, dP, d2, d20, dW, d3, d21, dS, d4, d26, dI, dz, dw, drows, dins⟩ := id D
  obtain ⟨c, hc⟩ : ∃ c, c = u 151 p := ⟨_, rfl⟩
  rw [← hc] at hl hh
  -- a step ahead
  have Yn := Syn_at Y (q := p + 1) (by omega)
  have Dn : Dra (up t 1 2 (nI (p + 1))) (up u 144 15 (nI (p + 1))) S I P Wd := Dra_D D (D1_up t (by decide) _) (D2_up u (by decide) (by decide) _)
  have P1 := (D1_up t (k := 2) (by decide) (nI (p + 1))).p
  have P2 := (D2_up u (k := 15) (by decide) (by decide) (nI (p + 1))).p
  have hem : fX8_isEmpty 9 t = some (if P = 0 then 1 else 0) := by
    unfold fX8_isEmpty
    rw [d1]
    by_cases e : P = 0
    · rw [if_pos e, e, if_pos (show nI 0 = (0 : Int32) from rfl)]
    · rw [if_neg e, if_neg (nI_ne0 (by omega) (by omega))]
  unfold fX7_readClause fX11_takeClause
  rw [hl, hh, bind_s, hem, bind_s, bd2_s]
  have fail1 : ClO t u n p (fX7_readClause_32 9 t) (fX11_takeClause_52 u) := fail_sim Y (fl := 1) (by decide) (by decide) rfl rfl
  have fail3 : ClO t u n p (fX7_readClause_83 9 t) (bd2 (fX11_fails u 3 (u 144 15)) (fun r_12 t_13 => some (r_12, t_13))) := fail_sim Y (fl := 3) (by decide) (by decide) rfl rfl
  have z0 : fX11_takeClause_36 u 0 = fX11_takeClause_62 u 0 := by
    unfold fX11_takeClause_36
    rw [if_neg (show ¬ (0 : Int32) < 0 by decide), if_pos (show (0 : Int32) ≤ 0 by decide)]
  have z1 : fX11_takeClause_36 u 1 = if u 144 18 = 0 then fX11_takeClause_52 u else fX11_takeClause_62 u 1 := by
    unfold fX11_takeClause_36
    rw [if_neg (show ¬ (1 : Int32) < 0 by decide), if_neg (show ¬ (1 : Int32) ≤ 0 by decide)]
  have z2 : fX11_takeClause_36 u 2 = if u 144 18 = 0 then fX11_takeClause_52 u else fX11_takeClause_62 u 2 := by
    unfold fX11_takeClause_36
    rw [if_neg (show ¬ (2 : Int32) < 0 by decide), if_neg (show ¬ (2 : Int32) ≤ 0 by decide)]
  by_cases h100 : c = 100
  · rw [if_pos h100, if_pos h100]
    rw [z0]
    unfold fX7_readClause_44 fX11_takeClause_62 fX11_takeClause_116
    rw [if_pos h100, if_pos (show (0 : Int32) = 0 from rfl), d18]
    by_cases e : P = 0
    · have r0 := drt1 e
      have hz := dz e
      rw [if_pos e, i10, r0, if_pos (show nI 0 ≤ (0 : Int32) by decide), i00, bind_s, if_pos rfl]
      unfold fX7_readClause_54 fX7_readClause_69 fX7_readClause_95
      rw [if_neg (by rw [h100]; decide), if_neg (by rw [h100]; decide), y5, y6, nI_1, bind_s, h100]
      rw [e, hz.1, hz.2.1, hz.2.2] at Dn
      obtain ⟨t', u', o1, o2, o3, o4⟩ := ClO_tr (Nat.le_succ p) P1 P2 (clause_d Yn Dn)
      rw [o3, bind_s]
      exact ⟨t', u', o1, o2, rfl, o4⟩
    · rw [if_neg e, i00, if_neg (nI_nle (drt2 (by omega)) (by omega)), i10]
      exact fail3
  · rw [if_neg h100, if_neg h100]
    by_cases h115 : c = 115
    · rw [if_pos h115, if_pos h115]
      rw [z1, d18]
      by_cases e : P = 0
      · rw [if_pos e, i10, drt1 e, if_pos (show nI 0 = (0 : Int32) from rfl)]
        exact fail1
      · have r0 := drt2 (by omega)
        rw [if_neg e, i00, if_neg (nI_ne0 r0 (by omega))]
        unfold fX7_readClause_44 fX11_takeClause_62 fX7_readClause_54 fX11_takeClause_116
        rw [if_neg h100, if_pos h115, d3, d21, if_neg (show ¬ (1 : Int32) = 0 by decide), if_pos rfl]
        by_cases e7 : S = 7
        · rw [e7, if_pos (show nI 7 = (7 : Int32) from rfl), if_pos (show nI 7 = (7 : Int32) from rfl), i10]
          exact fail3
        · have hne : ¬ nI S = (7 : Int32) := by rw [show (7 : Int32) = nI 7 from rfl, nI_eq (by omega) (by omega)]; exact e7
          rw [if_neg hne, if_neg hne, i00, bind_s, i10, if_pos rfl]
          unfold fX7_readClause_69 fX7_readClause_95
          rw [if_neg (by rw [h115]; decide), y5, y6, nI_1, bind_s, h115]
          obtain ⟨t', u', o1, o2, o3, o4⟩ := ClO_tr (Nat.le_succ p) P1 P2 (clause_s Yn Dn (by omega) (by omega))
          rw [o3, bind_s]
          exact ⟨t', u', o1, o2, rfl, o4⟩
    · rw [if_neg h115, if_neg h115]
      by_cases h105 : c = 105
      · rw [if_pos h105, if_pos h105]
        rw [z2, d18]
        by_cases e : P = 0
        · rw [if_pos e, i10, drt1 e, if_pos (show nI 0 = (0 : Int32) from rfl)]
          exact fail1
        · have r0 := drt2 (by omega)
          rw [if_neg e, i00, if_neg (nI_ne0 r0 (by omega))]
          unfold fX7_readClause_44 fX11_takeClause_62 fX7_readClause_54 fX7_readClause_69 fX11_takeClause_116
          rw [if_neg h100, if_neg h115, if_pos h105, d4, d26, if_neg (show ¬ (2 : Int32) = 0 by decide), if_neg (show ¬ (2 : Int32) = 1 by decide)]
          by_cases e4 : I = 4
          · rw [e4, if_pos (show nI 4 = (4 : Int32) from rfl), if_pos (show nI 4 = (4 : Int32) from rfl), i10]
            exact fail3
          · have hne : ¬ nI I = (4 : Int32) := by rw [show (4 : Int32) = nI 4 from rfl, nI_eq (by omega) (by omega)]; exact e4
            rw [if_neg hne, if_neg hne, i00, bind_s, if_neg (show ¬ (2 : Int32) = 0 by decide), if_neg (show ¬ (2 : Int32) = 1 by decide)]
            unfold fX7_readClause_95
            rw [y5, y6, nI_1, bind_s, h105]
            obtain ⟨t', u', o1, o2, o3, o4⟩ := ClO_tr (Nat.le_succ p) P1 P2 (clause_i Yn Dn (by omega) (by omega))
            rw [o3, bind_s]
            exact ⟨t', u', o1, o2, rfl, o4⟩
      · rw [if_neg h105, if_neg h105]
        unfold fX11_takeClause_36
        rw [if_pos (show (-1 : Int32) < 0 by decide)]
        by_cases e : P = 0
        · rw [if_pos e, i10]
          exact fail1
        · rw [if_neg e, i00]
          exact fail1
/-- blanks can be skipped behind a fault too -/
theorem skip_tot {n : Nat} (hn : n ≤ 240) : ∀ (d p : Nat) (t : St) (f : Nat), t 1 1 = nI n → t 1 2 = nI p → p ≤ n → p + d = n → d < f → ∃ q, fX7_skipBlanks_0 f t = some (up t 1 2 (nI q)) := by
  intro d
  induction d with
  | zero =>
    intro p t f h1 h2 hp hd hf
    obtain ⟨f, rfl⟩ : ∃ z, f = z + 1 := ⟨f - 1, by omega⟩
    exact ⟨p, by rw [fX7_skipBlanks_0_s, h1, h2, if_pos (nI_le (by omega) (by omega)), up_id' h2]⟩
  | succ d ih =>
    intro p t f h1 h2 hp hd hf
    obtain ⟨f, rfl⟩ : ∃ z, f = z + 1 := ⟨f - 1, by omega⟩
    have hl : fX7_letterHere t = some (t 2 p) := by
      unfold fX7_letterHere
      rw [h2, h1, if_neg (nI_pos (by omega)), if_neg (nI_ge (by omega) (by omega)), if_neg (show ¬ (240 : Int32) ≤ nI p from nI_ge (b := 240) (by omega) (by omega)), gd_k (by omega) (by omega), cl_k (by omega)]
    rw [fX7_skipBlanks_0_s, h1, h2, if_neg (nI_ge (by omega) (by omega)), hl, bind_s, bind_s, nI_1]
    by_cases c : t 2 p = 32
    · rw [if_pos c]
      obtain ⟨q, hq⟩ := ih (p + 1) (up t 1 2 (nI (p + 1))) f (by rw [up_s, upd_n (by decide)]; exact h1) (by rw [up_s, upd_s]) (by omega) (by omega) (by omega)
      rw [up_up] at hq
      exact ⟨q, hq⟩
    · rw [if_neg c]
      exact ⟨p, by rw [up_id' h2]⟩
/-- what becomes of a text -/
def TxO (t u : St) (a b : Option (Int32 × St)) : Prop :=
  ∃ t' u', PFr t t' ∧ PFu u u' ∧ t' 1 4 = u' 144 14 ∧ ((∃ fl, 0 < fl ∧ fl ≤ 3 ∧ a = some (nI fl, up t' 1 1 0) ∧ b = fX11_duchy_56 u' (nI fl)) ∨ (a = some (0, up t' 1 1 0) ∧ b = fX11_duchy_56 u' 0 ∧ ∃ S I P Wd, Dra t' u' S I P Wd))
theorem TxO_tr {t1 u1 : St} {a b : Option (Int32 × St)} (d1 : PFr t t1) (d2 : PFu u u1) (h : TxO t1 u1 a b) : TxO t u a b := by
  obtain ⟨t', u', e1, e2, e3⟩ := h
  exact ⟨t', u', PFr_tr d1 e1, PFu_tr d2 e2, e3⟩
theorem text_loop : ∀ (d p k : Nat) (t u : St) (f g : Nat), Syn t u n p → (∃ S I P Wd, Dra t u S I P Wd) → k ≤ p → n ≤ p + d → d < f → d < g → TxO t u ((fX7_skipBlanks t).bind (fun t_7 => fX7_readInto_25 9 f t_7 (nI k))) (fX11_duchy_37 g u 0) := by
  intro d
  induction d with
  | zero =>
    intro p k t u f g Y hD hk hd hf hg
    obtain ⟨f, rfl⟩ : ∃ z, f = z + 1 := ⟨f - 1, by omega⟩
    obtain ⟨g, rfl⟩ : ∃ z, g = z + 1 := ⟨g - 1, by omega⟩
    obtain ⟨S, I, P, Wd, D⟩ := hD
    obtain ⟨q, q1, q2, q3, q4, q5⟩ := skip_st Y
    have Yq := Syn_at Y q2
    have hn := Y.2.2.1
    have hpn := Y.2.2.2.2.2.2.1
    rw [fX11_duchy_37_s, if_pos rfl, q4, q5, bind_s, bd2_s, if_neg (show ¬ q < n by omega), if_pos (by decide), fX7_readInto_25_s, Yq.1, Yq.2.2.2.2.1, if_pos (show nI n ≤ nI q from nI_le (by omega) (by omega))]
    refine ⟨up t 1 2 (nI q), up u 144 15 (nI q), (D1_up t (by decide) _).p, (D2_up u (by decide) (by decide) _).p, ?_, Or.inr ⟨?_, rfl, S, I, P, Wd, Dra_D D (D1_up t (by decide) _) (D2_up u (by decide) (by decide) _)⟩⟩
    · rw [Yq.2.2.2.2.2.2.2.2.1, Yq.2.2.2.2.2.2.2.2.2]
    · unfold fX7_readInto_65
      rw [bind_s, up_s, upd_n (by decide), Yq.2.2.2.2.2.2.2.1]
      split <;> rfl
  | succ d ih =>
    intro p k t u f g Y hD hk hd hf hg
    obtain ⟨f, rfl⟩ : ∃ z, f = z + 1 := ⟨f - 1, by omega⟩
    obtain ⟨g, rfl⟩ : ∃ z, g = z + 1 := ⟨g - 1, by omega⟩
    obtain ⟨S, I, P, Wd, D⟩ := hD
    obtain ⟨q, q1, q2, q3, q4, q5⟩ := skip_st Y
    have Yq := Syn_at Y q2
    have hn := Y.2.2.1
    have hpn := Y.2.2.2.2.2.2.1
    have Dq : Dra (up t 1 2 (nI q)) (up u 144 15 (nI q)) S I P Wd := Dra_D D (D1_up t (by decide) _) (D2_up u (by decide) (by decide) _)
    rw [fX11_duchy_37_s, if_pos rfl, q4, q5, bind_s, bd2_s, fX7_readInto_25_s, Yq.1, Yq.2.2.2.2.1, Yq.2.2.2.2.2.2.2.1]
    by_cases c : q < n
    · rw [if_pos c, if_neg (show ¬ (240 : Int32) ≤ nI k from nI_ge (b := 240) (by omega) (by omega)), if_neg (nI_ge c (by omega)), if_pos rfl]
      obtain ⟨kk, hkk, hk1⟩ := (Y.2.2.2.1 q c).2
      have hk2 : u 151 q = nI kk := by rw [← (Y.2.2.2.1 q c).1]; exact hk1
      rw [hk2, if_neg (nI_pos (by omega)), nI_1]
      refine TxO_tr (t1 := up t 1 2 (nI q)) (u1 := up u 144 15 (nI q)) (D1_up t (by decide) _).p (D2_up u (by decide) (by decide) _).p ?_
      obtain ⟨t1, ht1⟩ : ∃ z, z = up t 1 2 (nI q) := ⟨_, rfl⟩
      obtain ⟨u1, hu1⟩ : ∃ z, z = up u 144 15 (nI q) := ⟨_, rfl⟩
      have e151 : u1 151 q ≠ 32 := by rw [hu1, up_n (by decide)]; exact q3 c
      rw [← ht1, ← hu1] at Yq Dq ⊢
      obtain ⟨t', u', o1, o2, o3, o4⟩ := clause_sim Yq Dq c e151
      rw [o3, bind_s]
      refine TxO_tr o1 o2 ?_
      rcases o4 with ⟨fl, o5, f0, f3, g3, g4, q', hq', g5⟩ | ⟨q', hq', o5, Y', D'⟩
      · rw [o5, bd2_s]
        have h11 : t' 1 1 = nI n := by rw [o1.2]; exact Yq.1
        obtain ⟨q2', hs⟩ := skip_tot hn (n - q') q' t' fuelN h11 g5 hq' (by omega) (fuel_gt (by omega))
        unfold fX7_skipBlanks
        obtain ⟨f, rfl⟩ : ∃ z, f = z + 1 := ⟨f - 1, by omega⟩
        obtain ⟨g, rfl⟩ : ∃ z, g = z + 1 := ⟨g - 1, by omega⟩
        have hfl : up t' 1 2 (nI q2') 1 3 = nI fl := by rw [up_s, upd_n (by decide)]; exact g3
        rw [hs, bind_s, fX7_readInto_25_s, hfl, if_neg (nI_ne0 f0 (by omega)), fX11_duchy_37_s, if_neg (nI_ne0 f0 (by omega))]
        refine ⟨up t' 1 2 (nI q2'), u', (D1_up t' (by decide) _).p, PFu_rf, by rw [up_s, upd_n (by decide)]; exact g4, Or.inl ⟨fl, f0, f3, ?_, rfl⟩⟩
        unfold fX7_readInto_65
        rw [bind_s, up_s, upd_n (by decide), hfl]
        split
        · rfl
        · split <;> rfl
      · rw [o5, bd2_s]
        exact ih q' (k + 1) t' u' f g Y' D' (by omega) (by omega) (by omega) (by omega)
    · rw [if_neg c, if_pos (show (-1 : Int32) < 0 by decide), if_pos (show nI n ≤ nI q from nI_le (by omega) (by omega))]
      refine ⟨up t 1 2 (nI q), up u 144 15 (nI q), (D1_up t (by decide) _).p, (D2_up u (by decide) (by decide) _).p, ?_, Or.inr ⟨?_, rfl, S, I, P, Wd, Dq⟩⟩
      · rw [Yq.2.2.2.2.2.2.2.2.1, Yq.2.2.2.2.2.2.2.2.2]
      · unfold fX7_readInto_65
        rw [bind_s, up_s, upd_n (by decide), Yq.2.2.2.2.2.2.2.1]
        split <;> rfl
theorem text_sim (X : Txt t u n) : TxO t u (fX7_readInto 9 t) (fX11_duchy u) := by
  obtain ⟨x1, x2, x3, x4, x5⟩ := X
  unfold fX7_readInto fX11_duchy fX8_clear
  simp only [bind_s]
  obtain ⟨t1, ht1⟩ : ∃ z, z = up (up (up (up (up (up (up (up t 1 2 0) 1 3 0) 1 4 (-1)) 9 0 0) 9 1 0) 9 2 0) 9 3 0) 9 4 0 := ⟨_, rfl⟩
  obtain ⟨u1, hu1⟩ : ∃ z, z = up (up (up (up (up (up (up u 144 14 (-1)) 144 15 0) 144 18 0) 144 19 0) 144 20 0) 144 21 0) 144 26 0 := ⟨_, rfl⟩
  rw [← ht1, ← hu1]
  have P1 : PFr t t1 := by
    rw [ht1]
    exact PFr_tr (D1_up t (k := 2) (by decide) _).p (PFr_tr (D1_up _ (k := 3) (by decide) _).p (PFr_tr (D1_up _ (k := 4) (by decide) _).p (PFr_tr (PFr_up _ (o := 9) (by decide) (by decide) _ _) (PFr_tr (PFr_up _ (o := 9) (by decide) (by decide) _ _) (PFr_tr (PFr_up _ (o := 9) (by decide) (by decide) _ _) (PFr_tr (PFr_up _ (o := 9) (by decide) (by decide) _ _) (PFr_up _ (o := 9) (by decide) (by decide) _ _)))))))
  have P2 : PFu u u1 := by
    rw [hu1]
    exact PFu_tr (PFu_f u (k := 14) (by decide) (by decide) _) (PFu_tr (PFu_f _ (k := 15) (by decide) (by decide) _) (PFu_tr (PFu_f _ (k := 18) (by decide) (by decide) _) (PFu_tr (PFu_f _ (k := 19) (by decide) (by decide) _) (PFu_tr (PFu_f _ (k := 20) (by decide) (by decide) _) (PFu_tr (PFu_f _ (k := 21) (by decide) (by decide) _) (PFu_f _ (k := 26) (by decide) (by decide) _))))))
  refine TxO_tr P1 P2 ?_
  have s1 : ∀ k, t1 1 k = upd (upd (upd (t 1) 2 0) 3 0) 4 (-1) k := fun k => by
    rw [ht1, up_n (by decide), up_n (by decide), up_n (by decide), up_n (by decide), up_n (by decide), up_s, up_s, up_s]
  have s9 : ∀ k, t1 9 k = upd (upd (upd (upd (upd (t 9) 0 0) 1 0) 2 0) 3 0) 4 0 k := fun k => by
    rw [ht1, up_s, up_s, up_s, up_s, up_s, up_n (by decide), up_n (by decide), up_n (by decide)]
  have w : ∀ k, u1 144 k = upd (upd (upd (upd (upd (upd (upd (u 144) 14 (-1)) 15 0) 18 0) 19 0) 20 0) 21 0) 26 0 k := fun k => by
    rw [hu1, up_s, up_s, up_s, up_s, up_s, up_s, up_s]
  have Y : Syn t1 u1 n 0 := by
    refine ⟨by rw [s1]; exact x1, by rw [w]; exact x2, x3, fun i hi => ?_, by rw [s1]; rfl, by rw [w]; rfl, Nat.zero_le _, by rw [s1]; rfl, by rw [s1]; rfl, by rw [w]; rfl⟩
    rw [P1.1 2 (by decide) (by decide), P2.1 151 (by decide) (by decide)]
    exact x4 i hi
  have D : Dra t1 u1 0 0 0 0 := by
    refine ⟨⟨0, by decide, by rw [s9]; rfl, by rw [w]; rfl, fun _ => rfl, fun h => absurd h (by decide)⟩, by rw [s9]; rfl, by rw [w]; rfl, by decide, by rw [s9]; rfl, by rw [w]; rfl, by decide, by rw [s9]; rfl, by rw [w]; rfl, by decide, by rw [s9]; rfl, by rw [w]; rfl, by decide, fun _ => ⟨rfl, rfl, rfl⟩, fun h => absurd h (by decide), fun s hs => absurd hs (by omega), fun i hi => absurd hi (by omega)⟩
  exact text_loop n 0 0 t1 u1 fuelN fuelN Y ⟨0, 0, 0, 0, D⟩ (Nat.le_refl _) (by omega) (fuel_gt (by omega)) (fuel_gt (by omega))
end TX
