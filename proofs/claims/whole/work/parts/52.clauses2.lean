/-! a text is read: singers and inspectors -/
section CS
variable {t u : St} {n p S I P Wd : Nat}
def addS (t : St) (S : Nat) (a b c d : Int32) : St := up (up (up (up (up t 10 S a) 11 S b) 12 S c) 13 S d) 9 3 (nI (S + 1))
theorem addS_eq (h : t 9 3 = nI S) (hS : S < 7) (a b c d : Int32) : fX8_addSinger 9 t a b c d = some (addS t S a b c d) := by
  have e1 : ∀ x y : Int32, up t 10 S x 9 3 = nI S := fun x _ => by rw [up_n (by decide)]; exact h
  have k1 : up t 10 S a 9 3 = nI S := by rw [up_n (by decide)]; exact h
  have k2 : up (up t 10 S a) 11 S b 9 3 = nI S := by rw [up_n (by decide)]; exact k1
  have k3 : up (up (up t 10 S a) 11 S b) 12 S c 9 3 = nI S := by rw [up_n (by decide)]; exact k2
  have k4 : up (up (up (up t 10 S a) 11 S b) 12 S c) 13 S d 9 3 = nI S := by rw [up_n (by decide)]; exact k3
  unfold fX8_addSinger
  rw [h, if_neg (show ¬ (7 : Int32) ≤ nI S from nI_ge (b := 7) (by omega) (by omega)), gd_k (by omega) (by omega), cl_k (by omega), bind_s, show (9 + 1 : Nat) = 10 from rfl, k1, gd_k (by omega) (by omega), cl_k (by omega), bind_s, show (9 + 2 : Nat) = 11 from rfl, k2, gd_k (by omega) (by omega), cl_k (by omega), bind_s, show (9 + 3 : Nat) = 12 from rfl, k3, gd_k (by omega) (by omega), cl_k (by omega), bind_s, show (9 + 4 : Nat) = 13 from rfl, k4, nI_1, bind_s]
  rfl
theorem addS_p (t : St) (S : Nat) (a b c d : Int32) : PFr t (addS t S a b c d) := by
  unfold addS
  exact PFr_tr (PFr_up t (o := 10) (by decide) (by decide) _ _) (PFr_tr (PFr_up _ (o := 11) (by decide) (by decide) _ _) (PFr_tr (PFr_up _ (o := 12) (by decide) (by decide) _ _) (PFr_tr (PFr_up _ (o := 13) (by decide) (by decide) _ _) (PFr_up _ (o := 9) (by decide) (by decide) _ _))))
theorem addS_1 (t : St) (S : Nat) (a b c d : Int32) : addS t S a b c d 1 = t 1 := by
  unfold addS
  rw [up_n (by decide), up_n (by decide), up_n (by decide), up_n (by decide), up_n (by decide)]
theorem tailS {fl : Nat} (h : t 9 3 = nI S) (hS : S < 7) (f : t 1 3 = nI fl) (f0 : 0 < fl) (f3 : fl ≤ 3) (a b c d : Int32) : ((fX8_addSinger 9 t a b c d).bind (fun t_21 => fX7_readNumbers_113 9 t_21)) = some (addS t S a b c d) := by
  rw [addS_eq h hS, bind_s]
  unfold fX7_readNumbers_113
  rw [re_flaw (fl := fl) (by rw [addS_1]; exact f) f0 f3, bind_s]
theorem into_eq (u : St) {h1 n1 S : Nat} (hS : S < n1) (hn : n1 < 2 ^ 31) (lo hi : Int32) : fX11_into h1 n1 u (nI S) lo hi = bd2 (fX11_takeNumber u lo hi) (fun r_2 t_3 => some (r_2, up t_3 h1 S (t_3 144 16))) := by
  unfold fX11_into
  refine congrArg (bd2 (fX11_takeNumber u lo hi)) ?_
  funext r t3
  rw [gd_k hS hn, cl_k (by omega), bind_s]
theorem clause_s (Y : Syn t u n p) (D : Dra t u S I P Wd) (hP : 0 < P) (hS7 : S < 7) : ClO t u n p (fX7_readNumbers 9 t 115) (bd2 (fX11_takeSinger u) (fun r_6 t_7 => fX11_takeClause_168 t_7 r_6)) := by
  obtain ⟨⟨rt, hrt, d0, d18, drt1, drt2⟩, d1, d19, dP, d2, d20, dW, d3, d21, -, d4, d26, dI, dz, dw, drows, dins⟩ := D
  unfold fX7_readNumbers fX11_takeSinger
  rw [if_neg (show ¬ (115 : Int32) = 100 by decide), if_pos rfl, d21, bind_s, bind_s, nI_1, into_eq _ hS7 (by decide)]
  obtain ⟨u0, hu0⟩ : ∃ z, z = up u 144 21 (nI (S + 1)) := ⟨_, rfl⟩
  rw [← hu0]
  have Y0 : Syn t u0 n p := by rw [hu0]; exact Syn_c Y rfl rfl (up_n (by decide)) (fun k h1 h2 => by rw [up_s, upd_n (by omega)])
  have P0 : PFu u u0 := by rw [hu0]; exact PFu_f u (k := 21) (by decide) (by decide) _
  have c18 : u0 144 18 = nI rt := by rw [hu0, up_s, upd_n (by decide)]; exact d18
  have c19 : u0 144 19 = nI P := by rw [hu0, up_s, upd_n (by decide)]; exact d19
  have c20 : u0 144 20 = nI Wd := by rw [hu0, up_s, upd_n (by decide)]; exact d20
  have c21 : u0 144 21 = nI (S + 1) := by rw [hu0, up_s, upd_s]
  have c26 : u0 144 26 = nI I := by rw [hu0, up_s, upd_n (by decide)]; exact d26
  have cr : ∀ o, 152 ≤ o → u0 o = u o := fun o ho => by rw [hu0, up_n (by omega)]
  clear hu0
  refine ClO_tr (Nat.le_refl p) PFr_rf P0 ?_
  have lo0 : (0 : Int32).toInt = 0 := rfl
  -- the kind
  obtain ⟨r1, t1, u1, a1, a2, a3, a4⟩ := number_sim Y0 0 3
  have e9 : t1 9 = t 9 := a1.1 9 (by decide)
  rw [a3, bd2_s, e9, d1]
  rcases a4 with ⟨fl, f0, f3, b1, b2, b3, b4⟩ | ⟨q1, hq1, b1, b2, b3, b4, b5⟩
  · rw [b1, bd2_s, bd2_s, if_neg (nle0 f0 f3)]
    unfold fX11_takeSinger_51 fX11_takeSinger_73 fX8_everyWord
    rw [if_neg (nle0 f0 f3), if_neg (nle0 f0 f3), bd2_s, c168_f _ f0 f3, rn_flaw b2 f0 f3, bd2_s, rn_flaw b2 f0 f3, bd2_s, bind_s, rn_flaw b2 f0 f3, bd2_s, tailS (by rw [e9]; exact d3) hS7 b2 f0 f3]
    refine ⟨_, _, PFr_tr a1.p (addS_p _ _ _ _ _ _), PFu_tr a2.p (PFu_tr (PFu_up u1 (o := 152) (by decide) (by decide) _ _) (PFu_f _ (k := 15) (by decide) (by decide) _)), rfl, Or.inl ⟨fl, rfl, ?_⟩⟩
    exact Flt_c (t := t1) (u := u1) ⟨f0, f3, b2, b3, b4⟩ (addS_1 _ _ _ _ _ _) (by rw [up_s, upd_n (by decide), up_n (by decide)])
  rw [b1, bd2_s, bd2_s, if_pos (by decide), into_eq _ hS7 (by decide)]
  obtain ⟨v1, hv1⟩ : ∃ z, z = up u1 152 S (u1 144 16) := ⟨_, rfl⟩
  rw [← hv1]
  have Y1 : Syn t1 v1 n q1 := by rw [hv1]; exact Syn_c b5 rfl rfl (up_n (by decide)) (fun k h1 h2 => by rw [up_n (by decide)])
  have P1 : PFu u0 v1 := by rw [hv1]; exact PFu_tr a2.p (PFu_up u1 (o := 152) (by decide) (by decide) _ _)
  have x1 : ∀ k, 18 ≤ k → v1 144 k = u0 144 k := fun k hk => by rw [hv1, up_n (by decide)]; exact a2.2 k (by omega)
  have w152 : v1 152 = upd (u 152) S r1 := by rw [hv1, up_s, a2.1 152 (by decide), cr 152 (by decide), b2]
  have w1 : ∀ o, 153 ≤ o → v1 o = u o := fun o ho => by rw [hv1, up_n (by omega), a2.1 o (by omega), cr o (by omega)]
  clear hv1
  refine ClO_tr (p1 := q1) hq1 a1.p P1 ?_
  rw [x1 19 (by decide), c19]
  -- the place
  obtain ⟨r2, t2, u2, a1', a2', a3', a4'⟩ := number_sim Y1 0 (nI P - 1)
  have e9' : t2 9 = t 9 := by rw [a1'.1 9 (by decide)]; exact e9
  rw [a3', bd2_s]
  unfold fX11_takeSinger_51
  rcases a4' with ⟨fl, f0, f3, b1', b2', b3', b4'⟩ | ⟨q2, hq2, b1', b2', b3', b4', b5'⟩
  · rw [b1', bd2_s, bd2_s, if_neg (nle0 f0 f3)]
    unfold fX11_takeSinger_73 fX8_everyWord
    rw [if_neg (nle0 f0 f3), bd2_s, c168_f _ f0 f3, rn_flaw b2' f0 f3, bd2_s, bind_s, rn_flaw b2' f0 f3, bd2_s, tailS (by rw [e9']; exact d3) hS7 b2' f0 f3]
    refine ⟨_, _, PFr_tr a1'.p (addS_p _ _ _ _ _ _), PFu_tr a2'.p (PFu_tr (PFu_up u2 (o := 153) (by decide) (by decide) _ _) (PFu_f _ (k := 15) (by decide) (by decide) _)), rfl, Or.inl ⟨fl, rfl, ?_⟩⟩
    exact Flt_c (t := t2) (u := u2) ⟨f0, f3, b2', b3', b4'⟩ (addS_1 _ _ _ _ _ _) (by rw [up_s, upd_n (by decide), up_n (by decide)])
  rw [b1', bd2_s, bd2_s, if_pos (by decide), into_eq _ hS7 (by decide)]
  obtain ⟨v2, hv2⟩ : ∃ z, z = up u2 153 S (u2 144 16) := ⟨_, rfl⟩
  rw [← hv2]
  have Y2 : Syn t2 v2 n q2 := by rw [hv2]; exact Syn_c b5' rfl rfl (up_n (by decide)) (fun k h1 h2 => by rw [up_n (by decide)])
  have P2 : PFu v1 v2 := by rw [hv2]; exact PFu_tr a2'.p (PFu_up u2 (o := 153) (by decide) (by decide) _ _)
  have x2 : ∀ k, 18 ≤ k → v2 144 k = u0 144 k := fun k hk => by rw [hv2, up_n (by decide), a2'.2 k (by omega)]; exact x1 k hk
  have w152' : v2 152 = upd (u 152) S r1 := by rw [hv2, up_n (by decide), a2'.1 152 (by decide)]; exact w152
  have w153' : v2 153 = upd (u 153) S r2 := by rw [hv2, up_s, a2'.1 153 (by decide), w1 153 (by decide), b2']
  have w2 : ∀ o, 154 ≤ o → v2 o = u o := fun o ho => by rw [hv2, up_n (by omega), a2'.1 o (by omega), w1 o (by omega)]
  clear hv2
  refine ClO_tr (p1 := q2) hq2 a1'.p P2 ?_
  -- the purse
  obtain ⟨r3, t3, u3, c1, c2, c3, c4⟩ := number_sim Y2 0 999
  have e9'' : t3 9 = t 9 := by rw [c1.1 9 (by decide)]; exact e9'
  rw [c3, bd2_s]
  unfold fX11_takeSinger_73 fX8_everyWord
  rw [e9'', d2, bind_s]
  rcases c4 with ⟨fl, f0, f3, b1', b2', b3', b4'⟩ | ⟨q3, hq3, g1, g2, g3, g4, g5⟩
  · rw [b1', bd2_s, bd2_s, if_neg (nle0 f0 f3), bd2_s, c168_f _ f0 f3, rn_flaw b2' f0 f3, bd2_s, tailS (by rw [e9'']; exact d3) hS7 b2' f0 f3]
    refine ⟨_, _, PFr_tr c1.p (addS_p _ _ _ _ _ _), PFu_tr c2.p (PFu_tr (PFu_up u3 (o := 154) (by decide) (by decide) _ _) (PFu_f _ (k := 15) (by decide) (by decide) _)), rfl, Or.inl ⟨fl, rfl, ?_⟩⟩
    exact Flt_c (t := t3) (u := u3) ⟨f0, f3, b2', b3', b4'⟩ (addS_1 _ _ _ _ _ _) (by rw [up_s, upd_n (by decide), up_n (by decide)])
  rw [g1, bd2_s, bd2_s, if_pos (by decide), into_eq _ hS7 (by decide)]
  obtain ⟨v3, hv3⟩ : ∃ z, z = up u3 154 S (u3 144 16) := ⟨_, rfl⟩
  rw [← hv3]
  have Y3 : Syn t3 v3 n q3 := by rw [hv3]; exact Syn_c g5 rfl rfl (up_n (by decide)) (fun k h1 h2 => by rw [up_n (by decide)])
  have P3 : PFu v2 v3 := by rw [hv3]; exact PFu_tr c2.p (PFu_up u3 (o := 154) (by decide) (by decide) _ _)
  have x3 : ∀ k, 18 ≤ k → v3 144 k = u0 144 k := fun k hk => by rw [hv3, up_n (by decide), c2.2 k (by omega)]; exact x2 k hk
  have w152'' : v3 152 = upd (u 152) S r1 := by rw [hv3, up_n (by decide), c2.1 152 (by decide)]; exact w152'
  have w153'' : v3 153 = upd (u 153) S r2 := by rw [hv3, up_n (by decide), c2.1 153 (by decide)]; exact w153'
  have w154'' : v3 154 = upd (u 154) S r3 := by rw [hv3, up_s, c2.1 154 (by decide), w2 154 (by decide), g2]
  have w3 : ∀ o, 155 ≤ o → v3 o = u o := fun o ho => by rw [hv3, up_n (by omega), c2.1 o (by omega), w2 o (by omega)]
  clear hv3
  refine ClO_tr (p1 := q3) hq3 c1.p P3 ?_
  rw [x3 20 (by decide), c20]
  obtain ⟨m, hm, rfl, hm2⟩ := int_nI (x := r3) (by omega)
  -- the words
  have hW2 : (1 : Int32) <<< (nI Wd &&& 31) - 1 = nI (2 ^ Wd - 1) := by rw [shl_k Wd (by omega), show (1 : Int32) = nI 1 from rfl, pk_sub (two_pos Wd)]
  rw [hW2]
  obtain ⟨r4, t4, u4, k1, k2, k3, k4⟩ := number_sim Y3 0 (nI (2 ^ Wd - 1))
  have e4 : ∀ o, o ≠ 1 → t4 o = t o := fun o ho => by rw [k1.1 o ho, c1.1 o ho, a1'.1 o ho, a1.1 o ho]
  rw [k3, bd2_s]
  rcases k4 with ⟨fl, f0, f3, b1', b2', b3', b4'⟩ | ⟨q4, hq4, h1, h2, h3, h4, h5⟩
  · rw [b1', bd2_s, bd2_s, bd2_s, c168_f _ f0 f3, tailS (by rw [e4 9 (by decide)]; exact d3) hS7 b2' f0 f3]
    refine ⟨_, _, PFr_tr k1.p (addS_p _ _ _ _ _ _), PFu_tr k2.p (PFu_tr (PFu_up u4 (o := 155) (by decide) (by decide) _ _) (PFu_f _ (k := 15) (by decide) (by decide) _)), rfl, Or.inl ⟨fl, rfl, ?_⟩⟩
    exact Flt_c (t := t4) (u := u4) ⟨f0, f3, b2', b3', b4'⟩ (addS_1 _ _ _ _ _ _) (by rw [up_s, upd_n (by decide), up_n (by decide)])
  rw [h1, bd2_s, bd2_s, bd2_s, addS_eq (by rw [e4 9 (by decide)]; exact d3) hS7, bind_s]
  have hp9 := pow_9 dW
  rw [nI_int (by omega)] at h4
  obtain ⟨kn, hkn, rfl, hkn2⟩ := int_nI (x := r4) (by omega)
  have h2w := two_pos Wd
  have Y4 : Syn (addS t4 S r1 r2 (nI m) (nI kn)) (up u4 155 S (u4 144 16)) n q4 := Syn_c h5 (addS_1 _ _ _ _ _ _) ((addS_p t4 S r1 r2 (nI m) (nI kn)).1 2 (by decide) (by decide)) (up_n (by decide)) (fun k z1 z2 => by rw [up_n (by decide)])
  have x4 : ∀ k, 18 ≤ k → up u4 155 S (u4 144 16) 144 k = u0 144 k := fun k hk => by rw [up_n (by decide), k2.2 k (by omega)]; exact x3 k hk
  have z152 : up u4 155 S (u4 144 16) 152 = upd (u 152) S r1 := by rw [up_n (by decide), k2.1 152 (by decide)]; exact w152''
  have z153 : up u4 155 S (u4 144 16) 153 = upd (u 153) S r2 := by rw [up_n (by decide), k2.1 153 (by decide)]; exact w153''
  have z154 : up u4 155 S (u4 144 16) 154 = upd (u 154) S (nI m) := by rw [up_n (by decide), k2.1 154 (by decide)]; exact w154''
  have z155 : up u4 155 S (u4 144 16) 155 = upd (u 155) S (nI kn) := by rw [up_s, k2.1 155 (by decide), w3 155 (by decide), h2]
  have z156 : up u4 155 S (u4 144 16) 156 = u 156 := by rw [up_n (by decide), k2.1 156 (by decide)]; exact w3 156 (by decide)
  have s9 : ∀ k, k ≠ 3 → addS t4 S r1 r2 (nI m) (nI kn) 9 k = t 9 k := fun k hk => by
    unfold addS
    rw [up_s, upd_n hk, up_n (by decide), up_n (by decide), up_n (by decide), up_n (by decide), e4 9 (by decide)]
  have s93 : addS t4 S r1 r2 (nI m) (nI kn) 9 3 = nI (S + 1) := by
    unfold addS
    rw [up_s, upd_s]
  have s10 : addS t4 S r1 r2 (nI m) (nI kn) 10 = upd (t 10) S r1 := by
    unfold addS
    rw [up_n (by decide), up_n (by decide), up_n (by decide), up_n (by decide), up_s, e4 10 (by decide)]
  have s11 : addS t4 S r1 r2 (nI m) (nI kn) 11 = upd (t 11) S r2 := by
    unfold addS
    rw [up_n (by decide), up_n (by decide), up_n (by decide), up_s, up_n (by decide), e4 11 (by decide)]
  have s12 : addS t4 S r1 r2 (nI m) (nI kn) 12 = upd (t 12) S (nI m) := by
    unfold addS
    rw [up_n (by decide), up_n (by decide), up_s, up_n (by decide), up_n (by decide), e4 12 (by decide)]
  have s13 : addS t4 S r1 r2 (nI m) (nI kn) 13 = upd (t 13) S (nI kn) := by
    unfold addS
    rw [up_n (by decide), up_s, up_n (by decide), up_n (by decide), up_n (by decide), e4 13 (by decide)]
  have s14 : addS t4 S r1 r2 (nI m) (nI kn) 14 = t 14 := by
    unfold addS
    rw [up_n (by decide), up_n (by decide), up_n (by decide), up_n (by decide), up_n (by decide), e4 14 (by decide)]
  have D4 : Dra (addS t4 S r1 r2 (nI m) (nI kn)) (up u4 155 S (u4 144 16)) (S + 1) I P Wd := by
    unfold Dra
    rw [s9 0 (by decide), s9 1 (by decide), s9 2 (by decide), s9 4 (by decide), s93, s10, s11, s12, s13, s14, z152, z153, z154, z155, z156, x4 18 (by decide), x4 19 (by decide), x4 20 (by decide), x4 21 (by decide), x4 26 (by decide), c18, c19, c20, c21, c26]
    refine ⟨⟨rt, hrt, d0, rfl, drt1, drt2⟩, d1, rfl, dP, d2, rfl, dW, rfl, rfl, by omega, d4, rfl, dI, fun h => by omega, dw, fun s hs => ?_, dins⟩
    by_cases e : s = S
    · subst e
      rw [upd_s, upd_s, upd_s, upd_s, upd_s, upd_s, upd_s, upd_s]
      exact ⟨rfl, rfl, rfl, rfl, ⟨m, by have : (999 : Int32).toInt = 999 := rfl; omega, rfl⟩, kn, by omega, rfl⟩
    · rw [upd_n e, upd_n e, upd_n e, upd_n e, upd_n e, upd_n e, upd_n e, upd_n e]
      exact drows s (by omega)
  unfold fX7_readNumbers_113
  obtain ⟨t', u', o1, o2, o3, o4⟩ := end_sim Y4 D4
  rw [o3, bind_s]
  refine ⟨t', u', PFr_tr k1.p (PFr_tr (addS_p _ _ _ _ _ _) o1), PFu_tr k2.p (PFu_tr (PFu_up u4 (o := 155) (by decide) (by decide) _ _) o2), rfl, ?_⟩
  rcases o4 with o4 | ⟨q, hq, o5⟩
  · exact Or.inl o4
  · exact Or.inr ⟨q, by omega, o5⟩
theorem addI_eq (h : t 9 4 = nI I) (hI : I < 4) (a : Int32) : fX8_addInspector 9 t a = some (up (up t 14 I a) 9 4 (nI (I + 1))) := by
  have k1 : up t 14 I a 9 4 = nI I := by rw [up_n (by decide)]; exact h
  unfold fX8_addInspector
  rw [h, if_neg (show ¬ (4 : Int32) ≤ nI I from nI_ge (b := 4) (by omega) (by omega)), gd_k (by omega) (by omega), cl_k (by omega), bind_s, show (9 + 5 : Nat) = 14 from rfl, k1, nI_1, bind_s]
theorem clause_i (Y : Syn t u n p) (D : Dra t u S I P Wd) (hP : 0 < P) (hI4 : I < 4) : ClO t u n p (fX7_readNumbers 9 t 105) (bd2 (fX11_takeInspector u) (fun r_3 t_4 => fX11_takeClause_168 t_4 r_3)) := by
  obtain ⟨⟨rt, hrt, d0, d18, drt1, drt2⟩, d1, d19, dP, d2, d20, dW, d3, d21, dS, d4, d26, -, dz, dw, drows, dins⟩ := D
  unfold fX7_readNumbers fX11_takeInspector
  rw [if_neg (show ¬ (105 : Int32) = 100 by decide), if_neg (show ¬ (105 : Int32) = 115 by decide), d26, bind_s, nI_1]
  obtain ⟨u0, hu0⟩ : ∃ z, z = up u 144 26 (nI (I + 1)) := ⟨_, rfl⟩
  rw [← hu0]
  have Y0 : Syn t u0 n p := by rw [hu0]; exact Syn_c Y rfl rfl (up_n (by decide)) (fun k h1 h2 => by rw [up_s, upd_n (by omega)])
  have P0 : PFu u u0 := by rw [hu0]; exact PFu_f u (k := 26) (by decide) (by decide) _
  have c18 : u0 144 18 = nI rt := by rw [hu0, up_s, upd_n (by decide)]; exact d18
  have c19 : u0 144 19 = nI P := by rw [hu0, up_s, upd_n (by decide)]; exact d19
  have c20 : u0 144 20 = nI Wd := by rw [hu0, up_s, upd_n (by decide)]; exact d20
  have c21 : u0 144 21 = nI S := by rw [hu0, up_s, upd_n (by decide)]; exact d21
  have c26 : u0 144 26 = nI (I + 1) := by rw [hu0, up_s, upd_s]
  have cr : ∀ o, 152 ≤ o → u0 o = u o := fun o ho => by rw [hu0, up_n (by omega)]
  clear hu0
  refine ClO_tr (Nat.le_refl p) PFr_rf P0 ?_
  rw [c26, nI_pred, into_eq _ hI4 (by decide), c19, d1]
  obtain ⟨r1, t1, u1, a1, a2, a3, a4⟩ := number_sim Y0 0 (nI P - 1)
  have e1 : ∀ o, o ≠ 1 → t1 o = t o := a1.1
  rw [a3, bd2_s, addI_eq (by rw [e1 9 (by decide)]; exact d4) hI4, bind_s]
  unfold fX7_readNumbers_113
  have pr : PFr t1 (up (up t1 14 I r1) 9 4 (nI (I + 1))) := PFr_tr (PFr_up t1 (o := 14) (by decide) (by decide) _ _) (PFr_up _ (o := 9) (by decide) (by decide) _ _)
  have h1 : up (up t1 14 I r1) 9 4 (nI (I + 1)) 1 = t1 1 := by rw [up_n (by decide), up_n (by decide)]
  rcases a4 with ⟨fl, f0, f3, b1, b2, b3, b4⟩ | ⟨q1, hq1, b1, b2, b3, b4, b5⟩
  · rw [b1, bd2_s, bd2_s, bd2_s, c168_f _ f0 f3, re_flaw (fl := fl) (by rw [h1]; exact b2) f0 f3, bind_s]
    refine ⟨_, _, PFr_tr a1.p pr, PFu_tr a2.p (PFu_tr (PFu_up u1 (o := 156) (by decide) (by decide) _ _) (PFu_f _ (k := 15) (by decide) (by decide) _)), rfl, Or.inl ⟨fl, rfl, ?_⟩⟩
    exact Flt_c (t := t1) (u := u1) ⟨f0, f3, b2, b3, b4⟩ h1 (by rw [up_s, upd_n (by decide), up_n (by decide)])
  · rw [b1, bd2_s, bd2_s, bd2_s]
    have Y4 : Syn (up (up t1 14 I r1) 9 4 (nI (I + 1))) (up u1 156 I (u1 144 16)) n q1 := Syn_c b5 h1 (pr.1 2 (by decide) (by decide)) (up_n (by decide)) (fun k z1 z2 => by rw [up_n (by decide)])
    have x4 : ∀ k, 18 ≤ k → up u1 156 I (u1 144 16) 144 k = u0 144 k := fun k hk => by rw [up_n (by decide), a2.2 k (by omega)]
    have z15 : ∀ o, 152 ≤ o → o ≤ 155 → up u1 156 I (u1 144 16) o = u o := fun o z1 z2 => by rw [up_n (by omega), a2.1 o (by omega), cr o (by omega)]
    have z156 : up u1 156 I (u1 144 16) 156 = upd (u 156) I r1 := by rw [up_s, a2.1 156 (by decide), cr 156 (by decide), b2]
    have s9 : ∀ k, k ≠ 4 → up (up t1 14 I r1) 9 4 (nI (I + 1)) 9 k = t 9 k := fun k hk => by rw [up_s, upd_n hk, up_n (by decide), e1 9 (by decide)]
    have s94 : up (up t1 14 I r1) 9 4 (nI (I + 1)) 9 4 = nI (I + 1) := by rw [up_s, upd_s]
    have s14 : up (up t1 14 I r1) 9 4 (nI (I + 1)) 14 = upd (t 14) I r1 := by rw [up_n (by decide), up_s, e1 14 (by decide)]
    have s1 : ∀ o, 10 ≤ o → o ≤ 13 → up (up t1 14 I r1) 9 4 (nI (I + 1)) o = t o := fun o z1 z2 => by rw [up_n (by omega), up_n (by omega), e1 o (by omega)]
    have D4 : Dra (up (up t1 14 I r1) 9 4 (nI (I + 1))) (up u1 156 I (u1 144 16)) S (I + 1) P Wd := by
      unfold Dra
      rw [s9 0 (by decide), s9 1 (by decide), s9 2 (by decide), s9 3 (by decide), s94, s1 10 (by decide) (by decide), s1 11 (by decide) (by decide), s1 12 (by decide) (by decide), s1 13 (by decide) (by decide), s14, z15 152 (by decide) (by decide), z15 153 (by decide) (by decide), z15 154 (by decide) (by decide), z15 155 (by decide) (by decide), z156, x4 18 (by decide), x4 19 (by decide), x4 20 (by decide), x4 21 (by decide), x4 26 (by decide), c18, c19, c20, c21, c26]
      refine ⟨⟨rt, hrt, d0, rfl, drt1, drt2⟩, d1, rfl, dP, d2, rfl, dW, d3, rfl, dS, rfl, rfl, by omega, fun h => by omega, dw, drows, fun i hi => ?_⟩
      by_cases e : i = I
      · subst e
        rw [upd_s, upd_s]
      · rw [upd_n e, upd_n e]
        exact dins i (by omega)
    obtain ⟨t', u', o1, o2, o3, o4⟩ := end_sim Y4 D4
    rw [o3, bind_s]
    refine ⟨t', u', PFr_tr a1.p (PFr_tr pr o1), PFu_tr a2.p (PFu_tr (PFu_up u1 (o := 156) (by decide) (by decide) _ _) o2), rfl, ?_⟩
    rcases o4 with o4 | ⟨q, hq, o5⟩
    · exact Or.inl o4
    · exact Or.inr ⟨q, by omega, o5⟩
end CS
