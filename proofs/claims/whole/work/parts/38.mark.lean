/-! marks, and the relation behind a deed -/
section MK2
variable {t u : St} {S I P Wd U T Np Ne n : Nat}
theorem mark_st (hSb : S ≤ 7) (hIb : I ≤ 4) (H : Hal t 44 (u 150) S I) (B : HalB (u 150) S) (Q : Pst t u S I U T) : ∃ t1 u1, fX6_mark 44 t = some t1 ∧ fX11_remember u = some u1 ∧ Pst t1 u1 S I (min (U + 1) 16) ((T + 1) % 16) ∧ (∀ o, o ≠ 15 → (o < 54 ∨ 133 < o) → t1 o = t o) ∧ (∀ o, o ≠ 144 → o ≠ 157 → u1 o = u o) ∧ ∀ k, k ≠ 28 → u1 144 k = u 144 k := by
  obtain ⟨q1, q2, q3, q4, q5, q6⟩ := Q
  obtain ⟨t', a1, a2, a3⟩ := takeFrom_ok t (h0 := 54 + 5 * T) (h1 := 44) (S := S) (I := I) (by omega) hSb hIb
  obtain ⟨row, b1, b2, b3⟩ := remember_ok u q4 q5
  have k15 : t' 15 = t 15 := a2 15 (by omega)
  have hcls : fX6_mark 44 t = some (up (up t' 15 1 (nI ((T + 1) % 16))) 15 2 (nI (min (U + 1) 16))) := by
    unfold fX6_mark
    have e1 : (nI (T + 1)) - nI (T + 1) / (16 : Int32) * (16 : Int32) = nI ((T + 1) % 16) := pk_rem (d := 16) (by omega) (by decide) (by decide)
    rw [q1, gd_k (by omega) (by omega), cl_k (by omega), a1, bind_s, k15, q1, nI_1, e1, bind_s]
    have e2 : up t' 15 1 (nI ((T + 1) % 16)) 15 2 = nI U := by rw [up_s, upd_n (by decide), k15]; exact q3
    rw [e2, nI_1, cap_nI (a := U + 1) (m := (16 : Int32)) (M := 16) rfl (by omega) (by omega), bind_s]
  refine ⟨_, _, hcls, b1, ⟨?_, by omega, ?_, ?_, by omega, ?_⟩, ?_, ?_, ?_⟩
  · rw [up_s, upd_n (by decide), up_s, upd_s]
  · rw [up_s, upd_s]
  · rw [up_s, upd_s]
  · intro j hj
    have hu157 : (fun k => up (upR u 157 row) 144 28 (nI (min (U + 1) 16)) 157 (29 * j + k)) = fun k => row (29 * j + k) := by
      funext k
      rw [up_n (by decide), upR_s]
    rw [hu157]
    have hall : ∀ h, 54 ≤ h → ∀ w, Hal t' h w S I → Hal (up (up t' 15 1 (nI ((T + 1) % 16))) 15 2 (nI (min (U + 1) 16))) h w S I := fun h hh w Hh => Hal_t Hh (fun o h1 h2 => by rw [up_n (by omega), up_n (by omega)])
    by_cases c : j + 1 = min (U + 1) 16
    · have hidx : ((T + 1) % 16 + 16 - min (U + 1) 16 + j) % 16 = T := by omega
      rw [hidx]
      have e : ∀ k, k < 29 → row (29 * j + k) = u 150 k := by
        intro k hk
        have := b3 k hk
        rw [show min (U + 1) 16 - 1 = j by omega] at this
        exact this
      exact ⟨hall _ (by omega) _ (Hal_w hSb hIb (a3 _ H) e), HalB_w hSb B e⟩
    · have hj2 : j + 1 < min (U + 1) 16 := by omega
      have e : ∀ k, k < 29 → row (29 * j + k) = u 157 (29 * (j + (U + 1 - min (U + 1) 16)) + k) := fun k hk => b2 j k hj2 hk
      obtain ⟨g1, g2⟩ := q6 (j + (U + 1 - min (U + 1) 16)) (by omega)
      have hidx : ((T + 1) % 16 + 16 - min (U + 1) 16 + j) % 16 = (T + 16 - U + (j + (U + 1 - min (U + 1) 16))) % 16 := by omega
      rw [hidx]
      have hne : (T + 16 - U + (j + (U + 1 - min (U + 1) 16))) % 16 ≠ T := by omega
      refine ⟨hall _ (by omega) _ ?_, HalB_w hSb g2 e⟩
      refine Hal_t (Hal_w hSb hIb g1 e) (fun o h1 h2 => a2 o ?_)
      omega
  · intro o h1 h2
    rw [up_n h1, up_n h1]
    exact a2 o (by omega)
  · intro o h1 h2
    rw [up_n h1, upR_n h2]
  · intro k hk
    rw [up_s, upd_n hk, upR_n (by decide)]
theorem Inv_mark (V : InvP t u S I P Wd U T Np Ne n) {t1 u1 : St} (Q : Pst t1 u1 S I (min (U + 1) 16) ((T + 1) % 16)) (f : ∀ o, o ≠ 15 → (o < 54 ∨ 133 < o) → t1 o = t o) (g : ∀ o, o ≠ 144 → o ≠ 157 → u1 o = u o) (k : ∀ k, k ≠ 28 → u1 144 k = u 144 k) : InvP t1 u1 S I P Wd (min (U + 1) 16) ((T + 1) % 16) Np Ne n := by
  obtain ⟨h1, h2, h3, h4, h5, h6, h7, h8⟩ := V
  refine ⟨?_, ?_, ?_, ?_, Q, ?_, ?_, ?_⟩
  · unfold Txt at h1 ⊢
    rw [f 1 (by omega) (by omega), f 2 (by omega) (by omega), g 151 (by omega) (by omega), k 13 (by omega), k 14 (by omega)]
    exact h1
  · exact Reg_u (Reg_t h2 (f 3 (by omega) (by omega)) (f 4 (by omega) (by omega)) (f 7 (by omega) (by omega))) (g 145 (by omega) (by omega)) (g 148 (by omega) (by omega)) (k 1 (by omega)) (k 2 (by omega)) (k 3 (by omega)) (k 8 (by omega))
  · rw [g 150 (by omega) (by omega)]
    exact Hal_t h3 (fun o a b => f o (by omega) (by omega))
  · rw [g 150 (by omega) (by omega)]
    exact h4
  · intro i hi
    obtain ⟨a1, a2⟩ := h6 i hi
    rw [f (18 + i) (by omega) (by omega), g 165 (by omega) (by omega), g 164 (by omega) (by omega)]
    refine ⟨a1, ?_⟩
    rcases a2 with a2 | ⟨a2, a3, a4⟩
    · exact Or.inl a2
    · exact Or.inr ⟨a2, Hal_t a3 (fun o a b => f o (by omega) (by omega)), a4⟩
  · unfold Led at h7 ⊢
    rw [f 20 (by omega) (by omega), f 21 (by omega) (by omega), f 22 (by omega) (by omega), f 23 (by omega) (by omega), f 24 (by omega) (by omega), g 160 (by omega) (by omega), g 161 (by omega) (by omega), g 162 (by omega) (by omega), g 163 (by omega) (by omega), k 32 (by omega), k 35 (by omega)]
    exact h7
  · unfold Drw at h8 ⊢
    rw [f 43 (by omega) (by omega), k 11 (by omega)]
    exact h8
theorem Inv_ds (V : InvP t u S I P Wd U T Np Ne n) {t1 u1 : St} (D : DS S I P Wd t u t1 u1) : InvP t1 u1 S I P Wd U T Np Ne n := by
  obtain ⟨h1, h2, h3, h4, h5, h6, h7, h8⟩ := V
  obtain ⟨f, g, k, d4, d5, d6, d7⟩ := D
  refine ⟨?_, d4, d5, d6, ?_, ?_, ?_, d7⟩
  · unfold Txt at h1 ⊢
    rw [f 1 (by omega) (by omega), f 2 (by omega) (by omega), g 151 (by omega) (by omega), k 13 (by omega), k 14 (by omega)]
    exact h1
  · obtain ⟨a1, a2, a3, a4, a5, a6⟩ := h5
    refine ⟨by rw [f 15 (by omega) (by omega)]; exact a1, a2, by rw [f 15 (by omega) (by omega)]; exact a3, by rw [k 28 (by omega)]; exact a4, a5, fun j hj => ?_⟩
    rw [g 157 (by omega) (by omega)]
    exact ⟨Hal_t (a6 j hj).1 (fun o a b => f o (by omega) (by omega)), (a6 j hj).2⟩
  · intro i hi
    obtain ⟨a1, a2⟩ := h6 i hi
    rw [f (18 + i) (by omega) (by omega), g 165 (by omega) (by omega), g 164 (by omega) (by omega)]
    refine ⟨a1, ?_⟩
    rcases a2 with a2 | ⟨a2, a3, a4⟩
    · exact Or.inl a2
    · exact Or.inr ⟨a2, Hal_t a3 (fun o a b => f o (by omega) (by omega)), a4⟩
  · unfold Led at h7 ⊢
    rw [f 20 (by omega) (by omega), f 21 (by omega) (by omega), f 22 (by omega) (by omega), f 23 (by omega) (by omega), f 24 (by omega) (by omega), g 160 (by omega) (by omega), g 161 (by omega) (by omega), g 162 (by omega) (by omega), g 163 (by omega) (by omega), k 32 (by omega), k 35 (by omega)]
    exact h7
theorem Inv_step (V : InvP t u S I P Wd U T Np Ne n) {t1 u1 : St} (a : Step 44 S I t u t1 u1) : InvP t1 u1 S I P Wd U T Np Ne n := by
  obtain ⟨g, hg, d1, d2⟩ := V.2.2.2.2.2.2.2
  exact Inv_ds V (DS_step V.2.1 hg d1 d2 a)
theorem Step_cl {t1 u1 : St} (a : Step 44 S I t u t1 u1) : Cl t t1 ∧ Mo u u1 := by
  obtain ⟨a1, ⟨w, rfl⟩, -, -⟩ := a
  exact ⟨fun o ho => a1 o (by omega), fun o ho => upR_n (by omega)⟩
theorem DS_cl {t1 u1 : St} (a : DS S I P Wd t u t1 u1) : Cl t t1 ∧ Mo u u1 := ⟨fun o ho => a.1 o (by omega) (by omega), fun o ho => a.2.1 o (by omega) (by omega)⟩
theorem mark_all (V : InvP t u S I P Wd U T Np Ne n) : ∃ t1 u1, fX6_mark 44 t = some t1 ∧ fX11_remember u = some u1 ∧ InvP t1 u1 S I P Wd (min (U + 1) 16) ((T + 1) % 16) Np Ne n ∧ Cl t t1 ∧ Mo u u1 ∧ (∀ o, o ≠ 15 → (o < 54 ∨ 133 < o) → t1 o = t o) ∧ u1 150 = u 150 := by
  have hSb : S ≤ 7 := V.2.1.2.2.2.2.2.2.2.2.1
  have hIb : I ≤ 4 := V.2.1.2.2.2.2.2.2.2.2.2.2.2.1
  obtain ⟨t1, u1, a1, a2, a3, a4, a5, a6⟩ := mark_st hSb hIb V.2.2.1 V.2.2.2.1 V.2.2.2.2.1
  exact ⟨t1, u1, a1, a2, Inv_mark V a3 a4 a5 a6, fun o ho => a4 o (by omega) (by omega), fun o ho => a5 o (by omega) (by omega), a4, a5 150 (by omega) (by omega)⟩
theorem Cl_tr {a b c : St} (h : Cl a b) (k : Cl b c) : Cl a c := fun o ho => (k o ho).trans (h o ho)
theorem Mo_tr {a b c : St} (h : Mo a b) (k : Mo b c) : Mo a c := fun o ho => (k o ho).trans (h o ho)
theorem Cl_rf {a : St} : Cl a a := fun _ _ => rfl
theorem Mo_rf {a : St} : Mo a a := fun _ _ => rfl
end MK2
