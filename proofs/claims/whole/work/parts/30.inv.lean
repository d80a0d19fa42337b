/-! the relation between the class's cells and the reference's -/
theorem upR_s (t : St) (o : Nat) (r : Nat → Int32) : upR t o r o = r := by simp [upR]
theorem upR_n {t : St} {o a : Nat} {r : Nat → Int32} (h : a ≠ o) : upR t o r a = t a := by simp [upR, h]
theorem upR_upR (t : St) (o : Nat) (r q : Nat → Int32) : upR (upR t o r) o q = upR t o q := by
  funext a
  by_cases h : a = o <;> simp [upR, h]
theorem upR_id (t : St) (o : Nat) : upR t o (t o) = t := by
  funext a
  by_cases h : a = o <;> simp [upR, h]
theorem up_s (t : St) (o k : Nat) (x : Int32) : up t o k x o = upd (t o) k x := upR_s _ _ _
theorem up_n {t : St} {o k a : Nat} {x : Int32} (h : a ≠ o) : up t o k x a = t a := upR_n h
theorem up_def (t : St) (o k : Nat) (x : Int32) : up t o k x = upR t o (upd (t o) k x) := rfl
theorem up_upR (t : St) (o k : Nat) (r : Nat → Int32) (x : Int32) : up (upR t o r) o k x = upR t o (upd r k x) := by
  rw [up_def, upR_s, upR_upR]
theorem upd_s (f : Nat → Int32) (k : Nat) (x : Int32) : upd f k x k = x := by simp [upd]
theorem upd_n {f : Nat → Int32} {k j : Nat} {x : Int32} (h : j ≠ k) : upd f k x j = f j := by simp [upd, h]
theorem gd_k {α : Type} {k n : Nat} {K : Option α} (h : k < n) (hn : n < 2 ^ 31) : gd (nI k) n K = K := by
  unfold gd
  rw [if_neg (nI_in h hn)]
theorem gd_lit {α : Type} {i : Int32} {n : Nat} {K : Option α} (h : ¬ (i < 0 ∨ n ≤ i.toNatClampNeg)) : gd i n K = K := if_neg h
theorem cl_k {k : Nat} (h : k < 2 ^ 31) : (nI k).toNatClampNeg = k := nI_clamp h
theorem le_k {a b : Nat} (ha : a < 2 ^ 31) (hb : b < 2 ^ 31) : (nI a ≤ nI b) = (a ≤ b) := propext (nI_leI ha hb)
theorem lt_k {a b : Nat} (ha : a < 2 ^ 31) (hb : b < 2 ^ 31) : (nI a < nI b) = (a < b) := propext (nI_ltI ha hb)
theorem eq_k {a b : Nat} (ha : a < 2 ^ 31) (hb : b < 2 ^ 31) : (nI a = nI b) = (a = b) := propext (nI_eq ha hb)
theorem bind_s {α β : Type} (a : α) (f : α → Option β) : (some a).bind f = f a := rfl
theorem bd2_s {α β γ : Type} (a : α) (b : β) (f : α → β → Option γ) : bd2 (some (a, b)) f = f a b := rfl
theorem gb0 {α : Type} (K : Option α) : gb 0 K = K := rfl
theorem gb1 {α : Type} (K : Option α) : gb 1 K = K := rfl
/-- a hall and a row of the reference: the same -/
def Hal (t : St) (h : Nat) (w : Nat → Int32) (S I : Nat) : Prop :=
  t h 1 = w 25 ∧ t h 2 = w 28 ∧ t h 3 = w 26 ∧ t h 4 = w 27 ∧ (∀ s, s < S → t (h + 1) s = w s ∧ t (h + 2) s = w (7 + s) ∧ t (h + 3) s = w (14 + s)) ∧ ∀ i, i < I → t (h + 4) i = w (21 + i)
/-- the same but for treasury, verses, caught -/
def HalX (t : St) (h : Nat) (w : Nat → Int32) (S I : Nat) : Prop :=
  t h 1 = w 25 ∧ True ∧ True ∧ True ∧ (∀ s, s < S → t (h + 1) s = w s ∧ t (h + 2) s = w (7 + s) ∧ t (h + 3) s = w (14 + s)) ∧ ∀ i, i < I → t (h + 4) i = w (21 + i)
theorem Hal.x {t : St} {h : Nat} {w : Nat → Int32} {S I : Nat} (H : Hal t h w S I) : HalX t h w S I := ⟨H.1, trivial, trivial, trivial, H.2.2.2.2⟩
/-- the bounds of such a row -/
def HalB (w : Nat → Int32) (S : Nat) : Prop :=
  (∃ r, r ≤ 9 ∧ w 25 = nI r) ∧ (∃ r, r ≤ 999999 ∧ w 26 = nI r) ∧ (∃ r, r ≤ 9999 ∧ w 27 = nI r) ∧ ∀ s, s < S → (∃ r, r ≤ 9999 ∧ w (7 + s) = nI r) ∧ (w (14 + s) = -1 ∨ ∃ r, r ≤ 7 ∧ w (14 + s) = nI r)
def Txt (t u : St) (n : Nat) : Prop := t 1 1 = nI n ∧ u 144 13 = nI n ∧ n ≤ 240 ∧ (∀ i, i < n → t 2 i = u 151 i ∧ ∃ k, k ≤ 255 ∧ t 2 i = nI k) ∧ t 1 4 = u 144 14
def Reg (t u : St) (S I P Wd : Nat) : Prop :=
  t 3 1 = nI P ∧ u 144 1 = nI P ∧ P ≤ 4 ∧ t 3 2 = nI Wd ∧ u 144 2 = nI Wd ∧ Wd ≤ 9 ∧ t 3 3 = nI S ∧ u 144 3 = nI S ∧ S ≤ 7 ∧ t 3 4 = nI I ∧ u 144 8 = nI I ∧ I ≤ 4 ∧
  (P = 0 → S = 0 ∧ I = 0 ∧ Wd = 0) ∧ (0 < P → 0 < Wd) ∧ ∀ s, s < S → t 4 s = u 145 s ∧ t 7 s = u 148 s ∧ ∃ k, k < 2 ^ Wd ∧ t 7 s = nI k
def Pst (t u : St) (S I U T : Nat) : Prop :=
  t 15 1 = nI T ∧ T < 16 ∧ t 15 2 = nI U ∧ u 144 28 = nI U ∧ U ≤ 16 ∧ ∀ j, j < U → Hal t (54 + 5 * ((T + 16 - U + j) % 16)) (fun k => u 157 (29 * j + k)) S I ∧ HalB (fun k => u 157 (29 * j + k)) S
def Img (t u : St) (S I : Nat) : Prop :=
  ∀ i, i < 2 → t (18 + i) 2 = u 165 i ∧ (u 165 i = 0 ∨ u 165 i = 1 ∧ Hal t (134 + 5 * i) (fun k => u 164 (30 * i + k)) S I ∧ HalB (fun k => u 164 (30 * i + k)) S ∧ t (18 + i) 1 = u 164 (30 * i + 29) ∧ ∃ g, g < 2 ^ 31 ∧ t (18 + i) 1 = nI g)
def Led (t u : St) (S Np Ne : Nat) : Prop :=
  t 20 4 = nI Np ∧ u 144 32 = nI Np ∧ Np ≤ 6 ∧ (∀ i, i < Np → t 21 i = u 160 i ∧ t 22 i = u 161 i) ∧ t 20 5 = nI Ne ∧ u 144 35 = nI Ne ∧ Ne ≤ 15 ∧ ∀ i, i < Ne → t 23 i = u 162 i ∧ t 24 i = u 163 i ∧ ∃ s, s < S ∧ t 23 i = nI s
def Drw (t u : St) : Prop := ∃ g, g < 2 ^ 31 ∧ t 43 0 = nI g ∧ u 144 11 = nI g
def InvP (t u : St) (S I P Wd U T Np Ne n : Nat) : Prop :=
  Txt t u n ∧ Reg t u S I P Wd ∧ Hal t 44 (u 150) S I ∧ HalB (u 150) S ∧ Pst t u S I U T ∧ Img t u S I ∧ Led t u S Np Ne ∧ Drw t u
def Inv (t u : St) : Prop := ∃ S I P Wd U T Np Ne n, InvP t u S I P Wd U T Np Ne n
/-- the class's cells alone have changed; the reference's alone -/
def Cl (t t' : St) : Prop := ∀ o, 144 ≤ o → t' o = t o
def Mo (u u' : St) : Prop := ∀ o, o < 144 → u' o = u o
theorem Inv_u {t u u' : St} (h : Inv t u) (e : ∀ o, 144 ≤ o → u' o = u o) : Inv t u' := by
  obtain ⟨S, I, P, Wd, U, T, Np, Ne, n, h⟩ := h
  refine ⟨S, I, P, Wd, U, T, Np, Ne, n, ?_⟩
  unfold InvP Txt Reg Pst Img Led Drw at h ⊢
  rw [e 144 (by omega), e 145 (by omega), e 148 (by omega), e 150 (by omega), e 151 (by omega), e 157 (by omega), e 160 (by omega), e 161 (by omega), e 162 (by omega), e 163 (by omega), e 164 (by omega), e 165 (by omega)]
  exact h
theorem Inv_t {t t' u : St} (h : Inv t u) (e : ∀ o, o < 144 → t' o = t o) : Inv t' u := by
  obtain ⟨S, I, P, Wd, U, T, Np, Ne, n, h⟩ := h
  refine ⟨S, I, P, Wd, U, T, Np, Ne, n, ?_⟩
  obtain ⟨h1, h2, h3, h4, h5, h6, h7, h8⟩ := h
  have hal : ∀ h, h < 140 → ∀ w, Hal t h w S I → Hal t' h w S I := by
    intro h hh w H
    unfold Hal at H ⊢
    rw [e h (by omega), e (h + 1) (by omega), e (h + 2) (by omega), e (h + 3) (by omega), e (h + 4) (by omega)]
    exact H
  refine ⟨?_, ?_, hal 44 (by omega) _ h3, h4, ?_, ?_, ?_, ?_⟩
  · unfold Txt at h1 ⊢
    rw [e 1 (by omega), e 2 (by omega)]
    exact h1
  · unfold Reg at h2 ⊢
    rw [e 3 (by omega), e 4 (by omega), e 7 (by omega)]
    exact h2
  · obtain ⟨a1, a2, a3, a4, a5, a6⟩ := h5
    refine ⟨by rw [e 15 (by omega)]; exact a1, a2, by rw [e 15 (by omega)]; exact a3, a4, a5, fun j hj => ⟨hal _ (by omega) _ (a6 j hj).1, (a6 j hj).2⟩⟩
  · intro i hi
    obtain ⟨a1, a2⟩ := h6 i hi
    refine ⟨by rw [e (18 + i) (by omega)]; exact a1, ?_⟩
    rcases a2 with a2 | ⟨a2, a3, a4, a5, a6⟩
    · exact Or.inl a2
    · exact Or.inr ⟨a2, hal _ (by omega) _ a3, a4, by rw [e (18 + i) (by omega)]; exact a5, by rw [e (18 + i) (by omega)]; exact a6⟩
  · unfold Led at h7 ⊢
    rw [e 20 (by omega), e 21 (by omega), e 22 (by omega), e 23 (by omega), e 24 (by omega)]
    exact h7
  · unfold Drw at h8 ⊢
    rw [e 43 (by omega)]
    exact h8
theorem Inv_0 : Inv t0 t0 := by
  refine ⟨0, 0, 0, 0, 0, 0, 0, 0, 0, ?_⟩
  refine ⟨⟨rfl, rfl, by decide, fun i h => absurd h (by omega), rfl⟩, ⟨rfl, rfl, by decide, rfl, rfl, by decide, rfl, rfl, by decide, rfl, rfl, by decide, fun _ => ⟨rfl, rfl, rfl⟩, fun h => absurd h (by omega), fun s h => absurd h (by omega)⟩, ⟨rfl, rfl, rfl, rfl, fun s h => absurd h (by omega), fun i h => absurd h (by omega)⟩, ⟨⟨0, by decide, rfl⟩, ⟨0, by decide, rfl⟩, ⟨0, by decide, rfl⟩, fun s h => absurd h (by omega)⟩, ⟨rfl, by decide, rfl, rfl, by decide, fun j h => absurd h (by omega)⟩, ?_, ⟨rfl, rfl, by decide, fun i h => absurd h (by omega), rfl, rfl, by decide, fun i h => absurd h (by omega)⟩, ⟨0, by decide, rfl, rfl⟩⟩
  intro i hi
  rcases (show i = 0 ∨ i = 1 by omega) with rfl | rfl
  · exact ⟨rfl, Or.inl rfl⟩
  · exact ⟨rfl, Or.inl rfl⟩
