/-! the relation between the class's cells and the reference's -/
theorem upR_s (t : St) (o : Nat) (r : Nat → Int32) : upR t o r o = r := by simp [upR]
theorem upR_n {t : St} {o a : Nat} {r : Nat → Int32} (h : a ≠ o) : upR t o r a = t a := by simp [upR, h]
theorem upR_upR (t : St) (o : Nat) (r q : Nat → Int32) : upR (upR t o r) o q = upR t o q := by
  funext a
  by_cases h : a = o <;> simp [upR, h]
theorem upR_id (t : St) (o : Nat) : upR t o (t o) = t := by
  funext a
  by_cases h : a = o <;> simp [upR, h]
theorem up_s (t : St) (o k : Nat) (x : Int32) : up t o k x o = upd (t o) k x := upR_s _ _ _
theorem up_n {t : St} {o k a : Nat} {x : Int32} (h : a ≠ o) : up t o k x a = t a := upR_n h
theorem up_def (t : St) (o k : Nat) (x : Int32) : up t o k x = upR t o (upd (t o) k x) := rfl
theorem up_upR (t : St) (o k : Nat) (r : Nat → Int32) (x : Int32) : up (upR t o r) o k x = upR t o (upd r k x) := by
  rw [up_def, upR_s, upR_upR]
theorem upd_s (f : Nat → Int32) (k : Nat) (x : Int32) : upd f k x k = x := by simp [upd]
theorem upd_n {f : Nat → Int32} {k j : Nat} {x : Int32} (h : j ≠ k) : upd f k x j = f j := by simp [upd, h]
theorem gd_k {α : Type} {k n : Nat} {K : Option α} (h : k < n) (hn : n < 2 ^ 31) : gd (nI k) n K = K := by
  unfold gd
  rw [if_neg (nI_in h hn)]
theorem gd_lit {α : Type} {i : Int32} {n : Nat} {K : Option α} (h : ¬ (i < 0 ∨ n ≤ i.toNatClampNeg)) : gd i n K = K := if_neg h
theorem cl_k {k : Nat} (h : k < 2 ^ 31) : (nI k).toNatClampNeg = k := nI_clamp h
theorem le_k {a b : Nat} (ha : a < 2 ^ 31) (hb : b < 2 ^ 31) : (nI a ≤ nI b) = (a ≤ b) := propext (nI_leI ha hb)
theorem lt_k {a b : Nat} (ha : a < 2 ^ 31) (hb : b < 2 ^ 31) : (nI a < nI b) = (a < b) := propext (nI_ltI ha hb)
theorem eq_k {a b : Nat} (ha : a < 2 ^ 31) (hb : b < 2 ^ 31) : (nI a = nI b) = (a = b) := propext (nI_eq ha hb)
theorem bind_s {α β : Type} (a : α) (f : α → Option β) : (some a).bind f = f a := rfl
theorem bd2_s {α β γ : Type} (a : α) (b : β) (f : α → β → Option γ) : bd2 (some (a, b)) f = f a b := rfl
theorem gb0 {α : Type} (K : Option α) : gb 0 K = K := rfl
theorem gb1 {α : Type} (K : Option α) : gb 1 K = K := rfl
/-- a hall and a row of the reference: the same -/
def Hal (t : St) (h : Nat) (w : Nat → Int32) (S I : Nat) : Prop :=
  t h 1 = w 25 ∧ t h 2 = w 28 ∧ t h 3 = w 26 ∧ t h 4 = w 27 ∧ (∀ s, s < S → t (h + 1) s = w s ∧ t (h + 2) s = w (7 + s) ∧ t (h + 3) s = w (14 + s)) ∧ ∀ i, i < I → t (h + 4) i = w (21 + i)
/-- the same but for treasury, verses, caught -/
def HalX (t : St) (h : Nat) (w : Nat → Int32) (S I : Nat) : Prop :=
  t h 1 = w 25 ∧ True ∧ True ∧ True ∧ (∀ s, s < S → t (h + 1) s = w s ∧ t (h + 2) s = w (7 + s) ∧ t (h + 3) s = w (14 + s)) ∧ ∀ i, i < I → t (h + 4) i = w (21 + i)
theorem Hal.x {t : St} {h : Nat} {w : Nat → Int32} {S I : Nat} (H : Hal t h w S I) : HalX t h w S I := ⟨H.1, trivial, trivial, trivial, H.2.2.2.2⟩
/-- the bounds of such a row -/
def HalB (w : Nat → Int32) (S : Nat) : Prop :=
  (∃ r, r ≤ 9 ∧ w 25 = nI r) ∧ (∃ r, r ≤ 999999 ∧ w 26 = nI r) ∧ (∃ r, r ≤ 9999 ∧ w 27 = nI r) ∧ ∀ s, s < S → (∃ r, r ≤ 9999 ∧ w (7 + s) = nI r) ∧ (w (14 + s) = -1 ∨ ∃ r, r ≤ 7 ∧ w (14 + s) = nI r)
def Txt (t : St) (n : Nat) : Prop := t 1 1 = nI n ∧ t 144 13 = nI n ∧ n ≤ 240 ∧ (∀ i, i < n → t 2 i = t 151 i) ∧ t 1 4 = t 144 14
def Reg (t u : St) (S I P Wd : Nat) : Prop :=
  t 3 1 = nI P ∧ u 144 1 = nI P ∧ P ≤ 4 ∧ t 3 2 = nI Wd ∧ u 144 2 = nI Wd ∧ Wd ≤ 9 ∧ t 3 3 = nI S ∧ u 144 3 = nI S ∧ S ≤ 7 ∧ t 3 4 = nI I ∧ u 144 8 = nI I ∧ I ≤ 4 ∧
  (P = 0 → S = 0 ∧ I = 0 ∧ Wd = 0) ∧ (0 < P → 0 < Wd) ∧ ∀ s, s < S → t 4 s = u 145 s ∧ t 7 s = u 148 s ∧ ∃ k, k < 2 ^ Wd ∧ t 7 s = nI k
def Pst (t : St) (S I U T : Nat) : Prop :=
  t 15 1 = nI T ∧ T < 16 ∧ t 15 2 = nI U ∧ t 144 28 = nI U ∧ U ≤ 16 ∧ ∀ j, j < U → Hal t (54 + 5 * ((T + 16 - U + j) % 16)) (fun k => t 157 (29 * j + k)) S I ∧ HalB (fun k => t 157 (29 * j + k)) S
def Img (t : St) (S I : Nat) : Prop :=
  ∀ i, i < 2 → t (18 + i) 2 = t 165 i ∧ (t 165 i = 0 ∨ t 165 i = 1 ∧ Hal t (134 + 5 * i) (fun k => t 164 (30 * i + k)) S I ∧ HalB (fun k => t 164 (30 * i + k)) S ∧ t (18 + i) 1 = t 164 (30 * i + 29) ∧ ∃ g, g < 2 ^ 31 ∧ t (18 + i) 1 = nI g)
def Led (t : St) (S Np Ne : Nat) : Prop :=
  t 20 4 = nI Np ∧ t 144 32 = nI Np ∧ Np ≤ 6 ∧ (∀ i, i < Np → t 21 i = t 160 i ∧ t 22 i = t 161 i) ∧ t 20 5 = nI Ne ∧ t 144 35 = nI Ne ∧ Ne ≤ 15 ∧ ∀ i, i < Ne → t 23 i = t 162 i ∧ t 24 i = t 163 i ∧ ∃ s, s < S ∧ t 23 i = nI s
def Drw (t : St) : Prop := t 43 0 = t 144 11 ∧ ∃ g, g < 2 ^ 31 ∧ t 43 0 = nI g
def InvP (t : St) (S I P Wd U T Np Ne n : Nat) : Prop :=
  Txt t n ∧ Reg t t S I P Wd ∧ Hal t 44 (t 150) S I ∧ HalB (t 150) S ∧ Pst t S I U T ∧ Img t S I ∧ Led t S Np Ne ∧ Drw t
def Inv (t : St) : Prop := ∃ S I P Wd U T Np Ne n, InvP t S I P Wd U T Np Ne n
theorem Inv_0 : Inv t0 := by
  refine ⟨0, 0, 0, 0, 0, 0, 0, 0, 0, ?_⟩
  refine ⟨⟨rfl, rfl, by decide, fun i h => absurd h (by omega), rfl⟩, ⟨rfl, rfl, by decide, rfl, rfl, by decide, rfl, rfl, by decide, rfl, rfl, by decide, fun _ => ⟨rfl, rfl, rfl⟩, fun h => absurd h (by omega), fun s h => absurd h (by omega)⟩, ⟨rfl, rfl, rfl, rfl, fun s h => absurd h (by omega), fun i h => absurd h (by omega)⟩, ⟨⟨0, by decide, rfl⟩, ⟨0, by decide, rfl⟩, ⟨0, by decide, rfl⟩, fun s h => absurd h (by omega)⟩, ⟨rfl, by decide, rfl, rfl, by decide, fun j h => absurd h (by omega)⟩, ?_, ⟨rfl, rfl, by decide, fun i h => absurd h (by omega), rfl, rfl, by decide, fun i h => absurd h (by omega)⟩, ⟨rfl, 0, by decide, rfl⟩⟩
  intro i hi
  rcases (show i = 0 ∨ i = 1 by omega) with rfl | rfl
  · exact ⟨rfl, Or.inl rfl⟩
  · exact ⟨rfl, Or.inl rfl⟩
