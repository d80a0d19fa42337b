/-! the cells by their numbers -/
def isHall (h : Nat) : Prop := 44 ≤ h ∧ h < 144 ∧ (h - 44) % 5 = 0
def isReg (g : Nat) : Prop := g = 3 ∨ g = 9
def isImg (g : Nat) : Prop := g = 18 ∨ g = 19
theorem hall_lt {h : Nat} (hh : isHall h) : h < NC := Nat.lt_trans hh.2.1 (by decide)
theorem ceX3 {X : Cx} {h : Nat} (hh : isHall h) (r : Nat → Int32) : cE X h r = .inr (3, [.ref (X.2.1 3), .int (r 1), .int (r 2), .int (r 3), .int (r 4), .ref (X.2.1 (h + 1)), .ref (X.2.1 (h + 2)), .ref (X.2.1 (h + 3)), .ref (X.2.1 (h + 4))]) := by
  unfold cE
  rw [if_pos ⟨hh.1, hh.2.1⟩, if_pos hh.2.2]
theorem iaX3_1 {X : Cx} {h : Nat} (hh : isHall h) : isI X (h + 1) 7 := by
  obtain ⟨h1, h2, h3⟩ := hh
  refine ⟨by show h + 1 < 166; omega, fun r => ?_⟩
  unfold cE
  rw [if_pos ⟨by omega, by omega⟩, if_neg (by omega)]
  rw [if_neg (by omega)]
theorem iaX3_2 {X : Cx} {h : Nat} (hh : isHall h) : isI X (h + 2) 7 := by
  obtain ⟨h1, h2, h3⟩ := hh
  refine ⟨by show h + 2 < 166; omega, fun r => ?_⟩
  unfold cE
  rw [if_pos ⟨by omega, by omega⟩, if_neg (by omega)]
  rw [if_neg (by omega)]
theorem iaX3_3 {X : Cx} {h : Nat} (hh : isHall h) : isI X (h + 3) 7 := by
  obtain ⟨h1, h2, h3⟩ := hh
  refine ⟨by show h + 3 < 166; omega, fun r => ?_⟩
  unfold cE
  rw [if_pos ⟨by omega, by omega⟩, if_neg (by omega)]
  rw [if_neg (by omega)]
theorem iaX3_4 {X : Cx} {h : Nat} (hh : isHall h) : isI X (h + 4) 4 := by
  obtain ⟨h1, h2, h3⟩ := hh
  refine ⟨by show h + 4 < 166; omega, fun r => ?_⟩
  unfold cE
  rw [if_pos ⟨by omega, by omega⟩, if_neg (by omega)]
  rw [if_pos (by omega)]
theorem reg_lt {h : Nat} (hh : isReg h) : h < NC := by
  rcases hh with rfl | rfl <;> decide
theorem ceX8 {X : Cx} {h : Nat} (hh : isReg h) (r : Nat → Int32) : cE X h r = .inr (8, [.int (r 0), .int (r 1), .int (r 2), .int (r 3), .int (r 4), .ref (X.2.1 (h + 1)), .ref (X.2.1 (h + 2)), .ref (X.2.1 (h + 3)), .ref (X.2.1 (h + 4)), .ref (X.2.1 (h + 5))]) := by
  rcases hh with rfl | rfl <;> rfl
theorem iaX8_1 {X : Cx} {h : Nat} (hh : isReg h) : isI X (h + 1) 7 := by
  rcases hh with rfl | rfl <;> exact ⟨by decide, fun r => rfl⟩
theorem iaX8_2 {X : Cx} {h : Nat} (hh : isReg h) : isI X (h + 2) 7 := by
  rcases hh with rfl | rfl <;> exact ⟨by decide, fun r => rfl⟩
theorem iaX8_3 {X : Cx} {h : Nat} (hh : isReg h) : isI X (h + 3) 7 := by
  rcases hh with rfl | rfl <;> exact ⟨by decide, fun r => rfl⟩
theorem iaX8_4 {X : Cx} {h : Nat} (hh : isReg h) : isI X (h + 4) 7 := by
  rcases hh with rfl | rfl <;> exact ⟨by decide, fun r => rfl⟩
theorem iaX8_5 {X : Cx} {h : Nat} (hh : isReg h) : isI X (h + 5) 4 := by
  rcases hh with rfl | rfl <;> exact ⟨by decide, fun r => rfl⟩
theorem img_lt {h : Nat} (hh : isImg h) : h < NC := by
  rcases hh with rfl | rfl <;> decide
theorem ceX4 {X : Cx} {h : Nat} (hh : isImg h) (r : Nat → Int32) : cE X h r = .inr (4, [.ref (X.2.1 (imgH h)), .int (r 1), .int (r 2)]) := by
  rcases hh with rfl | rfl <;> rfl
theorem img_hall {h : Nat} (hh : isImg h) : isHall (imgH h) := by
  rcases hh with rfl | rfl <;> exact ⟨by decide, by decide, by decide⟩
theorem ceX10 {X : Cx} (r : Nat → Int32) : cE X 0 r = .inr (10, [.ref (X.2.1 1), .ref (X.2.1 9), .ref (X.2.1 3), .ref (X.2.1 44), .ref (X.2.1 49), .ref (X.2.1 15), .ref (X.2.1 17), .ref (X.2.1 20), .ref (X.2.1 25), .ref (X.2.1 27), .ref (X.2.1 39), .ref (X.2.1 43)]) := rfl
theorem ceX7 {X : Cx} (r : Nat → Int32) : cE X 1 r = .inr (7, [.ref (X.2.1 2), .int (r 1), .int (r 2), .int (r 3), .int (r 4)]) := rfl
theorem ceX6 {X : Cx} (r : Nat → Int32) : cE X 15 r = .inr (6, [.ref (X.2.1 16), .int (r 1), .int (r 2)]) := rfl
theorem ceX5 {X : Cx} (r : Nat → Int32) : cE X 20 r = .inr (5, [.ref (X.2.1 21), .ref (X.2.1 22), .ref (X.2.1 23), .ref (X.2.1 24), .int (r 4), .int (r 5)]) := rfl
theorem ceX0 {X : Cx} (r : Nat → Int32) : cE X 25 r = .inr (0, [.int (r 0), .int (r 1), .ref (X.2.1 26)]) := rfl
theorem ceX9 {X : Cx} (r : Nat → Int32) : cE X 27 r = .inr (9, [.ref (X.2.1 3), .ref (X.2.1 28), .ref (X.2.1 38), .int (r 3)]) := rfl
theorem ceX2 {X : Cx} (r : Nat → Int32) : cE X 39 r = .inr (2, [.ref (X.2.1 3), .ref (X.2.1 40), .ref (X.2.1 41), .ref (X.2.1 42), .int (r 4), .int (r 5)]) := rfl
theorem ceX1 {X : Cx} (r : Nat → Int32) : cE X 43 r = .inr (1, [.int (r 0)]) := rfl
theorem ceX11 {X : Cx} (r : Nat → Int32) : cE X 144 r = .inr (11, [.int (r 0), .int (r 1), .int (r 2), .int (r 3), .ref (X.2.1 145), .ref (X.2.1 146), .ref (X.2.1 147), .ref (X.2.1 148), .int (r 8), .ref (X.2.1 149), .ref (X.2.1 150), .int (r 11), .ref (X.2.1 151), .int (r 13), .int (r 14), .int (r 15), .int (r 16), .int (r 17), .int (r 18), .int (r 19), .int (r 20), .int (r 21), .ref (X.2.1 152), .ref (X.2.1 153), .ref (X.2.1 154), .ref (X.2.1 155), .int (r 26), .ref (X.2.1 156), .int (r 28), .ref (X.2.1 157), .ref (X.2.1 158), .ref (X.2.1 159), .int (r 32), .ref (X.2.1 160), .ref (X.2.1 161), .int (r 35), .ref (X.2.1 162), .ref (X.2.1 163), .ref (X.2.1 164), .ref (X.2.1 165)]) := rfl
theorem ia_2 {X : Cx} : isI X 2 240 := ⟨by decide, fun r => rfl⟩
theorem ia_4 {X : Cx} : isI X 4 7 := ⟨by decide, fun r => rfl⟩
theorem ia_5 {X : Cx} : isI X 5 7 := ⟨by decide, fun r => rfl⟩
theorem ia_6 {X : Cx} : isI X 6 7 := ⟨by decide, fun r => rfl⟩
theorem ia_7 {X : Cx} : isI X 7 7 := ⟨by decide, fun r => rfl⟩
theorem ia_8 {X : Cx} : isI X 8 4 := ⟨by decide, fun r => rfl⟩
theorem ia_10 {X : Cx} : isI X 10 7 := ⟨by decide, fun r => rfl⟩
theorem ia_11 {X : Cx} : isI X 11 7 := ⟨by decide, fun r => rfl⟩
theorem ia_12 {X : Cx} : isI X 12 7 := ⟨by decide, fun r => rfl⟩
theorem ia_13 {X : Cx} : isI X 13 7 := ⟨by decide, fun r => rfl⟩
theorem ia_14 {X : Cx} : isI X 14 4 := ⟨by decide, fun r => rfl⟩
theorem ia_21 {X : Cx} : isI X 21 6 := ⟨by decide, fun r => rfl⟩
theorem ia_22 {X : Cx} : isI X 22 6 := ⟨by decide, fun r => rfl⟩
theorem ia_23 {X : Cx} : isI X 23 15 := ⟨by decide, fun r => rfl⟩
theorem ia_24 {X : Cx} : isI X 24 15 := ⟨by decide, fun r => rfl⟩
theorem ia_26 {X : Cx} : isI X 26 7 := ⟨by decide, fun r => rfl⟩
theorem ia_29 {X : Cx} : isI X 29 7 := ⟨by decide, fun r => rfl⟩
theorem ia_30 {X : Cx} : isI X 30 7 := ⟨by decide, fun r => rfl⟩
theorem ia_31 {X : Cx} : isI X 31 7 := ⟨by decide, fun r => rfl⟩
theorem ia_32 {X : Cx} : isI X 32 7 := ⟨by decide, fun r => rfl⟩
theorem ia_33 {X : Cx} : isI X 33 7 := ⟨by decide, fun r => rfl⟩
theorem ia_34 {X : Cx} : isI X 34 7 := ⟨by decide, fun r => rfl⟩
theorem ia_35 {X : Cx} : isI X 35 7 := ⟨by decide, fun r => rfl⟩
theorem ia_36 {X : Cx} : isI X 36 7 := ⟨by decide, fun r => rfl⟩
theorem ia_37 {X : Cx} : isI X 37 7 := ⟨by decide, fun r => rfl⟩
theorem ia_38 {X : Cx} : isI X 38 9 := ⟨by decide, fun r => rfl⟩
theorem ia_40 {X : Cx} : isI X 40 7 := ⟨by decide, fun r => rfl⟩
theorem ia_41 {X : Cx} : isI X 41 4096 := ⟨by decide, fun r => rfl⟩
theorem ia_42 {X : Cx} : isI X 42 7 := ⟨by decide, fun r => rfl⟩
theorem ia_145 {X : Cx} : isI X 145 7 := ⟨by decide, fun r => rfl⟩
theorem ia_146 {X : Cx} : isI X 146 7 := ⟨by decide, fun r => rfl⟩
theorem ia_147 {X : Cx} : isI X 147 7 := ⟨by decide, fun r => rfl⟩
theorem ia_148 {X : Cx} : isI X 148 7 := ⟨by decide, fun r => rfl⟩
theorem ia_149 {X : Cx} : isI X 149 4 := ⟨by decide, fun r => rfl⟩
theorem ia_150 {X : Cx} : isI X 150 29 := ⟨by decide, fun r => rfl⟩
theorem ia_151 {X : Cx} : isI X 151 240 := ⟨by decide, fun r => rfl⟩
theorem ia_152 {X : Cx} : isI X 152 7 := ⟨by decide, fun r => rfl⟩
theorem ia_153 {X : Cx} : isI X 153 7 := ⟨by decide, fun r => rfl⟩
theorem ia_154 {X : Cx} : isI X 154 7 := ⟨by decide, fun r => rfl⟩
theorem ia_155 {X : Cx} : isI X 155 7 := ⟨by decide, fun r => rfl⟩
theorem ia_156 {X : Cx} : isI X 156 4 := ⟨by decide, fun r => rfl⟩
theorem ia_157 {X : Cx} : isI X 157 464 := ⟨by decide, fun r => rfl⟩
theorem ia_158 {X : Cx} : isI X 158 29 := ⟨by decide, fun r => rfl⟩
theorem ia_159 {X : Cx} : isI X 159 70 := ⟨by decide, fun r => rfl⟩
theorem ia_160 {X : Cx} : isI X 160 6 := ⟨by decide, fun r => rfl⟩
theorem ia_161 {X : Cx} : isI X 161 6 := ⟨by decide, fun r => rfl⟩
theorem ia_162 {X : Cx} : isI X 162 15 := ⟨by decide, fun r => rfl⟩
theorem ia_163 {X : Cx} : isI X 163 15 := ⟨by decide, fun r => rfl⟩
theorem ia_164 {X : Cx} : isI X 164 60 := ⟨by decide, fun r => rfl⟩
theorem za_165 {X : Cx} : isZ X 165 2 := ⟨by decide, fun r => rfl⟩
theorem qa_16 {X : Cx} : isQ X 16 16 2 (fun i => 54 + 5 * i) := ⟨by decide, fun r => rfl⟩
theorem qa_17 {X : Cx} : isQ X 17 2 3 (fun i => 18 + i) := ⟨by decide, fun r => rfl⟩
theorem qa_28 {X : Cx} : isQ X 28 9 4 (fun i => 29 + i) := ⟨by decide, fun r => rfl⟩
theorem hall_now : isHall 44 := ⟨by decide, by decide, by decide⟩
theorem hall_trial : isHall 49 := ⟨by decide, by decide, by decide⟩
theorem reg_3 : isReg 3 := Or.inl rfl
theorem reg_9 : isReg 9 := Or.inr rfl
theorem hall_ring {i : Int32} (h : vp_in i 16) : isHall (54 + 5 * i.toNatClampNeg) := by
  have : i.toNatClampNeg < 16 := Nat.not_le.mp fun q => h (Or.inr q)
  exact ⟨by omega, by omega, by omega⟩
theorem img_at {i : Int32} (h : vp_in i 2) : isImg (18 + i.toNatClampNeg) := by
  have : i.toNatClampNeg < 2 := Nat.not_le.mp fun q => h (Or.inr q)
  unfold isImg
  omega
theorem ia_ahead {X : Cx} {i : Int32} (h : vp_in i 9) : isI X (29 + i.toNatClampNeg) 7 := by
  have h9 : i.toNatClampNeg < 9 := Nat.not_le.mp fun q => h (Or.inr q)
  generalize i.toNatClampNeg = k at h9 ⊢
  rcases (show k = 0 ∨ k = 1 ∨ k = 2 ∨ k = 3 ∨ k = 4 ∨ k = 5 ∨ k = 6 ∨ k = 7 ∨ k = 8 by omega) with rfl | rfl | rfl | rfl | rfl | rfl | rfl | rfl | rfl
  · exact ia_29
  · exact ia_30
  · exact ia_31
  · exact ia_32
  · exact ia_33
  · exact ia_34
  · exact ia_35
  · exact ia_36
  · exact ia_37
theorem layX0 : ∀ w ∈ u_ws RX0 TX0 3, w ∈ W0 := lay_in (fun k hk => match k, hk with
  | 0, _ => tw_1 236 rfl rfl
  | 1, _ => tw_1 238 rfl rfl
  | 2, _ => tw_2 0 rfl rfl
  | k + 3, h => absurd h (by omega))
theorem layX1 : ∀ w ∈ u_ws RX1 TX1 1, w ∈ W0 := lay_in (fun k hk => match k, hk with
  | 0, _ => tw_2 61 rfl rfl
  | k + 1, h => absurd h (by omega))
theorem layX2 : ∀ w ∈ u_ws RX2 TX2 6, w ∈ W0 := lay_in (fun k hk => match k, hk with
  | 0, _ => tw_2 40 rfl rfl
  | 1, _ => tw_2 42 rfl rfl
  | 2, _ => tw_2 44 rfl rfl
  | 3, _ => tw_2 46 rfl rfl
  | 4, _ => tw_2 48 rfl rfl
  | 5, _ => tw_2 50 rfl rfl
  | k + 6, h => absurd h (by omega))
theorem layX3 : ∀ w ∈ u_ws RX3 TX3 9, w ∈ W0 := lay_in (fun k hk => match k, hk with
  | 0, _ => tw_1 120 rfl rfl
  | 1, _ => tw_1 122 rfl rfl
  | 2, _ => tw_1 124 rfl rfl
  | 3, _ => tw_1 126 rfl rfl
  | 4, _ => tw_1 128 rfl rfl
  | 5, _ => tw_1 130 rfl rfl
  | 6, _ => tw_1 132 rfl rfl
  | 7, _ => tw_1 134 rfl rfl
  | 8, _ => tw_1 136 rfl rfl
  | k + 9, h => absurd h (by omega))
theorem layX4 : ∀ w ∈ u_ws RX4 TX4 3, w ∈ W0 := lay_in (fun k hk => match k, hk with
  | 0, _ => tw_1 145 rfl rfl
  | 1, _ => tw_1 147 rfl rfl
  | 2, _ => tw_1 149 rfl rfl
  | k + 3, h => absurd h (by omega))
theorem layX5 : ∀ w ∈ u_ws RX5 TX5 6, w ∈ W0 := lay_in (fun k hk => match k, hk with
  | 0, _ => tw_1 212 rfl rfl
  | 1, _ => tw_1 214 rfl rfl
  | 2, _ => tw_1 216 rfl rfl
  | 3, _ => tw_1 218 rfl rfl
  | 4, _ => tw_1 220 rfl rfl
  | 5, _ => tw_1 222 rfl rfl
  | k + 6, h => absurd h (by omega))
theorem layX6 : ∀ w ∈ u_ws RX6 TX6 3, w ∈ W0 := lay_in (fun k hk => match k, hk with
  | 0, _ => tw_1 191 rfl rfl
  | 1, _ => tw_1 193 rfl rfl
  | 2, _ => tw_1 195 rfl rfl
  | k + 3, h => absurd h (by omega))
theorem layX7 : ∀ w ∈ u_ws RX7 TX7 5, w ∈ W0 := lay_in (fun k hk => match k, hk with
  | 0, _ => tw_1 165 rfl rfl
  | 1, _ => tw_1 167 rfl rfl
  | 2, _ => tw_1 169 rfl rfl
  | 3, _ => tw_1 171 rfl rfl
  | 4, _ => tw_1 173 rfl rfl
  | k + 5, h => absurd h (by omega))
theorem layX8 : ∀ w ∈ u_ws RX8 TX8 10, w ∈ W0 := lay_in (fun k hk => match k, hk with
  | 0, _ => tw_1 65 rfl rfl
  | 1, _ => tw_1 67 rfl rfl
  | 2, _ => tw_1 69 rfl rfl
  | 3, _ => tw_1 71 rfl rfl
  | 4, _ => tw_1 73 rfl rfl
  | 5, _ => tw_1 75 rfl rfl
  | 6, _ => tw_1 77 rfl rfl
  | 7, _ => tw_1 79 rfl rfl
  | 8, _ => tw_1 81 rfl rfl
  | 9, _ => tw_1 83 rfl rfl
  | k + 10, h => absurd h (by omega))
theorem layX9 : ∀ w ∈ u_ws RX9 TX9 4, w ∈ W0 := lay_in (fun k hk => match k, hk with
  | 0, _ => tw_2 17 rfl rfl
  | 1, _ => tw_2 19 rfl rfl
  | 2, _ => tw_2 21 rfl rfl
  | 3, _ => tw_2 23 rfl rfl
  | k + 4, h => absurd h (by omega))
theorem layX10 : ∀ w ∈ u_ws RX10 TX10 12, w ∈ W0 := lay_in (fun k hk => match k, hk with
  | 0, _ => tw_2 76 rfl rfl
  | 1, _ => tw_2 78 rfl rfl
  | 2, _ => tw_2 80 rfl rfl
  | 3, _ => tw_2 82 rfl rfl
  | 4, _ => tw_2 84 rfl rfl
  | 5, _ => tw_2 86 rfl rfl
  | 6, _ => tw_2 88 rfl rfl
  | 7, _ => tw_2 90 rfl rfl
  | 8, _ => tw_2 92 rfl rfl
  | 9, _ => tw_2 94 rfl rfl
  | 10, _ => tw_2 96 rfl rfl
  | 11, _ => tw_2 98 rfl rfl
  | k + 12, h => absurd h (by omega))
theorem layX11 : ∀ w ∈ u_ws RX11 TX11 40, w ∈ W0 := lay_in (fun k hk => match k, hk with
  | 0, _ => tw_4 130 rfl rfl
  | 1, _ => tw_4 132 rfl rfl
  | 2, _ => tw_4 134 rfl rfl
  | 3, _ => tw_4 136 rfl rfl
  | 4, _ => tw_4 138 rfl rfl
  | 5, _ => tw_4 140 rfl rfl
  | 6, _ => tw_4 142 rfl rfl
  | 7, _ => tw_4 144 rfl rfl
  | 8, _ => tw_4 146 rfl rfl
  | 9, _ => tw_4 148 rfl rfl
  | 10, _ => tw_4 150 rfl rfl
  | 11, _ => tw_4 152 rfl rfl
  | 12, _ => tw_4 154 rfl rfl
  | 13, _ => tw_4 156 rfl rfl
  | 14, _ => tw_4 158 rfl rfl
  | 15, _ => tw_4 160 rfl rfl
  | 16, _ => tw_4 162 rfl rfl
  | 17, _ => tw_4 164 rfl rfl
  | 18, _ => tw_4 166 rfl rfl
  | 19, _ => tw_4 168 rfl rfl
  | 20, _ => tw_4 170 rfl rfl
  | 21, _ => tw_4 172 rfl rfl
  | 22, _ => tw_4 174 rfl rfl
  | 23, _ => tw_4 176 rfl rfl
  | 24, _ => tw_4 178 rfl rfl
  | 25, _ => tw_4 180 rfl rfl
  | 26, _ => tw_4 182 rfl rfl
  | 27, _ => tw_4 184 rfl rfl
  | 28, _ => tw_4 186 rfl rfl
  | 29, _ => tw_4 188 rfl rfl
  | 30, _ => tw_4 190 rfl rfl
  | 31, _ => tw_4 192 rfl rfl
  | 32, _ => tw_4 194 rfl rfl
  | 33, _ => tw_4 196 rfl rfl
  | 34, _ => tw_4 198 rfl rfl
  | 35, _ => tw_4 200 rfl rfl
  | 36, _ => tw_4 202 rfl rfl
  | 37, _ => tw_4 204 rfl rfl
  | 38, _ => tw_4 206 rfl rfl
  | 39, _ => tw_4 208 rfl rfl
  | k + 40, h => absurd h (by omega))
section FR
variable {p : Program} {l : Launch} {e : Env} {R : Room} {s : State} {m : MethodId} {args : Array Value} {below : List Frame} {meth : Method} {c : Code} {H : Heap} {locs : List Loc} {cells slots : Nat} {Q : State → Prop}
variable {cc : ByteArray} {pc : Nat} {ls : Array Slot} {rest : List Value} {X : Cx} {t : St} {H0 : Heap} {nL : Nat}
theorem gX8_27 (B : Bx p s m args c cc nL X RX8) (hS : SS X t H0 H locs) {h : Nat} (hh : isReg h) (hdg : decode cc pc = .ok (.getfield 27, 3)) (kk : W p l e R s m args below meth c H locs cells slots Q (F0 m (pc + 3) ls (.int (t h 0) :: rest))) : W p l e R s m args below meth c H locs cells slots Q (F0 m pc ls (.ref (X.2.1 h) :: rest)) :=
  xg B hS layX8 (reg_lt hh) (ceX8 hh _) rfl 0 (by decide) (tw_1 30 rfl rfl) rfl rfl hdg kk
theorem pX8_27 (B : Bx p s m args c cc nL X RX8) (hS : SS X t H0 H locs) {h : Nat} (hh : isReg h) {x : Int32} (hdg : decode cc pc = .ok (.putfield 27, 3)) (kk : ∀ (H1 : Heap) (locs1 : List Loc), SS X (up t h 0 x) H0 H1 locs1 → W p l e R s m args below meth c H1 locs1 cells slots Q (F0 m (pc + 3) ls (rest))) : W p l e R s m args below meth c H locs cells slots Q (F0 m pc ls (.int x :: .ref (X.2.1 h) :: rest)) :=
  xp B hS layX8 tyX8 tyX8_ok nmX8 (reg_lt hh) (ceX8 hh _) rfl 0 (by decide) (tw_1 30 rfl rfl) rfl rfl rfl rfl rfl (Nat.le_of_ble_eq_true rfl) (ceX8 hh _) hdg kk
theorem gX3_41 (B : Bx p s m args c cc nL X RX3) (hS : SS X t H0 H locs) {h : Nat} (hh : isReg h) (hdg : decode cc pc = .ok (.getfield 41, 3)) (kk : W p l e R s m args below meth c H locs cells slots Q (F0 m (pc + 3) ls (.int (t h 0) :: rest))) : W p l e R s m args below meth c H locs cells slots Q (F0 m pc ls (.ref (X.2.1 h) :: rest)) :=
  xgN B hS layX8 (reg_lt hh) (ceX8 hh _) rfl 0 (by decide) (List.mem_of_getElem? (i := 1) rfl) rfl rfl hdg kk
theorem pX3_41 (B : Bx p s m args c cc nL X RX3) (hS : SS X t H0 H locs) {h : Nat} (hh : isReg h) {x : Int32} (hdg : decode cc pc = .ok (.putfield 41, 3)) (kk : ∀ (H1 : Heap) (locs1 : List Loc), SS X (up t h 0 x) H0 H1 locs1 → W p l e R s m args below meth c H1 locs1 cells slots Q (F0 m (pc + 3) ls (rest))) : W p l e R s m args below meth c H locs cells slots Q (F0 m pc ls (.int x :: .ref (X.2.1 h) :: rest)) :=
  xpN B hS layX8 tyX8 tyX8_ok nmX8 (reg_lt hh) (ceX8 hh _) rfl 0 (by decide) (List.mem_of_getElem? (i := 1) rfl) rfl rfl rfl rfl rfl (Nat.le_of_ble_eq_true rfl) (ceX8 hh _) hdg kk
theorem gX7_66 (B : Bx p s m args c cc nL X RX7) (hS : SS X t H0 H locs) {h : Nat} (hh : isReg h) (hdg : decode cc pc = .ok (.getfield 66, 3)) (kk : W p l e R s m args below meth c H locs cells slots Q (F0 m (pc + 3) ls (.int (t h 0) :: rest))) : W p l e R s m args below meth c H locs cells slots Q (F0 m pc ls (.ref (X.2.1 h) :: rest)) :=
  xgN B hS layX8 (reg_lt hh) (ceX8 hh _) rfl 0 (by decide) (List.mem_of_getElem? (i := 2) rfl) rfl rfl hdg kk
theorem pX7_66 (B : Bx p s m args c cc nL X RX7) (hS : SS X t H0 H locs) {h : Nat} (hh : isReg h) {x : Int32} (hdg : decode cc pc = .ok (.putfield 66, 3)) (kk : ∀ (H1 : Heap) (locs1 : List Loc), SS X (up t h 0 x) H0 H1 locs1 → W p l e R s m args below meth c H1 locs1 cells slots Q (F0 m (pc + 3) ls (rest))) : W p l e R s m args below meth c H locs cells slots Q (F0 m pc ls (.int x :: .ref (X.2.1 h) :: rest)) :=
  xpN B hS layX8 tyX8 tyX8_ok nmX8 (reg_lt hh) (ceX8 hh _) rfl 0 (by decide) (List.mem_of_getElem? (i := 2) rfl) rfl rfl rfl rfl rfl (Nat.le_of_ble_eq_true rfl) (ceX8 hh _) hdg kk
theorem gX8_31 (B : Bx p s m args c cc nL X RX8) (hS : SS X t H0 H locs) {h : Nat} (hh : isReg h) (hdg : decode cc pc = .ok (.getfield 31, 3)) (kk : W p l e R s m args below meth c H locs cells slots Q (F0 m (pc + 3) ls (.int (t h 1) :: rest))) : W p l e R s m args below meth c H locs cells slots Q (F0 m pc ls (.ref (X.2.1 h) :: rest)) :=
  xg B hS layX8 (reg_lt hh) (ceX8 hh _) rfl 1 (by decide) (tw_1 33 rfl rfl) rfl rfl hdg kk
theorem pX8_31 (B : Bx p s m args c cc nL X RX8) (hS : SS X t H0 H locs) {h : Nat} (hh : isReg h) {x : Int32} (hdg : decode cc pc = .ok (.putfield 31, 3)) (kk : ∀ (H1 : Heap) (locs1 : List Loc), SS X (up t h 1 x) H0 H1 locs1 → W p l e R s m args below meth c H1 locs1 cells slots Q (F0 m (pc + 3) ls (rest))) : W p l e R s m args below meth c H locs cells slots Q (F0 m pc ls (.int x :: .ref (X.2.1 h) :: rest)) :=
  xp B hS layX8 tyX8 tyX8_ok nmX8 (reg_lt hh) (ceX8 hh _) rfl 1 (by decide) (tw_1 33 rfl rfl) rfl rfl rfl rfl rfl (Nat.le_of_ble_eq_true rfl) (ceX8 hh _) hdg kk
theorem gX2_41 (B : Bx p s m args c cc nL X RX2) (hS : SS X t H0 H locs) {h : Nat} (hh : isReg h) (hdg : decode cc pc = .ok (.getfield 41, 3)) (kk : W p l e R s m args below meth c H locs cells slots Q (F0 m (pc + 3) ls (.int (t h 1) :: rest))) : W p l e R s m args below meth c H locs cells slots Q (F0 m pc ls (.ref (X.2.1 h) :: rest)) :=
  xgN B hS layX8 (reg_lt hh) (ceX8 hh _) rfl 1 (by decide) (List.mem_of_getElem? (i := 3) rfl) rfl rfl hdg kk
theorem pX2_41 (B : Bx p s m args c cc nL X RX2) (hS : SS X t H0 H locs) {h : Nat} (hh : isReg h) {x : Int32} (hdg : decode cc pc = .ok (.putfield 41, 3)) (kk : ∀ (H1 : Heap) (locs1 : List Loc), SS X (up t h 1 x) H0 H1 locs1 → W p l e R s m args below meth c H1 locs1 cells slots Q (F0 m (pc + 3) ls (rest))) : W p l e R s m args below meth c H locs cells slots Q (F0 m pc ls (.int x :: .ref (X.2.1 h) :: rest)) :=
  xpN B hS layX8 tyX8 tyX8_ok nmX8 (reg_lt hh) (ceX8 hh _) rfl 1 (by decide) (List.mem_of_getElem? (i := 3) rfl) rfl rfl rfl rfl rfl (Nat.le_of_ble_eq_true rfl) (ceX8 hh _) hdg kk
theorem gX7_69 (B : Bx p s m args c cc nL X RX7) (hS : SS X t H0 H locs) {h : Nat} (hh : isReg h) (hdg : decode cc pc = .ok (.getfield 69, 3)) (kk : W p l e R s m args below meth c H locs cells slots Q (F0 m (pc + 3) ls (.int (t h 1) :: rest))) : W p l e R s m args below meth c H locs cells slots Q (F0 m pc ls (.ref (X.2.1 h) :: rest)) :=
  xgN B hS layX8 (reg_lt hh) (ceX8 hh _) rfl 1 (by decide) (List.mem_of_getElem? (i := 4) rfl) rfl rfl hdg kk
theorem pX7_69 (B : Bx p s m args c cc nL X RX7) (hS : SS X t H0 H locs) {h : Nat} (hh : isReg h) {x : Int32} (hdg : decode cc pc = .ok (.putfield 69, 3)) (kk : ∀ (H1 : Heap) (locs1 : List Loc), SS X (up t h 1 x) H0 H1 locs1 → W p l e R s m args below meth c H1 locs1 cells slots Q (F0 m (pc + 3) ls (rest))) : W p l e R s m args below meth c H locs cells slots Q (F0 m pc ls (.int x :: .ref (X.2.1 h) :: rest)) :=
  xpN B hS layX8 tyX8 tyX8_ok nmX8 (reg_lt hh) (ceX8 hh _) rfl 1 (by decide) (List.mem_of_getElem? (i := 4) rfl) rfl rfl rfl rfl rfl (Nat.le_of_ble_eq_true rfl) (ceX8 hh _) hdg kk
theorem gX10_126 (B : Bx p s m args c cc nL X RX10) (hS : SS X t H0 H locs) {h : Nat} (hh : isReg h) (hdg : decode cc pc = .ok (.getfield 126, 3)) (kk : W p l e R s m args below meth c H locs cells slots Q (F0 m (pc + 3) ls (.int (t h 1) :: rest))) : W p l e R s m args below meth c H locs cells slots Q (F0 m pc ls (.ref (X.2.1 h) :: rest)) :=
  xgN B hS layX8 (reg_lt hh) (ceX8 hh _) rfl 1 (by decide) (List.mem_of_getElem? (i := 5) rfl) rfl rfl hdg kk
theorem pX10_126 (B : Bx p s m args c cc nL X RX10) (hS : SS X t H0 H locs) {h : Nat} (hh : isReg h) {x : Int32} (hdg : decode cc pc = .ok (.putfield 126, 3)) (kk : ∀ (H1 : Heap) (locs1 : List Loc), SS X (up t h 1 x) H0 H1 locs1 → W p l e R s m args below meth c H1 locs1 cells slots Q (F0 m (pc + 3) ls (rest))) : W p l e R s m args below meth c H locs cells slots Q (F0 m pc ls (.int x :: .ref (X.2.1 h) :: rest)) :=
  xpN B hS layX8 tyX8 tyX8_ok nmX8 (reg_lt hh) (ceX8 hh _) rfl 1 (by decide) (List.mem_of_getElem? (i := 5) rfl) rfl rfl rfl rfl rfl (Nat.le_of_ble_eq_true rfl) (ceX8 hh _) hdg kk
theorem gX3_82 (B : Bx p s m args c cc nL X RX3) (hS : SS X t H0 H locs) {h : Nat} (hh : isReg h) (hdg : decode cc pc = .ok (.getfield 82, 3)) (kk : W p l e R s m args below meth c H locs cells slots Q (F0 m (pc + 3) ls (.int (t h 1) :: rest))) : W p l e R s m args below meth c H locs cells slots Q (F0 m pc ls (.ref (X.2.1 h) :: rest)) :=
  xgN B hS layX8 (reg_lt hh) (ceX8 hh _) rfl 1 (by decide) (List.mem_of_getElem? (i := 6) rfl) rfl rfl hdg kk
theorem pX3_82 (B : Bx p s m args c cc nL X RX3) (hS : SS X t H0 H locs) {h : Nat} (hh : isReg h) {x : Int32} (hdg : decode cc pc = .ok (.putfield 82, 3)) (kk : ∀ (H1 : Heap) (locs1 : List Loc), SS X (up t h 1 x) H0 H1 locs1 → W p l e R s m args below meth c H1 locs1 cells slots Q (F0 m (pc + 3) ls (rest))) : W p l e R s m args below meth c H locs cells slots Q (F0 m pc ls (.int x :: .ref (X.2.1 h) :: rest)) :=
  xpN B hS layX8 tyX8 tyX8_ok nmX8 (reg_lt hh) (ceX8 hh _) rfl 1 (by decide) (List.mem_of_getElem? (i := 6) rfl) rfl rfl rfl rfl rfl (Nat.le_of_ble_eq_true rfl) (ceX8 hh _) hdg kk
theorem gX9_28 (B : Bx p s m args c cc nL X RX9) (hS : SS X t H0 H locs) {h : Nat} (hh : isReg h) (hdg : decode cc pc = .ok (.getfield 28, 3)) (kk : W p l e R s m args below meth c H locs cells slots Q (F0 m (pc + 3) ls (.int (t h 2) :: rest))) : W p l e R s m args below meth c H locs cells slots Q (F0 m pc ls (.ref (X.2.1 h) :: rest)) :=
  xgN B hS layX8 (reg_lt hh) (ceX8 hh _) rfl 2 (by decide) (List.mem_of_getElem? (i := 7) rfl) rfl rfl hdg kk
theorem pX9_28 (B : Bx p s m args c cc nL X RX9) (hS : SS X t H0 H locs) {h : Nat} (hh : isReg h) {x : Int32} (hdg : decode cc pc = .ok (.putfield 28, 3)) (kk : ∀ (H1 : Heap) (locs1 : List Loc), SS X (up t h 2 x) H0 H1 locs1 → W p l e R s m args below meth c H1 locs1 cells slots Q (F0 m (pc + 3) ls (rest))) : W p l e R s m args below meth c H locs cells slots Q (F0 m pc ls (.int x :: .ref (X.2.1 h) :: rest)) :=
  xpN B hS layX8 tyX8 tyX8_ok nmX8 (reg_lt hh) (ceX8 hh _) rfl 2 (by decide) (List.mem_of_getElem? (i := 7) rfl) rfl rfl rfl rfl rfl (Nat.le_of_ble_eq_true rfl) (ceX8 hh _) hdg kk
theorem gX8_34 (B : Bx p s m args c cc nL X RX8) (hS : SS X t H0 H locs) {h : Nat} (hh : isReg h) (hdg : decode cc pc = .ok (.getfield 34, 3)) (kk : W p l e R s m args below meth c H locs cells slots Q (F0 m (pc + 3) ls (.int (t h 2) :: rest))) : W p l e R s m args below meth c H locs cells slots Q (F0 m pc ls (.ref (X.2.1 h) :: rest)) :=
  xg B hS layX8 (reg_lt hh) (ceX8 hh _) rfl 2 (by decide) (tw_1 39 rfl rfl) rfl rfl hdg kk
theorem pX8_34 (B : Bx p s m args c cc nL X RX8) (hS : SS X t H0 H locs) {h : Nat} (hh : isReg h) {x : Int32} (hdg : decode cc pc = .ok (.putfield 34, 3)) (kk : ∀ (H1 : Heap) (locs1 : List Loc), SS X (up t h 2 x) H0 H1 locs1 → W p l e R s m args below meth c H1 locs1 cells slots Q (F0 m (pc + 3) ls (rest))) : W p l e R s m args below meth c H locs cells slots Q (F0 m pc ls (.int x :: .ref (X.2.1 h) :: rest)) :=
  xp B hS layX8 tyX8 tyX8_ok nmX8 (reg_lt hh) (ceX8 hh _) rfl 2 (by decide) (tw_1 39 rfl rfl) rfl rfl rfl rfl rfl (Nat.le_of_ble_eq_true rfl) (ceX8 hh _) hdg kk
theorem gX7_72 (B : Bx p s m args c cc nL X RX7) (hS : SS X t H0 H locs) {h : Nat} (hh : isReg h) (hdg : decode cc pc = .ok (.getfield 72, 3)) (kk : W p l e R s m args below meth c H locs cells slots Q (F0 m (pc + 3) ls (.int (t h 2) :: rest))) : W p l e R s m args below meth c H locs cells slots Q (F0 m pc ls (.ref (X.2.1 h) :: rest)) :=
  xgN B hS layX8 (reg_lt hh) (ceX8 hh _) rfl 2 (by decide) (List.mem_of_getElem? (i := 8) rfl) rfl rfl hdg kk
theorem pX7_72 (B : Bx p s m args c cc nL X RX7) (hS : SS X t H0 H locs) {h : Nat} (hh : isReg h) {x : Int32} (hdg : decode cc pc = .ok (.putfield 72, 3)) (kk : ∀ (H1 : Heap) (locs1 : List Loc), SS X (up t h 2 x) H0 H1 locs1 → W p l e R s m args below meth c H1 locs1 cells slots Q (F0 m (pc + 3) ls (rest))) : W p l e R s m args below meth c H locs cells slots Q (F0 m pc ls (.int x :: .ref (X.2.1 h) :: rest)) :=
  xpN B hS layX8 tyX8 tyX8_ok nmX8 (reg_lt hh) (ceX8 hh _) rfl 2 (by decide) (List.mem_of_getElem? (i := 8) rfl) rfl rfl rfl rfl rfl (Nat.le_of_ble_eq_true rfl) (ceX8 hh _) hdg kk
theorem gX10_129 (B : Bx p s m args c cc nL X RX10) (hS : SS X t H0 H locs) {h : Nat} (hh : isReg h) (hdg : decode cc pc = .ok (.getfield 129, 3)) (kk : W p l e R s m args below meth c H locs cells slots Q (F0 m (pc + 3) ls (.int (t h 2) :: rest))) : W p l e R s m args below meth c H locs cells slots Q (F0 m pc ls (.ref (X.2.1 h) :: rest)) :=
  xgN B hS layX8 (reg_lt hh) (ceX8 hh _) rfl 2 (by decide) (List.mem_of_getElem? (i := 9) rfl) rfl rfl hdg kk
theorem pX10_129 (B : Bx p s m args c cc nL X RX10) (hS : SS X t H0 H locs) {h : Nat} (hh : isReg h) {x : Int32} (hdg : decode cc pc = .ok (.putfield 129, 3)) (kk : ∀ (H1 : Heap) (locs1 : List Loc), SS X (up t h 2 x) H0 H1 locs1 → W p l e R s m args below meth c H1 locs1 cells slots Q (F0 m (pc + 3) ls (rest))) : W p l e R s m args below meth c H locs cells slots Q (F0 m pc ls (.int x :: .ref (X.2.1 h) :: rest)) :=
  xpN B hS layX8 tyX8 tyX8_ok nmX8 (reg_lt hh) (ceX8 hh _) rfl 2 (by decide) (List.mem_of_getElem? (i := 9) rfl) rfl rfl rfl rfl rfl (Nat.le_of_ble_eq_true rfl) (ceX8 hh _) hdg kk
theorem gX2_32 (B : Bx p s m args c cc nL X RX2) (hS : SS X t H0 H locs) {h : Nat} (hh : isReg h) (hdg : decode cc pc = .ok (.getfield 32, 3)) (kk : W p l e R s m args below meth c H locs cells slots Q (F0 m (pc + 3) ls (.int (t h 3) :: rest))) : W p l e R s m args below meth c H locs cells slots Q (F0 m pc ls (.ref (X.2.1 h) :: rest)) :=
  xgN B hS layX8 (reg_lt hh) (ceX8 hh _) rfl 3 (by decide) (List.mem_of_getElem? (i := 10) rfl) rfl rfl hdg kk
theorem pX2_32 (B : Bx p s m args c cc nL X RX2) (hS : SS X t H0 H locs) {h : Nat} (hh : isReg h) {x : Int32} (hdg : decode cc pc = .ok (.putfield 32, 3)) (kk : ∀ (H1 : Heap) (locs1 : List Loc), SS X (up t h 3 x) H0 H1 locs1 → W p l e R s m args below meth c H1 locs1 cells slots Q (F0 m (pc + 3) ls (rest))) : W p l e R s m args below meth c H locs cells slots Q (F0 m pc ls (.int x :: .ref (X.2.1 h) :: rest)) :=
  xpN B hS layX8 tyX8 tyX8_ok nmX8 (reg_lt hh) (ceX8 hh _) rfl 3 (by decide) (List.mem_of_getElem? (i := 10) rfl) rfl rfl rfl rfl rfl (Nat.le_of_ble_eq_true rfl) (ceX8 hh _) hdg kk
theorem gX8_37 (B : Bx p s m args c cc nL X RX8) (hS : SS X t H0 H locs) {h : Nat} (hh : isReg h) (hdg : decode cc pc = .ok (.getfield 37, 3)) (kk : W p l e R s m args below meth c H locs cells slots Q (F0 m (pc + 3) ls (.int (t h 3) :: rest))) : W p l e R s m args below meth c H locs cells slots Q (F0 m pc ls (.ref (X.2.1 h) :: rest)) :=
  xg B hS layX8 (reg_lt hh) (ceX8 hh _) rfl 3 (by decide) (tw_1 43 rfl rfl) rfl rfl hdg kk
theorem pX8_37 (B : Bx p s m args c cc nL X RX8) (hS : SS X t H0 H locs) {h : Nat} (hh : isReg h) {x : Int32} (hdg : decode cc pc = .ok (.putfield 37, 3)) (kk : ∀ (H1 : Heap) (locs1 : List Loc), SS X (up t h 3 x) H0 H1 locs1 → W p l e R s m args below meth c H1 locs1 cells slots Q (F0 m (pc + 3) ls (rest))) : W p l e R s m args below meth c H locs cells slots Q (F0 m pc ls (.int x :: .ref (X.2.1 h) :: rest)) :=
  xp B hS layX8 tyX8 tyX8_ok nmX8 (reg_lt hh) (ceX8 hh _) rfl 3 (by decide) (tw_1 43 rfl rfl) rfl rfl rfl rfl rfl (Nat.le_of_ble_eq_true rfl) (ceX8 hh _) hdg kk
theorem gX9_33 (B : Bx p s m args c cc nL X RX9) (hS : SS X t H0 H locs) {h : Nat} (hh : isReg h) (hdg : decode cc pc = .ok (.getfield 33, 3)) (kk : W p l e R s m args below meth c H locs cells slots Q (F0 m (pc + 3) ls (.int (t h 3) :: rest))) : W p l e R s m args below meth c H locs cells slots Q (F0 m pc ls (.ref (X.2.1 h) :: rest)) :=
  xgN B hS layX8 (reg_lt hh) (ceX8 hh _) rfl 3 (by decide) (List.mem_of_getElem? (i := 11) rfl) rfl rfl hdg kk
theorem pX9_33 (B : Bx p s m args c cc nL X RX9) (hS : SS X t H0 H locs) {h : Nat} (hh : isReg h) {x : Int32} (hdg : decode cc pc = .ok (.putfield 33, 3)) (kk : ∀ (H1 : Heap) (locs1 : List Loc), SS X (up t h 3 x) H0 H1 locs1 → W p l e R s m args below meth c H1 locs1 cells slots Q (F0 m (pc + 3) ls (rest))) : W p l e R s m args below meth c H locs cells slots Q (F0 m pc ls (.int x :: .ref (X.2.1 h) :: rest)) :=
  xpN B hS layX8 tyX8 tyX8_ok nmX8 (reg_lt hh) (ceX8 hh _) rfl 3 (by decide) (List.mem_of_getElem? (i := 11) rfl) rfl rfl rfl rfl rfl (Nat.le_of_ble_eq_true rfl) (ceX8 hh _) hdg kk
theorem gX10_117 (B : Bx p s m args c cc nL X RX10) (hS : SS X t H0 H locs) {h : Nat} (hh : isReg h) (hdg : decode cc pc = .ok (.getfield 117, 3)) (kk : W p l e R s m args below meth c H locs cells slots Q (F0 m (pc + 3) ls (.int (t h 3) :: rest))) : W p l e R s m args below meth c H locs cells slots Q (F0 m pc ls (.ref (X.2.1 h) :: rest)) :=
  xgN B hS layX8 (reg_lt hh) (ceX8 hh _) rfl 3 (by decide) (List.mem_of_getElem? (i := 12) rfl) rfl rfl hdg kk
theorem pX10_117 (B : Bx p s m args c cc nL X RX10) (hS : SS X t H0 H locs) {h : Nat} (hh : isReg h) {x : Int32} (hdg : decode cc pc = .ok (.putfield 117, 3)) (kk : ∀ (H1 : Heap) (locs1 : List Loc), SS X (up t h 3 x) H0 H1 locs1 → W p l e R s m args below meth c H1 locs1 cells slots Q (F0 m (pc + 3) ls (rest))) : W p l e R s m args below meth c H locs cells slots Q (F0 m pc ls (.int x :: .ref (X.2.1 h) :: rest)) :=
  xpN B hS layX8 tyX8 tyX8_ok nmX8 (reg_lt hh) (ceX8 hh _) rfl 3 (by decide) (List.mem_of_getElem? (i := 12) rfl) rfl rfl rfl rfl rfl (Nat.le_of_ble_eq_true rfl) (ceX8 hh _) hdg kk
theorem gX0_38 (B : Bx p s m args c cc nL X RX0) (hS : SS X t H0 H locs) {h : Nat} (hh : isReg h) (hdg : decode cc pc = .ok (.getfield 38, 3)) (kk : W p l e R s m args below meth c H locs cells slots Q (F0 m (pc + 3) ls (.int (t h 3) :: rest))) : W p l e R s m args below meth c H locs cells slots Q (F0 m pc ls (.ref (X.2.1 h) :: rest)) :=
  xgN B hS layX8 (reg_lt hh) (ceX8 hh _) rfl 3 (by decide) (List.mem_of_getElem? (i := 13) rfl) rfl rfl hdg kk
theorem pX0_38 (B : Bx p s m args c cc nL X RX0) (hS : SS X t H0 H locs) {h : Nat} (hh : isReg h) {x : Int32} (hdg : decode cc pc = .ok (.putfield 38, 3)) (kk : ∀ (H1 : Heap) (locs1 : List Loc), SS X (up t h 3 x) H0 H1 locs1 → W p l e R s m args below meth c H1 locs1 cells slots Q (F0 m (pc + 3) ls (rest))) : W p l e R s m args below meth c H locs cells slots Q (F0 m pc ls (.int x :: .ref (X.2.1 h) :: rest)) :=
  xpN B hS layX8 tyX8 tyX8_ok nmX8 (reg_lt hh) (ceX8 hh _) rfl 3 (by decide) (List.mem_of_getElem? (i := 13) rfl) rfl rfl rfl rfl rfl (Nat.le_of_ble_eq_true rfl) (ceX8 hh _) hdg kk
theorem gX7_52 (B : Bx p s m args c cc nL X RX7) (hS : SS X t H0 H locs) {h : Nat} (hh : isReg h) (hdg : decode cc pc = .ok (.getfield 52, 3)) (kk : W p l e R s m args below meth c H locs cells slots Q (F0 m (pc + 3) ls (.int (t h 3) :: rest))) : W p l e R s m args below meth c H locs cells slots Q (F0 m pc ls (.ref (X.2.1 h) :: rest)) :=
  xgN B hS layX8 (reg_lt hh) (ceX8 hh _) rfl 3 (by decide) (List.mem_of_getElem? (i := 14) rfl) rfl rfl hdg kk
theorem pX7_52 (B : Bx p s m args c cc nL X RX7) (hS : SS X t H0 H locs) {h : Nat} (hh : isReg h) {x : Int32} (hdg : decode cc pc = .ok (.putfield 52, 3)) (kk : ∀ (H1 : Heap) (locs1 : List Loc), SS X (up t h 3 x) H0 H1 locs1 → W p l e R s m args below meth c H1 locs1 cells slots Q (F0 m (pc + 3) ls (rest))) : W p l e R s m args below meth c H locs cells slots Q (F0 m pc ls (.int x :: .ref (X.2.1 h) :: rest)) :=
  xpN B hS layX8 tyX8 tyX8_ok nmX8 (reg_lt hh) (ceX8 hh _) rfl 3 (by decide) (List.mem_of_getElem? (i := 14) rfl) rfl rfl rfl rfl rfl (Nat.le_of_ble_eq_true rfl) (ceX8 hh _) hdg kk
theorem gX3_63 (B : Bx p s m args c cc nL X RX3) (hS : SS X t H0 H locs) {h : Nat} (hh : isReg h) (hdg : decode cc pc = .ok (.getfield 63, 3)) (kk : W p l e R s m args below meth c H locs cells slots Q (F0 m (pc + 3) ls (.int (t h 3) :: rest))) : W p l e R s m args below meth c H locs cells slots Q (F0 m pc ls (.ref (X.2.1 h) :: rest)) :=
  xgN B hS layX8 (reg_lt hh) (ceX8 hh _) rfl 3 (by decide) (List.mem_of_getElem? (i := 15) rfl) rfl rfl hdg kk
theorem pX3_63 (B : Bx p s m args c cc nL X RX3) (hS : SS X t H0 H locs) {h : Nat} (hh : isReg h) {x : Int32} (hdg : decode cc pc = .ok (.putfield 63, 3)) (kk : ∀ (H1 : Heap) (locs1 : List Loc), SS X (up t h 3 x) H0 H1 locs1 → W p l e R s m args below meth c H1 locs1 cells slots Q (F0 m (pc + 3) ls (rest))) : W p l e R s m args below meth c H locs cells slots Q (F0 m pc ls (.int x :: .ref (X.2.1 h) :: rest)) :=
  xpN B hS layX8 tyX8 tyX8_ok nmX8 (reg_lt hh) (ceX8 hh _) rfl 3 (by decide) (List.mem_of_getElem? (i := 15) rfl) rfl rfl rfl rfl rfl (Nat.le_of_ble_eq_true rfl) (ceX8 hh _) hdg kk
theorem gX8_40 (B : Bx p s m args c cc nL X RX8) (hS : SS X t H0 H locs) {h : Nat} (hh : isReg h) (hdg : decode cc pc = .ok (.getfield 40, 3)) (kk : W p l e R s m args below meth c H locs cells slots Q (F0 m (pc + 3) ls (.int (t h 4) :: rest))) : W p l e R s m args below meth c H locs cells slots Q (F0 m pc ls (.ref (X.2.1 h) :: rest)) :=
  xg B hS layX8 (reg_lt hh) (ceX8 hh _) rfl 4 (by decide) (tw_1 49 rfl rfl) rfl rfl hdg kk
theorem pX8_40 (B : Bx p s m args c cc nL X RX8) (hS : SS X t H0 H locs) {h : Nat} (hh : isReg h) {x : Int32} (hdg : decode cc pc = .ok (.putfield 40, 3)) (kk : ∀ (H1 : Heap) (locs1 : List Loc), SS X (up t h 4 x) H0 H1 locs1 → W p l e R s m args below meth c H1 locs1 cells slots Q (F0 m (pc + 3) ls (rest))) : W p l e R s m args below meth c H locs cells slots Q (F0 m pc ls (.int x :: .ref (X.2.1 h) :: rest)) :=
  xp B hS layX8 tyX8 tyX8_ok nmX8 (reg_lt hh) (ceX8 hh _) rfl 4 (by decide) (tw_1 49 rfl rfl) rfl rfl rfl rfl rfl (Nat.le_of_ble_eq_true rfl) (ceX8 hh _) hdg kk
theorem gX7_55 (B : Bx p s m args c cc nL X RX7) (hS : SS X t H0 H locs) {h : Nat} (hh : isReg h) (hdg : decode cc pc = .ok (.getfield 55, 3)) (kk : W p l e R s m args below meth c H locs cells slots Q (F0 m (pc + 3) ls (.int (t h 4) :: rest))) : W p l e R s m args below meth c H locs cells slots Q (F0 m pc ls (.ref (X.2.1 h) :: rest)) :=
  xgN B hS layX8 (reg_lt hh) (ceX8 hh _) rfl 4 (by decide) (List.mem_of_getElem? (i := 16) rfl) rfl rfl hdg kk
theorem pX7_55 (B : Bx p s m args c cc nL X RX7) (hS : SS X t H0 H locs) {h : Nat} (hh : isReg h) {x : Int32} (hdg : decode cc pc = .ok (.putfield 55, 3)) (kk : ∀ (H1 : Heap) (locs1 : List Loc), SS X (up t h 4 x) H0 H1 locs1 → W p l e R s m args below meth c H1 locs1 cells slots Q (F0 m (pc + 3) ls (rest))) : W p l e R s m args below meth c H locs cells slots Q (F0 m pc ls (.int x :: .ref (X.2.1 h) :: rest)) :=
  xpN B hS layX8 tyX8 tyX8_ok nmX8 (reg_lt hh) (ceX8 hh _) rfl 4 (by decide) (List.mem_of_getElem? (i := 16) rfl) rfl rfl rfl rfl rfl (Nat.le_of_ble_eq_true rfl) (ceX8 hh _) hdg kk
theorem gX10_132 (B : Bx p s m args c cc nL X RX10) (hS : SS X t H0 H locs) {h : Nat} (hh : isReg h) (hdg : decode cc pc = .ok (.getfield 132, 3)) (kk : W p l e R s m args below meth c H locs cells slots Q (F0 m (pc + 3) ls (.int (t h 4) :: rest))) : W p l e R s m args below meth c H locs cells slots Q (F0 m pc ls (.ref (X.2.1 h) :: rest)) :=
  xgN B hS layX8 (reg_lt hh) (ceX8 hh _) rfl 4 (by decide) (List.mem_of_getElem? (i := 17) rfl) rfl rfl hdg kk
theorem pX10_132 (B : Bx p s m args c cc nL X RX10) (hS : SS X t H0 H locs) {h : Nat} (hh : isReg h) {x : Int32} (hdg : decode cc pc = .ok (.putfield 132, 3)) (kk : ∀ (H1 : Heap) (locs1 : List Loc), SS X (up t h 4 x) H0 H1 locs1 → W p l e R s m args below meth c H1 locs1 cells slots Q (F0 m (pc + 3) ls (rest))) : W p l e R s m args below meth c H locs cells slots Q (F0 m pc ls (.int x :: .ref (X.2.1 h) :: rest)) :=
  xpN B hS layX8 tyX8 tyX8_ok nmX8 (reg_lt hh) (ceX8 hh _) rfl 4 (by decide) (List.mem_of_getElem? (i := 17) rfl) rfl rfl rfl rfl rfl (Nat.le_of_ble_eq_true rfl) (ceX8 hh _) hdg kk
theorem gX3_79 (B : Bx p s m args c cc nL X RX3) (hS : SS X t H0 H locs) {h : Nat} (hh : isReg h) (hdg : decode cc pc = .ok (.getfield 79, 3)) (kk : W p l e R s m args below meth c H locs cells slots Q (F0 m (pc + 3) ls (.int (t h 4) :: rest))) : W p l e R s m args below meth c H locs cells slots Q (F0 m pc ls (.ref (X.2.1 h) :: rest)) :=
  xgN B hS layX8 (reg_lt hh) (ceX8 hh _) rfl 4 (by decide) (List.mem_of_getElem? (i := 18) rfl) rfl rfl hdg kk
theorem pX3_79 (B : Bx p s m args c cc nL X RX3) (hS : SS X t H0 H locs) {h : Nat} (hh : isReg h) {x : Int32} (hdg : decode cc pc = .ok (.putfield 79, 3)) (kk : ∀ (H1 : Heap) (locs1 : List Loc), SS X (up t h 4 x) H0 H1 locs1 → W p l e R s m args below meth c H1 locs1 cells slots Q (F0 m (pc + 3) ls (rest))) : W p l e R s m args below meth c H locs cells slots Q (F0 m pc ls (.int x :: .ref (X.2.1 h) :: rest)) :=
  xpN B hS layX8 tyX8 tyX8_ok nmX8 (reg_lt hh) (ceX8 hh _) rfl 4 (by decide) (List.mem_of_getElem? (i := 18) rfl) rfl rfl rfl rfl rfl (Nat.le_of_ble_eq_true rfl) (ceX8 hh _) hdg kk
theorem gX8_9 (B : Bx p s m args c cc nL X RX8) (hS : SS X t H0 H locs) {h : Nat} (hh : isReg h) (hdg : decode cc pc = .ok (.getfield 9, 3)) (kk : W p l e R s m args below meth c H locs cells slots Q (F0 m (pc + 3) ls (.ref (X.2.1 (h + 1)) :: rest))) : W p l e R s m args below meth c H locs cells slots Q (F0 m pc ls (.ref (X.2.1 h) :: rest)) :=
  xg B hS layX8 (reg_lt hh) (ceX8 hh _) rfl 5 (by decide) (tw_1 53 rfl rfl) rfl rfl hdg kk
theorem gX10_177 (B : Bx p s m args c cc nL X RX10) (hS : SS X t H0 H locs) {h : Nat} (hh : isReg h) (hdg : decode cc pc = .ok (.getfield 177, 3)) (kk : W p l e R s m args below meth c H locs cells slots Q (F0 m (pc + 3) ls (.ref (X.2.1 (h + 1)) :: rest))) : W p l e R s m args below meth c H locs cells slots Q (F0 m pc ls (.ref (X.2.1 h) :: rest)) :=
  xgN B hS layX8 (reg_lt hh) (ceX8 hh _) rfl 5 (by decide) (List.mem_of_getElem? (i := 19) rfl) rfl rfl hdg kk
theorem gX3_88 (B : Bx p s m args c cc nL X RX3) (hS : SS X t H0 H locs) {h : Nat} (hh : isReg h) (hdg : decode cc pc = .ok (.getfield 88, 3)) (kk : W p l e R s m args below meth c H locs cells slots Q (F0 m (pc + 3) ls (.ref (X.2.1 (h + 1)) :: rest))) : W p l e R s m args below meth c H locs cells slots Q (F0 m pc ls (.ref (X.2.1 h) :: rest)) :=
  xgN B hS layX8 (reg_lt hh) (ceX8 hh _) rfl 5 (by decide) (List.mem_of_getElem? (i := 20) rfl) rfl rfl hdg kk
theorem gX8_15 (B : Bx p s m args c cc nL X RX8) (hS : SS X t H0 H locs) {h : Nat} (hh : isReg h) (hdg : decode cc pc = .ok (.getfield 15, 3)) (kk : W p l e R s m args below meth c H locs cells slots Q (F0 m (pc + 3) ls (.ref (X.2.1 (h + 2)) :: rest))) : W p l e R s m args below meth c H locs cells slots Q (F0 m pc ls (.ref (X.2.1 h) :: rest)) :=
  xg B hS layX8 (reg_lt hh) (ceX8 hh _) rfl 6 (by decide) (tw_1 56 rfl rfl) rfl rfl hdg kk
theorem gX3_44 (B : Bx p s m args c cc nL X RX3) (hS : SS X t H0 H locs) {h : Nat} (hh : isReg h) (hdg : decode cc pc = .ok (.getfield 44, 3)) (kk : W p l e R s m args below meth c H locs cells slots Q (F0 m (pc + 3) ls (.ref (X.2.1 (h + 2)) :: rest))) : W p l e R s m args below meth c H locs cells slots Q (F0 m pc ls (.ref (X.2.1 h) :: rest)) :=
  xgN B hS layX8 (reg_lt hh) (ceX8 hh _) rfl 6 (by decide) (List.mem_of_getElem? (i := 21) rfl) rfl rfl hdg kk
theorem gX8_18 (B : Bx p s m args c cc nL X RX8) (hS : SS X t H0 H locs) {h : Nat} (hh : isReg h) (hdg : decode cc pc = .ok (.getfield 18, 3)) (kk : W p l e R s m args below meth c H locs cells slots Q (F0 m (pc + 3) ls (.ref (X.2.1 (h + 3)) :: rest))) : W p l e R s m args below meth c H locs cells slots Q (F0 m pc ls (.ref (X.2.1 h) :: rest)) :=
  xg B hS layX8 (reg_lt hh) (ceX8 hh _) rfl 7 (by decide) (tw_1 58 rfl rfl) rfl rfl hdg kk
theorem gX3_47 (B : Bx p s m args c cc nL X RX3) (hS : SS X t H0 H locs) {h : Nat} (hh : isReg h) (hdg : decode cc pc = .ok (.getfield 47, 3)) (kk : W p l e R s m args below meth c H locs cells slots Q (F0 m (pc + 3) ls (.ref (X.2.1 (h + 3)) :: rest))) : W p l e R s m args below meth c H locs cells slots Q (F0 m pc ls (.ref (X.2.1 h) :: rest)) :=
  xgN B hS layX8 (reg_lt hh) (ceX8 hh _) rfl 7 (by decide) (List.mem_of_getElem? (i := 22) rfl) rfl rfl hdg kk
theorem gX8_21 (B : Bx p s m args c cc nL X RX8) (hS : SS X t H0 H locs) {h : Nat} (hh : isReg h) (hdg : decode cc pc = .ok (.getfield 21, 3)) (kk : W p l e R s m args below meth c H locs cells slots Q (F0 m (pc + 3) ls (.ref (X.2.1 (h + 4)) :: rest))) : W p l e R s m args below meth c H locs cells slots Q (F0 m pc ls (.ref (X.2.1 h) :: rest)) :=
  xg B hS layX8 (reg_lt hh) (ceX8 hh _) rfl 8 (by decide) (tw_1 60 rfl rfl) rfl rfl hdg kk
theorem gX9_40 (B : Bx p s m args c cc nL X RX9) (hS : SS X t H0 H locs) {h : Nat} (hh : isReg h) (hdg : decode cc pc = .ok (.getfield 40, 3)) (kk : W p l e R s m args below meth c H locs cells slots Q (F0 m (pc + 3) ls (.ref (X.2.1 (h + 4)) :: rest))) : W p l e R s m args below meth c H locs cells slots Q (F0 m pc ls (.ref (X.2.1 h) :: rest)) :=
  xgN B hS layX8 (reg_lt hh) (ceX8 hh _) rfl 8 (by decide) (List.mem_of_getElem? (i := 23) rfl) rfl rfl hdg kk
theorem gX10_187 (B : Bx p s m args c cc nL X RX10) (hS : SS X t H0 H locs) {h : Nat} (hh : isReg h) (hdg : decode cc pc = .ok (.getfield 187, 3)) (kk : W p l e R s m args below meth c H locs cells slots Q (F0 m (pc + 3) ls (.ref (X.2.1 (h + 4)) :: rest))) : W p l e R s m args below meth c H locs cells slots Q (F0 m pc ls (.ref (X.2.1 h) :: rest)) :=
  xgN B hS layX8 (reg_lt hh) (ceX8 hh _) rfl 8 (by decide) (List.mem_of_getElem? (i := 24) rfl) rfl rfl hdg kk
theorem gX8_24 (B : Bx p s m args c cc nL X RX8) (hS : SS X t H0 H locs) {h : Nat} (hh : isReg h) (hdg : decode cc pc = .ok (.getfield 24, 3)) (kk : W p l e R s m args below meth c H locs cells slots Q (F0 m (pc + 3) ls (.ref (X.2.1 (h + 5)) :: rest))) : W p l e R s m args below meth c H locs cells slots Q (F0 m pc ls (.ref (X.2.1 h) :: rest)) :=
  xg B hS layX8 (reg_lt hh) (ceX8 hh _) rfl 9 (by decide) (tw_1 63 rfl rfl) rfl rfl hdg kk
theorem gX3_50 (B : Bx p s m args c cc nL X RX3) (hS : SS X t H0 H locs) {h : Nat} (hh : isReg h) (hdg : decode cc pc = .ok (.getfield 50, 3)) (kk : W p l e R s m args below meth c H locs cells slots Q (F0 m (pc + 3) ls (.ref (X.2.1 (h + 5)) :: rest))) : W p l e R s m args below meth c H locs cells slots Q (F0 m pc ls (.ref (X.2.1 h) :: rest)) :=
  xgN B hS layX8 (reg_lt hh) (ceX8 hh _) rfl 9 (by decide) (List.mem_of_getElem? (i := 25) rfl) rfl rfl hdg kk
theorem gX3_37 (B : Bx p s m args c cc nL X RX3) (hS : SS X t H0 H locs) {h : Nat} (hh : isHall h) (hdg : decode cc pc = .ok (.getfield 37, 3)) (kk : W p l e R s m args below meth c H locs cells slots Q (F0 m (pc + 3) ls (.ref (X.2.1 3) :: rest))) : W p l e R s m args below meth c H locs cells slots Q (F0 m pc ls (.ref (X.2.1 h) :: rest)) :=
  xg B hS layX3 (hall_lt hh) (ceX3 hh _) rfl 0 (by decide) (tw_1 100 rfl rfl) rfl rfl hdg kk
theorem gX5_31 (B : Bx p s m args c cc nL X RX5) (hS : SS X t H0 H locs) {h : Nat} (hh : isHall h) (hdg : decode cc pc = .ok (.getfield 31, 3)) (kk : W p l e R s m args below meth c H locs cells slots Q (F0 m (pc + 3) ls (.ref (X.2.1 3) :: rest))) : W p l e R s m args below meth c H locs cells slots Q (F0 m pc ls (.ref (X.2.1 h) :: rest)) :=
  xgN B hS layX3 (hall_lt hh) (ceX3 hh _) rfl 0 (by decide) (List.mem_of_getElem? (i := 26) rfl) rfl rfl hdg kk
theorem gX3_9 (B : Bx p s m args c cc nL X RX3) (hS : SS X t H0 H locs) {h : Nat} (hh : isHall h) (hdg : decode cc pc = .ok (.getfield 9, 3)) (kk : W p l e R s m args below meth c H locs cells slots Q (F0 m (pc + 3) ls (.int (t h 1) :: rest))) : W p l e R s m args below meth c H locs cells slots Q (F0 m pc ls (.ref (X.2.1 h) :: rest)) :=
  xg B hS layX3 (hall_lt hh) (ceX3 hh _) rfl 1 (by decide) (tw_1 102 rfl rfl) rfl rfl hdg kk
theorem pX3_9 (B : Bx p s m args c cc nL X RX3) (hS : SS X t H0 H locs) {h : Nat} (hh : isHall h) {x : Int32} (hdg : decode cc pc = .ok (.putfield 9, 3)) (kk : ∀ (H1 : Heap) (locs1 : List Loc), SS X (up t h 1 x) H0 H1 locs1 → W p l e R s m args below meth c H1 locs1 cells slots Q (F0 m (pc + 3) ls (rest))) : W p l e R s m args below meth c H locs cells slots Q (F0 m pc ls (.int x :: .ref (X.2.1 h) :: rest)) :=
  xp B hS layX3 tyX3 tyX3_ok nmX3 (hall_lt hh) (ceX3 hh _) rfl 1 (by decide) (tw_1 102 rfl rfl) rfl rfl rfl rfl rfl (Nat.le_of_ble_eq_true rfl) (ceX3 hh _) hdg kk
theorem gX2_60 (B : Bx p s m args c cc nL X RX2) (hS : SS X t H0 H locs) {h : Nat} (hh : isHall h) (hdg : decode cc pc = .ok (.getfield 60, 3)) (kk : W p l e R s m args below meth c H locs cells slots Q (F0 m (pc + 3) ls (.int (t h 1) :: rest))) : W p l e R s m args below meth c H locs cells slots Q (F0 m pc ls (.ref (X.2.1 h) :: rest)) :=
  xgN B hS layX3 (hall_lt hh) (ceX3 hh _) rfl 1 (by decide) (List.mem_of_getElem? (i := 27) rfl) rfl rfl hdg kk
theorem pX2_60 (B : Bx p s m args c cc nL X RX2) (hS : SS X t H0 H locs) {h : Nat} (hh : isHall h) {x : Int32} (hdg : decode cc pc = .ok (.putfield 60, 3)) (kk : ∀ (H1 : Heap) (locs1 : List Loc), SS X (up t h 1 x) H0 H1 locs1 → W p l e R s m args below meth c H1 locs1 cells slots Q (F0 m (pc + 3) ls (rest))) : W p l e R s m args below meth c H locs cells slots Q (F0 m pc ls (.int x :: .ref (X.2.1 h) :: rest)) :=
  xpN B hS layX3 tyX3 tyX3_ok nmX3 (hall_lt hh) (ceX3 hh _) rfl 1 (by decide) (List.mem_of_getElem? (i := 27) rfl) rfl rfl rfl rfl rfl (Nat.le_of_ble_eq_true rfl) (ceX3 hh _) hdg kk
theorem gX10_123 (B : Bx p s m args c cc nL X RX10) (hS : SS X t H0 H locs) {h : Nat} (hh : isHall h) (hdg : decode cc pc = .ok (.getfield 123, 3)) (kk : W p l e R s m args below meth c H locs cells slots Q (F0 m (pc + 3) ls (.int (t h 1) :: rest))) : W p l e R s m args below meth c H locs cells slots Q (F0 m pc ls (.ref (X.2.1 h) :: rest)) :=
  xgN B hS layX3 (hall_lt hh) (ceX3 hh _) rfl 1 (by decide) (List.mem_of_getElem? (i := 28) rfl) rfl rfl hdg kk
theorem pX10_123 (B : Bx p s m args c cc nL X RX10) (hS : SS X t H0 H locs) {h : Nat} (hh : isHall h) {x : Int32} (hdg : decode cc pc = .ok (.putfield 123, 3)) (kk : ∀ (H1 : Heap) (locs1 : List Loc), SS X (up t h 1 x) H0 H1 locs1 → W p l e R s m args below meth c H1 locs1 cells slots Q (F0 m (pc + 3) ls (rest))) : W p l e R s m args below meth c H locs cells slots Q (F0 m pc ls (.int x :: .ref (X.2.1 h) :: rest)) :=
  xpN B hS layX3 tyX3 tyX3_ok nmX3 (hall_lt hh) (ceX3 hh _) rfl 1 (by decide) (List.mem_of_getElem? (i := 28) rfl) rfl rfl rfl rfl rfl (Nat.le_of_ble_eq_true rfl) (ceX3 hh _) hdg kk
theorem gX3_15 (B : Bx p s m args c cc nL X RX3) (hS : SS X t H0 H locs) {h : Nat} (hh : isHall h) (hdg : decode cc pc = .ok (.getfield 15, 3)) (kk : W p l e R s m args below meth c H locs cells slots Q (F0 m (pc + 3) ls (.int (t h 2) :: rest))) : W p l e R s m args below meth c H locs cells slots Q (F0 m pc ls (.ref (X.2.1 h) :: rest)) :=
  xg B hS layX3 (hall_lt hh) (ceX3 hh _) rfl 2 (by decide) (tw_1 105 rfl rfl) rfl rfl hdg kk
theorem pX3_15 (B : Bx p s m args c cc nL X RX3) (hS : SS X t H0 H locs) {h : Nat} (hh : isHall h) {x : Int32} (hdg : decode cc pc = .ok (.putfield 15, 3)) (kk : ∀ (H1 : Heap) (locs1 : List Loc), SS X (up t h 2 x) H0 H1 locs1 → W p l e R s m args below meth c H1 locs1 cells slots Q (F0 m (pc + 3) ls (rest))) : W p l e R s m args below meth c H locs cells slots Q (F0 m pc ls (.int x :: .ref (X.2.1 h) :: rest)) :=
  xp B hS layX3 tyX3 tyX3_ok nmX3 (hall_lt hh) (ceX3 hh _) rfl 2 (by decide) (tw_1 105 rfl rfl) rfl rfl rfl rfl rfl (Nat.le_of_ble_eq_true rfl) (ceX3 hh _) hdg kk
theorem gX10_135 (B : Bx p s m args c cc nL X RX10) (hS : SS X t H0 H locs) {h : Nat} (hh : isHall h) (hdg : decode cc pc = .ok (.getfield 135, 3)) (kk : W p l e R s m args below meth c H locs cells slots Q (F0 m (pc + 3) ls (.int (t h 2) :: rest))) : W p l e R s m args below meth c H locs cells slots Q (F0 m pc ls (.ref (X.2.1 h) :: rest)) :=
  xgN B hS layX3 (hall_lt hh) (ceX3 hh _) rfl 2 (by decide) (List.mem_of_getElem? (i := 29) rfl) rfl rfl hdg kk
theorem pX10_135 (B : Bx p s m args c cc nL X RX10) (hS : SS X t H0 H locs) {h : Nat} (hh : isHall h) {x : Int32} (hdg : decode cc pc = .ok (.putfield 135, 3)) (kk : ∀ (H1 : Heap) (locs1 : List Loc), SS X (up t h 2 x) H0 H1 locs1 → W p l e R s m args below meth c H1 locs1 cells slots Q (F0 m (pc + 3) ls (rest))) : W p l e R s m args below meth c H locs cells slots Q (F0 m pc ls (.int x :: .ref (X.2.1 h) :: rest)) :=
  xpN B hS layX3 tyX3 tyX3_ok nmX3 (hall_lt hh) (ceX3 hh _) rfl 2 (by decide) (List.mem_of_getElem? (i := 29) rfl) rfl rfl rfl rfl rfl (Nat.le_of_ble_eq_true rfl) (ceX3 hh _) hdg kk
theorem gX3_18 (B : Bx p s m args c cc nL X RX3) (hS : SS X t H0 H locs) {h : Nat} (hh : isHall h) (hdg : decode cc pc = .ok (.getfield 18, 3)) (kk : W p l e R s m args below meth c H locs cells slots Q (F0 m (pc + 3) ls (.int (t h 3) :: rest))) : W p l e R s m args below meth c H locs cells slots Q (F0 m pc ls (.ref (X.2.1 h) :: rest)) :=
  xg B hS layX3 (hall_lt hh) (ceX3 hh _) rfl 3 (by decide) (tw_1 107 rfl rfl) rfl rfl hdg kk
theorem pX3_18 (B : Bx p s m args c cc nL X RX3) (hS : SS X t H0 H locs) {h : Nat} (hh : isHall h) {x : Int32} (hdg : decode cc pc = .ok (.putfield 18, 3)) (kk : ∀ (H1 : Heap) (locs1 : List Loc), SS X (up t h 3 x) H0 H1 locs1 → W p l e R s m args below meth c H1 locs1 cells slots Q (F0 m (pc + 3) ls (rest))) : W p l e R s m args below meth c H locs cells slots Q (F0 m pc ls (.int x :: .ref (X.2.1 h) :: rest)) :=
  xp B hS layX3 tyX3 tyX3_ok nmX3 (hall_lt hh) (ceX3 hh _) rfl 3 (by decide) (tw_1 107 rfl rfl) rfl rfl rfl rfl rfl (Nat.le_of_ble_eq_true rfl) (ceX3 hh _) hdg kk
theorem gX10_142 (B : Bx p s m args c cc nL X RX10) (hS : SS X t H0 H locs) {h : Nat} (hh : isHall h) (hdg : decode cc pc = .ok (.getfield 142, 3)) (kk : W p l e R s m args below meth c H locs cells slots Q (F0 m (pc + 3) ls (.int (t h 3) :: rest))) : W p l e R s m args below meth c H locs cells slots Q (F0 m pc ls (.ref (X.2.1 h) :: rest)) :=
  xgN B hS layX3 (hall_lt hh) (ceX3 hh _) rfl 3 (by decide) (List.mem_of_getElem? (i := 30) rfl) rfl rfl hdg kk
theorem pX10_142 (B : Bx p s m args c cc nL X RX10) (hS : SS X t H0 H locs) {h : Nat} (hh : isHall h) {x : Int32} (hdg : decode cc pc = .ok (.putfield 142, 3)) (kk : ∀ (H1 : Heap) (locs1 : List Loc), SS X (up t h 3 x) H0 H1 locs1 → W p l e R s m args below meth c H1 locs1 cells slots Q (F0 m (pc + 3) ls (rest))) : W p l e R s m args below meth c H locs cells slots Q (F0 m pc ls (.int x :: .ref (X.2.1 h) :: rest)) :=
  xpN B hS layX3 tyX3 tyX3_ok nmX3 (hall_lt hh) (ceX3 hh _) rfl 3 (by decide) (List.mem_of_getElem? (i := 30) rfl) rfl rfl rfl rfl rfl (Nat.le_of_ble_eq_true rfl) (ceX3 hh _) hdg kk
theorem gX3_21 (B : Bx p s m args c cc nL X RX3) (hS : SS X t H0 H locs) {h : Nat} (hh : isHall h) (hdg : decode cc pc = .ok (.getfield 21, 3)) (kk : W p l e R s m args below meth c H locs cells slots Q (F0 m (pc + 3) ls (.int (t h 4) :: rest))) : W p l e R s m args below meth c H locs cells slots Q (F0 m pc ls (.ref (X.2.1 h) :: rest)) :=
  xg B hS layX3 (hall_lt hh) (ceX3 hh _) rfl 4 (by decide) (tw_1 109 rfl rfl) rfl rfl hdg kk
theorem pX3_21 (B : Bx p s m args c cc nL X RX3) (hS : SS X t H0 H locs) {h : Nat} (hh : isHall h) {x : Int32} (hdg : decode cc pc = .ok (.putfield 21, 3)) (kk : ∀ (H1 : Heap) (locs1 : List Loc), SS X (up t h 4 x) H0 H1 locs1 → W p l e R s m args below meth c H1 locs1 cells slots Q (F0 m (pc + 3) ls (rest))) : W p l e R s m args below meth c H locs cells slots Q (F0 m pc ls (.int x :: .ref (X.2.1 h) :: rest)) :=
  xp B hS layX3 tyX3 tyX3_ok nmX3 (hall_lt hh) (ceX3 hh _) rfl 4 (by decide) (tw_1 109 rfl rfl) rfl rfl rfl rfl rfl (Nat.le_of_ble_eq_true rfl) (ceX3 hh _) hdg kk
theorem gX10_145 (B : Bx p s m args c cc nL X RX10) (hS : SS X t H0 H locs) {h : Nat} (hh : isHall h) (hdg : decode cc pc = .ok (.getfield 145, 3)) (kk : W p l e R s m args below meth c H locs cells slots Q (F0 m (pc + 3) ls (.int (t h 4) :: rest))) : W p l e R s m args below meth c H locs cells slots Q (F0 m pc ls (.ref (X.2.1 h) :: rest)) :=
  xgN B hS layX3 (hall_lt hh) (ceX3 hh _) rfl 4 (by decide) (List.mem_of_getElem? (i := 31) rfl) rfl rfl hdg kk
theorem pX10_145 (B : Bx p s m args c cc nL X RX10) (hS : SS X t H0 H locs) {h : Nat} (hh : isHall h) {x : Int32} (hdg : decode cc pc = .ok (.putfield 145, 3)) (kk : ∀ (H1 : Heap) (locs1 : List Loc), SS X (up t h 4 x) H0 H1 locs1 → W p l e R s m args below meth c H1 locs1 cells slots Q (F0 m (pc + 3) ls (rest))) : W p l e R s m args below meth c H locs cells slots Q (F0 m pc ls (.int x :: .ref (X.2.1 h) :: rest)) :=
  xpN B hS layX3 tyX3 tyX3_ok nmX3 (hall_lt hh) (ceX3 hh _) rfl 4 (by decide) (List.mem_of_getElem? (i := 31) rfl) rfl rfl rfl rfl rfl (Nat.le_of_ble_eq_true rfl) (ceX3 hh _) hdg kk
theorem gX3_24 (B : Bx p s m args c cc nL X RX3) (hS : SS X t H0 H locs) {h : Nat} (hh : isHall h) (hdg : decode cc pc = .ok (.getfield 24, 3)) (kk : W p l e R s m args below meth c H locs cells slots Q (F0 m (pc + 3) ls (.ref (X.2.1 (h + 1)) :: rest))) : W p l e R s m args below meth c H locs cells slots Q (F0 m pc ls (.ref (X.2.1 h) :: rest)) :=
  xg B hS layX3 (hall_lt hh) (ceX3 hh _) rfl 5 (by decide) (tw_1 111 rfl rfl) rfl rfl hdg kk
theorem gX10_181 (B : Bx p s m args c cc nL X RX10) (hS : SS X t H0 H locs) {h : Nat} (hh : isHall h) (hdg : decode cc pc = .ok (.getfield 181, 3)) (kk : W p l e R s m args below meth c H locs cells slots Q (F0 m (pc + 3) ls (.ref (X.2.1 (h + 1)) :: rest))) : W p l e R s m args below meth c H locs cells slots Q (F0 m pc ls (.ref (X.2.1 h) :: rest)) :=
  xgN B hS layX3 (hall_lt hh) (ceX3 hh _) rfl 5 (by decide) (List.mem_of_getElem? (i := 32) rfl) rfl rfl hdg kk
theorem gX3_28 (B : Bx p s m args c cc nL X RX3) (hS : SS X t H0 H locs) {h : Nat} (hh : isHall h) (hdg : decode cc pc = .ok (.getfield 28, 3)) (kk : W p l e R s m args below meth c H locs cells slots Q (F0 m (pc + 3) ls (.ref (X.2.1 (h + 2)) :: rest))) : W p l e R s m args below meth c H locs cells slots Q (F0 m pc ls (.ref (X.2.1 h) :: rest)) :=
  xg B hS layX3 (hall_lt hh) (ceX3 hh _) rfl 6 (by decide) (tw_1 113 rfl rfl) rfl rfl hdg kk
theorem gX5_43 (B : Bx p s m args c cc nL X RX5) (hS : SS X t H0 H locs) {h : Nat} (hh : isHall h) (hdg : decode cc pc = .ok (.getfield 43, 3)) (kk : W p l e R s m args below meth c H locs cells slots Q (F0 m (pc + 3) ls (.ref (X.2.1 (h + 2)) :: rest))) : W p l e R s m args below meth c H locs cells slots Q (F0 m pc ls (.ref (X.2.1 h) :: rest)) :=
  xgN B hS layX3 (hall_lt hh) (ceX3 hh _) rfl 6 (by decide) (List.mem_of_getElem? (i := 33) rfl) rfl rfl hdg kk
theorem gX10_184 (B : Bx p s m args c cc nL X RX10) (hS : SS X t H0 H locs) {h : Nat} (hh : isHall h) (hdg : decode cc pc = .ok (.getfield 184, 3)) (kk : W p l e R s m args below meth c H locs cells slots Q (F0 m (pc + 3) ls (.ref (X.2.1 (h + 2)) :: rest))) : W p l e R s m args below meth c H locs cells slots Q (F0 m pc ls (.ref (X.2.1 h) :: rest)) :=
  xgN B hS layX3 (hall_lt hh) (ceX3 hh _) rfl 6 (by decide) (List.mem_of_getElem? (i := 34) rfl) rfl rfl hdg kk
theorem gX3_31 (B : Bx p s m args c cc nL X RX3) (hS : SS X t H0 H locs) {h : Nat} (hh : isHall h) (hdg : decode cc pc = .ok (.getfield 31, 3)) (kk : W p l e R s m args below meth c H locs cells slots Q (F0 m (pc + 3) ls (.ref (X.2.1 (h + 3)) :: rest))) : W p l e R s m args below meth c H locs cells slots Q (F0 m pc ls (.ref (X.2.1 h) :: rest)) :=
  xg B hS layX3 (hall_lt hh) (ceX3 hh _) rfl 7 (by decide) (tw_1 116 rfl rfl) rfl rfl hdg kk
theorem gX10_190 (B : Bx p s m args c cc nL X RX10) (hS : SS X t H0 H locs) {h : Nat} (hh : isHall h) (hdg : decode cc pc = .ok (.getfield 190, 3)) (kk : W p l e R s m args below meth c H locs cells slots Q (F0 m (pc + 3) ls (.ref (X.2.1 (h + 3)) :: rest))) : W p l e R s m args below meth c H locs cells slots Q (F0 m pc ls (.ref (X.2.1 h) :: rest)) :=
  xgN B hS layX3 (hall_lt hh) (ceX3 hh _) rfl 7 (by decide) (List.mem_of_getElem? (i := 35) rfl) rfl rfl hdg kk
theorem gX3_34 (B : Bx p s m args c cc nL X RX3) (hS : SS X t H0 H locs) {h : Nat} (hh : isHall h) (hdg : decode cc pc = .ok (.getfield 34, 3)) (kk : W p l e R s m args below meth c H locs cells slots Q (F0 m (pc + 3) ls (.ref (X.2.1 (h + 4)) :: rest))) : W p l e R s m args below meth c H locs cells slots Q (F0 m pc ls (.ref (X.2.1 h) :: rest)) :=
  xg B hS layX3 (hall_lt hh) (ceX3 hh _) rfl 8 (by decide) (tw_1 118 rfl rfl) rfl rfl hdg kk
theorem gX10_247 (B : Bx p s m args c cc nL X RX10) (hS : SS X t H0 H locs) {h : Nat} (hh : isHall h) (hdg : decode cc pc = .ok (.getfield 247, 3)) (kk : W p l e R s m args below meth c H locs cells slots Q (F0 m (pc + 3) ls (.ref (X.2.1 (h + 4)) :: rest))) : W p l e R s m args below meth c H locs cells slots Q (F0 m pc ls (.ref (X.2.1 h) :: rest)) :=
  xgN B hS layX3 (hall_lt hh) (ceX3 hh _) rfl 8 (by decide) (List.mem_of_getElem? (i := 36) rfl) rfl rfl hdg kk
theorem gX4_22 (B : Bx p s m args c cc nL X RX4) (hS : SS X t H0 H locs) {h : Nat} (hh : isImg h) (hdg : decode cc pc = .ok (.getfield 22, 3)) (kk : W p l e R s m args below meth c H locs cells slots Q (F0 m (pc + 3) ls (.ref (X.2.1 (imgH h)) :: rest))) : W p l e R s m args below meth c H locs cells slots Q (F0 m pc ls (.ref (X.2.1 h) :: rest)) :=
  xg B hS layX4 (img_lt hh) (ceX4 hh _) rfl 0 (by decide) (tw_1 139 rfl rfl) rfl rfl hdg kk
theorem gX10_324 (B : Bx p s m args c cc nL X RX10) (hS : SS X t H0 H locs) {h : Nat} (hh : isImg h) (hdg : decode cc pc = .ok (.getfield 324, 3)) (kk : W p l e R s m args below meth c H locs cells slots Q (F0 m (pc + 3) ls (.ref (X.2.1 (imgH h)) :: rest))) : W p l e R s m args below meth c H locs cells slots Q (F0 m pc ls (.ref (X.2.1 h) :: rest)) :=
  xgN B hS layX4 (img_lt hh) (ceX4 hh _) rfl 0 (by decide) (List.mem_of_getElem? (i := 37) rfl) rfl rfl hdg kk
theorem gX4_7 (B : Bx p s m args c cc nL X RX4) (hS : SS X t H0 H locs) {h : Nat} (hh : isImg h) (hdg : decode cc pc = .ok (.getfield 7, 3)) (kk : W p l e R s m args below meth c H locs cells slots Q (F0 m (pc + 3) ls (.int (t h 1) :: rest))) : W p l e R s m args below meth c H locs cells slots Q (F0 m pc ls (.ref (X.2.1 h) :: rest)) :=
  xg B hS layX4 (img_lt hh) (ceX4 hh _) rfl 1 (by decide) (tw_1 141 rfl rfl) rfl rfl hdg kk
theorem pX4_7 (B : Bx p s m args c cc nL X RX4) (hS : SS X t H0 H locs) {h : Nat} (hh : isImg h) {x : Int32} (hdg : decode cc pc = .ok (.putfield 7, 3)) (kk : ∀ (H1 : Heap) (locs1 : List Loc), SS X (up t h 1 x) H0 H1 locs1 → W p l e R s m args below meth c H1 locs1 cells slots Q (F0 m (pc + 3) ls (rest))) : W p l e R s m args below meth c H locs cells slots Q (F0 m pc ls (.int x :: .ref (X.2.1 h) :: rest)) :=
  xp B hS layX4 tyX4 tyX4_ok nmX4 (img_lt hh) (ceX4 hh _) rfl 1 (by decide) (tw_1 141 rfl rfl) rfl rfl rfl rfl rfl (Nat.le_of_ble_eq_true rfl) (ceX4 hh _) hdg kk
theorem gX10_327 (B : Bx p s m args c cc nL X RX10) (hS : SS X t H0 H locs) {h : Nat} (hh : isImg h) (hdg : decode cc pc = .ok (.getfield 327, 3)) (kk : W p l e R s m args below meth c H locs cells slots Q (F0 m (pc + 3) ls (.int (t h 1) :: rest))) : W p l e R s m args below meth c H locs cells slots Q (F0 m pc ls (.ref (X.2.1 h) :: rest)) :=
  xgN B hS layX4 (img_lt hh) (ceX4 hh _) rfl 1 (by decide) (List.mem_of_getElem? (i := 38) rfl) rfl rfl hdg kk
theorem pX10_327 (B : Bx p s m args c cc nL X RX10) (hS : SS X t H0 H locs) {h : Nat} (hh : isImg h) {x : Int32} (hdg : decode cc pc = .ok (.putfield 327, 3)) (kk : ∀ (H1 : Heap) (locs1 : List Loc), SS X (up t h 1 x) H0 H1 locs1 → W p l e R s m args below meth c H1 locs1 cells slots Q (F0 m (pc + 3) ls (rest))) : W p l e R s m args below meth c H locs cells slots Q (F0 m pc ls (.int x :: .ref (X.2.1 h) :: rest)) :=
  xpN B hS layX4 tyX4 tyX4_ok nmX4 (img_lt hh) (ceX4 hh _) rfl 1 (by decide) (List.mem_of_getElem? (i := 38) rfl) rfl rfl rfl rfl rfl (Nat.le_of_ble_eq_true rfl) (ceX4 hh _) hdg kk
theorem gX4_13 (B : Bx p s m args c cc nL X RX4) (hS : SS X t H0 H locs) {h : Nat} (hh : isImg h) (hdg : decode cc pc = .ok (.getfield 13, 3)) (kk : W p l e R s m args below meth c H locs cells slots Q (F0 m (pc + 3) ls (.int (t h 2) :: rest))) : W p l e R s m args below meth c H locs cells slots Q (F0 m pc ls (.ref (X.2.1 h) :: rest)) :=
  xg B hS layX4 (img_lt hh) (ceX4 hh _) rfl 2 (by decide) (tw_1 143 rfl rfl) rfl rfl hdg kk
theorem pX4_13 (B : Bx p s m args c cc nL X RX4) (hS : SS X t H0 H locs) {h : Nat} (hh : isImg h) {x : Int32} (hx : narrow .boolean (.int x) = .int x) (hf : fits .boolean (.int x) = true) (hdg : decode cc pc = .ok (.putfield 13, 3)) (kk : ∀ (H1 : Heap) (locs1 : List Loc), SS X (up t h 2 x) H0 H1 locs1 → W p l e R s m args below meth c H1 locs1 cells slots Q (F0 m (pc + 3) ls (rest))) : W p l e R s m args below meth c H locs cells slots Q (F0 m pc ls (.int x :: .ref (X.2.1 h) :: rest)) :=
  xp B hS layX4 tyX4 tyX4_ok nmX4 (img_lt hh) (ceX4 hh _) rfl 2 (by decide) (tw_1 143 rfl rfl) rfl rfl rfl hx hf (Nat.le_of_ble_eq_true rfl) (ceX4 hh _) hdg kk
theorem gX10_113 (B : Bx p s m args c cc nL X RX10) (hS : SS X t H0 H locs) {h : Nat} (hh : isImg h) (hdg : decode cc pc = .ok (.getfield 113, 3)) (kk : W p l e R s m args below meth c H locs cells slots Q (F0 m (pc + 3) ls (.int (t h 2) :: rest))) : W p l e R s m args below meth c H locs cells slots Q (F0 m pc ls (.ref (X.2.1 h) :: rest)) :=
  xgN B hS layX4 (img_lt hh) (ceX4 hh _) rfl 2 (by decide) (List.mem_of_getElem? (i := 39) rfl) rfl rfl hdg kk
theorem pX10_113 (B : Bx p s m args c cc nL X RX10) (hS : SS X t H0 H locs) {h : Nat} (hh : isImg h) {x : Int32} (hx : narrow .boolean (.int x) = .int x) (hf : fits .boolean (.int x) = true) (hdg : decode cc pc = .ok (.putfield 113, 3)) (kk : ∀ (H1 : Heap) (locs1 : List Loc), SS X (up t h 2 x) H0 H1 locs1 → W p l e R s m args below meth c H1 locs1 cells slots Q (F0 m (pc + 3) ls (rest))) : W p l e R s m args below meth c H locs cells slots Q (F0 m pc ls (.int x :: .ref (X.2.1 h) :: rest)) :=
  xpN B hS layX4 tyX4 tyX4_ok nmX4 (img_lt hh) (ceX4 hh _) rfl 2 (by decide) (List.mem_of_getElem? (i := 39) rfl) rfl rfl rfl hx hf (Nat.le_of_ble_eq_true rfl) (ceX4 hh _) hdg kk
theorem gX7_9 (B : Bx p s m args c cc nL X RX7) (hS : SS X t H0 H locs) (hdg : decode cc pc = .ok (.getfield 9, 3)) (kk : W p l e R s m args below meth c H locs cells slots Q (F0 m (pc + 3) ls (.ref (X.2.1 2) :: rest))) : W p l e R s m args below meth c H locs cells slots Q (F0 m pc ls (.ref (X.2.1 1) :: rest)) :=
  xg B hS layX7 (by decide) (ceX7 _) rfl 0 (by decide) (tw_1 158 rfl rfl) rfl rfl hdg kk
theorem gX7_15 (B : Bx p s m args c cc nL X RX7) (hS : SS X t H0 H locs) (hdg : decode cc pc = .ok (.getfield 15, 3)) (kk : W p l e R s m args below meth c H locs cells slots Q (F0 m (pc + 3) ls (.int (t 1 1) :: rest))) : W p l e R s m args below meth c H locs cells slots Q (F0 m pc ls (.ref (X.2.1 1) :: rest)) :=
  xg B hS layX7 (by decide) (ceX7 _) rfl 1 (by decide) (tw_1 159 rfl rfl) rfl rfl hdg kk
theorem pX7_15 (B : Bx p s m args c cc nL X RX7) (hS : SS X t H0 H locs) {x : Int32} (hdg : decode cc pc = .ok (.putfield 15, 3)) (kk : ∀ (H1 : Heap) (locs1 : List Loc), SS X (up t 1 1 x) H0 H1 locs1 → W p l e R s m args below meth c H1 locs1 cells slots Q (F0 m (pc + 3) ls (rest))) : W p l e R s m args below meth c H locs cells slots Q (F0 m pc ls (.int x :: .ref (X.2.1 1) :: rest)) :=
  xp B hS layX7 tyX7 tyX7_ok nmX7 (by decide) (ceX7 _) rfl 1 (by decide) (tw_1 159 rfl rfl) rfl rfl rfl rfl rfl (Nat.le_of_ble_eq_true rfl) (ceX7 _) hdg kk
theorem gX10_92 (B : Bx p s m args c cc nL X RX10) (hS : SS X t H0 H locs) (hdg : decode cc pc = .ok (.getfield 92, 3)) (kk : W p l e R s m args below meth c H locs cells slots Q (F0 m (pc + 3) ls (.int (t 1 1) :: rest))) : W p l e R s m args below meth c H locs cells slots Q (F0 m pc ls (.ref (X.2.1 1) :: rest)) :=
  xgN B hS layX7 (by decide) (ceX7 _) rfl 1 (by decide) (List.mem_of_getElem? (i := 41) rfl) rfl rfl hdg kk
theorem pX10_92 (B : Bx p s m args c cc nL X RX10) (hS : SS X t H0 H locs) {x : Int32} (hdg : decode cc pc = .ok (.putfield 92, 3)) (kk : ∀ (H1 : Heap) (locs1 : List Loc), SS X (up t 1 1 x) H0 H1 locs1 → W p l e R s m args below meth c H1 locs1 cells slots Q (F0 m (pc + 3) ls (rest))) : W p l e R s m args below meth c H locs cells slots Q (F0 m pc ls (.int x :: .ref (X.2.1 1) :: rest)) :=
  xpN B hS layX7 tyX7 tyX7_ok nmX7 (by decide) (ceX7 _) rfl 1 (by decide) (List.mem_of_getElem? (i := 41) rfl) rfl rfl rfl rfl rfl (Nat.le_of_ble_eq_true rfl) (ceX7 _) hdg kk
theorem gX7_19 (B : Bx p s m args c cc nL X RX7) (hS : SS X t H0 H locs) (hdg : decode cc pc = .ok (.getfield 19, 3)) (kk : W p l e R s m args below meth c H locs cells slots Q (F0 m (pc + 3) ls (.int (t 1 2) :: rest))) : W p l e R s m args below meth c H locs cells slots Q (F0 m pc ls (.ref (X.2.1 1) :: rest)) :=
  xg B hS layX7 (by decide) (ceX7 _) rfl 2 (by decide) (tw_1 161 rfl rfl) rfl rfl hdg kk
theorem pX7_19 (B : Bx p s m args c cc nL X RX7) (hS : SS X t H0 H locs) {x : Int32} (hdg : decode cc pc = .ok (.putfield 19, 3)) (kk : ∀ (H1 : Heap) (locs1 : List Loc), SS X (up t 1 2 x) H0 H1 locs1 → W p l e R s m args below meth c H1 locs1 cells slots Q (F0 m (pc + 3) ls (rest))) : W p l e R s m args below meth c H locs cells slots Q (F0 m pc ls (.int x :: .ref (X.2.1 1) :: rest)) :=
  xp B hS layX7 tyX7 tyX7_ok nmX7 (by decide) (ceX7 _) rfl 2 (by decide) (tw_1 161 rfl rfl) rfl rfl rfl rfl rfl (Nat.le_of_ble_eq_true rfl) (ceX7 _) hdg kk
theorem gX7_22 (B : Bx p s m args c cc nL X RX7) (hS : SS X t H0 H locs) (hdg : decode cc pc = .ok (.getfield 22, 3)) (kk : W p l e R s m args below meth c H locs cells slots Q (F0 m (pc + 3) ls (.int (t 1 3) :: rest))) : W p l e R s m args below meth c H locs cells slots Q (F0 m pc ls (.ref (X.2.1 1) :: rest)) :=
  xg B hS layX7 (by decide) (ceX7 _) rfl 3 (by decide) (tw_1 162 rfl rfl) rfl rfl hdg kk
theorem pX7_22 (B : Bx p s m args c cc nL X RX7) (hS : SS X t H0 H locs) {x : Int32} (hdg : decode cc pc = .ok (.putfield 22, 3)) (kk : ∀ (H1 : Heap) (locs1 : List Loc), SS X (up t 1 3 x) H0 H1 locs1 → W p l e R s m args below meth c H1 locs1 cells slots Q (F0 m (pc + 3) ls (rest))) : W p l e R s m args below meth c H locs cells slots Q (F0 m pc ls (.int x :: .ref (X.2.1 1) :: rest)) :=
  xp B hS layX7 tyX7 tyX7_ok nmX7 (by decide) (ceX7 _) rfl 3 (by decide) (tw_1 162 rfl rfl) rfl rfl rfl rfl rfl (Nat.le_of_ble_eq_true rfl) (ceX7 _) hdg kk
theorem gX7_25 (B : Bx p s m args c cc nL X RX7) (hS : SS X t H0 H locs) (hdg : decode cc pc = .ok (.getfield 25, 3)) (kk : W p l e R s m args below meth c H locs cells slots Q (F0 m (pc + 3) ls (.int (t 1 4) :: rest))) : W p l e R s m args below meth c H locs cells slots Q (F0 m pc ls (.ref (X.2.1 1) :: rest)) :=
  xg B hS layX7 (by decide) (ceX7 _) rfl 4 (by decide) (tw_1 163 rfl rfl) rfl rfl hdg kk
theorem pX7_25 (B : Bx p s m args c cc nL X RX7) (hS : SS X t H0 H locs) {x : Int32} (hdg : decode cc pc = .ok (.putfield 25, 3)) (kk : ∀ (H1 : Heap) (locs1 : List Loc), SS X (up t 1 4 x) H0 H1 locs1 → W p l e R s m args below meth c H1 locs1 cells slots Q (F0 m (pc + 3) ls (rest))) : W p l e R s m args below meth c H locs cells slots Q (F0 m pc ls (.int x :: .ref (X.2.1 1) :: rest)) :=
  xp B hS layX7 tyX7 tyX7_ok nmX7 (by decide) (ceX7 _) rfl 4 (by decide) (tw_1 163 rfl rfl) rfl rfl rfl rfl rfl (Nat.le_of_ble_eq_true rfl) (ceX7 _) hdg kk
theorem gX10_120 (B : Bx p s m args c cc nL X RX10) (hS : SS X t H0 H locs) (hdg : decode cc pc = .ok (.getfield 120, 3)) (kk : W p l e R s m args below meth c H locs cells slots Q (F0 m (pc + 3) ls (.int (t 1 4) :: rest))) : W p l e R s m args below meth c H locs cells slots Q (F0 m pc ls (.ref (X.2.1 1) :: rest)) :=
  xgN B hS layX7 (by decide) (ceX7 _) rfl 4 (by decide) (List.mem_of_getElem? (i := 42) rfl) rfl rfl hdg kk
theorem pX10_120 (B : Bx p s m args c cc nL X RX10) (hS : SS X t H0 H locs) {x : Int32} (hdg : decode cc pc = .ok (.putfield 120, 3)) (kk : ∀ (H1 : Heap) (locs1 : List Loc), SS X (up t 1 4 x) H0 H1 locs1 → W p l e R s m args below meth c H1 locs1 cells slots Q (F0 m (pc + 3) ls (rest))) : W p l e R s m args below meth c H locs cells slots Q (F0 m pc ls (.int x :: .ref (X.2.1 1) :: rest)) :=
  xpN B hS layX7 tyX7 tyX7_ok nmX7 (by decide) (ceX7 _) rfl 4 (by decide) (List.mem_of_getElem? (i := 42) rfl) rfl rfl rfl rfl rfl (Nat.le_of_ble_eq_true rfl) (ceX7 _) hdg kk
theorem gX6_11 (B : Bx p s m args c cc nL X RX6) (hS : SS X t H0 H locs) (hdg : decode cc pc = .ok (.getfield 11, 3)) (kk : W p l e R s m args below meth c H locs cells slots Q (F0 m (pc + 3) ls (.ref (X.2.1 16) :: rest))) : W p l e R s m args below meth c H locs cells slots Q (F0 m pc ls (.ref (X.2.1 15) :: rest)) :=
  xg B hS layX6 (by decide) (ceX6 _) rfl 0 (by decide) (tw_1 187 rfl rfl) rfl rfl hdg kk
theorem gX6_17 (B : Bx p s m args c cc nL X RX6) (hS : SS X t H0 H locs) (hdg : decode cc pc = .ok (.getfield 17, 3)) (kk : W p l e R s m args below meth c H locs cells slots Q (F0 m (pc + 3) ls (.int (t 15 1) :: rest))) : W p l e R s m args below meth c H locs cells slots Q (F0 m pc ls (.ref (X.2.1 15) :: rest)) :=
  xg B hS layX6 (by decide) (ceX6 _) rfl 1 (by decide) (tw_1 188 rfl rfl) rfl rfl hdg kk
theorem pX6_17 (B : Bx p s m args c cc nL X RX6) (hS : SS X t H0 H locs) {x : Int32} (hdg : decode cc pc = .ok (.putfield 17, 3)) (kk : ∀ (H1 : Heap) (locs1 : List Loc), SS X (up t 15 1 x) H0 H1 locs1 → W p l e R s m args below meth c H1 locs1 cells slots Q (F0 m (pc + 3) ls (rest))) : W p l e R s m args below meth c H locs cells slots Q (F0 m pc ls (.int x :: .ref (X.2.1 15) :: rest)) :=
  xp B hS layX6 tyX6 tyX6_ok nmX6 (by decide) (ceX6 _) rfl 1 (by decide) (tw_1 188 rfl rfl) rfl rfl rfl rfl rfl (Nat.le_of_ble_eq_true rfl) (ceX6 _) hdg kk
theorem gX6_21 (B : Bx p s m args c cc nL X RX6) (hS : SS X t H0 H locs) (hdg : decode cc pc = .ok (.getfield 21, 3)) (kk : W p l e R s m args below meth c H locs cells slots Q (F0 m (pc + 3) ls (.int (t 15 2) :: rest))) : W p l e R s m args below meth c H locs cells slots Q (F0 m pc ls (.ref (X.2.1 15) :: rest)) :=
  xg B hS layX6 (by decide) (ceX6 _) rfl 2 (by decide) (tw_1 189 rfl rfl) rfl rfl hdg kk
theorem pX6_21 (B : Bx p s m args c cc nL X RX6) (hS : SS X t H0 H locs) {x : Int32} (hdg : decode cc pc = .ok (.putfield 21, 3)) (kk : ∀ (H1 : Heap) (locs1 : List Loc), SS X (up t 15 2 x) H0 H1 locs1 → W p l e R s m args below meth c H1 locs1 cells slots Q (F0 m (pc + 3) ls (rest))) : W p l e R s m args below meth c H locs cells slots Q (F0 m pc ls (.int x :: .ref (X.2.1 15) :: rest)) :=
  xp B hS layX6 tyX6 tyX6_ok nmX6 (by decide) (ceX6 _) rfl 2 (by decide) (tw_1 189 rfl rfl) rfl rfl rfl rfl rfl (Nat.le_of_ble_eq_true rfl) (ceX6 _) hdg kk
theorem gX10_170 (B : Bx p s m args c cc nL X RX10) (hS : SS X t H0 H locs) (hdg : decode cc pc = .ok (.getfield 170, 3)) (kk : W p l e R s m args below meth c H locs cells slots Q (F0 m (pc + 3) ls (.int (t 15 2) :: rest))) : W p l e R s m args below meth c H locs cells slots Q (F0 m pc ls (.ref (X.2.1 15) :: rest)) :=
  xgN B hS layX6 (by decide) (ceX6 _) rfl 2 (by decide) (List.mem_of_getElem? (i := 43) rfl) rfl rfl hdg kk
theorem pX10_170 (B : Bx p s m args c cc nL X RX10) (hS : SS X t H0 H locs) {x : Int32} (hdg : decode cc pc = .ok (.putfield 170, 3)) (kk : ∀ (H1 : Heap) (locs1 : List Loc), SS X (up t 15 2 x) H0 H1 locs1 → W p l e R s m args below meth c H1 locs1 cells slots Q (F0 m (pc + 3) ls (rest))) : W p l e R s m args below meth c H locs cells slots Q (F0 m pc ls (.int x :: .ref (X.2.1 15) :: rest)) :=
  xpN B hS layX6 tyX6 tyX6_ok nmX6 (by decide) (ceX6 _) rfl 2 (by decide) (List.mem_of_getElem? (i := 43) rfl) rfl rfl rfl rfl rfl (Nat.le_of_ble_eq_true rfl) (ceX6 _) hdg kk
theorem gX5_9 (B : Bx p s m args c cc nL X RX5) (hS : SS X t H0 H locs) (hdg : decode cc pc = .ok (.getfield 9, 3)) (kk : W p l e R s m args below meth c H locs cells slots Q (F0 m (pc + 3) ls (.ref (X.2.1 21) :: rest))) : W p l e R s m args below meth c H locs cells slots Q (F0 m pc ls (.ref (X.2.1 20) :: rest)) :=
  xg B hS layX5 (by decide) (ceX5 _) rfl 0 (by decide) (tw_1 204 rfl rfl) rfl rfl hdg kk
theorem gX5_15 (B : Bx p s m args c cc nL X RX5) (hS : SS X t H0 H locs) (hdg : decode cc pc = .ok (.getfield 15, 3)) (kk : W p l e R s m args below meth c H locs cells slots Q (F0 m (pc + 3) ls (.ref (X.2.1 22) :: rest))) : W p l e R s m args below meth c H locs cells slots Q (F0 m pc ls (.ref (X.2.1 20) :: rest)) :=
  xg B hS layX5 (by decide) (ceX5 _) rfl 1 (by decide) (tw_1 205 rfl rfl) rfl rfl hdg kk
theorem gX5_18 (B : Bx p s m args c cc nL X RX5) (hS : SS X t H0 H locs) (hdg : decode cc pc = .ok (.getfield 18, 3)) (kk : W p l e R s m args below meth c H locs cells slots Q (F0 m (pc + 3) ls (.ref (X.2.1 23) :: rest))) : W p l e R s m args below meth c H locs cells slots Q (F0 m pc ls (.ref (X.2.1 20) :: rest)) :=
  xg B hS layX5 (by decide) (ceX5 _) rfl 2 (by decide) (tw_1 206 rfl rfl) rfl rfl hdg kk
theorem gX5_21 (B : Bx p s m args c cc nL X RX5) (hS : SS X t H0 H locs) (hdg : decode cc pc = .ok (.getfield 21, 3)) (kk : W p l e R s m args below meth c H locs cells slots Q (F0 m (pc + 3) ls (.ref (X.2.1 24) :: rest))) : W p l e R s m args below meth c H locs cells slots Q (F0 m pc ls (.ref (X.2.1 20) :: rest)) :=
  xg B hS layX5 (by decide) (ceX5 _) rfl 3 (by decide) (tw_1 207 rfl rfl) rfl rfl hdg kk
theorem gX5_24 (B : Bx p s m args c cc nL X RX5) (hS : SS X t H0 H locs) (hdg : decode cc pc = .ok (.getfield 24, 3)) (kk : W p l e R s m args below meth c H locs cells slots Q (F0 m (pc + 3) ls (.int (t 20 4) :: rest))) : W p l e R s m args below meth c H locs cells slots Q (F0 m pc ls (.ref (X.2.1 20) :: rest)) :=
  xg B hS layX5 (by decide) (ceX5 _) rfl 4 (by decide) (tw_1 208 rfl rfl) rfl rfl hdg kk
theorem pX5_24 (B : Bx p s m args c cc nL X RX5) (hS : SS X t H0 H locs) {x : Int32} (hdg : decode cc pc = .ok (.putfield 24, 3)) (kk : ∀ (H1 : Heap) (locs1 : List Loc), SS X (up t 20 4 x) H0 H1 locs1 → W p l e R s m args below meth c H1 locs1 cells slots Q (F0 m (pc + 3) ls (rest))) : W p l e R s m args below meth c H locs cells slots Q (F0 m pc ls (.int x :: .ref (X.2.1 20) :: rest)) :=
  xp B hS layX5 tyX5 tyX5_ok nmX5 (by decide) (ceX5 _) rfl 4 (by decide) (tw_1 208 rfl rfl) rfl rfl rfl rfl rfl (Nat.le_of_ble_eq_true rfl) (ceX5 _) hdg kk
theorem gX10_160 (B : Bx p s m args c cc nL X RX10) (hS : SS X t H0 H locs) (hdg : decode cc pc = .ok (.getfield 160, 3)) (kk : W p l e R s m args below meth c H locs cells slots Q (F0 m (pc + 3) ls (.int (t 20 4) :: rest))) : W p l e R s m args below meth c H locs cells slots Q (F0 m pc ls (.ref (X.2.1 20) :: rest)) :=
  xgN B hS layX5 (by decide) (ceX5 _) rfl 4 (by decide) (List.mem_of_getElem? (i := 45) rfl) rfl rfl hdg kk
theorem pX10_160 (B : Bx p s m args c cc nL X RX10) (hS : SS X t H0 H locs) {x : Int32} (hdg : decode cc pc = .ok (.putfield 160, 3)) (kk : ∀ (H1 : Heap) (locs1 : List Loc), SS X (up t 20 4 x) H0 H1 locs1 → W p l e R s m args below meth c H1 locs1 cells slots Q (F0 m (pc + 3) ls (rest))) : W p l e R s m args below meth c H locs cells slots Q (F0 m pc ls (.int x :: .ref (X.2.1 20) :: rest)) :=
  xpN B hS layX5 tyX5 tyX5_ok nmX5 (by decide) (ceX5 _) rfl 4 (by decide) (List.mem_of_getElem? (i := 45) rfl) rfl rfl rfl rfl rfl (Nat.le_of_ble_eq_true rfl) (ceX5 _) hdg kk
theorem gX5_28 (B : Bx p s m args c cc nL X RX5) (hS : SS X t H0 H locs) (hdg : decode cc pc = .ok (.getfield 28, 3)) (kk : W p l e R s m args below meth c H locs cells slots Q (F0 m (pc + 3) ls (.int (t 20 5) :: rest))) : W p l e R s m args below meth c H locs cells slots Q (F0 m pc ls (.ref (X.2.1 20) :: rest)) :=
  xg B hS layX5 (by decide) (ceX5 _) rfl 5 (by decide) (tw_1 210 rfl rfl) rfl rfl hdg kk
theorem pX5_28 (B : Bx p s m args c cc nL X RX5) (hS : SS X t H0 H locs) {x : Int32} (hdg : decode cc pc = .ok (.putfield 28, 3)) (kk : ∀ (H1 : Heap) (locs1 : List Loc), SS X (up t 20 5 x) H0 H1 locs1 → W p l e R s m args below meth c H1 locs1 cells slots Q (F0 m (pc + 3) ls (rest))) : W p l e R s m args below meth c H locs cells slots Q (F0 m pc ls (.int x :: .ref (X.2.1 20) :: rest)) :=
  xp B hS layX5 tyX5 tyX5_ok nmX5 (by decide) (ceX5 _) rfl 5 (by decide) (tw_1 210 rfl rfl) rfl rfl rfl rfl rfl (Nat.le_of_ble_eq_true rfl) (ceX5 _) hdg kk
theorem gX10_167 (B : Bx p s m args c cc nL X RX10) (hS : SS X t H0 H locs) (hdg : decode cc pc = .ok (.getfield 167, 3)) (kk : W p l e R s m args below meth c H locs cells slots Q (F0 m (pc + 3) ls (.int (t 20 5) :: rest))) : W p l e R s m args below meth c H locs cells slots Q (F0 m pc ls (.ref (X.2.1 20) :: rest)) :=
  xgN B hS layX5 (by decide) (ceX5 _) rfl 5 (by decide) (List.mem_of_getElem? (i := 46) rfl) rfl rfl hdg kk
theorem pX10_167 (B : Bx p s m args c cc nL X RX10) (hS : SS X t H0 H locs) {x : Int32} (hdg : decode cc pc = .ok (.putfield 167, 3)) (kk : ∀ (H1 : Heap) (locs1 : List Loc), SS X (up t 20 5 x) H0 H1 locs1 → W p l e R s m args below meth c H1 locs1 cells slots Q (F0 m (pc + 3) ls (rest))) : W p l e R s m args below meth c H locs cells slots Q (F0 m pc ls (.int x :: .ref (X.2.1 20) :: rest)) :=
  xpN B hS layX5 tyX5 tyX5_ok nmX5 (by decide) (ceX5 _) rfl 5 (by decide) (List.mem_of_getElem? (i := 46) rfl) rfl rfl rfl rfl rfl (Nat.le_of_ble_eq_true rfl) (ceX5 _) hdg kk
theorem gX0_9 (B : Bx p s m args c cc nL X RX0) (hS : SS X t H0 H locs) (hdg : decode cc pc = .ok (.getfield 9, 3)) (kk : W p l e R s m args below meth c H locs cells slots Q (F0 m (pc + 3) ls (.int (t 25 0) :: rest))) : W p l e R s m args below meth c H locs cells slots Q (F0 m pc ls (.ref (X.2.1 25) :: rest)) :=
  xg B hS layX0 (by decide) (ceX0 _) rfl 0 (by decide) (tw_1 231 rfl rfl) rfl rfl hdg kk
theorem pX0_9 (B : Bx p s m args c cc nL X RX0) (hS : SS X t H0 H locs) {x : Int32} (hdg : decode cc pc = .ok (.putfield 9, 3)) (kk : ∀ (H1 : Heap) (locs1 : List Loc), SS X (up t 25 0 x) H0 H1 locs1 → W p l e R s m args below meth c H1 locs1 cells slots Q (F0 m (pc + 3) ls (rest))) : W p l e R s m args below meth c H locs cells slots Q (F0 m pc ls (.int x :: .ref (X.2.1 25) :: rest)) :=
  xp B hS layX0 tyX0 tyX0_ok nmX0 (by decide) (ceX0 _) rfl 0 (by decide) (tw_1 231 rfl rfl) rfl rfl rfl rfl rfl (Nat.le_of_ble_eq_true rfl) (ceX0 _) hdg kk
theorem gX10_332 (B : Bx p s m args c cc nL X RX10) (hS : SS X t H0 H locs) (hdg : decode cc pc = .ok (.getfield 332, 3)) (kk : W p l e R s m args below meth c H locs cells slots Q (F0 m (pc + 3) ls (.int (t 25 0) :: rest))) : W p l e R s m args below meth c H locs cells slots Q (F0 m pc ls (.ref (X.2.1 25) :: rest)) :=
  xgN B hS layX0 (by decide) (ceX0 _) rfl 0 (by decide) (List.mem_of_getElem? (i := 48) rfl) rfl rfl hdg kk
theorem pX10_332 (B : Bx p s m args c cc nL X RX10) (hS : SS X t H0 H locs) {x : Int32} (hdg : decode cc pc = .ok (.putfield 332, 3)) (kk : ∀ (H1 : Heap) (locs1 : List Loc), SS X (up t 25 0 x) H0 H1 locs1 → W p l e R s m args below meth c H1 locs1 cells slots Q (F0 m (pc + 3) ls (rest))) : W p l e R s m args below meth c H locs cells slots Q (F0 m pc ls (.int x :: .ref (X.2.1 25) :: rest)) :=
  xpN B hS layX0 tyX0 tyX0_ok nmX0 (by decide) (ceX0 _) rfl 0 (by decide) (List.mem_of_getElem? (i := 48) rfl) rfl rfl rfl rfl rfl (Nat.le_of_ble_eq_true rfl) (ceX0 _) hdg kk
theorem gX0_15 (B : Bx p s m args c cc nL X RX0) (hS : SS X t H0 H locs) (hdg : decode cc pc = .ok (.getfield 15, 3)) (kk : W p l e R s m args below meth c H locs cells slots Q (F0 m (pc + 3) ls (.int (t 25 1) :: rest))) : W p l e R s m args below meth c H locs cells slots Q (F0 m pc ls (.ref (X.2.1 25) :: rest)) :=
  xg B hS layX0 (by decide) (ceX0 _) rfl 1 (by decide) (tw_1 233 rfl rfl) rfl rfl hdg kk
theorem pX0_15 (B : Bx p s m args c cc nL X RX0) (hS : SS X t H0 H locs) {x : Int32} (hdg : decode cc pc = .ok (.putfield 15, 3)) (kk : ∀ (H1 : Heap) (locs1 : List Loc), SS X (up t 25 1 x) H0 H1 locs1 → W p l e R s m args below meth c H1 locs1 cells slots Q (F0 m (pc + 3) ls (rest))) : W p l e R s m args below meth c H locs cells slots Q (F0 m pc ls (.int x :: .ref (X.2.1 25) :: rest)) :=
  xp B hS layX0 tyX0 tyX0_ok nmX0 (by decide) (ceX0 _) rfl 1 (by decide) (tw_1 233 rfl rfl) rfl rfl rfl rfl rfl (Nat.le_of_ble_eq_true rfl) (ceX0 _) hdg kk
theorem gX10_333 (B : Bx p s m args c cc nL X RX10) (hS : SS X t H0 H locs) (hdg : decode cc pc = .ok (.getfield 333, 3)) (kk : W p l e R s m args below meth c H locs cells slots Q (F0 m (pc + 3) ls (.int (t 25 1) :: rest))) : W p l e R s m args below meth c H locs cells slots Q (F0 m pc ls (.ref (X.2.1 25) :: rest)) :=
  xgN B hS layX0 (by decide) (ceX0 _) rfl 1 (by decide) (List.mem_of_getElem? (i := 49) rfl) rfl rfl hdg kk
theorem pX10_333 (B : Bx p s m args c cc nL X RX10) (hS : SS X t H0 H locs) {x : Int32} (hdg : decode cc pc = .ok (.putfield 333, 3)) (kk : ∀ (H1 : Heap) (locs1 : List Loc), SS X (up t 25 1 x) H0 H1 locs1 → W p l e R s m args below meth c H1 locs1 cells slots Q (F0 m (pc + 3) ls (rest))) : W p l e R s m args below meth c H locs cells slots Q (F0 m pc ls (.int x :: .ref (X.2.1 25) :: rest)) :=
  xpN B hS layX0 tyX0 tyX0_ok nmX0 (by decide) (ceX0 _) rfl 1 (by decide) (List.mem_of_getElem? (i := 49) rfl) rfl rfl rfl rfl rfl (Nat.le_of_ble_eq_true rfl) (ceX0 _) hdg kk
theorem gX0_18 (B : Bx p s m args c cc nL X RX0) (hS : SS X t H0 H locs) (hdg : decode cc pc = .ok (.getfield 18, 3)) (kk : W p l e R s m args below meth c H locs cells slots Q (F0 m (pc + 3) ls (.ref (X.2.1 26) :: rest))) : W p l e R s m args below meth c H locs cells slots Q (F0 m pc ls (.ref (X.2.1 25) :: rest)) :=
  xg B hS layX0 (by decide) (ceX0 _) rfl 2 (by decide) (tw_1 235 rfl rfl) rfl rfl hdg kk
theorem gX9_24 (B : Bx p s m args c cc nL X RX9) (hS : SS X t H0 H locs) (hdg : decode cc pc = .ok (.getfield 24, 3)) (kk : W p l e R s m args below meth c H locs cells slots Q (F0 m (pc + 3) ls (.ref (X.2.1 3) :: rest))) : W p l e R s m args below meth c H locs cells slots Q (F0 m pc ls (.ref (X.2.1 27) :: rest)) :=
  xg B hS layX9 (by decide) (ceX9 _) rfl 0 (by decide) (tw_2 11 rfl rfl) rfl rfl hdg kk
theorem gX9_11 (B : Bx p s m args c cc nL X RX9) (hS : SS X t H0 H locs) (hdg : decode cc pc = .ok (.getfield 11, 3)) (kk : W p l e R s m args below meth c H locs cells slots Q (F0 m (pc + 3) ls (.ref (X.2.1 28) :: rest))) : W p l e R s m args below meth c H locs cells slots Q (F0 m pc ls (.ref (X.2.1 27) :: rest)) :=
  xg B hS layX9 (by decide) (ceX9 _) rfl 1 (by decide) (tw_2 12 rfl rfl) rfl rfl hdg kk
theorem gX9_16 (B : Bx p s m args c cc nL X RX9) (hS : SS X t H0 H locs) (hdg : decode cc pc = .ok (.getfield 16, 3)) (kk : W p l e R s m args below meth c H locs cells slots Q (F0 m (pc + 3) ls (.ref (X.2.1 38) :: rest))) : W p l e R s m args below meth c H locs cells slots Q (F0 m pc ls (.ref (X.2.1 27) :: rest)) :=
  xg B hS layX9 (by decide) (ceX9 _) rfl 2 (by decide) (tw_2 13 rfl rfl) rfl rfl hdg kk
theorem gX10_289 (B : Bx p s m args c cc nL X RX10) (hS : SS X t H0 H locs) (hdg : decode cc pc = .ok (.getfield 289, 3)) (kk : W p l e R s m args below meth c H locs cells slots Q (F0 m (pc + 3) ls (.ref (X.2.1 38) :: rest))) : W p l e R s m args below meth c H locs cells slots Q (F0 m pc ls (.ref (X.2.1 27) :: rest)) :=
  xgN B hS layX9 (by decide) (ceX9 _) rfl 2 (by decide) (List.mem_of_getElem? (i := 50) rfl) rfl rfl hdg kk
theorem gX9_20 (B : Bx p s m args c cc nL X RX9) (hS : SS X t H0 H locs) (hdg : decode cc pc = .ok (.getfield 20, 3)) (kk : W p l e R s m args below meth c H locs cells slots Q (F0 m (pc + 3) ls (.int (t 27 3) :: rest))) : W p l e R s m args below meth c H locs cells slots Q (F0 m pc ls (.ref (X.2.1 27) :: rest)) :=
  xg B hS layX9 (by decide) (ceX9 _) rfl 3 (by decide) (tw_2 15 rfl rfl) rfl rfl hdg kk
theorem pX9_20 (B : Bx p s m args c cc nL X RX9) (hS : SS X t H0 H locs) {x : Int32} (hdg : decode cc pc = .ok (.putfield 20, 3)) (kk : ∀ (H1 : Heap) (locs1 : List Loc), SS X (up t 27 3 x) H0 H1 locs1 → W p l e R s m args below meth c H1 locs1 cells slots Q (F0 m (pc + 3) ls (rest))) : W p l e R s m args below meth c H locs cells slots Q (F0 m pc ls (.int x :: .ref (X.2.1 27) :: rest)) :=
  xp B hS layX9 tyX9 tyX9_ok nmX9 (by decide) (ceX9 _) rfl 3 (by decide) (tw_2 15 rfl rfl) rfl rfl rfl rfl rfl (Nat.le_of_ble_eq_true rfl) (ceX9 _) hdg kk
theorem gX10_286 (B : Bx p s m args c cc nL X RX10) (hS : SS X t H0 H locs) (hdg : decode cc pc = .ok (.getfield 286, 3)) (kk : W p l e R s m args below meth c H locs cells slots Q (F0 m (pc + 3) ls (.int (t 27 3) :: rest))) : W p l e R s m args below meth c H locs cells slots Q (F0 m pc ls (.ref (X.2.1 27) :: rest)) :=
  xgN B hS layX9 (by decide) (ceX9 _) rfl 3 (by decide) (List.mem_of_getElem? (i := 51) rfl) rfl rfl hdg kk
theorem pX10_286 (B : Bx p s m args c cc nL X RX10) (hS : SS X t H0 H locs) {x : Int32} (hdg : decode cc pc = .ok (.putfield 286, 3)) (kk : ∀ (H1 : Heap) (locs1 : List Loc), SS X (up t 27 3 x) H0 H1 locs1 → W p l e R s m args below meth c H1 locs1 cells slots Q (F0 m (pc + 3) ls (rest))) : W p l e R s m args below meth c H locs cells slots Q (F0 m pc ls (.int x :: .ref (X.2.1 27) :: rest)) :=
  xpN B hS layX9 tyX9 tyX9_ok nmX9 (by decide) (ceX9 _) rfl 3 (by decide) (List.mem_of_getElem? (i := 51) rfl) rfl rfl rfl rfl rfl (Nat.le_of_ble_eq_true rfl) (ceX9 _) hdg kk
theorem gX2_28 (B : Bx p s m args c cc nL X RX2) (hS : SS X t H0 H locs) (hdg : decode cc pc = .ok (.getfield 28, 3)) (kk : W p l e R s m args below meth c H locs cells slots Q (F0 m (pc + 3) ls (.ref (X.2.1 3) :: rest))) : W p l e R s m args below meth c H locs cells slots Q (F0 m pc ls (.ref (X.2.1 39) :: rest)) :=
  xg B hS layX2 (by decide) (ceX2 _) rfl 0 (by decide) (tw_2 32 rfl rfl) rfl rfl hdg kk
theorem gX2_9 (B : Bx p s m args c cc nL X RX2) (hS : SS X t H0 H locs) (hdg : decode cc pc = .ok (.getfield 9, 3)) (kk : W p l e R s m args below meth c H locs cells slots Q (F0 m (pc + 3) ls (.ref (X.2.1 40) :: rest))) : W p l e R s m args below meth c H locs cells slots Q (F0 m pc ls (.ref (X.2.1 39) :: rest)) :=
  xg B hS layX2 (by decide) (ceX2 _) rfl 1 (by decide) (tw_2 33 rfl rfl) rfl rfl hdg kk
theorem gX2_15 (B : Bx p s m args c cc nL X RX2) (hS : SS X t H0 H locs) (hdg : decode cc pc = .ok (.getfield 15, 3)) (kk : W p l e R s m args below meth c H locs cells slots Q (F0 m (pc + 3) ls (.ref (X.2.1 41) :: rest))) : W p l e R s m args below meth c H locs cells slots Q (F0 m pc ls (.ref (X.2.1 39) :: rest)) :=
  xg B hS layX2 (by decide) (ceX2 _) rfl 2 (by decide) (tw_2 34 rfl rfl) rfl rfl hdg kk
theorem gX2_18 (B : Bx p s m args c cc nL X RX2) (hS : SS X t H0 H locs) (hdg : decode cc pc = .ok (.getfield 18, 3)) (kk : W p l e R s m args below meth c H locs cells slots Q (F0 m (pc + 3) ls (.ref (X.2.1 42) :: rest))) : W p l e R s m args below meth c H locs cells slots Q (F0 m pc ls (.ref (X.2.1 39) :: rest)) :=
  xg B hS layX2 (by decide) (ceX2 _) rfl 3 (by decide) (tw_2 35 rfl rfl) rfl rfl hdg kk
theorem gX10_299 (B : Bx p s m args c cc nL X RX10) (hS : SS X t H0 H locs) (hdg : decode cc pc = .ok (.getfield 299, 3)) (kk : W p l e R s m args below meth c H locs cells slots Q (F0 m (pc + 3) ls (.ref (X.2.1 42) :: rest))) : W p l e R s m args below meth c H locs cells slots Q (F0 m pc ls (.ref (X.2.1 39) :: rest)) :=
  xgN B hS layX2 (by decide) (ceX2 _) rfl 3 (by decide) (List.mem_of_getElem? (i := 52) rfl) rfl rfl hdg kk
theorem gX2_21 (B : Bx p s m args c cc nL X RX2) (hS : SS X t H0 H locs) (hdg : decode cc pc = .ok (.getfield 21, 3)) (kk : W p l e R s m args below meth c H locs cells slots Q (F0 m (pc + 3) ls (.int (t 39 4) :: rest))) : W p l e R s m args below meth c H locs cells slots Q (F0 m pc ls (.ref (X.2.1 39) :: rest)) :=
  xg B hS layX2 (by decide) (ceX2 _) rfl 4 (by decide) (tw_2 37 rfl rfl) rfl rfl hdg kk
theorem pX2_21 (B : Bx p s m args c cc nL X RX2) (hS : SS X t H0 H locs) {x : Int32} (hdg : decode cc pc = .ok (.putfield 21, 3)) (kk : ∀ (H1 : Heap) (locs1 : List Loc), SS X (up t 39 4 x) H0 H1 locs1 → W p l e R s m args below meth c H1 locs1 cells slots Q (F0 m (pc + 3) ls (rest))) : W p l e R s m args below meth c H locs cells slots Q (F0 m pc ls (.int x :: .ref (X.2.1 39) :: rest)) :=
  xp B hS layX2 tyX2 tyX2_ok nmX2 (by decide) (ceX2 _) rfl 4 (by decide) (tw_2 37 rfl rfl) rfl rfl rfl rfl rfl (Nat.le_of_ble_eq_true rfl) (ceX2 _) hdg kk
theorem gX2_25 (B : Bx p s m args c cc nL X RX2) (hS : SS X t H0 H locs) (hdg : decode cc pc = .ok (.getfield 25, 3)) (kk : W p l e R s m args below meth c H locs cells slots Q (F0 m (pc + 3) ls (.int (t 39 5) :: rest))) : W p l e R s m args below meth c H locs cells slots Q (F0 m pc ls (.ref (X.2.1 39) :: rest)) :=
  xg B hS layX2 (by decide) (ceX2 _) rfl 5 (by decide) (tw_2 38 rfl rfl) rfl rfl hdg kk
theorem pX2_25 (B : Bx p s m args c cc nL X RX2) (hS : SS X t H0 H locs) {x : Int32} (hdg : decode cc pc = .ok (.putfield 25, 3)) (kk : ∀ (H1 : Heap) (locs1 : List Loc), SS X (up t 39 5 x) H0 H1 locs1 → W p l e R s m args below meth c H1 locs1 cells slots Q (F0 m (pc + 3) ls (rest))) : W p l e R s m args below meth c H locs cells slots Q (F0 m pc ls (.int x :: .ref (X.2.1 39) :: rest)) :=
  xp B hS layX2 tyX2 tyX2_ok nmX2 (by decide) (ceX2 _) rfl 5 (by decide) (tw_2 38 rfl rfl) rfl rfl rfl rfl rfl (Nat.le_of_ble_eq_true rfl) (ceX2 _) hdg kk
theorem gX10_296 (B : Bx p s m args c cc nL X RX10) (hS : SS X t H0 H locs) (hdg : decode cc pc = .ok (.getfield 296, 3)) (kk : W p l e R s m args below meth c H locs cells slots Q (F0 m (pc + 3) ls (.int (t 39 5) :: rest))) : W p l e R s m args below meth c H locs cells slots Q (F0 m pc ls (.ref (X.2.1 39) :: rest)) :=
  xgN B hS layX2 (by decide) (ceX2 _) rfl 5 (by decide) (List.mem_of_getElem? (i := 53) rfl) rfl rfl hdg kk
theorem pX10_296 (B : Bx p s m args c cc nL X RX10) (hS : SS X t H0 H locs) {x : Int32} (hdg : decode cc pc = .ok (.putfield 296, 3)) (kk : ∀ (H1 : Heap) (locs1 : List Loc), SS X (up t 39 5 x) H0 H1 locs1 → W p l e R s m args below meth c H1 locs1 cells slots Q (F0 m (pc + 3) ls (rest))) : W p l e R s m args below meth c H locs cells slots Q (F0 m pc ls (.int x :: .ref (X.2.1 39) :: rest)) :=
  xpN B hS layX2 tyX2 tyX2_ok nmX2 (by decide) (ceX2 _) rfl 5 (by decide) (List.mem_of_getElem? (i := 53) rfl) rfl rfl rfl rfl rfl (Nat.le_of_ble_eq_true rfl) (ceX2 _) hdg kk
theorem gX1_7 (B : Bx p s m args c cc nL X RX1) (hS : SS X t H0 H locs) (hdg : decode cc pc = .ok (.getfield 7, 3)) (kk : W p l e R s m args below meth c H locs cells slots Q (F0 m (pc + 3) ls (.int (t 43 0) :: rest))) : W p l e R s m args below meth c H locs cells slots Q (F0 m pc ls (.ref (X.2.1 43) :: rest)) :=
  xg B hS layX1 (by decide) (ceX1 _) rfl 0 (by decide) (tw_2 59 rfl rfl) rfl rfl hdg kk
theorem pX1_7 (B : Bx p s m args c cc nL X RX1) (hS : SS X t H0 H locs) {x : Int32} (hdg : decode cc pc = .ok (.putfield 7, 3)) (kk : ∀ (H1 : Heap) (locs1 : List Loc), SS X (up t 43 0 x) H0 H1 locs1 → W p l e R s m args below meth c H1 locs1 cells slots Q (F0 m (pc + 3) ls (rest))) : W p l e R s m args below meth c H locs cells slots Q (F0 m pc ls (.int x :: .ref (X.2.1 43) :: rest)) :=
  xp B hS layX1 tyX1 tyX1_ok nmX1 (by decide) (ceX1 _) rfl 0 (by decide) (tw_2 59 rfl rfl) rfl rfl rfl rfl rfl (Nat.le_of_ble_eq_true rfl) (ceX1 _) hdg kk
theorem gX10_321 (B : Bx p s m args c cc nL X RX10) (hS : SS X t H0 H locs) (hdg : decode cc pc = .ok (.getfield 321, 3)) (kk : W p l e R s m args below meth c H locs cells slots Q (F0 m (pc + 3) ls (.int (t 43 0) :: rest))) : W p l e R s m args below meth c H locs cells slots Q (F0 m pc ls (.ref (X.2.1 43) :: rest)) :=
  xgN B hS layX1 (by decide) (ceX1 _) rfl 0 (by decide) (List.mem_of_getElem? (i := 55) rfl) rfl rfl hdg kk
theorem pX10_321 (B : Bx p s m args c cc nL X RX10) (hS : SS X t H0 H locs) {x : Int32} (hdg : decode cc pc = .ok (.putfield 321, 3)) (kk : ∀ (H1 : Heap) (locs1 : List Loc), SS X (up t 43 0 x) H0 H1 locs1 → W p l e R s m args below meth c H1 locs1 cells slots Q (F0 m (pc + 3) ls (rest))) : W p l e R s m args below meth c H locs cells slots Q (F0 m pc ls (.int x :: .ref (X.2.1 43) :: rest)) :=
  xpN B hS layX1 tyX1 tyX1_ok nmX1 (by decide) (ceX1 _) rfl 0 (by decide) (List.mem_of_getElem? (i := 55) rfl) rfl rfl rfl rfl rfl (Nat.le_of_ble_eq_true rfl) (ceX1 _) hdg kk
theorem gX10_20 (B : Bx p s m args c cc nL X RX10) (hS : SS X t H0 H locs) (hdg : decode cc pc = .ok (.getfield 20, 3)) (kk : W p l e R s m args below meth c H locs cells slots Q (F0 m (pc + 3) ls (.ref (X.2.1 1) :: rest))) : W p l e R s m args below meth c H locs cells slots Q (F0 m pc ls (.ref (X.2.1 0) :: rest)) :=
  xg B hS layX10 (by decide) (ceX10 _) rfl 0 (by decide) (tw_2 64 rfl rfl) rfl rfl hdg kk
theorem gX10_24 (B : Bx p s m args c cc nL X RX10) (hS : SS X t H0 H locs) (hdg : decode cc pc = .ok (.getfield 24, 3)) (kk : W p l e R s m args below meth c H locs cells slots Q (F0 m (pc + 3) ls (.ref (X.2.1 9) :: rest))) : W p l e R s m args below meth c H locs cells slots Q (F0 m pc ls (.ref (X.2.1 0) :: rest)) :=
  xg B hS layX10 (by decide) (ceX10 _) rfl 1 (by decide) (tw_2 65 rfl rfl) rfl rfl hdg kk
theorem gX10_28 (B : Bx p s m args c cc nL X RX10) (hS : SS X t H0 H locs) (hdg : decode cc pc = .ok (.getfield 28, 3)) (kk : W p l e R s m args below meth c H locs cells slots Q (F0 m (pc + 3) ls (.ref (X.2.1 3) :: rest))) : W p l e R s m args below meth c H locs cells slots Q (F0 m pc ls (.ref (X.2.1 0) :: rest)) :=
  xg B hS layX10 (by decide) (ceX10 _) rfl 2 (by decide) (tw_2 66 rfl rfl) rfl rfl hdg kk
theorem gX10_34 (B : Bx p s m args c cc nL X RX10) (hS : SS X t H0 H locs) (hdg : decode cc pc = .ok (.getfield 34, 3)) (kk : W p l e R s m args below meth c H locs cells slots Q (F0 m (pc + 3) ls (.ref (X.2.1 44) :: rest))) : W p l e R s m args below meth c H locs cells slots Q (F0 m pc ls (.ref (X.2.1 0) :: rest)) :=
  xg B hS layX10 (by decide) (ceX10 _) rfl 3 (by decide) (tw_2 67 rfl rfl) rfl rfl hdg kk
theorem gX10_38 (B : Bx p s m args c cc nL X RX10) (hS : SS X t H0 H locs) (hdg : decode cc pc = .ok (.getfield 38, 3)) (kk : W p l e R s m args below meth c H locs cells slots Q (F0 m (pc + 3) ls (.ref (X.2.1 49) :: rest))) : W p l e R s m args below meth c H locs cells slots Q (F0 m pc ls (.ref (X.2.1 0) :: rest)) :=
  xg B hS layX10 (by decide) (ceX10 _) rfl 4 (by decide) (tw_2 68 rfl rfl) rfl rfl hdg kk
theorem gX10_44 (B : Bx p s m args c cc nL X RX10) (hS : SS X t H0 H locs) (hdg : decode cc pc = .ok (.getfield 44, 3)) (kk : W p l e R s m args below meth c H locs cells slots Q (F0 m (pc + 3) ls (.ref (X.2.1 15) :: rest))) : W p l e R s m args below meth c H locs cells slots Q (F0 m pc ls (.ref (X.2.1 0) :: rest)) :=
  xg B hS layX10 (by decide) (ceX10 _) rfl 5 (by decide) (tw_2 69 rfl rfl) rfl rfl hdg kk
theorem gX10_48 (B : Bx p s m args c cc nL X RX10) (hS : SS X t H0 H locs) (hdg : decode cc pc = .ok (.getfield 48, 3)) (kk : W p l e R s m args below meth c H locs cells slots Q (F0 m (pc + 3) ls (.ref (X.2.1 17) :: rest))) : W p l e R s m args below meth c H locs cells slots Q (F0 m pc ls (.ref (X.2.1 0) :: rest)) :=
  xg B hS layX10 (by decide) (ceX10 _) rfl 6 (by decide) (tw_2 70 rfl rfl) rfl rfl hdg kk
theorem gX10_55 (B : Bx p s m args c cc nL X RX10) (hS : SS X t H0 H locs) (hdg : decode cc pc = .ok (.getfield 55, 3)) (kk : W p l e R s m args below meth c H locs cells slots Q (F0 m (pc + 3) ls (.ref (X.2.1 20) :: rest))) : W p l e R s m args below meth c H locs cells slots Q (F0 m pc ls (.ref (X.2.1 0) :: rest)) :=
  xg B hS layX10 (by decide) (ceX10 _) rfl 7 (by decide) (tw_2 71 rfl rfl) rfl rfl hdg kk
theorem gX10_62 (B : Bx p s m args c cc nL X RX10) (hS : SS X t H0 H locs) (hdg : decode cc pc = .ok (.getfield 62, 3)) (kk : W p l e R s m args below meth c H locs cells slots Q (F0 m (pc + 3) ls (.ref (X.2.1 25) :: rest))) : W p l e R s m args below meth c H locs cells slots Q (F0 m pc ls (.ref (X.2.1 0) :: rest)) :=
  xg B hS layX10 (by decide) (ceX10 _) rfl 8 (by decide) (tw_2 72 rfl rfl) rfl rfl hdg kk
theorem gX10_69 (B : Bx p s m args c cc nL X RX10) (hS : SS X t H0 H locs) (hdg : decode cc pc = .ok (.getfield 69, 3)) (kk : W p l e R s m args below meth c H locs cells slots Q (F0 m (pc + 3) ls (.ref (X.2.1 27) :: rest))) : W p l e R s m args below meth c H locs cells slots Q (F0 m pc ls (.ref (X.2.1 0) :: rest)) :=
  xg B hS layX10 (by decide) (ceX10 _) rfl 9 (by decide) (tw_2 73 rfl rfl) rfl rfl hdg kk
theorem gX10_76 (B : Bx p s m args c cc nL X RX10) (hS : SS X t H0 H locs) (hdg : decode cc pc = .ok (.getfield 76, 3)) (kk : W p l e R s m args below meth c H locs cells slots Q (F0 m (pc + 3) ls (.ref (X.2.1 39) :: rest))) : W p l e R s m args below meth c H locs cells slots Q (F0 m pc ls (.ref (X.2.1 0) :: rest)) :=
  xg B hS layX10 (by decide) (ceX10 _) rfl 10 (by decide) (tw_2 74 rfl rfl) rfl rfl hdg kk
theorem gX10_83 (B : Bx p s m args c cc nL X RX10) (hS : SS X t H0 H locs) (hdg : decode cc pc = .ok (.getfield 83, 3)) (kk : W p l e R s m args below meth c H locs cells slots Q (F0 m (pc + 3) ls (.ref (X.2.1 43) :: rest))) : W p l e R s m args below meth c H locs cells slots Q (F0 m pc ls (.ref (X.2.1 0) :: rest)) :=
  xg B hS layX10 (by decide) (ceX10 _) rfl 11 (by decide) (tw_2 75 rfl rfl) rfl rfl hdg kk
theorem gX11_78 (B : Bx p s m args c cc nL X RX11) (hS : SS X t H0 H locs) (hdg : decode cc pc = .ok (.getfield 78, 3)) (kk : W p l e R s m args below meth c H locs cells slots Q (F0 m (pc + 3) ls (.int (t 144 0) :: rest))) : W p l e R s m args below meth c H locs cells slots Q (F0 m pc ls (.ref (X.2.1 144) :: rest)) :=
  xg B hS layX11 (by decide) (ceX11 _) rfl 0 (by decide) (tw_4 90 rfl rfl) rfl rfl hdg kk
theorem pX11_78 (B : Bx p s m args c cc nL X RX11) (hS : SS X t H0 H locs) {x : Int32} (hdg : decode cc pc = .ok (.putfield 78, 3)) (kk : ∀ (H1 : Heap) (locs1 : List Loc), SS X (up t 144 0 x) H0 H1 locs1 → W p l e R s m args below meth c H1 locs1 cells slots Q (F0 m (pc + 3) ls (rest))) : W p l e R s m args below meth c H locs cells slots Q (F0 m pc ls (.int x :: .ref (X.2.1 144) :: rest)) :=
  xp B hS layX11 tyX11 tyX11_ok nmX11 (by decide) (ceX11 _) rfl 0 (by decide) (tw_4 90 rfl rfl) rfl rfl rfl rfl rfl (Nat.le_of_ble_eq_true rfl) (ceX11 _) hdg kk
theorem gX11_88 (B : Bx p s m args c cc nL X RX11) (hS : SS X t H0 H locs) (hdg : decode cc pc = .ok (.getfield 88, 3)) (kk : W p l e R s m args below meth c H locs cells slots Q (F0 m (pc + 3) ls (.int (t 144 1) :: rest))) : W p l e R s m args below meth c H locs cells slots Q (F0 m pc ls (.ref (X.2.1 144) :: rest)) :=
  xg B hS layX11 (by decide) (ceX11 _) rfl 1 (by decide) (tw_4 91 rfl rfl) rfl rfl hdg kk
theorem pX11_88 (B : Bx p s m args c cc nL X RX11) (hS : SS X t H0 H locs) {x : Int32} (hdg : decode cc pc = .ok (.putfield 88, 3)) (kk : ∀ (H1 : Heap) (locs1 : List Loc), SS X (up t 144 1 x) H0 H1 locs1 → W p l e R s m args below meth c H1 locs1 cells slots Q (F0 m (pc + 3) ls (rest))) : W p l e R s m args below meth c H locs cells slots Q (F0 m pc ls (.int x :: .ref (X.2.1 144) :: rest)) :=
  xp B hS layX11 tyX11 tyX11_ok nmX11 (by decide) (ceX11 _) rfl 1 (by decide) (tw_4 91 rfl rfl) rfl rfl rfl rfl rfl (Nat.le_of_ble_eq_true rfl) (ceX11 _) hdg kk
theorem gX11_150 (B : Bx p s m args c cc nL X RX11) (hS : SS X t H0 H locs) (hdg : decode cc pc = .ok (.getfield 150, 3)) (kk : W p l e R s m args below meth c H locs cells slots Q (F0 m (pc + 3) ls (.int (t 144 2) :: rest))) : W p l e R s m args below meth c H locs cells slots Q (F0 m pc ls (.ref (X.2.1 144) :: rest)) :=
  xg B hS layX11 (by decide) (ceX11 _) rfl 2 (by decide) (tw_4 92 rfl rfl) rfl rfl hdg kk
theorem pX11_150 (B : Bx p s m args c cc nL X RX11) (hS : SS X t H0 H locs) {x : Int32} (hdg : decode cc pc = .ok (.putfield 150, 3)) (kk : ∀ (H1 : Heap) (locs1 : List Loc), SS X (up t 144 2 x) H0 H1 locs1 → W p l e R s m args below meth c H1 locs1 cells slots Q (F0 m (pc + 3) ls (rest))) : W p l e R s m args below meth c H locs cells slots Q (F0 m pc ls (.int x :: .ref (X.2.1 144) :: rest)) :=
  xp B hS layX11 tyX11 tyX11_ok nmX11 (by decide) (ceX11 _) rfl 2 (by decide) (tw_4 92 rfl rfl) rfl rfl rfl rfl rfl (Nat.le_of_ble_eq_true rfl) (ceX11 _) hdg kk
theorem gX11_81 (B : Bx p s m args c cc nL X RX11) (hS : SS X t H0 H locs) (hdg : decode cc pc = .ok (.getfield 81, 3)) (kk : W p l e R s m args below meth c H locs cells slots Q (F0 m (pc + 3) ls (.int (t 144 3) :: rest))) : W p l e R s m args below meth c H locs cells slots Q (F0 m pc ls (.ref (X.2.1 144) :: rest)) :=
  xg B hS layX11 (by decide) (ceX11 _) rfl 3 (by decide) (tw_4 93 rfl rfl) rfl rfl hdg kk
theorem pX11_81 (B : Bx p s m args c cc nL X RX11) (hS : SS X t H0 H locs) {x : Int32} (hdg : decode cc pc = .ok (.putfield 81, 3)) (kk : ∀ (H1 : Heap) (locs1 : List Loc), SS X (up t 144 3 x) H0 H1 locs1 → W p l e R s m args below meth c H1 locs1 cells slots Q (F0 m (pc + 3) ls (rest))) : W p l e R s m args below meth c H locs cells slots Q (F0 m pc ls (.int x :: .ref (X.2.1 144) :: rest)) :=
  xp B hS layX11 tyX11 tyX11_ok nmX11 (by decide) (ceX11 _) rfl 3 (by decide) (tw_4 93 rfl rfl) rfl rfl rfl rfl rfl (Nat.le_of_ble_eq_true rfl) (ceX11 _) hdg kk
theorem gX11_7 (B : Bx p s m args c cc nL X RX11) (hS : SS X t H0 H locs) (hdg : decode cc pc = .ok (.getfield 7, 3)) (kk : W p l e R s m args below meth c H locs cells slots Q (F0 m (pc + 3) ls (.ref (X.2.1 145) :: rest))) : W p l e R s m args below meth c H locs cells slots Q (F0 m pc ls (.ref (X.2.1 144) :: rest)) :=
  xg B hS layX11 (by decide) (ceX11 _) rfl 4 (by decide) (tw_4 94 rfl rfl) rfl rfl hdg kk
theorem gX11_13 (B : Bx p s m args c cc nL X RX11) (hS : SS X t H0 H locs) (hdg : decode cc pc = .ok (.getfield 13, 3)) (kk : W p l e R s m args below meth c H locs cells slots Q (F0 m (pc + 3) ls (.ref (X.2.1 146) :: rest))) : W p l e R s m args below meth c H locs cells slots Q (F0 m pc ls (.ref (X.2.1 144) :: rest)) :=
  xg B hS layX11 (by decide) (ceX11 _) rfl 5 (by decide) (tw_4 95 rfl rfl) rfl rfl hdg kk
theorem gX11_16 (B : Bx p s m args c cc nL X RX11) (hS : SS X t H0 H locs) (hdg : decode cc pc = .ok (.getfield 16, 3)) (kk : W p l e R s m args below meth c H locs cells slots Q (F0 m (pc + 3) ls (.ref (X.2.1 147) :: rest))) : W p l e R s m args below meth c H locs cells slots Q (F0 m pc ls (.ref (X.2.1 144) :: rest)) :=
  xg B hS layX11 (by decide) (ceX11 _) rfl 6 (by decide) (tw_4 96 rfl rfl) rfl rfl hdg kk
theorem gX11_19 (B : Bx p s m args c cc nL X RX11) (hS : SS X t H0 H locs) (hdg : decode cc pc = .ok (.getfield 19, 3)) (kk : W p l e R s m args below meth c H locs cells slots Q (F0 m (pc + 3) ls (.ref (X.2.1 148) :: rest))) : W p l e R s m args below meth c H locs cells slots Q (F0 m pc ls (.ref (X.2.1 144) :: rest)) :=
  xg B hS layX11 (by decide) (ceX11 _) rfl 7 (by decide) (tw_4 97 rfl rfl) rfl rfl hdg kk
theorem gX11_153 (B : Bx p s m args c cc nL X RX11) (hS : SS X t H0 H locs) (hdg : decode cc pc = .ok (.getfield 153, 3)) (kk : W p l e R s m args below meth c H locs cells slots Q (F0 m (pc + 3) ls (.int (t 144 8) :: rest))) : W p l e R s m args below meth c H locs cells slots Q (F0 m pc ls (.ref (X.2.1 144) :: rest)) :=
  xg B hS layX11 (by decide) (ceX11 _) rfl 8 (by decide) (tw_4 98 rfl rfl) rfl rfl hdg kk
theorem pX11_153 (B : Bx p s m args c cc nL X RX11) (hS : SS X t H0 H locs) {x : Int32} (hdg : decode cc pc = .ok (.putfield 153, 3)) (kk : ∀ (H1 : Heap) (locs1 : List Loc), SS X (up t 144 8 x) H0 H1 locs1 → W p l e R s m args below meth c H1 locs1 cells slots Q (F0 m (pc + 3) ls (rest))) : W p l e R s m args below meth c H locs cells slots Q (F0 m pc ls (.int x :: .ref (X.2.1 144) :: rest)) :=
  xp B hS layX11 tyX11 tyX11_ok nmX11 (by decide) (ceX11 _) rfl 8 (by decide) (tw_4 98 rfl rfl) rfl rfl rfl rfl rfl (Nat.le_of_ble_eq_true rfl) (ceX11 _) hdg kk
theorem gX11_22 (B : Bx p s m args c cc nL X RX11) (hS : SS X t H0 H locs) (hdg : decode cc pc = .ok (.getfield 22, 3)) (kk : W p l e R s m args below meth c H locs cells slots Q (F0 m (pc + 3) ls (.ref (X.2.1 149) :: rest))) : W p l e R s m args below meth c H locs cells slots Q (F0 m pc ls (.ref (X.2.1 144) :: rest)) :=
  xg B hS layX11 (by decide) (ceX11 _) rfl 9 (by decide) (tw_4 99 rfl rfl) rfl rfl hdg kk
theorem gX11_25 (B : Bx p s m args c cc nL X RX11) (hS : SS X t H0 H locs) (hdg : decode cc pc = .ok (.getfield 25, 3)) (kk : W p l e R s m args below meth c H locs cells slots Q (F0 m (pc + 3) ls (.ref (X.2.1 150) :: rest))) : W p l e R s m args below meth c H locs cells slots Q (F0 m pc ls (.ref (X.2.1 144) :: rest)) :=
  xg B hS layX11 (by decide) (ceX11 _) rfl 10 (by decide) (tw_4 100 rfl rfl) rfl rfl hdg kk
theorem gX11_272 (B : Bx p s m args c cc nL X RX11) (hS : SS X t H0 H locs) (hdg : decode cc pc = .ok (.getfield 272, 3)) (kk : W p l e R s m args below meth c H locs cells slots Q (F0 m (pc + 3) ls (.int (t 144 11) :: rest))) : W p l e R s m args below meth c H locs cells slots Q (F0 m pc ls (.ref (X.2.1 144) :: rest)) :=
  xg B hS layX11 (by decide) (ceX11 _) rfl 11 (by decide) (tw_4 101 rfl rfl) rfl rfl hdg kk
theorem pX11_272 (B : Bx p s m args c cc nL X RX11) (hS : SS X t H0 H locs) {x : Int32} (hdg : decode cc pc = .ok (.putfield 272, 3)) (kk : ∀ (H1 : Heap) (locs1 : List Loc), SS X (up t 144 11 x) H0 H1 locs1 → W p l e R s m args below meth c H1 locs1 cells slots Q (F0 m (pc + 3) ls (rest))) : W p l e R s m args below meth c H locs cells slots Q (F0 m pc ls (.int x :: .ref (X.2.1 144) :: rest)) :=
  xp B hS layX11 tyX11 tyX11_ok nmX11 (by decide) (ceX11 _) rfl 11 (by decide) (tw_4 101 rfl rfl) rfl rfl rfl rfl rfl (Nat.le_of_ble_eq_true rfl) (ceX11 _) hdg kk
theorem gX11_28 (B : Bx p s m args c cc nL X RX11) (hS : SS X t H0 H locs) (hdg : decode cc pc = .ok (.getfield 28, 3)) (kk : W p l e R s m args below meth c H locs cells slots Q (F0 m (pc + 3) ls (.ref (X.2.1 151) :: rest))) : W p l e R s m args below meth c H locs cells slots Q (F0 m pc ls (.ref (X.2.1 144) :: rest)) :=
  xg B hS layX11 (by decide) (ceX11 _) rfl 12 (by decide) (tw_4 102 rfl rfl) rfl rfl hdg kk
theorem gX11_94 (B : Bx p s m args c cc nL X RX11) (hS : SS X t H0 H locs) (hdg : decode cc pc = .ok (.getfield 94, 3)) (kk : W p l e R s m args below meth c H locs cells slots Q (F0 m (pc + 3) ls (.int (t 144 13) :: rest))) : W p l e R s m args below meth c H locs cells slots Q (F0 m pc ls (.ref (X.2.1 144) :: rest)) :=
  xg B hS layX11 (by decide) (ceX11 _) rfl 13 (by decide) (tw_4 103 rfl rfl) rfl rfl hdg kk
theorem pX11_94 (B : Bx p s m args c cc nL X RX11) (hS : SS X t H0 H locs) {x : Int32} (hdg : decode cc pc = .ok (.putfield 94, 3)) (kk : ∀ (H1 : Heap) (locs1 : List Loc), SS X (up t 144 13 x) H0 H1 locs1 → W p l e R s m args below meth c H1 locs1 cells slots Q (F0 m (pc + 3) ls (rest))) : W p l e R s m args below meth c H locs cells slots Q (F0 m pc ls (.int x :: .ref (X.2.1 144) :: rest)) :=
  xp B hS layX11 tyX11 tyX11_ok nmX11 (by decide) (ceX11 _) rfl 13 (by decide) (tw_4 103 rfl rfl) rfl rfl rfl rfl rfl (Nat.le_of_ble_eq_true rfl) (ceX11 _) hdg kk
theorem gX11_31 (B : Bx p s m args c cc nL X RX11) (hS : SS X t H0 H locs) (hdg : decode cc pc = .ok (.getfield 31, 3)) (kk : W p l e R s m args below meth c H locs cells slots Q (F0 m (pc + 3) ls (.int (t 144 14) :: rest))) : W p l e R s m args below meth c H locs cells slots Q (F0 m pc ls (.ref (X.2.1 144) :: rest)) :=
  xg B hS layX11 (by decide) (ceX11 _) rfl 14 (by decide) (tw_4 104 rfl rfl) rfl rfl hdg kk
theorem pX11_31 (B : Bx p s m args c cc nL X RX11) (hS : SS X t H0 H locs) {x : Int32} (hdg : decode cc pc = .ok (.putfield 31, 3)) (kk : ∀ (H1 : Heap) (locs1 : List Loc), SS X (up t 144 14 x) H0 H1 locs1 → W p l e R s m args below meth c H1 locs1 cells slots Q (F0 m (pc + 3) ls (rest))) : W p l e R s m args below meth c H locs cells slots Q (F0 m pc ls (.int x :: .ref (X.2.1 144) :: rest)) :=
  xp B hS layX11 tyX11 tyX11_ok nmX11 (by decide) (ceX11 _) rfl 14 (by decide) (tw_4 104 rfl rfl) rfl rfl rfl rfl rfl (Nat.le_of_ble_eq_true rfl) (ceX11 _) hdg kk
theorem gX11_98 (B : Bx p s m args c cc nL X RX11) (hS : SS X t H0 H locs) (hdg : decode cc pc = .ok (.getfield 98, 3)) (kk : W p l e R s m args below meth c H locs cells slots Q (F0 m (pc + 3) ls (.int (t 144 15) :: rest))) : W p l e R s m args below meth c H locs cells slots Q (F0 m pc ls (.ref (X.2.1 144) :: rest)) :=
  xg B hS layX11 (by decide) (ceX11 _) rfl 15 (by decide) (tw_4 105 rfl rfl) rfl rfl hdg kk
theorem pX11_98 (B : Bx p s m args c cc nL X RX11) (hS : SS X t H0 H locs) {x : Int32} (hdg : decode cc pc = .ok (.putfield 98, 3)) (kk : ∀ (H1 : Heap) (locs1 : List Loc), SS X (up t 144 15 x) H0 H1 locs1 → W p l e R s m args below meth c H1 locs1 cells slots Q (F0 m (pc + 3) ls (rest))) : W p l e R s m args below meth c H locs cells slots Q (F0 m pc ls (.int x :: .ref (X.2.1 144) :: rest)) :=
  xp B hS layX11 tyX11 tyX11_ok nmX11 (by decide) (ceX11 _) rfl 15 (by decide) (tw_4 105 rfl rfl) rfl rfl rfl rfl rfl (Nat.le_of_ble_eq_true rfl) (ceX11 _) hdg kk
theorem gX11_116 (B : Bx p s m args c cc nL X RX11) (hS : SS X t H0 H locs) (hdg : decode cc pc = .ok (.getfield 116, 3)) (kk : W p l e R s m args below meth c H locs cells slots Q (F0 m (pc + 3) ls (.int (t 144 16) :: rest))) : W p l e R s m args below meth c H locs cells slots Q (F0 m pc ls (.ref (X.2.1 144) :: rest)) :=
  xg B hS layX11 (by decide) (ceX11 _) rfl 16 (by decide) (tw_4 106 rfl rfl) rfl rfl hdg kk
theorem pX11_116 (B : Bx p s m args c cc nL X RX11) (hS : SS X t H0 H locs) {x : Int32} (hdg : decode cc pc = .ok (.putfield 116, 3)) (kk : ∀ (H1 : Heap) (locs1 : List Loc), SS X (up t 144 16 x) H0 H1 locs1 → W p l e R s m args below meth c H1 locs1 cells slots Q (F0 m (pc + 3) ls (rest))) : W p l e R s m args below meth c H locs cells slots Q (F0 m pc ls (.int x :: .ref (X.2.1 144) :: rest)) :=
  xp B hS layX11 tyX11 tyX11_ok nmX11 (by decide) (ceX11 _) rfl 16 (by decide) (tw_4 106 rfl rfl) rfl rfl rfl rfl rfl (Nat.le_of_ble_eq_true rfl) (ceX11 _) hdg kk
theorem gX11_113 (B : Bx p s m args c cc nL X RX11) (hS : SS X t H0 H locs) (hdg : decode cc pc = .ok (.getfield 113, 3)) (kk : W p l e R s m args below meth c H locs cells slots Q (F0 m (pc + 3) ls (.int (t 144 17) :: rest))) : W p l e R s m args below meth c H locs cells slots Q (F0 m pc ls (.ref (X.2.1 144) :: rest)) :=
  xg B hS layX11 (by decide) (ceX11 _) rfl 17 (by decide) (tw_4 107 rfl rfl) rfl rfl hdg kk
theorem pX11_113 (B : Bx p s m args c cc nL X RX11) (hS : SS X t H0 H locs) {x : Int32} (hdg : decode cc pc = .ok (.putfield 113, 3)) (kk : ∀ (H1 : Heap) (locs1 : List Loc), SS X (up t 144 17 x) H0 H1 locs1 → W p l e R s m args below meth c H1 locs1 cells slots Q (F0 m (pc + 3) ls (rest))) : W p l e R s m args below meth c H locs cells slots Q (F0 m pc ls (.int x :: .ref (X.2.1 144) :: rest)) :=
  xp B hS layX11 tyX11 tyX11_ok nmX11 (by decide) (ceX11 _) rfl 17 (by decide) (tw_4 107 rfl rfl) rfl rfl rfl rfl rfl (Nat.le_of_ble_eq_true rfl) (ceX11 _) hdg kk
theorem gX11_122 (B : Bx p s m args c cc nL X RX11) (hS : SS X t H0 H locs) (hdg : decode cc pc = .ok (.getfield 122, 3)) (kk : W p l e R s m args below meth c H locs cells slots Q (F0 m (pc + 3) ls (.int (t 144 18) :: rest))) : W p l e R s m args below meth c H locs cells slots Q (F0 m pc ls (.ref (X.2.1 144) :: rest)) :=
  xg B hS layX11 (by decide) (ceX11 _) rfl 18 (by decide) (tw_4 108 rfl rfl) rfl rfl hdg kk
theorem pX11_122 (B : Bx p s m args c cc nL X RX11) (hS : SS X t H0 H locs) {x : Int32} (hdg : decode cc pc = .ok (.putfield 122, 3)) (kk : ∀ (H1 : Heap) (locs1 : List Loc), SS X (up t 144 18 x) H0 H1 locs1 → W p l e R s m args below meth c H1 locs1 cells slots Q (F0 m (pc + 3) ls (rest))) : W p l e R s m args below meth c H locs cells slots Q (F0 m pc ls (.int x :: .ref (X.2.1 144) :: rest)) :=
  xp B hS layX11 tyX11 tyX11_ok nmX11 (by decide) (ceX11 _) rfl 18 (by decide) (tw_4 108 rfl rfl) rfl rfl rfl rfl rfl (Nat.le_of_ble_eq_true rfl) (ceX11 _) hdg kk
theorem gX11_125 (B : Bx p s m args c cc nL X RX11) (hS : SS X t H0 H locs) (hdg : decode cc pc = .ok (.getfield 125, 3)) (kk : W p l e R s m args below meth c H locs cells slots Q (F0 m (pc + 3) ls (.int (t 144 19) :: rest))) : W p l e R s m args below meth c H locs cells slots Q (F0 m pc ls (.ref (X.2.1 144) :: rest)) :=
  xg B hS layX11 (by decide) (ceX11 _) rfl 19 (by decide) (tw_4 109 rfl rfl) rfl rfl hdg kk
theorem pX11_125 (B : Bx p s m args c cc nL X RX11) (hS : SS X t H0 H locs) {x : Int32} (hdg : decode cc pc = .ok (.putfield 125, 3)) (kk : ∀ (H1 : Heap) (locs1 : List Loc), SS X (up t 144 19 x) H0 H1 locs1 → W p l e R s m args below meth c H1 locs1 cells slots Q (F0 m (pc + 3) ls (rest))) : W p l e R s m args below meth c H locs cells slots Q (F0 m pc ls (.int x :: .ref (X.2.1 144) :: rest)) :=
  xp B hS layX11 tyX11 tyX11_ok nmX11 (by decide) (ceX11 _) rfl 19 (by decide) (tw_4 109 rfl rfl) rfl rfl rfl rfl rfl (Nat.le_of_ble_eq_true rfl) (ceX11 _) hdg kk
theorem gX11_128 (B : Bx p s m args c cc nL X RX11) (hS : SS X t H0 H locs) (hdg : decode cc pc = .ok (.getfield 128, 3)) (kk : W p l e R s m args below meth c H locs cells slots Q (F0 m (pc + 3) ls (.int (t 144 20) :: rest))) : W p l e R s m args below meth c H locs cells slots Q (F0 m pc ls (.ref (X.2.1 144) :: rest)) :=
  xg B hS layX11 (by decide) (ceX11 _) rfl 20 (by decide) (tw_4 110 rfl rfl) rfl rfl hdg kk
theorem pX11_128 (B : Bx p s m args c cc nL X RX11) (hS : SS X t H0 H locs) {x : Int32} (hdg : decode cc pc = .ok (.putfield 128, 3)) (kk : ∀ (H1 : Heap) (locs1 : List Loc), SS X (up t 144 20 x) H0 H1 locs1 → W p l e R s m args below meth c H1 locs1 cells slots Q (F0 m (pc + 3) ls (rest))) : W p l e R s m args below meth c H locs cells slots Q (F0 m pc ls (.int x :: .ref (X.2.1 144) :: rest)) :=
  xp B hS layX11 tyX11 tyX11_ok nmX11 (by decide) (ceX11 _) rfl 20 (by decide) (tw_4 110 rfl rfl) rfl rfl rfl rfl rfl (Nat.le_of_ble_eq_true rfl) (ceX11 _) hdg kk
theorem gX11_131 (B : Bx p s m args c cc nL X RX11) (hS : SS X t H0 H locs) (hdg : decode cc pc = .ok (.getfield 131, 3)) (kk : W p l e R s m args below meth c H locs cells slots Q (F0 m (pc + 3) ls (.int (t 144 21) :: rest))) : W p l e R s m args below meth c H locs cells slots Q (F0 m pc ls (.ref (X.2.1 144) :: rest)) :=
  xg B hS layX11 (by decide) (ceX11 _) rfl 21 (by decide) (tw_4 111 rfl rfl) rfl rfl hdg kk
theorem pX11_131 (B : Bx p s m args c cc nL X RX11) (hS : SS X t H0 H locs) {x : Int32} (hdg : decode cc pc = .ok (.putfield 131, 3)) (kk : ∀ (H1 : Heap) (locs1 : List Loc), SS X (up t 144 21 x) H0 H1 locs1 → W p l e R s m args below meth c H1 locs1 cells slots Q (F0 m (pc + 3) ls (rest))) : W p l e R s m args below meth c H locs cells slots Q (F0 m pc ls (.int x :: .ref (X.2.1 144) :: rest)) :=
  xp B hS layX11 tyX11 tyX11_ok nmX11 (by decide) (ceX11 _) rfl 21 (by decide) (tw_4 111 rfl rfl) rfl rfl rfl rfl rfl (Nat.le_of_ble_eq_true rfl) (ceX11 _) hdg kk
theorem gX11_35 (B : Bx p s m args c cc nL X RX11) (hS : SS X t H0 H locs) (hdg : decode cc pc = .ok (.getfield 35, 3)) (kk : W p l e R s m args below meth c H locs cells slots Q (F0 m (pc + 3) ls (.ref (X.2.1 152) :: rest))) : W p l e R s m args below meth c H locs cells slots Q (F0 m pc ls (.ref (X.2.1 144) :: rest)) :=
  xg B hS layX11 (by decide) (ceX11 _) rfl 22 (by decide) (tw_4 112 rfl rfl) rfl rfl hdg kk
theorem gX11_38 (B : Bx p s m args c cc nL X RX11) (hS : SS X t H0 H locs) (hdg : decode cc pc = .ok (.getfield 38, 3)) (kk : W p l e R s m args below meth c H locs cells slots Q (F0 m (pc + 3) ls (.ref (X.2.1 153) :: rest))) : W p l e R s m args below meth c H locs cells slots Q (F0 m pc ls (.ref (X.2.1 144) :: rest)) :=
  xg B hS layX11 (by decide) (ceX11 _) rfl 23 (by decide) (tw_4 113 rfl rfl) rfl rfl hdg kk
theorem gX11_41 (B : Bx p s m args c cc nL X RX11) (hS : SS X t H0 H locs) (hdg : decode cc pc = .ok (.getfield 41, 3)) (kk : W p l e R s m args below meth c H locs cells slots Q (F0 m (pc + 3) ls (.ref (X.2.1 154) :: rest))) : W p l e R s m args below meth c H locs cells slots Q (F0 m pc ls (.ref (X.2.1 144) :: rest)) :=
  xg B hS layX11 (by decide) (ceX11 _) rfl 24 (by decide) (tw_4 114 rfl rfl) rfl rfl hdg kk
theorem gX11_44 (B : Bx p s m args c cc nL X RX11) (hS : SS X t H0 H locs) (hdg : decode cc pc = .ok (.getfield 44, 3)) (kk : W p l e R s m args below meth c H locs cells slots Q (F0 m (pc + 3) ls (.ref (X.2.1 155) :: rest))) : W p l e R s m args below meth c H locs cells slots Q (F0 m pc ls (.ref (X.2.1 144) :: rest)) :=
  xg B hS layX11 (by decide) (ceX11 _) rfl 25 (by decide) (tw_4 115 rfl rfl) rfl rfl hdg kk
theorem gX11_138 (B : Bx p s m args c cc nL X RX11) (hS : SS X t H0 H locs) (hdg : decode cc pc = .ok (.getfield 138, 3)) (kk : W p l e R s m args below meth c H locs cells slots Q (F0 m (pc + 3) ls (.int (t 144 26) :: rest))) : W p l e R s m args below meth c H locs cells slots Q (F0 m pc ls (.ref (X.2.1 144) :: rest)) :=
  xg B hS layX11 (by decide) (ceX11 _) rfl 26 (by decide) (tw_4 116 rfl rfl) rfl rfl hdg kk
theorem pX11_138 (B : Bx p s m args c cc nL X RX11) (hS : SS X t H0 H locs) {x : Int32} (hdg : decode cc pc = .ok (.putfield 138, 3)) (kk : ∀ (H1 : Heap) (locs1 : List Loc), SS X (up t 144 26 x) H0 H1 locs1 → W p l e R s m args below meth c H1 locs1 cells slots Q (F0 m (pc + 3) ls (rest))) : W p l e R s m args below meth c H locs cells slots Q (F0 m pc ls (.int x :: .ref (X.2.1 144) :: rest)) :=
  xp B hS layX11 tyX11 tyX11_ok nmX11 (by decide) (ceX11 _) rfl 26 (by decide) (tw_4 116 rfl rfl) rfl rfl rfl rfl rfl (Nat.le_of_ble_eq_true rfl) (ceX11 _) hdg kk
theorem gX11_47 (B : Bx p s m args c cc nL X RX11) (hS : SS X t H0 H locs) (hdg : decode cc pc = .ok (.getfield 47, 3)) (kk : W p l e R s m args below meth c H locs cells slots Q (F0 m (pc + 3) ls (.ref (X.2.1 156) :: rest))) : W p l e R s m args below meth c H locs cells slots Q (F0 m pc ls (.ref (X.2.1 144) :: rest)) :=
  xg B hS layX11 (by decide) (ceX11 _) rfl 27 (by decide) (tw_4 117 rfl rfl) rfl rfl hdg kk
theorem gX11_176 (B : Bx p s m args c cc nL X RX11) (hS : SS X t H0 H locs) (hdg : decode cc pc = .ok (.getfield 176, 3)) (kk : W p l e R s m args below meth c H locs cells slots Q (F0 m (pc + 3) ls (.int (t 144 28) :: rest))) : W p l e R s m args below meth c H locs cells slots Q (F0 m pc ls (.ref (X.2.1 144) :: rest)) :=
  xg B hS layX11 (by decide) (ceX11 _) rfl 28 (by decide) (tw_4 118 rfl rfl) rfl rfl hdg kk
theorem pX11_176 (B : Bx p s m args c cc nL X RX11) (hS : SS X t H0 H locs) {x : Int32} (hdg : decode cc pc = .ok (.putfield 176, 3)) (kk : ∀ (H1 : Heap) (locs1 : List Loc), SS X (up t 144 28 x) H0 H1 locs1 → W p l e R s m args below meth c H1 locs1 cells slots Q (F0 m (pc + 3) ls (rest))) : W p l e R s m args below meth c H locs cells slots Q (F0 m pc ls (.int x :: .ref (X.2.1 144) :: rest)) :=
  xp B hS layX11 tyX11 tyX11_ok nmX11 (by decide) (ceX11 _) rfl 28 (by decide) (tw_4 118 rfl rfl) rfl rfl rfl rfl rfl (Nat.le_of_ble_eq_true rfl) (ceX11 _) hdg kk
theorem gX11_50 (B : Bx p s m args c cc nL X RX11) (hS : SS X t H0 H locs) (hdg : decode cc pc = .ok (.getfield 50, 3)) (kk : W p l e R s m args below meth c H locs cells slots Q (F0 m (pc + 3) ls (.ref (X.2.1 157) :: rest))) : W p l e R s m args below meth c H locs cells slots Q (F0 m pc ls (.ref (X.2.1 144) :: rest)) :=
  xg B hS layX11 (by decide) (ceX11 _) rfl 29 (by decide) (tw_4 119 rfl rfl) rfl rfl hdg kk
theorem gX11_53 (B : Bx p s m args c cc nL X RX11) (hS : SS X t H0 H locs) (hdg : decode cc pc = .ok (.getfield 53, 3)) (kk : W p l e R s m args below meth c H locs cells slots Q (F0 m (pc + 3) ls (.ref (X.2.1 158) :: rest))) : W p l e R s m args below meth c H locs cells slots Q (F0 m pc ls (.ref (X.2.1 144) :: rest)) :=
  xg B hS layX11 (by decide) (ceX11 _) rfl 30 (by decide) (tw_4 120 rfl rfl) rfl rfl hdg kk
theorem gX11_56 (B : Bx p s m args c cc nL X RX11) (hS : SS X t H0 H locs) (hdg : decode cc pc = .ok (.getfield 56, 3)) (kk : W p l e R s m args below meth c H locs cells slots Q (F0 m (pc + 3) ls (.ref (X.2.1 159) :: rest))) : W p l e R s m args below meth c H locs cells slots Q (F0 m pc ls (.ref (X.2.1 144) :: rest)) :=
  xg B hS layX11 (by decide) (ceX11 _) rfl 31 (by decide) (tw_4 121 rfl rfl) rfl rfl hdg kk
theorem gX11_170 (B : Bx p s m args c cc nL X RX11) (hS : SS X t H0 H locs) (hdg : decode cc pc = .ok (.getfield 170, 3)) (kk : W p l e R s m args below meth c H locs cells slots Q (F0 m (pc + 3) ls (.int (t 144 32) :: rest))) : W p l e R s m args below meth c H locs cells slots Q (F0 m pc ls (.ref (X.2.1 144) :: rest)) :=
  xg B hS layX11 (by decide) (ceX11 _) rfl 32 (by decide) (tw_4 122 rfl rfl) rfl rfl hdg kk
theorem pX11_170 (B : Bx p s m args c cc nL X RX11) (hS : SS X t H0 H locs) {x : Int32} (hdg : decode cc pc = .ok (.putfield 170, 3)) (kk : ∀ (H1 : Heap) (locs1 : List Loc), SS X (up t 144 32 x) H0 H1 locs1 → W p l e R s m args below meth c H1 locs1 cells slots Q (F0 m (pc + 3) ls (rest))) : W p l e R s m args below meth c H locs cells slots Q (F0 m pc ls (.int x :: .ref (X.2.1 144) :: rest)) :=
  xp B hS layX11 tyX11 tyX11_ok nmX11 (by decide) (ceX11 _) rfl 32 (by decide) (tw_4 122 rfl rfl) rfl rfl rfl rfl rfl (Nat.le_of_ble_eq_true rfl) (ceX11 _) hdg kk
theorem gX11_59 (B : Bx p s m args c cc nL X RX11) (hS : SS X t H0 H locs) (hdg : decode cc pc = .ok (.getfield 59, 3)) (kk : W p l e R s m args below meth c H locs cells slots Q (F0 m (pc + 3) ls (.ref (X.2.1 160) :: rest))) : W p l e R s m args below meth c H locs cells slots Q (F0 m pc ls (.ref (X.2.1 144) :: rest)) :=
  xg B hS layX11 (by decide) (ceX11 _) rfl 33 (by decide) (tw_4 123 rfl rfl) rfl rfl hdg kk
theorem gX11_62 (B : Bx p s m args c cc nL X RX11) (hS : SS X t H0 H locs) (hdg : decode cc pc = .ok (.getfield 62, 3)) (kk : W p l e R s m args below meth c H locs cells slots Q (F0 m (pc + 3) ls (.ref (X.2.1 161) :: rest))) : W p l e R s m args below meth c H locs cells slots Q (F0 m pc ls (.ref (X.2.1 144) :: rest)) :=
  xg B hS layX11 (by decide) (ceX11 _) rfl 34 (by decide) (tw_4 124 rfl rfl) rfl rfl hdg kk
theorem gX11_173 (B : Bx p s m args c cc nL X RX11) (hS : SS X t H0 H locs) (hdg : decode cc pc = .ok (.getfield 173, 3)) (kk : W p l e R s m args below meth c H locs cells slots Q (F0 m (pc + 3) ls (.int (t 144 35) :: rest))) : W p l e R s m args below meth c H locs cells slots Q (F0 m pc ls (.ref (X.2.1 144) :: rest)) :=
  xg B hS layX11 (by decide) (ceX11 _) rfl 35 (by decide) (tw_4 125 rfl rfl) rfl rfl hdg kk
theorem pX11_173 (B : Bx p s m args c cc nL X RX11) (hS : SS X t H0 H locs) {x : Int32} (hdg : decode cc pc = .ok (.putfield 173, 3)) (kk : ∀ (H1 : Heap) (locs1 : List Loc), SS X (up t 144 35 x) H0 H1 locs1 → W p l e R s m args below meth c H1 locs1 cells slots Q (F0 m (pc + 3) ls (rest))) : W p l e R s m args below meth c H locs cells slots Q (F0 m pc ls (.int x :: .ref (X.2.1 144) :: rest)) :=
  xp B hS layX11 tyX11 tyX11_ok nmX11 (by decide) (ceX11 _) rfl 35 (by decide) (tw_4 125 rfl rfl) rfl rfl rfl rfl rfl (Nat.le_of_ble_eq_true rfl) (ceX11 _) hdg kk
theorem gX11_65 (B : Bx p s m args c cc nL X RX11) (hS : SS X t H0 H locs) (hdg : decode cc pc = .ok (.getfield 65, 3)) (kk : W p l e R s m args below meth c H locs cells slots Q (F0 m (pc + 3) ls (.ref (X.2.1 162) :: rest))) : W p l e R s m args below meth c H locs cells slots Q (F0 m pc ls (.ref (X.2.1 144) :: rest)) :=
  xg B hS layX11 (by decide) (ceX11 _) rfl 36 (by decide) (tw_4 126 rfl rfl) rfl rfl hdg kk
theorem gX11_68 (B : Bx p s m args c cc nL X RX11) (hS : SS X t H0 H locs) (hdg : decode cc pc = .ok (.getfield 68, 3)) (kk : W p l e R s m args below meth c H locs cells slots Q (F0 m (pc + 3) ls (.ref (X.2.1 163) :: rest))) : W p l e R s m args below meth c H locs cells slots Q (F0 m pc ls (.ref (X.2.1 144) :: rest)) :=
  xg B hS layX11 (by decide) (ceX11 _) rfl 37 (by decide) (tw_4 127 rfl rfl) rfl rfl hdg kk
theorem gX11_71 (B : Bx p s m args c cc nL X RX11) (hS : SS X t H0 H locs) (hdg : decode cc pc = .ok (.getfield 71, 3)) (kk : W p l e R s m args below meth c H locs cells slots Q (F0 m (pc + 3) ls (.ref (X.2.1 164) :: rest))) : W p l e R s m args below meth c H locs cells slots Q (F0 m pc ls (.ref (X.2.1 144) :: rest)) :=
  xg B hS layX11 (by decide) (ceX11 _) rfl 38 (by decide) (tw_4 128 rfl rfl) rfl rfl hdg kk
theorem gX11_74 (B : Bx p s m args c cc nL X RX11) (hS : SS X t H0 H locs) (hdg : decode cc pc = .ok (.getfield 74, 3)) (kk : W p l e R s m args below meth c H locs cells slots Q (F0 m (pc + 3) ls (.ref (X.2.1 165) :: rest))) : W p l e R s m args below meth c H locs cells slots Q (F0 m pc ls (.ref (X.2.1 144) :: rest)) :=
  xg B hS layX11 (by decide) (ceX11 _) rfl 39 (by decide) (tw_4 129 rfl rfl) rfl rfl hdg kk
end FR
