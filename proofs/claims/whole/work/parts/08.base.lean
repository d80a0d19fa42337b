/-! the words of all methods: the tables' good words -/
def W0 : List Cond := lw_tbl.filter goodWord
theorem tw_of {w : Cond} (h : w ∈ lw_tbl) (hg : goodWord w = true) : w ∈ W0 := List.mem_filter.mpr ⟨h, hg⟩
theorem tq_0 {w : Cond} (i : Nat) (h : (k2_sels lw_privs)[i]? = some w) : w ∈ lw_tbl := List.mem_append_left _ (List.mem_of_getElem? h)
theorem tq_1 {w : Cond} (i : Nat) (h : tables_1_1[i]? = some w) : w ∈ lw_tbl := List.mem_append_right _ (List.mem_append_left _ (List.mem_of_getElem? h))
theorem tq_2 {w : Cond} (i : Nat) (h : tables_1_2[i]? = some w) : w ∈ lw_tbl := List.mem_append_right _ (List.mem_append_right _ (List.mem_append_left _ (List.mem_of_getElem? h)))
theorem tq_3 {w : Cond} (i : Nat) (h : tables_1_3[i]? = some w) : w ∈ lw_tbl := List.mem_append_right _ (List.mem_append_right _ (List.mem_append_right _ (List.mem_append_left _ (List.mem_of_getElem? h))))
theorem tq_4 {w : Cond} (i : Nat) (h : tables_1_4[i]? = some w) : w ∈ lw_tbl := List.mem_append_right _ (List.mem_append_right _ (List.mem_append_right _ (List.mem_append_right _ (List.mem_append_left _ (List.mem_of_getElem? h)))))
theorem tq_5 {w : Cond} (i : Nat) (h : tables_1_5[i]? = some w) : w ∈ lw_tbl := List.mem_append_right _ (List.mem_append_right _ (List.mem_append_right _ (List.mem_append_right _ (List.mem_append_right _ (List.mem_append_left _ (List.mem_of_getElem? h))))))
theorem tq_6 {w : Cond} (i : Nat) (h : tables_1_6[i]? = some w) : w ∈ lw_tbl := List.mem_append_right _ (List.mem_append_right _ (List.mem_append_right _ (List.mem_append_right _ (List.mem_append_right _ (List.mem_append_right _ (List.mem_of_getElem? h))))))
theorem tw_0 {w : Cond} (i : Nat) (h : (k2_sels lw_privs)[i]? = some w) (hg : goodWord w = true) : w ∈ W0 := tw_of (tq_0 i h) hg
theorem tw_1 {w : Cond} (i : Nat) (h : tables_1_1[i]? = some w) (hg : goodWord w = true) : w ∈ W0 := tw_of (tq_1 i h) hg
theorem tw_2 {w : Cond} (i : Nat) (h : tables_1_2[i]? = some w) (hg : goodWord w = true) : w ∈ W0 := tw_of (tq_2 i h) hg
theorem tw_3 {w : Cond} (i : Nat) (h : tables_1_3[i]? = some w) (hg : goodWord w = true) : w ∈ W0 := tw_of (tq_3 i h) hg
theorem tw_4 {w : Cond} (i : Nat) (h : tables_1_4[i]? = some w) (hg : goodWord w = true) : w ∈ W0 := tw_of (tq_4 i h) hg
theorem tw_5 {w : Cond} (i : Nat) (h : tables_1_5[i]? = some w) (hg : goodWord w = true) : w ∈ W0 := tw_of (tq_5 i h) hg
theorem tw_6 {w : Cond} (i : Nat) (h : tables_1_6[i]? = some w) (hg : goodWord w = true) : w ∈ W0 := tw_of (tq_6 i h) hg
theorem w0_good : ∀ w ∈ W0, (w.onTables && w.keeps) = true ∨ ∃ ty, w = .arrayClass ty := fun _ h => good_of_word (List.mem_filter.mp h).2
theorem w0_in : ∀ w ∈ W0, w ∈ lw_tbl := fun _ h => (List.mem_filter.mp h).1
theorem lay_in {C : String} {T : u_T} {N : Nat} (h : ∀ k, k < N → u_lay C T k ∈ W0) : ∀ w ∈ u_ws C T N, w ∈ W0 := by
  intro w hw
  obtain ⟨k, hk, rfl⟩ := List.mem_map.mp hw
  exact h k (List.mem_range.mp hk)
/-! the words of nest mates -/
def nestW : List Cond := [(Jvm.Cond.methodLinkNest "SongSquares" (9 : Nat) ({ cls := "SongSquares$Register", name := "<init>", desc := "()V" } : Jvm.MethodName) "SongSquares"), (Jvm.Cond.fieldLinkNest "SongSquares$Hall" (41 : Nat) "SongSquares$Register" "rate" "I" "SongSquares"), (Jvm.Cond.fieldLinkNest "SongSquares$Reader" (66 : Nat) "SongSquares$Register" "rate" "I" "SongSquares"), (Jvm.Cond.fieldLinkNest "SongSquares$Grouping" (41 : Nat) "SongSquares$Register" "places" "I" "SongSquares"), (Jvm.Cond.fieldLinkNest "SongSquares$Reader" (69 : Nat) "SongSquares$Register" "places" "I" "SongSquares"), (Jvm.Cond.fieldLinkNest "SongSquares" (126 : Nat) "SongSquares$Register" "places" "I" "SongSquares"), (Jvm.Cond.fieldLinkNest "SongSquares$Hall" (82 : Nat) "SongSquares$Register" "places" "I" "SongSquares"), (Jvm.Cond.fieldLinkNest "SongSquares$Sharing" (28 : Nat) "SongSquares$Register" "words" "I" "SongSquares"), (Jvm.Cond.fieldLinkNest "SongSquares$Reader" (72 : Nat) "SongSquares$Register" "words" "I" "SongSquares"), (Jvm.Cond.fieldLinkNest "SongSquares" (129 : Nat) "SongSquares$Register" "words" "I" "SongSquares"), (Jvm.Cond.fieldLinkNest "SongSquares$Grouping" (32 : Nat) "SongSquares$Register" "singers" "I" "SongSquares"), (Jvm.Cond.fieldLinkNest "SongSquares$Sharing" (33 : Nat) "SongSquares$Register" "singers" "I" "SongSquares"), (Jvm.Cond.fieldLinkNest "SongSquares" (117 : Nat) "SongSquares$Register" "singers" "I" "SongSquares"), (Jvm.Cond.fieldLinkNest "SongSquares$Choirs" (38 : Nat) "SongSquares$Register" "singers" "I" "SongSquares"), (Jvm.Cond.fieldLinkNest "SongSquares$Reader" (52 : Nat) "SongSquares$Register" "singers" "I" "SongSquares"), (Jvm.Cond.fieldLinkNest "SongSquares$Hall" (63 : Nat) "SongSquares$Register" "singers" "I" "SongSquares"), (Jvm.Cond.fieldLinkNest "SongSquares$Reader" (55 : Nat) "SongSquares$Register" "inspectors" "I" "SongSquares"), (Jvm.Cond.fieldLinkNest "SongSquares" (132 : Nat) "SongSquares$Register" "inspectors" "I" "SongSquares"), (Jvm.Cond.fieldLinkNest "SongSquares$Hall" (79 : Nat) "SongSquares$Register" "inspectors" "I" "SongSquares"), (Jvm.Cond.fieldLinkNest "SongSquares" (177 : Nat) "SongSquares$Register" "kind" "[I" "SongSquares"), (Jvm.Cond.fieldLinkNest "SongSquares$Hall" (88 : Nat) "SongSquares$Register" "kind" "[I" "SongSquares"), (Jvm.Cond.fieldLinkNest "SongSquares$Hall" (44 : Nat) "SongSquares$Register" "home" "[I" "SongSquares"), (Jvm.Cond.fieldLinkNest "SongSquares$Hall" (47 : Nat) "SongSquares$Register" "means" "[I" "SongSquares"), (Jvm.Cond.fieldLinkNest "SongSquares$Sharing" (40 : Nat) "SongSquares$Register" "known" "[I" "SongSquares"), (Jvm.Cond.fieldLinkNest "SongSquares" (187 : Nat) "SongSquares$Register" "known" "[I" "SongSquares"), (Jvm.Cond.fieldLinkNest "SongSquares$Hall" (50 : Nat) "SongSquares$Register" "firstPost" "[I" "SongSquares"), (Jvm.Cond.fieldLinkNest "SongSquares$Ledger" (31 : Nat) "SongSquares$Hall" "register" "LSongSquares$Register;" "SongSquares"), (Jvm.Cond.fieldLinkNest "SongSquares$Grouping" (60 : Nat) "SongSquares$Hall" "rate" "I" "SongSquares"), (Jvm.Cond.fieldLinkNest "SongSquares" (123 : Nat) "SongSquares$Hall" "rate" "I" "SongSquares"), (Jvm.Cond.fieldLinkNest "SongSquares" (135 : Nat) "SongSquares$Hall" "verses" "I" "SongSquares"), (Jvm.Cond.fieldLinkNest "SongSquares" (142 : Nat) "SongSquares$Hall" "treasury" "I" "SongSquares"), (Jvm.Cond.fieldLinkNest "SongSquares" (145 : Nat) "SongSquares$Hall" "caught" "I" "SongSquares"), (Jvm.Cond.fieldLinkNest "SongSquares" (181 : Nat) "SongSquares$Hall" "at" "[I" "SongSquares"), (Jvm.Cond.fieldLinkNest "SongSquares$Ledger" (43 : Nat) "SongSquares$Hall" "purse" "[I" "SongSquares"), (Jvm.Cond.fieldLinkNest "SongSquares" (184 : Nat) "SongSquares$Hall" "purse" "[I" "SongSquares"), (Jvm.Cond.fieldLinkNest "SongSquares" (190 : Nat) "SongSquares$Hall" "turn" "[I" "SongSquares"), (Jvm.Cond.fieldLinkNest "SongSquares" (247 : Nat) "SongSquares$Hall" "post" "[I" "SongSquares"), (Jvm.Cond.fieldLinkNest "SongSquares" (324 : Nat) "SongSquares$Image" "hall" "LSongSquares$Hall;" "SongSquares"), (Jvm.Cond.fieldLinkNest "SongSquares" (327 : Nat) "SongSquares$Image" "grain" "I" "SongSquares"), (Jvm.Cond.fieldLinkNest "SongSquares" (113 : Nat) "SongSquares$Image" "kept" "Z" "SongSquares"), (Jvm.Cond.methodLinkNest "SongSquares" (19 : Nat) ({ cls := "SongSquares$Reader", name := "<init>", desc := "()V" } : Jvm.MethodName) "SongSquares"), (Jvm.Cond.fieldLinkNest "SongSquares" (92 : Nat) "SongSquares$Reader" "length" "I" "SongSquares"), (Jvm.Cond.fieldLinkNest "SongSquares" (120 : Nat) "SongSquares$Reader" "flawAt" "I" "SongSquares"), (Jvm.Cond.fieldLinkNest "SongSquares" (170 : Nat) "SongSquares$Past" "count" "I" "SongSquares"), (Jvm.Cond.methodLinkNest "SongSquares" (54 : Nat) ({ cls := "SongSquares$Ledger", name := "<init>", desc := "()V" } : Jvm.MethodName) "SongSquares"), (Jvm.Cond.fieldLinkNest "SongSquares" (160 : Nat) "SongSquares$Ledger" "payments" "I" "SongSquares"), (Jvm.Cond.fieldLinkNest "SongSquares" (167 : Nat) "SongSquares$Ledger" "entries" "I" "SongSquares"), (Jvm.Cond.methodLinkNest "SongSquares" (61 : Nat) ({ cls := "SongSquares$Choirs", name := "<init>", desc := "()V" } : Jvm.MethodName) "SongSquares"), (Jvm.Cond.fieldLinkNest "SongSquares" (332 : Nat) "SongSquares$Choirs" "count" "I" "SongSquares"), (Jvm.Cond.fieldLinkNest "SongSquares" (333 : Nat) "SongSquares$Choirs" "common" "I" "SongSquares"), (Jvm.Cond.fieldLinkNest "SongSquares" (289 : Nat) "SongSquares$Sharing" "row" "[I" "SongSquares"), (Jvm.Cond.fieldLinkNest "SongSquares" (286 : Nat) "SongSquares$Sharing" "changes" "I" "SongSquares"), (Jvm.Cond.fieldLinkNest "SongSquares" (299 : Nat) "SongSquares$Grouping" "placed" "[I" "SongSquares"), (Jvm.Cond.fieldLinkNest "SongSquares" (296 : Nat) "SongSquares$Grouping" "least" "I" "SongSquares"), (Jvm.Cond.methodLinkNest "SongSquares" (82 : Nat) ({ cls := "SongSquares$Draws", name := "<init>", desc := "()V" } : Jvm.MethodName) "SongSquares"), (Jvm.Cond.fieldLinkNest "SongSquares" (321 : Nat) "SongSquares$Draws" "grain" "I" "SongSquares"), (Jvm.Cond.methodLinkNest "SongSquares$Register" (53 : Nat) ({ cls := "SongSquares", name := "isIn", desc := "(II)Z" } : Jvm.MethodName) "SongSquares"), (Jvm.Cond.methodLinkNest "SongSquares$Hall" (107 : Nat) ({ cls := "SongSquares", name := "isIn", desc := "(II)Z" } : Jvm.MethodName) "SongSquares"), (Jvm.Cond.methodLinkNest "SongSquares$Sharing" (36 : Nat) ({ cls := "SongSquares", name := "isIn", desc := "(II)Z" } : Jvm.MethodName) "SongSquares"), (Jvm.Cond.methodLinkNest "SongSquares$Grouping" (37 : Nat) ({ cls := "SongSquares", name := "isIn", desc := "(II)Z" } : Jvm.MethodName) "SongSquares")]
def isN : Cond → Bool
  | .fieldLinkNest .. => true
  | .methodLinkNest .. => true
  | _ => false
def NW (U : State) : Prop := ∀ w ∈ nestW, va_Nw w U
theorem nest_all : ∀ w ∈ nestW, isN w = true := by decide
theorem NW_warm {s U : State} (hW : s.WarmedH U.vm) (h : NW s) : NW U := by
  intro w hw
  have h1 := nest_all w hw
  have h2 := h w hw
  cases w <;> first | exact va_Nw.warmF hW h2 | exact va_Nw.warmM hW h2 | cases h1
theorem NW_same {s U : State} (hv : s.vm = U.vm) (h : NW s) : NW U := by
  intro w hw
  have h1 := nest_all w hw
  have h2 := h w hw
  cases w <;> first | exact va_Nw.same rfl hv h2 | cases h1
/-! the world: what every cell holds, by its number and place -/
abbrev St : Type := Nat → Nat → Int32
abbrev Cx : Type := va_G × (Nat → Nat) × (Nat → ClassId)
def upR (t : St) (o : Nat) (r : Nat → Int32) : St := fun a => if a = o then r else t a
def up (t : St) (o k : Nat) (x : Int32) : St := upR t o (upd (t o) k x)
def rA (X : Cx) (n : Nat) (f : Nat → Nat) (k : Nat) : va_E := .inl (X.2.2 k, n, .inr (.inr (.inr (.inr (fun i => some (X.2.1 (f i)))))))
def iA (X : Cx) (n : Nat) (r : Nat → Int32) : va_E := .inl (X.2.2 0, n, .inl r)
def zA (X : Cx) (n : Nat) (r : Nat → Int32) : va_E := .inl (X.2.2 1, n, .inl r)
abbrev NC : Nat := 166
/-- the hall of an image -/
abbrev imgH (o : Nat) : Nat := 134 + 5 * (o - 18)
def cE2 (X : Cx) (o : Nat) (r : Nat → Int32) : va_E :=
  if o = 0 then .inr (10, [.ref (X.2.1 1), .ref (X.2.1 9), .ref (X.2.1 3), .ref (X.2.1 44), .ref (X.2.1 49), .ref (X.2.1 15), .ref (X.2.1 17), .ref (X.2.1 20), .ref (X.2.1 25), .ref (X.2.1 27), .ref (X.2.1 39), .ref (X.2.1 43)])
  else if o = 1 then .inr (7, [.ref (X.2.1 2), .int (r 1), .int (r 2), .int (r 3), .int (r 4)])
  else if o = 2 then iA X 240 r
  else if o = 3 then .inr (8, [.int (r 0), .int (r 1), .int (r 2), .int (r 3), .int (r 4), .ref (X.2.1 4), .ref (X.2.1 5), .ref (X.2.1 6), .ref (X.2.1 7), .ref (X.2.1 8)])
  else if o = 4 then iA X 7 r
  else if o = 5 then iA X 7 r
  else if o = 6 then iA X 7 r
  else if o = 7 then iA X 7 r
  else if o = 8 then iA X 4 r
  else if o = 9 then .inr (8, [.int (r 0), .int (r 1), .int (r 2), .int (r 3), .int (r 4), .ref (X.2.1 10), .ref (X.2.1 11), .ref (X.2.1 12), .ref (X.2.1 13), .ref (X.2.1 14)])
  else if o = 10 then iA X 7 r
  else if o = 11 then iA X 7 r
  else if o = 12 then iA X 7 r
  else if o = 13 then iA X 7 r
  else if o = 14 then iA X 4 r
  else if o = 15 then .inr (6, [.ref (X.2.1 16), .int (r 1), .int (r 2)])
  else if o = 16 then rA X 16 (fun i => 54 + 5 * i) 2
  else if o = 17 then rA X 2 (fun i => 18 + i) 3
  else if o = 18 then .inr (4, [.ref (X.2.1 (imgH 18)), .int (r 1), .int (r 2)])
  else if o = 19 then .inr (4, [.ref (X.2.1 (imgH 19)), .int (r 1), .int (r 2)])
  else if o = 20 then .inr (5, [.ref (X.2.1 21), .ref (X.2.1 22), .ref (X.2.1 23), .ref (X.2.1 24), .int (r 4), .int (r 5)])
  else if o = 21 then iA X 6 r
  else if o = 22 then iA X 6 r
  else if o = 23 then iA X 15 r
  else if o = 24 then iA X 15 r
  else if o = 25 then .inr (0, [.int (r 0), .int (r 1), .ref (X.2.1 26)])
  else if o = 26 then iA X 7 r
  else if o = 27 then .inr (9, [.ref (X.2.1 3), .ref (X.2.1 28), .ref (X.2.1 38), .int (r 3)])
  else if o = 28 then rA X 9 (fun i => 29 + i) 4
  else if o = 29 then iA X 7 r
  else if o = 30 then iA X 7 r
  else if o = 31 then iA X 7 r
  else if o = 32 then iA X 7 r
  else if o = 33 then iA X 7 r
  else if o = 34 then iA X 7 r
  else if o = 35 then iA X 7 r
  else if o = 36 then iA X 7 r
  else if o = 37 then iA X 7 r
  else if o = 38 then iA X 9 r
  else if o = 39 then .inr (2, [.ref (X.2.1 3), .ref (X.2.1 40), .ref (X.2.1 41), .ref (X.2.1 42), .int (r 4), .int (r 5)])
  else if o = 40 then iA X 7 r
  else if o = 41 then iA X 4096 r
  else if o = 42 then iA X 7 r
  else if o = 43 then .inr (1, [.int (r 0)])
  else if o = 144 then .inr (11, [.int (r 0), .int (r 1), .int (r 2), .int (r 3), .ref (X.2.1 145), .ref (X.2.1 146), .ref (X.2.1 147), .ref (X.2.1 148), .int (r 8), .ref (X.2.1 149), .ref (X.2.1 150), .int (r 11), .ref (X.2.1 151), .int (r 13), .int (r 14), .int (r 15), .int (r 16), .int (r 17), .int (r 18), .int (r 19), .int (r 20), .int (r 21), .ref (X.2.1 152), .ref (X.2.1 153), .ref (X.2.1 154), .ref (X.2.1 155), .int (r 26), .ref (X.2.1 156), .int (r 28), .ref (X.2.1 157), .ref (X.2.1 158), .ref (X.2.1 159), .int (r 32), .ref (X.2.1 160), .ref (X.2.1 161), .int (r 35), .ref (X.2.1 162), .ref (X.2.1 163), .ref (X.2.1 164), .ref (X.2.1 165)])
  else if o = 145 then iA X 7 r
  else if o = 146 then iA X 7 r
  else if o = 147 then iA X 7 r
  else if o = 148 then iA X 7 r
  else if o = 149 then iA X 4 r
  else if o = 150 then iA X 29 r
  else if o = 151 then iA X 240 r
  else if o = 152 then iA X 7 r
  else if o = 153 then iA X 7 r
  else if o = 154 then iA X 7 r
  else if o = 155 then iA X 7 r
  else if o = 156 then iA X 4 r
  else if o = 157 then iA X 464 r
  else if o = 158 then iA X 29 r
  else if o = 159 then iA X 70 r
  else if o = 160 then iA X 6 r
  else if o = 161 then iA X 6 r
  else if o = 162 then iA X 15 r
  else if o = 163 then iA X 15 r
  else if o = 164 then iA X 60 r
  else if o = 165 then zA X 2 r
  else iA X 0 r
def cE (X : Cx) (o : Nat) (r : Nat → Int32) : va_E :=
  if 44 ≤ o ∧ o < 144 then (if (o - 44) % 5 = 0 then .inr (3, [.ref (X.2.1 3), .int (r 1), .int (r 2), .int (r 3), .int (r 4), .ref (X.2.1 (o + 1)), .ref (X.2.1 (o + 2)), .ref (X.2.1 (o + 3)), .ref (X.2.1 (o + 4))]) else if (o - 44) % 5 = 4 then iA X 4 r else iA X 7 r) else cE2 X o r
def wl (X : Cx) (t : St) : va_W := (List.range NC).map (fun o => (X.2.1 o, cE X o (t o)))
abbrev tys0 (X : Cx) : List (ClassId × FieldType) := [(X.2.2 0, .int), (X.2.2 1, .boolean), (X.2.2 2, .object RX3), (X.2.2 3, .object RX4), (X.2.2 4, .array .int)]
def AN (X : Cx) : Nat → Prop := fun q => ∃ o, o < NC ∧ q = X.2.1 o
def Inj (X : Cx) : Prop := ∀ i j, i < NC → j < NC → X.2.1 i = X.2.1 j → i = j
def PW (X : Cx) (t : St) (U : State) : Prop := va_P X.1 vwCl (wl X t) U.heap ∧ va_K X.1 vwCl (tys0 X) U ∧ NW U ∧ Inj X
def SS (X : Cx) (t : St) (H0 H : Heap) (locs : List Loc) : Prop := va_P X.1 vwCl (wl X t) H ∧ va_S (AN X) H0 H locs
theorem wl_at {X : Cx} {t : St} {o : Nat} (ho : o < NC) : (wl X t)[o]? = some (X.2.1 o, cE X o (t o)) := by
  unfold wl
  rw [List.getElem?_map, List.getElem?_range ho]
  rfl
theorem wl_of {X : Cx} {t : St} {o : Nat} {e : va_E} (ho : o < NC) (he : cE X o (t o) = e) : (wl X t)[o]? = some (X.2.1 o, e) := by rw [wl_at ho, he]
theorem wl_lt {X : Cx} {t : St} {j : Nat} {q : Nat × va_E} (h : (wl X t)[j]? = some q) : j < NC := by
  have := (List.getElem?_eq_some_iff.mp h).1
  simpa [wl] using this
theorem wl_set {X : Cx} {t : St} {o : Nat} {r : Nat → Int32} {e : va_E} (ho : o < NC) (he : cE X o r = e) : (wl X t).set o (X.2.1 o, e) = wl X (upR t o r) := by
  apply List.ext_getElem?
  intro j
  by_cases hj : j = o
  · subst hj
    rw [List.getElem?_set_self (by simpa [wl] using ho), wl_at ho]
    simp [upR, he]
  · rw [List.getElem?_set_ne (Ne.symm hj)]
    by_cases hl : j < NC
    · rw [wl_at hl, wl_at hl]
      simp [upR, hj]
    · rw [List.getElem?_eq_none (by simp [wl] at *; omega), List.getElem?_eq_none (by simp [wl] at *; omega)]
theorem D_of {X : Cx} {t : St} (hI : Inj X) : va_D (AN X) (wl X t) := by
  refine ⟨fun i j p q hi hj hpq => ?_, fun k q hk => ?_⟩
  · have h1 := wl_lt hi
    have h2 := wl_lt hj
    rw [wl_at h1] at hi
    rw [wl_at h2] at hj
    cases hi
    cases hj
    exact hI i j h1 h2 hpq
  · have h1 := wl_lt hk
    rw [wl_at h1] at hk
    cases hk
    exact ⟨k, h1, rfl⟩
/-! guards of the pure functions, and how they open -/
def gd {α : Type} (i : Int32) (n : Nat) (k : Option α) : Option α := if i < 0 ∨ n ≤ i.toNatClampNeg then none else k
def gz {α : Type} (y : Int32) (k : Option α) : Option α := if y = 0 then none else k
def gb {α : Type} (v : Int32) (k : Option α) : Option α := if v = 0 ∨ v = 1 then k else none
def bd2 {α β γ : Type} (o : Option (α × β)) (f : α → β → Option γ) : Option γ := o.bind (fun q => f q.1 q.2)
theorem gdE {α : Type} {i : Int32} {n : Nat} {k : Option α} {r : α} (h : gd i n k = some r) : vp_in i n ∧ k = some r := by
  unfold gd at h
  split at h
  · cases h
  · exact ⟨by assumption, h⟩
theorem gzE {α : Type} {y : Int32} {k : Option α} {r : α} (h : gz y k = some r) : ¬ y = 0 ∧ k = some r := by
  unfold gz at h
  split at h
  · cases h
  · exact ⟨by assumption, h⟩
theorem gbE {α : Type} {v : Int32} {k : Option α} {r : α} (h : gb v k = some r) : (v = 0 ∨ v = 1) ∧ k = some r := by
  unfold gb at h
  split at h
  · exact ⟨by assumption, h⟩
  · cases h
theorem bdE {α γ : Type} {o : Option α} {f : α → Option γ} {r : γ} (h : o.bind f = some r) : ∃ a, o = some a ∧ f a = some r := by
  cases o with
  | none => cases h
  | some a => exact ⟨a, rfl, h⟩
theorem bd2E {α β γ : Type} {o : Option (α × β)} {f : α → β → Option γ} {r : γ} (h : bd2 o f = some r) : ∃ a b, o = some (a, b) ∧ f a b = some r := by
  obtain ⟨⟨a, b⟩, h1, h2⟩ := bdE h
  exact ⟨a, b, h1, h2⟩
theorem bsE {α γ : Type} {a : α} {f : α → Option γ} {r : γ} (h : (some a).bind f = some r) : ∃ x, x = a ∧ f x = some r := ⟨a, rfl, h⟩
theorem ip {c : Prop} [d : Decidable c] {α : Type} {A B r : α} (h : c) (e : (if c then A else B) = r) : A = r := (if_pos h).symm.trans e
theorem iq {c : Prop} [d : Decidable c] {α : Type} {A B r : α} (h : ¬ c) (e : (if c then A else B) = r) : B = r := (if_neg h).symm.trans e
def fuelN : Nat := 20000
/-! the fixed facts of a walk -/
def Bx (p : Program) (s : State) (m : MethodId) (args : Array Value) (c : Code) (cc : ByteArray) (nL : Nat) (X : Cx) (own : String) : Prop :=
  p.tables.exec = Jvm.exec ∧ c.code = cc ∧ c.maxLocals = nL ∧ s.vm.findClass own = some m.cls ∧ (∀ w ∈ W0, w.before args s = true) ∧ va_K X.1 vwCl (tys0 X) s ∧ NW s ∧ Inj X
section RW
variable {p : Program} {l : Launch} {e : Env} {R : Room} {s : State} {m : MethodId} {args : Array Value} {below : List Frame} {meth : Method} {c : Code} {H : Heap} {locs : List Loc} {cells slots : Nat} {Q : State → Prop}
variable {cc : ByteArray} {pc : Nat} {ls : Array Slot} {rest : List Value} {X : Cx} {t : St} {H0 : Heap} {own : String} {nL : Nat}
theorem xg (B : Bx p s m args c cc nL X own) (hS : SS X t H0 H locs) {C ref : String} {T : u_T} {N ci index : Nat} (hin : ∀ w ∈ u_ws C T N, w ∈ W0) {o : Nat} (ho : o < NC) {fs : List Value} (he : cE X o (t o) = .inr (ci, fs)) (hc : vwCl[ci]? = some (C, T, N)) (k : Nat) (hk : k < N) (hlink : Cond.fieldLink own index ref (T k).2.1 (T k).2.2.1 ∈ W0) (href : (T k).1 = ref) {v : Value} (hv : fs[k]? = some v) (hdg : decode cc pc = .ok (.getfield index, 3))
    (kk : W p l e R s m args below meth c H locs cells slots Q (F0 m (pc + 3) ls (v :: rest))) : W p l e R s m args below meth c H locs cells slots Q (F0 m pc ls (.ref (X.2.1 o) :: rest)) := by
  obtain ⟨h1, h2, h3, h4, h5, h6, h7, h8⟩ := B
  exact va_get h1 h2 h5 hin h4 h6 hS.1 o (wl_of ho he) hc k hk (h5 _ hlink) (fun x hx => by rw [← href]; exact hx) hv hdg kk
theorem xgN (B : Bx p s m args c cc nL X own) (hS : SS X t H0 H locs) {C ref host : String} {T : u_T} {N ci index : Nat} (hin : ∀ w ∈ u_ws C T N, w ∈ W0) {o : Nat} (ho : o < NC) {fs : List Value} (he : cE X o (t o) = .inr (ci, fs)) (hc : vwCl[ci]? = some (C, T, N)) (k : Nat) (hk : k < N) (hlink : Cond.fieldLinkNest own index ref (T k).2.1 (T k).2.2.1 host ∈ nestW) (href : (T k).1 = ref) {v : Value} (hv : fs[k]? = some v) (hdg : decode cc pc = .ok (.getfield index, 3))
    (kk : W p l e R s m args below meth c H locs cells slots Q (F0 m (pc + 3) ls (v :: rest))) : W p l e R s m args below meth c H locs cells slots Q (F0 m pc ls (.ref (X.2.1 o) :: rest)) := by
  obtain ⟨h1, h2, h3, h4, h5, h6, h7, h8⟩ := B
  exact va_getN h1 h2 h5 hin h4 h6 hS.1 o (wl_of ho he) hc k hk (va_Nw.use rfl (h7 _ hlink)) (fun x hx => by rw [← href]; exact hx) hv hdg kk
theorem xp (B : Bx p s m args c cc nL X own) (hS : SS X t H0 H locs) {C ref : String} {T : u_T} {N ci index : Nat} (hin : ∀ w ∈ u_ws C T N, w ∈ W0) (ty0 : Nat → FieldType) (hty : ∀ k, k < N → parseFieldDescriptor (T k).2.2.1 = some (ty0 k)) (hnm : ∀ a, a < N → ∀ b, b < N → a ≠ b → (T a).2.1 ≠ (T b).2.1) {o : Nat} (ho : o < NC) {fs : List Value} (he : cE X o (t o) = .inr (ci, fs)) (hc : vwCl[ci]? = some (C, T, N)) (k : Nat) (hk : k < N) (hlink : Cond.fieldLink own index ref (T k).2.1 (T k).2.2.1 ∈ W0) (href : (T k).1 = ref) (hfin : (T k).2.2.2 = false) {x : Int32} {ty : FieldType} (hd : ty0 k = ty) (hn : narrow ty (.int x) = .int x) (hfit : fits ty (.int x) = true) (hl : k < fs.length) (he2 : cE X o (upd (t o) k x) = .inr (ci, fs.set k (.int x))) (hdg : decode cc pc = .ok (.putfield index, 3))
    (kk : ∀ (H1 : Heap) (locs1 : List Loc), SS X (up t o k x) H0 H1 locs1 → W p l e R s m args below meth c H1 locs1 cells slots Q (F0 m (pc + 3) ls rest)) : W p l e R s m args below meth c H locs cells slots Q (F0 m pc ls (.int x :: .ref (X.2.1 o) :: rest)) := by
  obtain ⟨h1, h2, h3, h4, h5, h6, h7, h8⟩ := B
  exact va_put h1 h2 h5 hin ty0 hty hnm h4 h6 hS.1 (D_of h8) hS.2 o (wl_of ho he) hc k hk (h5 _ hlink) (fun y hy => by rw [← href]; exact hy) hfin ((hty k hk).trans (by rw [hd])) hn hfit hl hdg (fun H1 locs1 hP _ hS1 => kk H1 locs1 ⟨by rw [wl_set ho he2] at hP; exact hP, hS1⟩)
theorem xpN (B : Bx p s m args c cc nL X own) (hS : SS X t H0 H locs) {C ref host : String} {T : u_T} {N ci index : Nat} (hin : ∀ w ∈ u_ws C T N, w ∈ W0) (ty0 : Nat → FieldType) (hty : ∀ k, k < N → parseFieldDescriptor (T k).2.2.1 = some (ty0 k)) (hnm : ∀ a, a < N → ∀ b, b < N → a ≠ b → (T a).2.1 ≠ (T b).2.1) {o : Nat} (ho : o < NC) {fs : List Value} (he : cE X o (t o) = .inr (ci, fs)) (hc : vwCl[ci]? = some (C, T, N)) (k : Nat) (hk : k < N) (hlink : Cond.fieldLinkNest own index ref (T k).2.1 (T k).2.2.1 host ∈ nestW) (href : (T k).1 = ref) (hfin : (T k).2.2.2 = false) {x : Int32} {ty : FieldType} (hd : ty0 k = ty) (hn : narrow ty (.int x) = .int x) (hfit : fits ty (.int x) = true) (hl : k < fs.length) (he2 : cE X o (upd (t o) k x) = .inr (ci, fs.set k (.int x))) (hdg : decode cc pc = .ok (.putfield index, 3))
    (kk : ∀ (H1 : Heap) (locs1 : List Loc), SS X (up t o k x) H0 H1 locs1 → W p l e R s m args below meth c H1 locs1 cells slots Q (F0 m (pc + 3) ls rest)) : W p l e R s m args below meth c H locs cells slots Q (F0 m pc ls (.int x :: .ref (X.2.1 o) :: rest)) := by
  obtain ⟨h1, h2, h3, h4, h5, h6, h7, h8⟩ := B
  exact va_putN h1 h2 h5 hin ty0 hty hnm h4 h6 hS.1 (D_of h8) hS.2 o (wl_of ho he) hc k hk (va_Nw.use rfl (h7 _ hlink)) (fun y hy => by rw [← href]; exact hy) hfin ((hty k hk).trans (by rw [hd])) hn hfit hl hdg (fun H1 locs1 hP _ hS1 => kk H1 locs1 ⟨by rw [wl_set ho he2] at hP; exact hP, hS1⟩)
/-- a cell that is an array of ints, of n -/
def isI (X : Cx) (o n : Nat) : Prop := o < NC ∧ ∀ r : Nat → Int32, cE X o r = iA X n r
theorem xa (B : Bx p s m args c cc nL X own) (hS : SS X t H0 H locs) {o n : Nat} (ha : isI X o n) {i : Int32} (hin : vp_in i n) (hdg : decode cc pc = .ok (.iaload, 1))
    (kk : W p l e R s m args below meth c H locs cells slots Q (F0 m (pc + 1) ls (.int (t o i.toNatClampNeg) :: rest))) : W p l e R s m args below meth c H locs cells slots Q (F0 m pc ls (.int i :: .ref (X.2.1 o) :: rest)) :=
  va_iald B.1 B.2.1 B.2.2.2.2.2.1 hS.1 o 0 (wl_of ha.1 (ha.2 _)) rfl hin hdg kk
theorem xs (B : Bx p s m args c cc nL X own) (hS : SS X t H0 H locs) {o n : Nat} (ha : isI X o n) {i x : Int32} (hin : vp_in i n) (hdg : decode cc pc = .ok (.iastore, 1))
    (kk : ∀ (H1 : Heap) (locs1 : List Loc), SS X (up t o i.toNatClampNeg x) H0 H1 locs1 → W p l e R s m args below meth c H1 locs1 cells slots Q (F0 m (pc + 1) ls rest)) : W p l e R s m args below meth c H locs cells slots Q (F0 m pc ls (.int x :: .int i :: .ref (X.2.1 o) :: rest)) :=
  va_iast B.1 B.2.1 B.2.2.2.2.2.1 hS.1 (D_of B.2.2.2.2.2.2.2) hS.2 o 0 (wl_of ha.1 (ha.2 _)) rfl hin hdg (fun H1 locs1 hP _ hS1 => kk H1 locs1 ⟨Eq.mp (congrArg (fun w => va_P X.1 vwCl w H1) (wl_set (t := t) (r := upd (t o) i.toNatClampNeg x) ha.1 (ha.2 _))) hP, hS1⟩)
/-- a cell that is an array of booleans, of n -/
def isZ (X : Cx) (o n : Nat) : Prop := o < NC ∧ ∀ r : Nat → Int32, cE X o r = zA X n r
theorem xaz (B : Bx p s m args c cc nL X own) (hS : SS X t H0 H locs) {o n : Nat} (ha : isZ X o n) {i : Int32} (hin : vp_in i n) (hdg : decode cc pc = .ok (.baload, 1))
    (kk : W p l e R s m args below meth c H locs cells slots Q (F0 m (pc + 1) ls (.int (t o i.toNatClampNeg) :: rest))) : W p l e R s m args below meth c H locs cells slots Q (F0 m pc ls (.int i :: .ref (X.2.1 o) :: rest)) :=
  va_zald B.1 B.2.1 B.2.2.2.2.2.1 hS.1 o 1 (wl_of ha.1 (ha.2 _)) rfl hin hdg kk
theorem xsz (B : Bx p s m args c cc nL X own) (hS : SS X t H0 H locs) {o n : Nat} (ha : isZ X o n) {i x : Int32} (hin : vp_in i n) (hx : vp_nar .boolean x = x) (hdg : decode cc pc = .ok (.bastore, 1))
    (kk : ∀ (H1 : Heap) (locs1 : List Loc), SS X (up t o i.toNatClampNeg x) H0 H1 locs1 → W p l e R s m args below meth c H1 locs1 cells slots Q (F0 m (pc + 1) ls rest)) : W p l e R s m args below meth c H locs cells slots Q (F0 m pc ls (.int x :: .int i :: .ref (X.2.1 o) :: rest)) :=
  va_zast B.1 B.2.1 B.2.2.2.2.2.1 hS.1 (D_of B.2.2.2.2.2.2.2) hS.2 o 1 (wl_of ha.1 (ha.2 _)) rfl hin hdg (fun H1 locs1 hP _ hS1 => kk H1 locs1 ⟨by rw [hx] at hP; exact Eq.mp (congrArg (fun w => va_P X.1 vwCl w H1) (wl_set (t := t) (r := upd (t o) i.toNatClampNeg x) ha.1 (ha.2 _))) hP, hS1⟩)
/-- a cell that is an array of references, of n: the i-th is the cell number f i -/
def isQ (X : Cx) (o n k : Nat) (f : Nat → Nat) : Prop := o < NC ∧ ∀ r : Nat → Int32, cE X o r = rA X n f k
theorem xq (B : Bx p s m args c cc nL X own) (hS : SS X t H0 H locs) {o n k : Nat} {f : Nat → Nat} (ha : isQ X o n k f) {C : String} (hk : (tys0 X)[k]? = some (X.2.2 k, .object C)) {i : Int32} (hin : vp_in i n) (hdg : decode cc pc = .ok (.aaload, 1))
    (kk : W p l e R s m args below meth c H locs cells slots Q (F0 m (pc + 1) ls (.ref (X.2.1 (f i.toNatClampNeg)) :: rest))) : W p l e R s m args below meth c H locs cells slots Q (F0 m pc ls (.int i :: .ref (X.2.1 o) :: rest)) :=
  va_aldq B.1 B.2.1 B.2.2.2.2.2.1 hS.1 o k (f := fun i => some (X.2.1 (f i))) (wl_of ha.1 (ha.2 _)) hk hin hdg kk
theorem xqa (B : Bx p s m args c cc nL X own) (hS : SS X t H0 H locs) {o n k : Nat} {f : Nat → Nat} (ha : isQ X o n k f) (hk : (tys0 X)[k]? = some (X.2.2 k, .array .int)) {i : Int32} (hin : vp_in i n) (hdg : decode cc pc = .ok (.aaload, 1))
    (kk : W p l e R s m args below meth c H locs cells slots Q (F0 m (pc + 1) ls (.ref (X.2.1 (f i.toNatClampNeg)) :: rest))) : W p l e R s m args below meth c H locs cells slots Q (F0 m pc ls (.int i :: .ref (X.2.1 o) :: rest)) := by
  have hlt : i.toNatClampNeg < n := Nat.not_le.mp fun q => hin (Or.inr q)
  exact W.aald (v := .ref (X.2.1 (f i.toNatClampNeg))) (ty := .array .int) B.1 B.2.1 (hS.1 o _ (wl_of ha.1 (ha.2 _))) ((B.2.2.2.2.2.1.2 k _ hk).1 n (fun j => va_rf (some (X.2.1 (f j))))) rfl (fun q => by cases q) (by show ¬ (i < 0 ∨ (arrV _ _ _).slots.size ≤ _); rw [arrV_size]; exact hin) (by show (arrV _ _ _).slots[_]? = _; rw [arrV_read _ _ hlt]; rfl) rfl rfl hdg kk
theorem xcp (B : Bx p s m args c cc nL X own) (hS : SS X t H0 H locs) (hsz : ls.size = nL) {index : Nat} (hlink : Cond.methodLink own index arraycopyName ∈ W0) (hnat : Cond.native arraycopyName ∈ W0) (hstat : Cond.static arraycopyName ∈ W0) (hini : Cond.initialized "java/lang/System" ∈ W0) {o1 n1 o2 n2 : Nat} (ha1 : isI X o1 n1) (ha2 : isI X o2 n2) {n : Int32} {N' : Nat} (hn : n.toNatClampNeg = N') (h3 : ¬ n < 0) (h4 : N' ≤ n1) (h5 : N' ≤ n2)
    (hframes : 1 ≤ R.frames) (hlocals : (rest.map fun v => v.category).sum + (nativeFrameWords "java/lang/System" "arraycopy" 5 + 11) ≤ R.locals) (hdg : decode cc pc = .ok (.invokestatic index, 3))
    (kk : ∀ (H1 : Heap) (locs1 : List Loc), SS X (upR t o2 (va_cpy (t o1) (t o2) 0 0 N')) H0 H1 locs1 → W p l e R s m args below meth c H1 locs1 cells slots Q (F0 m (pc + 3) ls rest)) : W p l e R s m args below meth c H locs cells slots Q (F0 m pc ls (.int n :: .int 0 :: .ref (X.2.1 o2) :: .int 0 :: .ref (X.2.1 o1) :: rest)) := by
  obtain ⟨b1, b2, b3, b4, b5, b6, b7, b8⟩ := B
  have z0 : (0 : Int32).toNatClampNeg = 0 := rfl
  refine va_copyi b1 b2 (b3.trans hsz.symm) b4 (b5 _ hlink) (b5 _ hnat) (b5 _ hstat) (b5 _ hini) b6 hS.1 (D_of b8) hS.2 o1 o2 0 0 (ty := .int) (wl_of ha1.1 (ha1.2 _)) (wl_of ha2.1 (ha2.2 _)) rfl rfl rfl (by decide) (by decide) h3 (by rw [z0, hn]; omega) (by rw [z0, hn]; omega) (fun i _ => rfl) hframes hlocals hdg (fun H1 locs1 hP _ hS1 => kk H1 locs1 ⟨?_, hS1⟩)
  rw [hn, z0] at hP
  exact Eq.mp (congrArg (fun w => va_P X.1 vwCl w H1) (wl_set (t := t) (r := va_cpy (t o1) (t o2) 0 0 N') ha2.1 (ha2.2 _))) hP
theorem xmin (B : Bx p s m args c cc nL X own) (hsz : ls.size = nL) {index : Nat} (hlink : Cond.methodLink own index Lib.Math.min.name ∈ W0) (hstat : Cond.static Lib.Math.min.name ∈ W0) (hini : Cond.initialized "java/lang/Math" ∈ W0) (hcode : Cond.code Lib.Math.min.name Lib.Math.min.code 2 (some .int) ∈ W0) (hframes : 1 ≤ R.frames) (hlocals : (rest.map fun v => v.category).sum + 13 ≤ R.locals) (hc : cells ≤ R.cells) (hs : slots ≤ R.slots) {x y : Int32} (hdg : decode cc pc = .ok (.invokestatic index, 3))
    (kk : W p l e R s m args below meth c H locs cells slots Q (F0 m (pc + 3) ls (.int (if y < x then y else x) :: rest))) : W p l e R s m args below meth c H locs cells slots Q (F0 m pc ls (.int y :: .int x :: rest)) := by
  obtain ⟨b1, b2, b3, b4, b5, b6, b7, b8⟩ := B
  exact va_mmin b1 b2 (b3.trans hsz.symm) b4 (b5 _ hlink) (b5 _ hstat) (b5 _ hini) (b5 _ hcode) hframes hlocals hc hs hdg kk
theorem xmax (B : Bx p s m args c cc nL X own) (hsz : ls.size = nL) {index : Nat} (hlink : Cond.methodLink own index Lib.Math.max.name ∈ W0) (hstat : Cond.static Lib.Math.max.name ∈ W0) (hini : Cond.initialized "java/lang/Math" ∈ W0) (hcode : Cond.code Lib.Math.max.name Lib.Math.max.code 2 (some .int) ∈ W0) (hframes : 1 ≤ R.frames) (hlocals : (rest.map fun v => v.category).sum + 13 ≤ R.locals) (hc : cells ≤ R.cells) (hs : slots ≤ R.slots) {x y : Int32} (hdg : decode cc pc = .ok (.invokestatic index, 3))
    (kk : W p l e R s m args below meth c H locs cells slots Q (F0 m (pc + 3) ls (.int (if x < y then y else x) :: rest))) : W p l e R s m args below meth c H locs cells slots Q (F0 m pc ls (.int y :: .int x :: rest)) := by
  obtain ⟨b1, b2, b3, b4, b5, b6, b7, b8⟩ := B
  exact va_mmax b1 b2 (b3.trans hsz.symm) b4 (b5 _ hlink) (b5 _ hstat) (b5 _ hini) (b5 _ hcode) hframes hlocals hc hs hdg kk
end RW
/-! contracts -/
def Ci (l : Launch) (X : Cx) (t : St) (y : MethodName) (cc : ByteArray) (n : Nat) (ret : FieldType) (fr lo : Nat) (vs : List Value) (r : Int32) (t' : St) : Prop :=
  Met l y (.code y cc n (some ret) :: W0) ({ frames := fr, cells := 0, slots := 0, locals := lo }) (va_Pc vs (PW X t)) (va_Qi (fun (r' : Int32) (u : St) => r' = r ∧ u = t') (fun u U => PW X u U) (AN X)) 0 0 (AN X)
def Cv (l : Launch) (X : Cx) (t : St) (y : MethodName) (cc : ByteArray) (n : Nat) (fr lo : Nat) (vs : List Value) (t' : St) : Prop :=
  Met l y (.code y cc n none :: W0) ({ frames := fr, cells := 0, slots := 0, locals := lo }) (va_Pc vs (PW X t)) (va_Qv (fun (u : St) => u = t') (fun u U => PW X u U) (AN X)) 0 0 (AN X)
theorem PW_blind {X : Cx} {t : St} {vs : List Value} : FrameBlind (va_Pc vs (PW X t)) := by
  intro a U g mk q
  obtain ⟨q0, qP, qK, qN, qI⟩ := q
  exact ⟨q0, qP, va_K.moved (u := U) (U := U.calling g mk a) (Vm.Alike.refl U.vm) qK, NW_same (s := U) (U := U.calling g mk a) rfl qN, qI⟩
theorem PW_at {p : Program} {s : State} {m : MethodId} {args : Array Value} {c : Code} {cc : ByteArray} {nL : Nat} {X : Cx} {own : String} {t : St} {H0 H : Heap} {locs : List Loc} (B : Bx p s m args c cc nL X own) (hS : SS X t H0 H locs) {U : State} (hU : U.heap = H) (hW : s.WarmedH U.vm) : PW X t U :=
  ⟨by rw [hU]; exact hS.1, va_K.moved hW.alike B.2.2.2.2.2.1, NW_warm hW B.2.2.2.2.2.2.1, B.2.2.2.2.2.2.2⟩
theorem good_call {y : MethodName} {cc : ByteArray} {n : Nat} {ret : Option FieldType} (h : Cond.code y cc n ret ∈ W0) : GoodIn W0 (.code y cc n ret :: W0) := by
  intro w hw
  rcases List.mem_cons.mp hw with rfl | h1
  · exact ⟨h, w0_good _ h⟩
  · exact ⟨h1, w0_good _ h1⟩
theorem good_V {own : String} {idx : Nat} {C : String} {y : MethodName} {cc : ByteArray} {n : Nat} {ret : Option FieldType} (h1 : Cond.methodLink own idx y ∈ W0) (h2 : Cond.instanceMethod y ∈ W0) (h3 : Cond.selects C y y ∈ W0) (h4 : Cond.initialized C ∈ W0) (h : Cond.code y cc n ret ∈ W0) : GoodIn W0 (wsV own idx C y (.code y cc n ret :: W0)) := by
  intro w hw
  rcases List.mem_append.mp hw with h5 | h5
  · have : w ∈ W0 := by
      rcases List.mem_cons.mp h5 with rfl | h5
      · exact h1
      rcases List.mem_cons.mp h5 with rfl | h5
      · exact h2
      rcases List.mem_cons.mp h5 with rfl | h5
      · exact h3
      rcases List.mem_cons.mp h5 with rfl | h5
      · exact h4
      · cases h5
    exact ⟨this, w0_good _ this⟩
  · exact good_call h w h5
theorem good_S {own : String} {idx : Nat} {y : MethodName} {cc : ByteArray} {n : Nat} {ret : Option FieldType} (h1 : Cond.methodLink own idx y ∈ W0) (h2 : Cond.static y ∈ W0) (h4 : Cond.initialized y.cls ∈ W0) (h : Cond.code y cc n ret ∈ W0) : GoodIn W0 (va_wsS own idx y (.code y cc n ret :: W0)) := by
  intro w hw
  rcases List.mem_append.mp hw with h5 | h5
  · have : w ∈ W0 := by
      rcases List.mem_cons.mp h5 with rfl | h5
      · exact h1
      rcases List.mem_cons.mp h5 with rfl | h5
      · exact h2
      rcases List.mem_cons.mp h5 with rfl | h5
      · exact h4
      · cases h5
    exact ⟨this, w0_good _ this⟩
  · exact good_call h w h5
section CW
variable {p : Program} {l : Launch} {e : Env} {R : Room} {s : State} {m : MethodId} {args : Array Value} {below : List Frame} {meth : Method} {c : Code} {H : Heap} {locs : List Loc} {cells slots : Nat} {Q : State → Prop}
variable {cc : ByteArray} {pc : Nat} {ls : Array Slot} {rest st0 : List Value} {X : Cx} {t t' : St} {H0 : Heap} {own : String} {nL : Nat} {y : MethodName} {bytes : ByteArray} {maxL fr lo index n : Nat} {ret : FieldType} {As : List Value} {r : Int32} {o : Nat}
/-- what a call has of its method: decided once -/
def MD (y : MethodName) (n : Nat) : Prop := y.cls ≠ "java/lang/invoke/MethodHandle" ∧ y.cls ≠ "java/lang/invoke/VarHandle" ∧ (parseMethodDescriptor y.desc).map (fun d => d.parameters.length) = some n
theorem xVi (B : Bx p s m args c cc nL X own) (hS : SS X t H0 H locs) (hM : Ci l X t y bytes maxL ret fr lo (.ref (X.2.1 o) :: As) r t') (h1 : Cond.methodLink own index y ∈ W0) (h2 : Cond.instanceMethod y ∈ W0) (h3 : Cond.selects y.cls y y ∈ W0) (h4 : Cond.initialized y.cls ∈ W0) (h5 : Cond.code y bytes maxL (some ret) ∈ W0) (hd : MD y n)
    {ci : Nat} {fs : List Value} {q : vw_C} (ho : o < NC) (he : cE X o (t o) = .inr (ci, fs)) (hc : vwCl[ci]? = some q) (hq : q.1 = y.cls)
    (hn : As.length = n) (hsz : ls.size = nL) (hst : st0 = As.reverse ++ .ref (X.2.1 o) :: rest) (hW : (rest.map fun v => v.category).sum ≤ 8) (hR : fr + 1 ≤ R.frames ∧ 8 + (maxL + 11) + lo ≤ R.locals) (hR2 : cells ≤ R.cells ∧ slots ≤ R.slots) (hdg : decode cc pc = .ok (.invokevirtual index, 3))
    (kk : ∀ (H1 : Heap) (locs1 : List Loc), SS X t' H0 H1 locs1 → W p l e R s m args below meth c H1 locs1 cells slots Q (F0 m (pc + 3) ls (.int r :: rest))) : W p l e R s m args below meth c H locs cells slots Q (F0 m pc ls st0) := by
  refine va_calli (va_runV (C := y.cls) (As := As) (rest := rest) (b := X.2.1 o) (n := n) ⟨B.1, B.2.1, B.2.2.1, B.2.2.2.1, B.2.2.2.2.1⟩ hM (cwV n B.2.2.2.2.1 (good_V h1 h2 h3 h4 h5) rfl rfl rfl ⟨rfl, hd⟩ hR) ⟨PW_blind, by rw [← hq]; exact va_recv B.2.2.2.2.2.1 hS.1 hc (wl_of ho he), fun U hU hWm => ⟨rfl, PW_at B hS hU hWm⟩⟩ rfl hn hsz hst (lv_room hW) hdg hR2) hS.2 (fun _ _ h => h) (fun _ h => h) (fun r1 u t1 H1 locs1 ht hvm hw hB hz1 hk1 hS1 => ?_)
  obtain ⟨rfl, rfl⟩ := hw
  exact kk H1 locs1 ⟨by rw [← ht]; exact hB.1, hS1⟩
theorem xVv (B : Bx p s m args c cc nL X own) (hS : SS X t H0 H locs) (hM : Cv l X t y bytes maxL fr lo (.ref (X.2.1 o) :: As) t') (h1 : Cond.methodLink own index y ∈ W0) (h2 : Cond.instanceMethod y ∈ W0) (h3 : Cond.selects y.cls y y ∈ W0) (h4 : Cond.initialized y.cls ∈ W0) (h5 : Cond.code y bytes maxL none ∈ W0) (hd : MD y n)
    {ci : Nat} {fs : List Value} {q : vw_C} (ho : o < NC) (he : cE X o (t o) = .inr (ci, fs)) (hc : vwCl[ci]? = some q) (hq : q.1 = y.cls)
    (hn : As.length = n) (hsz : ls.size = nL) (hst : st0 = As.reverse ++ .ref (X.2.1 o) :: rest) (hW : (rest.map fun v => v.category).sum ≤ 8) (hR : fr + 1 ≤ R.frames ∧ 8 + (maxL + 11) + lo ≤ R.locals) (hR2 : cells ≤ R.cells ∧ slots ≤ R.slots) (hdg : decode cc pc = .ok (.invokevirtual index, 3))
    (kk : ∀ (H1 : Heap) (locs1 : List Loc), SS X t' H0 H1 locs1 → W p l e R s m args below meth c H1 locs1 cells slots Q (F0 m (pc + 3) ls rest)) : W p l e R s m args below meth c H locs cells slots Q (F0 m pc ls st0) := by
  refine va_callv (va_runV (C := y.cls) (As := As) (rest := rest) (b := X.2.1 o) (n := n) ⟨B.1, B.2.1, B.2.2.1, B.2.2.2.1, B.2.2.2.2.1⟩ hM (cwV n B.2.2.2.2.1 (good_V h1 h2 h3 h4 h5) rfl rfl rfl ⟨rfl, hd⟩ hR) ⟨PW_blind, by rw [← hq]; exact va_recv B.2.2.2.2.2.1 hS.1 hc (wl_of ho he), fun U hU hWm => ⟨rfl, PW_at B hS hU hWm⟩⟩ rfl hn hsz hst (lv_room hW) hdg hR2) hS.2 (fun _ _ h => h) (fun _ h => h) (fun u t1 H1 locs1 ht hvm hw hB hz1 hk1 hS1 => ?_)
  obtain rfl := hw
  exact kk H1 locs1 ⟨by rw [← ht]; exact hB.1, hS1⟩
theorem xSi (B : Bx p s m args c cc nL X own) (hS : SS X t H0 H locs) (hM : Ci l X t y bytes maxL ret fr lo As r t') (h1 : Cond.methodLink own index y ∈ W0) (h2 : Cond.static y ∈ W0) (h4 : Cond.initialized y.cls ∈ W0) (h5 : Cond.code y bytes maxL (some ret) ∈ W0) (hd : MD y n)
    (hn : As.length = n) (hsz : ls.size = nL) (hst : st0 = As.reverse ++ rest) (hW : (rest.map fun v => v.category).sum ≤ 8) (hR : fr + 1 ≤ R.frames ∧ 8 + (maxL + 11) + lo ≤ R.locals) (hR2 : cells ≤ R.cells ∧ slots ≤ R.slots) (hdg : decode cc pc = .ok (.invokestatic index, 3))
    (kk : ∀ (H1 : Heap) (locs1 : List Loc), SS X t' H0 H1 locs1 → W p l e R s m args below meth c H1 locs1 cells slots Q (F0 m (pc + 3) ls (.int r :: rest))) : W p l e R s m args below meth c H locs cells slots Q (F0 m pc ls st0) := by
  refine va_calli (va_runS (As := As) (rest := rest) (n := n) ⟨B.1, B.2.1, B.2.2.1, B.2.2.2.1, B.2.2.2.2.1⟩ hM (va_cwS n B.2.2.2.2.1 (good_S h1 h2 h4 h5) rfl rfl rfl hd hR) ⟨PW_blind, fun U hU hWm => ⟨rfl, PW_at B hS hU hWm⟩⟩ rfl hn hsz hst (lv_room hW) hdg hR2) hS.2 (fun _ _ h => h) (fun _ h => h) (fun r1 u t1 H1 locs1 ht hvm hw hB hz1 hk1 hS1 => ?_)
  obtain ⟨rfl, rfl⟩ := hw
  exact kk H1 locs1 ⟨by rw [← ht]; exact hB.1, hS1⟩
theorem xSv (B : Bx p s m args c cc nL X own) (hS : SS X t H0 H locs) (hM : Cv l X t y bytes maxL fr lo As t') (h1 : Cond.methodLink own index y ∈ W0) (h2 : Cond.static y ∈ W0) (h4 : Cond.initialized y.cls ∈ W0) (h5 : Cond.code y bytes maxL none ∈ W0) (hd : MD y n)
    (hn : As.length = n) (hsz : ls.size = nL) (hst : st0 = As.reverse ++ rest) (hW : (rest.map fun v => v.category).sum ≤ 8) (hR : fr + 1 ≤ R.frames ∧ 8 + (maxL + 11) + lo ≤ R.locals) (hR2 : cells ≤ R.cells ∧ slots ≤ R.slots) (hdg : decode cc pc = .ok (.invokestatic index, 3))
    (kk : ∀ (H1 : Heap) (locs1 : List Loc), SS X t' H0 H1 locs1 → W p l e R s m args below meth c H1 locs1 cells slots Q (F0 m (pc + 3) ls rest)) : W p l e R s m args below meth c H locs cells slots Q (F0 m pc ls st0) := by
  refine va_callv (va_runS (As := As) (rest := rest) (n := n) ⟨B.1, B.2.1, B.2.2.1, B.2.2.2.1, B.2.2.2.2.1⟩ hM (va_cwS n B.2.2.2.2.1 (good_S h1 h2 h4 h5) rfl rfl rfl hd hR) ⟨PW_blind, fun U hU hWm => ⟨rfl, PW_at B hS hU hWm⟩⟩ rfl hn hsz hst (lv_room hW) hdg hR2) hS.2 (fun _ _ h => h) (fun _ h => h) (fun u t1 H1 locs1 ht hvm hw hB hz1 hk1 hS1 => ?_)
  obtain rfl := hw
  exact kk H1 locs1 ⟨by rw [← ht]; exact hB.1, hS1⟩
theorem xSNi (B : Bx p s m args c cc nL X own) (hS : SS X t H0 H locs) (hM : Ci l X t y bytes maxL ret fr lo As r t') {host : String} (h1 : Cond.methodLinkNest own index y host ∈ nestW) (h2 : Cond.static y ∈ W0) (h4 : Cond.initialized y.cls ∈ W0) (h5 : Cond.code y bytes maxL (some ret) ∈ W0) (hd : MD y n)
    (hn : As.length = n) (hsz : ls.size = nL) (hst : st0 = As.reverse ++ rest) (hW : (rest.map fun v => v.category).sum ≤ 8) (hR : fr + 1 ≤ R.frames ∧ 8 + (maxL + 11) + lo ≤ R.locals) (hR2 : cells ≤ R.cells ∧ slots ≤ R.slots) (hdg : decode cc pc = .ok (.invokestatic index, 3))
    (kk : ∀ (H1 : Heap) (locs1 : List Loc), SS X t' H0 H1 locs1 → W p l e R s m args below meth c H1 locs1 cells slots Q (F0 m (pc + 3) ls (.int r :: rest))) : W p l e R s m args below meth c H locs cells slots Q (F0 m pc ls st0) := by
  refine va_calli (va_runSN (As := As) (rest := rest) (n := n) ⟨B.1, B.2.1, B.2.2.1, B.2.2.2.1, B.2.2.2.2.1⟩ hM ⟨va_cnB n B.2.2.2.2.1 (good_call h5) rfl rfl rfl (B.2.2.2.2.2.2.1 _ h1) (B.2.2.2.2.1 _ h4) hd hR, B.2.2.2.2.1 _ h2, trivial⟩ ⟨PW_blind, fun U hU hWm => ⟨rfl, PW_at B hS hU hWm⟩⟩ rfl hn hsz hst (lv_room hW) hdg hR2) hS.2 (fun _ _ h => h) (fun _ h => h) (fun r1 u t1 H1 locs1 ht hvm hw hB hz1 hk1 hS1 => ?_)
  obtain ⟨rfl, rfl⟩ := hw
  exact kk H1 locs1 ⟨by rw [← ht]; exact hB.1, hS1⟩
theorem Ci_of {vs : List Value} (hy : plainName y.cls = true) (hent : (lg_sl vs).length ≤ maxL)
    (body : ∀ (p : Program) (e : Env) (s : State) (m : MethodId) (args : Array Value) (below : List Frame) (meth : Method) (c : Code) (Q : State → Prop) (_ : Bx p s m args c bytes maxL X y.cls)
      (_ : ∀ (v : Int32) (u : St) (pc : Nat) (ls : Array Slot) (H : Heap) (locs : List Loc), some (v, u) = some (r, t') → narrow ret (.int v) = .int v → SS X u s.heap H locs → decode bytes pc = .ok (.ireturn, 1) → W p l e ({ frames := fr, cells := 0, slots := 0, locals := lo }) s m args below meth c H locs 0 0 Q (F0 m pc ls [.int v]))
      (_ : SS X t s.heap s.heap []) (ls : Array Slot) (_ : lv_has ls maxL (lv_args 0 vs)), W p l e ({ frames := fr, cells := 0, slots := 0, locals := lo }) s m args below meth c s.heap [] 0 0 Q (F0 m 0 ls [])) : Ci l X t y bytes maxL ret fr lo vs r t' := by
  refine Met.ofW (cc := bytes) (maxL := maxL) (ret := some ret) hy rfl ?_
  intro p e s m args below meth c s₁ B hml hv
  obtain ⟨rfl, hP, hK, hN, hI⟩ := hv
  have hts := atoms_spec (ws := .code y bytes maxL (some ret) :: W0) B.pre
  have hown : s.vm.findClass y.cls = some m.cls := findClass_of_methodNamed B.named
  have hlocks := B.notSynchronized
  have hl := lv_entry vs (n := maxL) hent
  rw [lg_entry_eq]
  refine body p e s m _ below meth c _ ⟨B.exec, B.bytes, hml, hown, fun w h => hts w (List.mem_cons_of_mem _ h), hK, hN, hI⟩ ?_ ⟨hP, va_S.rf⟩ _ hl
  intro v u pc ls H locs hr hnar hS hdg
  cases hr
  exact W.zret (v := r) B.exec B.bytes B.returns hnar (fun tt ht hW => ⟨⟨r, t', rfl, ⟨rfl, rfl⟩, by rw [ht]; exact hS.1, va_K.moved hW.alike hK, NW_warm hW hN, hI⟩, hS.2.F ht⟩) hS.2.2.2 hdg
theorem Cv_of {vs : List Value} (hy : plainName y.cls = true) (hent : (lg_sl vs).length ≤ maxL)
    (body : ∀ (p : Program) (e : Env) (s : State) (m : MethodId) (args : Array Value) (below : List Frame) (meth : Method) (c : Code) (Q : State → Prop) (_ : Bx p s m args c bytes maxL X y.cls)
      (_ : ∀ (u : St) (pc : Nat) (ls : Array Slot) (H : Heap) (locs : List Loc), some u = some t' → SS X u s.heap H locs → decode bytes pc = .ok (.return_, 1) → W p l e ({ frames := fr, cells := 0, slots := 0, locals := lo }) s m args below meth c H locs 0 0 Q (F0 m pc ls []))
      (_ : SS X t s.heap s.heap []) (ls : Array Slot) (_ : lv_has ls maxL (lv_args 0 vs)), W p l e ({ frames := fr, cells := 0, slots := 0, locals := lo }) s m args below meth c s.heap [] 0 0 Q (F0 m 0 ls [])) : Cv l X t y bytes maxL fr lo vs t' := by
  refine Met.ofW (cc := bytes) (maxL := maxL) (ret := none) hy rfl ?_
  intro p e s m args below meth c s₁ B hml hv
  obtain ⟨rfl, hP, hK, hN, hI⟩ := hv
  have hts := atoms_spec (ws := .code y bytes maxL none :: W0) B.pre
  have hown : s.vm.findClass y.cls = some m.cls := findClass_of_methodNamed B.named
  have hlocks := B.notSynchronized
  have hl := lv_entry vs (n := maxL) hent
  rw [lg_entry_eq]
  refine body p e s m _ below meth c _ ⟨B.exec, B.bytes, hml, hown, fun w h => hts w (List.mem_cons_of_mem _ h), hK, hN, hI⟩ ?_ ⟨hP, va_S.rf⟩ _ hl
  intro u pc ls H locs hr hS hdg
  cases hr
  exact W.vret B.exec B.bytes B.returns (fun tt ht hW => ⟨⟨t', rfl, rfl, by rw [ht]; exact hS.1, va_K.moved hW.alike hK, NW_warm hW hN, hI⟩, hS.2.F ht⟩) hS.2.2.2 hdg
end CW
