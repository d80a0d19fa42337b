/-! the making of the world: cells in the order in which they come, from the address b on -/
theorem aoA_spec {args : Array Value} {first s : State} {o : Option Outcome} {idx : List Nat} {t : FieldType} (h : (Cond.arrayOver (.array t)).holds args first o s idx = true) :
    ∃ comp c k, s.vm.findClass (FieldType.array t).toString = some comp ∧ (s.vm.classes.findIdx? fun x => match x.kind with | .array component _ => component == comp | _ => false) = some c ∧ s.vm.classes[c]? = some k ∧ k.kind = .array comp (.array t) ∧ s.vm.findClass ("[" ++ (FieldType.array t).toString) = some c := by
  simp only [Cond.holds, Cond.value, beq_iff_eq] at h
  cases hc : s.vm.findClass (FieldType.array t).toString with
  | none => simp [hc] at h
  | some comp =>
    simp only [hc, Option.bind_some, Option.bind_eq_some_iff, Option.map_eq_some_iff] at h
    obtain ⟨c, hi, k, hk, hb⟩ := h
    obtain ⟨hlt, hp, -⟩ := Array.findIdx?_eq_some_iff_getElem.mp hi
    have hkk : s.vm.classes[c] = k := (Array.getElem?_eq_some_iff.mp hk).2
    rw [hkk] at hp
    cases hkind : k.kind with
    | array component ty =>
      rw [hkind] at hb hp
      simp at hb hp
      exact ⟨comp, c, k, rfl, hi, hk, by rw [hkind, hp, hb.1], hb.2⟩
    | _ => rw [hkind] at hb; simp at hb
def aoA (t : FieldType) (U : State) : Prop := (Cond.arrayOver (.array t)).before #[] U = true
theorem aoA.moved {t : FieldType} {u U : State} (hvm : u.vm.Alike U.vm) (h : aoA t u) : aoA t U := by
  obtain ⟨comp, c, k, h1, h2, h3, h4, h5⟩ := aoA_spec h
  obtain ⟨k', hk', he⟩ := hvm.2.2 _ _ h3
  have hi : (U.vm.classes.findIdx? fun (x : Class) => match x.kind with | .array component _ => component == comp | _ => false) = some c := by
    have e0 := va_idx_bare U.vm comp
    have e1 := va_idx_bare u.vm comp
    have e2 : U.vm.bare = u.vm.bare := by first | exact hvm.bare_eq | exact hvm.bare_eq.symm
    rw [e2] at e0
    exact e0.symm.trans (e1.trans h2)
  have hkind : k'.kind = .array comp (.array t) := by rw [he]; exact h4
  have f1 : U.vm.findClass (FieldType.array t).toString = some comp := by rw [hvm.findClass]; exact h1
  have f2 : U.vm.findClass ("[" ++ (FieldType.array t).toString) = some c := by rw [hvm.findClass]; exact h5
  unfold aoA Cond.before Cond.holds
  simp only [Cond.value]
  rw [f1, Option.bind_some]
  refine (congrArg (fun o : Option Nat => (o.bind (fun c => (U.vm.classes[c]?).map fun (k : Class) => match k.kind with | .array _ ty => decide (ty = FieldType.array t) && decide (U.vm.findClass ("[" ++ (FieldType.array t).toString) = some c) | _ => false) == some true)) hi).trans ?_
  simp [hk', hkind, f2]
def AO (U : State) : Prop := va_AO RX3 U ∧ va_AO RX4 U ∧ aoA .int U
theorem AO.moved {u U : State} (hvm : u.vm.Alike U.vm) (h : AO u) : AO U := ⟨h.1.moved hvm, h.2.1.moved hvm, h.2.2.moved hvm⟩
def wp (b n : Nat) (E : Nat → va_E) : va_W := (List.range n).map (fun k => (b + k, E k))
theorem wp_at {b n k : Nat} {E : Nat → va_E} (h : k < n) : (wp b n E)[k]? = some (b + k, E k) := by
  unfold wp
  rw [List.getElem?_map, List.getElem?_range h]
  rfl
theorem wp_of {b n k : Nat} {E : Nat → va_E} {e : va_E} (h : k < n) (he : E k = e) : (wp b n E)[k]? = some (b + k, e) := by rw [wp_at h, he]
theorem wp_lt {b n j : Nat} {E : Nat → va_E} {q : Nat × va_E} (h : (wp b n E)[j]? = some q) : j < n := by
  have := (List.getElem?_eq_some_iff.mp h).1
  simpa [wp] using this
theorem wp_set {b n k : Nat} {E : Nat → va_E} {e : va_E} (h : k < n) : (wp b n E).set k (b + k, e) = wp b n (va_up E k e) := by
  apply List.ext_getElem?
  intro j
  by_cases hj : j = k
  · subst hj
    rw [List.getElem?_set_self (by simpa [wp] using h), wp_at h, va_up_self]
  · rw [List.getElem?_set_ne (Ne.symm hj)]
    by_cases hl : j < n
    · rw [wp_at hl, wp_at hl, va_up_ne _ _ hj]
    · rw [List.getElem?_eq_none (by simp [wp] at *; omega), List.getElem?_eq_none (by simp [wp] at *; omega)]
theorem wp_push {b n : Nat} {E : Nat → va_E} {e : va_E} : wp b n E ++ [(b + n, e)] = wp b (n + 1) (va_up E n e) := by
  apply List.ext_getElem?
  intro j
  by_cases hj : j < n
  · rw [List.getElem?_append_left (by simpa [wp] using hj), wp_at hj, wp_at (by omega), va_up_ne _ _ (by omega)]
  · by_cases hn : j = n
    · subst hn
      rw [List.getElem?_append_right (by simp [wp]), wp_at (by omega), va_up_self]
      simp [wp]
    · rw [List.getElem?_eq_none (by simp [wp]; omega), List.getElem?_eq_none (by simp [wp]; omega)]
theorem wp_D {b n : Nat} {E : Nat → va_E} : va_D (fun q => b ≤ q) (wp b n E) := by
  refine ⟨fun i j p q hi hj hpq => ?_, fun k q hk => ?_⟩
  · have h1 := wp_lt hi
    have h2 := wp_lt hj
    rw [wp_at h1] at hi
    rw [wp_at h2] at hj
    cases hi
    cases hj
    have : b + i = b + j := hpq
    omega
  · have h1 := wp_lt hk
    rw [wp_at h1] at hk
    cases hk
    exact Nat.le_add_right _ _
def SP (X : Cx) (b n : Nat) (E : Nat → va_E) (H0 H : Heap) (locs : List Loc) : Prop := va_P X.1 vwCl (wp b n E) H ∧ H.size = b + n ∧ va_S (fun q => b ≤ q) H0 H locs ∧ b ≤ H0.size
def PP (X : Cx) (b n : Nat) (E : Nat → va_E) (U : State) : Prop := va_P X.1 vwCl (wp b n E) U.heap ∧ U.heap.size = b + n ∧ va_K X.1 vwCl (tys0 X) U ∧ NW U ∧ AO U ∧ b ≤ U.heap.size
def By (p : Program) (s : State) (m : MethodId) (args : Array Value) (c : Code) (cc : ByteArray) (nL : Nat) (X : Cx) (own : String) : Prop :=
  p.tables.exec = Jvm.exec ∧ c.code = cc ∧ c.maxLocals = nL ∧ s.vm.findClass own = some m.cls ∧ (∀ w ∈ W0, w.before args s = true) ∧ va_K X.1 vwCl (tys0 X) s ∧ NW s ∧ AO s
def lt1 {α β : Type} (a : α) (f : α → β) : β := f a
theorem ltE {α β : Type} {a : α} {f : α → β} {r : β} (h : lt1 a f = r) : ∃ x, x = a ∧ f x = r := ⟨a, rfl, h⟩
def qA (X : Cx) (n : Nat) (f : Nat → Option Nat) (k : Nat) : va_E := .inl (X.2.2 k, n, .inr (.inr (.inr (.inr f))))
section MK
variable {p : Program} {l : Launch} {e : Env} {R : Room} {s : State} {m : MethodId} {args : Array Value} {below : List Frame} {meth : Method} {c : Code} {H : Heap} {locs : List Loc} {cells slots : Nat} {Q : State → Prop}
variable {cc : ByteArray} {pc : Nat} {ls : Array Slot} {rest st0 : List Value} {X : Cx} {H0 : Heap} {own : String} {nL b n : Nat} {E : Nat → va_E}
theorem S_put {a k9 : Nat} {H1 : Heap} (h : va_S (fun q => b ≤ q) H0 H locs) (z : H1.size = H.size) (oq : ∀ q : Nat, q ≠ a → H1[q]? = H[q]?) (ha : b ≤ a) : va_S (fun q => b ≤ q) H0 H1 (locs ++ [⟨a, k9⟩]) := va_S.put h z oq ha
/-- a cell more, at the heap's end -/
theorem SP_grow (hS : SP X b n E H0 H locs) {H1 : Heap} {x : va_E} (z1 : H1.size = H.size + 1) (o1 : ∀ q, q < H.size → H1[q]? = H[q]?) (hx : va_at X.1 vwCl (b + n, x) H1) : SP X b (n + 1) (va_up E n x) H0 H1 locs := by
  obtain ⟨hP, hz, hS1, hb⟩ := hS
  refine ⟨?_, by omega, ⟨by have := hS1.1; omega, fun q h1 h2 => (o1 q (by have := hS1.1; omega)).trans (hS1.2.1 q h1 h2), hS1.2.2⟩, hb⟩
  rw [← wp_push]
  refine (hP.kept (fun k q hq => o1 q.1 ((hP k q hq).lt))).app (fun k q hq => ?_)
  have h0 : k < 1 := (List.getElem?_eq_some_iff.mp hq).1
  rw [show k = 0 by omega] at hq
  cases hq
  exact hx
theorem s_new (B : By p s m args c cc nL X own) (hS : SP X b n E H0 H locs) {C : String} {T : u_T} {N ci index : Nat} (hin : ∀ w ∈ u_ws C T N, w ∈ W0) (ty : Nat → FieldType) (hty : ∀ k, k < N → parseFieldDescriptor (T k).2.2.1 = some (ty k)) (hcl : Cond.classLink own index C ∈ W0) (hinst : Cond.instantiable C N ∈ W0) (hini : Cond.initialized C ∈ W0) (hc : vwCl[ci]? = some (C, T, N)) {fs : List Value} (hfs : ∀ j, j < N → defaultValue (ty j) = vp_V fs j) (hcells : cells + 1 ≤ R.cells) (hslots : slots + N ≤ R.slots) (hdg : decode cc pc = .ok (.new index, 3))
    (kk : ∀ (H1 : Heap), SP X b (n + 1) (va_up E n (.inr (ci, fs))) H0 H1 locs → W p l e R s m args below meth c H1 locs (cells + 1) (slots + N) Q (F0 m (pc + 3) ls (.ref (b + n) :: rest))) : W p l e R s m args below meth c H locs cells slots Q (F0 m pc ls rest) := by
  obtain ⟨h1, h2, h3, h4, h5, h6, h7, h8⟩ := B
  have hKn := h6.1 ci _ hc
  refine W.newcK h1 h2 h4 (h5 _ hcl) (h5 _ hinst) (h5 _ hini) rfl hdg hcells hslots hKn.2.1 hS.2.1 fun H1 kC hkC e1 z1 o1 => ?_
  refine kk H1 (SP_grow hS (by rw [z1, hS.2.1]) (fun q hq => o1 q (by rw [← hS.2.1]; exact hq)) ⟨_, hc, (u_born ty h5 hin hKn hkC e1 hty).to hfs⟩)
theorem s_newa (B : By p s m args c cc nL X own) (hS : SP X b n E H0 H locs) {k0 : Nat} {atype : ArrayType} {ty : FieldType} (hty : newarray.typeOf atype = ty) (harr : Cond.arrayClass ty ∈ W0) (ht : (tys0 X)[k0]? = some (X.2.2 k0, ty)) (ho : ∀ C, ty ≠ .object C) (hd : defaultValue ty = .int 0) {x : Int32} {N' : Nat} (hn : ¬ x < 0) (hN : x.toNatClampNeg = N') (hbytes : N' * componentBytes ty ≤ 536870912) (hcells : cells + 1 ≤ R.cells) (hslots : slots + N' ≤ R.slots) (hdg : decode cc pc = .ok (.newarray atype, 2))
    (kk : ∀ (H1 : Heap), SP X b (n + 1) (va_up E n (.inl (X.2.2 k0, N', .inl (fun _ => 0)))) H0 H1 locs → W p l e R s m args below meth c H1 locs (cells + 1) (slots + N') Q (F0 m (pc + 2) ls (.ref (b + n) :: rest))) : W p l e R s m args below meth c H locs cells slots Q (F0 m pc ls (.int x :: rest)) := by
  obtain ⟨h1, h2, h3, h4, h5, h6, h7, h8⟩ := B
  subst hty
  refine va_newaK h1 h2 (h5 _ harr) rfl hdg rfl hn hN hbytes hcells hslots hS.2.1 fun H1 cA e1 z1 o1 hAr hNm => ?_
  have hcA : cA = X.2.2 k0 := by
    have h9 := (h6.2 k0 _ ht).2
    have h8 : s.vm.findClass ("[" ++ (newarray.typeOf atype).toString) = some (X.2.2 k0) := by
      cases atype <;> exact h9
    exact Option.some.inj (hNm.symm.trans h8)
  subst hcA
  refine kk H1 (SP_grow hS (by rw [z1, hS.2.1]) (fun q hq => o1 q (by rw [← hS.2.1]; exact hq)) ?_)
  show H1[b + n]? = some (vp_cell _ _)
  rw [e1, hd]
  rfl
theorem s_newq (B : By p s m args c cc nL X own) (hS : SP X b n E H0 H locs) {k0 : Nat} {C : String} {index : Nat} (hcl : Cond.classLink own index C ∈ W0) (hover : va_AO C s) (ht : (tys0 X)[k0]? = some (X.2.2 k0, .object C)) {x : Int32} {N' : Nat} (hn : ¬ x < 0) (hN : x.toNatClampNeg = N') (hbytes : N' * 4 ≤ 536870912) (hcells : cells + 1 ≤ R.cells) (hslots : slots + N' ≤ R.slots) (hdg : decode cc pc = .ok (.anewarray index, 3))
    (kk : ∀ (H1 : Heap), SP X b (n + 1) (va_up E n (qA X N' (fun _ => none) k0)) H0 H1 locs → W p l e R s m args below meth c H1 locs (cells + 1) (slots + N') Q (F0 m (pc + 3) ls (.ref (b + n) :: rest))) : W p l e R s m args below meth c H locs cells slots Q (F0 m pc ls (.int x :: rest)) := by
  obtain ⟨h1, h2, h3, h4, h5, h6, h7, h8⟩ := B
  subst hN
  refine W.anew h1 h2 h4 (h5 _ hcl) (va_AO.use hover) rfl hdg rfl hn hbytes hcells hslots fun cA kA comp f1 f2 f3 f4 => ?_
  obtain ⟨-, -, -, -, -, f9⟩ := (h6.2 k0 _ ht).2
  have hcA : cA = X.2.2 k0 := Option.some.inj (f1.symm.trans f9)
  subst hcA
  generalize hH1 : H.push ({ cls := X.2.2 k0, slots := Array.replicate x.toNatClampNeg .null, vm := .none } : Cell) = H1
  have z1 : H1.size = H.size + 1 := by rw [← hH1, Array.size_push]
  have e1 : H1[H.size]? = some (arrV (X.2.2 k0) x.toNatClampNeg (fun _ => .null)) := by rw [← hH1, Array.getElem?_push_size, ← arrV_new]
  have o1 : ∀ q : Nat, q < H.size → H1[q]? = H[q]? := fun q hq => by rw [← hH1, Array.getElem?_push, if_neg (Nat.ne_of_lt hq)]
  have hk := kk H1 (SP_grow hS z1 o1 (show H1[b + n]? = some (vp_cell _ _) by rw [← hS.2.1, e1]; rfl))
  rw [hS.2.1]
  exact hk
theorem SP_set (hS : SP X b n E H0 H locs) {H1 : Heap} {k k9 : Nat} {x : va_E} (hk : k < n) (hP : va_P X.1 vwCl ((wp b n E).set k (b + k, x)) H1) (z : H1.size = H.size) {locs1 : List Loc} (hS1 : va_S (fun q => b ≤ q) H0 H1 locs1) : SP X b n (va_up E k x) H0 H1 locs1 := ⟨by rw [wp_set hk] at hP; exact hP, by rw [z]; exact hS.2.1, hS1, hS.2.2.2⟩
theorem s_get (B : By p s m args c cc nL X own) (hS : SP X b n E H0 H locs) {C ref : String} {T : u_T} {N ci index : Nat} (hin : ∀ w ∈ u_ws C T N, w ∈ W0) {o : Nat} (ho : o < n) {fs : List Value} (he : E o = .inr (ci, fs)) (hc : vwCl[ci]? = some (C, T, N)) (k : Nat) (hk : k < N) (hlink : Cond.fieldLink own index ref (T k).2.1 (T k).2.2.1 ∈ W0) (href : (T k).1 = ref) {v : Value} (hv : fs[k]? = some v) (hdg : decode cc pc = .ok (.getfield index, 3))
    (kk : W p l e R s m args below meth c H locs cells slots Q (F0 m (pc + 3) ls (v :: rest))) : W p l e R s m args below meth c H locs cells slots Q (F0 m pc ls (.ref (b + o) :: rest)) := by
  obtain ⟨h1, h2, h3, h4, h5, h6, h7, h8⟩ := B
  exact va_get h1 h2 h5 hin h4 h6 hS.1 o (wp_of ho he) hc k hk (h5 _ hlink) (fun x hx => by rw [← href]; exact hx) hv hdg kk
theorem s_put (B : By p s m args c cc nL X own) (hS : SP X b n E H0 H locs) (hin2 : meth.name = "<init>") {C ref : String} {T : u_T} {N ci index : Nat} (hin : ∀ w ∈ u_ws C T N, w ∈ W0) (ty0 : Nat → FieldType) (hty : ∀ k, k < N → parseFieldDescriptor (T k).2.2.1 = some (ty0 k)) (hnm : ∀ a, a < N → ∀ b, b < N → a ≠ b → (T a).2.1 ≠ (T b).2.1) {o : Nat} (ho : o < n) {fs : List Value} (he : E o = .inr (ci, fs)) (hc : vwCl[ci]? = some (C, T, N)) (k : Nat) (hk : k < N) (hlink : Cond.fieldLink own index ref (T k).2.1 (T k).2.2.1 ∈ W0) (href : (T k).1 = ref) (hdecl : (T k).1 = own) {v : Value} {ty : FieldType} (hd0 : ty0 k = ty) (hn : narrow ty v = v) (hfit : fits ty v = true) (hl : k < fs.length) (hdg : decode cc pc = .ok (.putfield index, 3))
    (kk : ∀ (H1 : Heap) (locs1 : List Loc), SP X b n (va_up E o (.inr (ci, fs.set k v))) H0 H1 locs1 → W p l e R s m args below meth c H1 locs1 cells slots Q (F0 m (pc + 3) ls rest)) : W p l e R s m args below meth c H locs cells slots Q (F0 m pc ls (v :: .ref (b + o) :: rest)) := by
  obtain ⟨h1, h2, h3, h4, h5, h6, h7, h8⟩ := B
  have hd : parseFieldDescriptor (T k).2.2.1 = some ty := (hty k hk).trans (by rw [hd0])
  have hap := va_apart (own := own) h5 hin ty0 hty hnm h6 hc
  have hsame : ∀ x, s.fieldFound? (T k).1 (T k).2.1 (T k).2.2.1 = some x → s.fieldFound? ref (T k).2.1 (T k).2.2.1 = some x := fun x hx => by rw [← href]; exact hx
  obtain ⟨r, g1, cell, q1, q2, q3, q4⟩ := hS.1 o _ (wp_of ho he)
  have hr : r = (C, T, N) := Option.some.inj (g1.symm.trans hc)
  subst hr
  obtain ⟨hSl, hfc, kC, hkC, hkind⟩ := h6.1 ci _ hc
  obtain ⟨cf, kf, fi, f, hi, hsl⟩ := hSl k hk
  have hlay := h5 _ (hin _ (u_in_lay hk))
  have hst := (u_facts hfc hkC (u_lays h5 hin hk) hi).1
  have fin : ∀ (H' : Heap) (k9 : Nat), H'[b + o]? = some (cell.setSlot (X.1.2 ci k) v) → H'.size = H.size → (∀ q, q ≠ b + o → H'[q]? = H[q]?) → W p l e R s m args below meth c H' (locs ++ [⟨b + o, k9⟩]) cells slots Q (F0 m (pc + 3) ls rest) := by
    intro H' k9 e1 e2 e3
    exact kk H' _ (SP_set (k9 := 0) hS ho (hS.1.set (e := .inr (ci, fs.set k v)) wp_D (wp_of ho he) (show va_at X.1 vwCl (b + o, .inr (ci, fs.set k v)) H' from ⟨_, hc, t_OB.to (V := updV (vp_V fs) k v) ⟨_, e1, q2, q3, t_set q4 hap hk v⟩ (fun j _ => vp_updV_set hl v j)⟩) e3) e2 (hS.2.2.1.put e2 e3 (Nat.le_add_right _ _)))
  by_cases hfin : (T k).2.2.2 = true
  · unfold u_lay at hlay
    rw [if_pos hfin] at hlay
    have hcf : m.cls = cf := by
      obtain ⟨_, _, c', _, _, _, -, -, hf', -, -, -, hown2, -⟩ := Cond.laysFinal_spec hlay
      have e1 : c' = cf := by have := hi.symm.trans hf'; simp at this; exact this.1.symm
      rw [hdecl] at hown2
      rw [← e1]; exact Option.some.inj (h4.symm.trans hown2)
    have h9 := u_fits hfc hkC hkind (Or.inr hlay) hi hd hn hfit
    refine W.putFinK h1 h2 h4 (h5 _ hlink) (hsame _ hi) hst hcf hin2 (by rw [q2]; exact h9) q1 q3 (by rw [hsl]; exact k2_hasslot (q4 k hk)) rfl rfl hdg fun H' e1 e2 e3 => ?_
    rw [hsl] at e1 ⊢
    exact fin H' _ e1 e2 e3
  · unfold u_lay at hlay
    rw [if_neg hfin] at hlay
    have h9 := u_store hfc hkC hkind hlay hi hd hn hfit
    refine W.putK h1 h2 (f := f) ⟨h4, h5 _ hlink, ⟨_, _, _, hsame _ hi⟩, hst⟩ (by rw [q2]; exact h9) q1 q3 (by rw [hsl]; exact k2_hasslot (q4 k hk)) rfl rfl hdg fun H' e1 e2 e3 => ?_
    rw [hsl] at e1 ⊢
    exact fin H' _ e1 e2 e3
theorem s_ast (B : By p s m args c cc nL X own) (hS : SP X b n E H0 H locs) {k0 o1 o2 ci N : Nat} {r : vw_C} {f : Nat → Option Nat} {vs : List Value} (ho1 : o1 < n) (he1 : E o1 = qA X N f k0) (ht : (tys0 X)[k0]? = some (X.2.2 k0, .object r.1)) (ho2 : o2 < n) (he2 : E o2 = .inr (ci, vs)) (hc : vwCl[ci]? = some r) {i : Int32} (hin : vp_in i N) (hdg : decode cc pc = .ok (.aastore, 1))
    (kk : ∀ (H1 : Heap) (locs1 : List Loc), SP X b n (va_up E o1 (qA X N (va_up f i.toNatClampNeg (some (b + o2))) k0)) H0 H1 locs1 → W p l e R s m args below meth c H1 locs1 cells slots Q (F0 m (pc + 1) ls rest)) : W p l e R s m args below meth c H locs cells slots Q (F0 m pc ls (.ref (b + o2) :: .int i :: .ref (b + o1) :: rest)) := by
  obtain ⟨h1, h2, h3, h4, h5, h6, h7, h8⟩ := B
  have hlt : i.toNatClampNeg < N := Nat.not_le.mp fun q => hin (Or.inr q)
  have h0 : ¬ i < 0 := fun q => hin (Or.inl q)
  obtain ⟨r', hr', cellV, g1, g2, g3, -⟩ := hS.1 o2 _ (wp_of ho2 he2)
  have hcls := (h6.1 ci r hc).2
  obtain ⟨kA, comp, k1, k2, k3, -⟩ := (h6.2 k0 _ ht).2
  have hcomp : comp = X.1.1 ci := Option.some.inj (k3.symm.trans hcls.1)
  subst hcomp
  obtain ⟨kC, hkC, -⟩ := hcls.2
  have ha := wp_of (b := b) ho1 he1
  refine W.aast h1 h2 (hS.1 o1 _ ha) (fun q h => by cases h) (fun h => by cases h) k1 k2 rfl hkC ⟨h0, by show _ < (arrV _ _ _).slots.size; rw [arrV_size]; exact hlt⟩ g1 (fun q h => by rw [g3] at h; cases h) (by rw [g2]; exact hkC) (by rw [g2]; exact va_assign hcls) rfl rfl hdg fun H1 e z oq => ?_
  refine kk H1 _ (SP_set (k9 := 0) hS ho1 (hS.1.set wp_D ha ?_ oq) z (hS.2.2.1.put z oq (Nat.le_add_right _ _)))
  show H1[b + o1]? = some (vp_cell _ _)
  rw [e]
  rw [vp_cell_q, vp_cell_q, arrV_store]
  congr 2
  funext q
  by_cases hq : q = i.toNatClampNeg
  · subst hq
    simp [updV, va_up, va_rf]
  · simp [updV, va_up, hq]
end MK
/-! contracts of what is made -/
def CI (l : Launch) (X : Cx) (b : Nat) (y : MethodName) (cc : ByteArray) (mL fr lo mc ms : Nat) (vs : List Value) (n : Nat) (E : Nat → va_E) (n' : Nat) (E' : Nat → va_E) : Prop :=
  Met l y (.code y cc mL none :: W0) ({ frames := fr, cells := mc, slots := ms, locals := lo }) (va_Pc vs (PP X b n E)) (va_Qv (fun (u : Nat × (Nat → va_E)) => u = (n', E')) (fun u U => PP X b u.1 u.2 U) (fun q => b ≤ q)) mc ms (fun q => b ≤ q)
theorem PP_blind {X : Cx} {b n : Nat} {E : Nat → va_E} {vs : List Value} : FrameBlind (va_Pc vs (PP X b n E)) := by
  intro a U g mk q
  obtain ⟨q0, qP, qz, qK, qN, qA, qb⟩ := q
  exact ⟨q0, qP, qz, va_K.moved (u := U) (U := U.calling g mk a) (Vm.Alike.refl U.vm) qK, NW_same (s := U) (U := U.calling g mk a) rfl qN, AO.moved (u := U) (U := U.calling g mk a) (Vm.Alike.refl U.vm) qA, qb⟩
section MC
variable {p : Program} {l : Launch} {e : Env} {R : Room} {s : State} {m : MethodId} {args : Array Value} {below : List Frame} {meth : Method} {c : Code} {H : Heap} {locs : List Loc} {cells slots : Nat} {Q : State → Prop}
variable {cc : ByteArray} {pc : Nat} {ls : Array Slot} {rest st0 : List Value} {X : Cx} {H0 : Heap} {own : String} {nL b n n' : Nat} {E E' : Nat → va_E} {y : MethodName} {bytes : ByteArray} {maxL fr lo mc ms index na : Nat} {As : List Value} {o : Nat}
theorem PP_at (B : By p s m args c cc nL X own) (hS : SP X b n E H0 H locs) {U : State} (hU : U.heap = H) (hW : s.WarmedH U.vm) : PP X b n E U :=
  ⟨by rw [hU]; exact hS.1, by rw [hU]; exact hS.2.1, va_K.moved hW.alike B.2.2.2.2.2.1, NW_warm hW B.2.2.2.2.2.2.1, AO.moved hW.alike B.2.2.2.2.2.2.2, by rw [hU]; have := hS.2.1; omega⟩
theorem sI (B : By p s m args c cc nL X own) (hS : SP X b n E H0 H locs) (hM : CI l X b y bytes maxL fr lo mc ms (.ref (b + o) :: As) n E n' E') (h1 : Cond.methodLink own index y ∈ W0) (h2 : Cond.instanceMethod y ∈ W0) (h4 : Cond.initialized y.cls ∈ W0) (h5 : Cond.code y bytes maxL none ∈ W0) (hnm : y.name = "<init>") (hd : MD y na)
    (hn : As.length = na) (hsz : ls.size = nL) (hst : st0 = As.reverse ++ .ref (b + o) :: rest) (hW : (rest.map fun v => v.category).sum ≤ 8) (hR : fr + 1 ≤ R.frames ∧ 8 + (maxL + 11) + lo ≤ R.locals) (hR2 : cells + mc ≤ R.cells ∧ slots + ms ≤ R.slots) (hdg : decode cc pc = .ok (.invokespecial index, 3))
    (kk : ∀ (H1 : Heap) (locs1 : List Loc), SP X b n' E' H0 H1 locs1 → W p l e R s m args below meth c H1 locs1 (cells + mc) (slots + ms) Q (F0 m (pc + 3) ls rest)) : W p l e R s m args below meth c H locs cells slots Q (F0 m pc ls st0) := by
  refine va_callv (va_runI (As := As) (rest := rest) (b := b + o) (n := na) ⟨B.1, B.2.1, B.2.2.1, B.2.2.2.1, B.2.2.2.2.1⟩ hM (cwI na B.2.2.2.2.1 (good_call h5) rfl rfl rfl (B.2.2.2.2.1 _ h4) (B.2.2.2.2.1 _ h1) (B.2.2.2.2.1 _ h2) hnm hd hR) ⟨PP_blind, fun U hU hWm => ⟨rfl, PP_at B hS hU hWm⟩⟩ rfl hn hsz hst (lv_room hW) hdg hR2) hS.2.2.1 (fun _ _ h => h) (fun _ h => h) (fun u t1 H1 locs1 ht hvm hw hB hz1 hk1 hS1 => ?_)
  obtain rfl := hw
  exact kk H1 locs1 ⟨by rw [← ht]; exact hB.1, by rw [← ht]; exact hB.2.1, hS1, hS.2.2.2⟩
theorem sIN (B : By p s m args c cc nL X own) (hS : SP X b n E H0 H locs) (hM : CI l X b y bytes maxL fr lo mc ms (.ref (b + o) :: As) n E n' E') {host : String} (h1 : Cond.methodLinkNest own index y host ∈ nestW) (h2 : Cond.instanceMethod y ∈ W0) (h4 : Cond.initialized y.cls ∈ W0) (h5 : Cond.code y bytes maxL none ∈ W0) (hnm : y.name = "<init>") (hd : MD y na)
    (hn : As.length = na) (hsz : ls.size = nL) (hst : st0 = As.reverse ++ .ref (b + o) :: rest) (hW : (rest.map fun v => v.category).sum ≤ 8) (hR : fr + 1 ≤ R.frames ∧ 8 + (maxL + 11) + lo ≤ R.locals) (hR2 : cells + mc ≤ R.cells ∧ slots + ms ≤ R.slots) (hdg : decode cc pc = .ok (.invokespecial index, 3))
    (kk : ∀ (H1 : Heap) (locs1 : List Loc), SP X b n' E' H0 H1 locs1 → W p l e R s m args below meth c H1 locs1 (cells + mc) (slots + ms) Q (F0 m (pc + 3) ls rest)) : W p l e R s m args below meth c H locs cells slots Q (F0 m pc ls st0) := by
  refine va_callv (va_runIN (As := As) (rest := rest) (b := b + o) (n := na) ⟨B.1, B.2.1, B.2.2.1, B.2.2.2.1, B.2.2.2.2.1⟩ hM ⟨va_cnB na B.2.2.2.2.1 (good_call h5) rfl rfl rfl (B.2.2.2.2.2.2.1 _ h1) (B.2.2.2.2.1 _ h4) hd hR, hnm, B.2.2.2.2.1 _ h2⟩ ⟨PP_blind, fun U hU hWm => ⟨rfl, PP_at B hS hU hWm⟩⟩ rfl hn hsz hst (lv_room hW) hdg hR2) hS.2.2.1 (fun _ _ h => h) (fun _ h => h) (fun u t1 H1 locs1 ht hvm hw hB hz1 hk1 hS1 => ?_)
  obtain rfl := hw
  exact kk H1 locs1 ⟨by rw [← ht]; exact hB.1, by rw [← ht]; exact hB.2.1, hS1, hS.2.2.2⟩
theorem CI_of {vs : List Value} (hy : plainName y.cls = true) (hyn : y.name = "<init>") (hent : (lg_sl vs).length ≤ maxL)
    (body : ∀ (p : Program) (e : Env) (s : State) (m : MethodId) (args : Array Value) (below : List Frame) (meth : Method) (c : Code) (Q : State → Prop) (_ : By p s m args c bytes maxL X y.cls) (_ : meth.name = "<init>")
      (_ : ∀ (u : Nat → va_E) (pc : Nat) (ls : Array Slot) (H : Heap) (locs : List Loc), u = E' → SP X b n' u s.heap H locs → decode bytes pc = .ok (.return_, 1) → W p l e ({ frames := fr, cells := mc, slots := ms, locals := lo }) s m args below meth c H locs mc ms Q (F0 m pc ls []))
      (_ : SP X b n E s.heap s.heap []) (ls : Array Slot) (_ : lv_has ls maxL (lv_args 0 vs)), W p l e ({ frames := fr, cells := mc, slots := ms, locals := lo }) s m args below meth c s.heap [] 0 0 Q (F0 m 0 ls [])) : CI l X b y bytes maxL fr lo mc ms vs n E n' E' := by
  refine Met.ofW (cc := bytes) (maxL := maxL) (ret := none) hy rfl ?_
  intro p e s m args below meth c s₁ B hml hv
  obtain ⟨rfl, hP, hz, hK, hN, hA, hb0⟩ := hv
  have hts := atoms_spec (ws := .code y bytes maxL none :: W0) B.pre
  have hown : s.vm.findClass y.cls = some m.cls := findClass_of_methodNamed B.named
  have hlocks := B.notSynchronized
  have hin : meth.name = y.name := (name_of_methodNamed B.named B.method).1
  have hl := lv_entry vs (n := maxL) hent
  rw [lg_entry_eq]
  refine body p e s m _ below meth c _ ⟨B.exec, B.bytes, hml, hown, fun w h => hts w (List.mem_cons_of_mem _ h), hK, hN, hA⟩ (hin.trans hyn) ?_ ⟨hP, hz, va_S.rf, hb0⟩ _ hl
  intro u pc ls H locs hr hS hdg
  subst hr
  exact W.vret B.exec B.bytes B.returns (fun tt ht hW => ⟨⟨(n', u), rfl, rfl, by rw [ht]; exact hS.1, by rw [ht]; exact hS.2.1, va_K.moved hW.alike hK, NW_warm hW hN, AO.moved hW.alike hA, by rw [ht]; have := hS.2.1; omega⟩, hS.2.2.1.F ht⟩) hS.2.2.1.2.2 hdg
end MC
/-! int[9][7]: multianewarray walked here, over the heap in closed form: the outer array behind the old heap, its rows behind it -/
def mnO (h0 : Nat) (cA : ClassId) (i : Nat) : Cell := arrV cA 9 (fun j => va_rf (if j < i then some (h0 + 1 + j) else none))
def mnR (cI : ClassId) : Cell := arrV cI 7 (fun _ => .int 0)
def mnS (S : State) (cA cI : ClassId) (i : Nat) : State := { S with heap := S.heap.push (mnO S.heap.size cA i) ++ Array.replicate i (mnR cI), slotsUsed := S.slotsUsed + 9 + i * 7 }
theorem mnO_next (h0 : Nat) (cA : ClassId) (i : Nat) : (mnO h0 cA i).setSlot i (.ref (h0 + 1 + i)) = mnO h0 cA (i + 1) := by
  unfold mnO
  rw [arrV_store]
  refine congrArg (arrV cA 9) (funext fun j => ?_)
  by_cases e : j = i
  · subst e
    simp [updV, va_rf]
  · by_cases h : j < i
    · simp [updV, e, h, Nat.lt_succ_of_lt h]
    · simp [updV, e, h, show ¬ j < i + 1 by omega]
theorem mnR_size (cI : ClassId) : (mnR cI).slots.size = 7 := by simp [mnR, arrV]
theorem mnO_size (h0 : Nat) (cA : ClassId) (i : Nat) : (mnO h0 cA i).slots.size = 9 := by simp [mnO, arrV]
section MN
variable {S : State} {cA cI : ClassId}
theorem mnS_size (i : Nat) : (mnS S cA cI i).heap.size = S.heap.size + 1 + i := by simp [mnS]
theorem mnS_old {a : Nat} (h : a < S.heap.size) (i : Nat) : (mnS S cA cI i).heap[a]? = S.heap[a]? := by
  show (S.heap.push (mnO S.heap.size cA i) ++ Array.replicate i (mnR cI))[a]? = _
  rw [Array.getElem?_append_left (by rw [Array.size_push]; omega), Array.getElem?_push, if_neg (by omega)]
theorem mnS_outer (i : Nat) : (mnS S cA cI i).heap[S.heap.size]? = some (mnO S.heap.size cA i) := by
  show (S.heap.push (mnO S.heap.size cA i) ++ Array.replicate i (mnR cI))[S.heap.size]? = _
  rw [Array.getElem?_append_left (by rw [Array.size_push]; omega), Array.getElem?_push_size]
theorem mnS_row {i j : Nat} (h : j < i) : (mnS S cA cI i).heap[S.heap.size + 1 + j]? = some (mnR cI) := by
  show (S.heap.push (mnO S.heap.size cA i) ++ Array.replicate i (mnR cI))[S.heap.size + 1 + j]? = _
  rw [Array.getElem?_append_right (by rw [Array.size_push]; omega), Array.size_push, Nat.add_sub_cancel_left, Array.getElem?_replicate, if_pos h]
theorem mnS_begin : S.pushCell { cls := cA, slots := Array.replicate 9 .null, vm := .none } = mnS S cA cI 0 := by
  have e : ({ cls := cA, slots := Array.replicate 9 .null, vm := .none } : Cell) = mnO S.heap.size cA 0 := by
    rw [arrV_new]
    exact congrArg (arrV cA 9) (funext fun j => by simp [va_rf])
  rw [e]
  simp [State.pushCell, mnS, mnO_size]
theorem mnS_next (i : Nat) : ((mnS S cA cI i).pushCell (mnR cI)).setCell S.heap.size (mnO S.heap.size cA (i + 1)) = mnS S cA cI (i + 1) := by
  have e : ((S.heap.push (mnO S.heap.size cA i) ++ Array.replicate i (mnR cI)).push (mnR cI)).setIfInBounds S.heap.size (mnO S.heap.size cA (i + 1)) = S.heap.push (mnO S.heap.size cA (i + 1)) ++ Array.replicate (i + 1) (mnR cI) := by
    refine Array.ext_getElem? fun k => ?_
    rw [Array.getElem?_setIfInBounds]
    by_cases h : S.heap.size = k
    · subst h
      rw [if_pos rfl, if_pos (by simp; omega), Array.getElem?_append_left (by rw [Array.size_push]; omega), Array.getElem?_push_size]
    · rw [if_neg h]
      by_cases h1 : k < S.heap.size
      · rw [Array.getElem?_push, if_neg (by simp; omega), Array.getElem?_append_left (by rw [Array.size_push]; omega), Array.getElem?_append_left (by rw [Array.size_push]; omega), Array.getElem?_push, Array.getElem?_push, if_neg (by omega), if_neg (by omega)]
      · have hz : (S.heap.push (mnO S.heap.size cA i)).size ≤ k := by rw [Array.size_push]; omega
        have hz' : (S.heap.push (mnO S.heap.size cA (i + 1))).size ≤ k := by rw [Array.size_push]; omega
        rw [Array.getElem?_append_right hz', Array.getElem?_push, Array.getElem?_append_right hz]
        simp only [Array.size_push, Array.size_append, Array.size_replicate, Array.getElem?_replicate]
        by_cases h2 : k = S.heap.size + 1 + i
        · rw [if_pos h2, if_pos (by omega)]
        · rw [if_neg h2]
          by_cases h3 : k - (S.heap.size + 1) < i
          · rw [if_pos h3, if_pos (by omega)]
          · rw [if_neg h3, if_neg (by omega)]
  unfold mnS State.pushCell State.setCell
  simp only [e, mnR_size, Nat.succ_mul, Nat.add_assoc]
/-- the rows, one behind another -/
theorem mn_rows {E : CtlPost} {e : Env} (f : Nat → PUnit → Sem (ForInStep PUnit))
    (hf : ∀ (i : Nat), i < 9 → ∀ (d : Bool) (acts : List Action) (Q : ForInStep PUnit → Pre), (∀ d' acts', Q (.yield PUnit.unit) d' acts' (mnS S cA cI (i + 1))) → Jvm.Sem.wp (f i PUnit.unit) Q E e d acts (mnS S cA cI i))
    {Q : PUnit → Pre} (hq : ∀ d acts, Q PUnit.unit d acts (mnS S cA cI 9)) : ∀ (k i : Nat), i + k = 9 → ∀ (d : Bool) (acts : List Action), Jvm.Sem.wp (forIn (List.range' i k 1) PUnit.unit f) Q E e d acts (mnS S cA cI i) := by
  intro k
  induction k with
  | zero =>
    intro i hi d acts
    obtain rfl : i = 9 := by omega
    rw [List.range'_zero, List.forIn_nil, wp_pure']
    exact hq d acts
  | succ k ih =>
    intro i hi d acts
    rw [List.range'_succ, List.forIn_cons, wp_bind']
    exact hf i (by omega) d acts _ fun d' acts' => ih (i + 1) (by omega) d' acts'
theorem mn_row {E : CtlPost} {e : Env} {kc : Class} {cc : ClassId} (hkc : S.vm.classes[cI]? = some kc) (hkind : kc.kind = .array cc .int) (hl : ¬ 7 > e.platform.arrayLengthLimit) (hh : ¬ 7 * componentBytes .int > e.platform.maxHeapBytes)
    {U : State} (hvm : U.vm = S.vm) (hc : U.heap.size < e.platform.maxCells) (hs : U.slotsUsed + 7 ≤ e.platform.maxSlots) {d : Bool} {acts : List Action} {Q : Addr → Pre} (hq : ∀ acts', Q U.heap.size d acts' (U.pushCell (mnR cI))) :
    Jvm.Sem.wp (multianewarray.make cI [7]) Q E e d acts U := by
  have hk : U.vm.classes[cI]? = some kc := by rw [hvm]; exact hkc
  rw [multianewarray.make]
  simp only [wp_bind', W.ite, show ¬ (7 : Int32) < 0 by decide, if_false, wp_pure', W.theClass, hk, hkind, Option.some.injEq, exists_eq_left']
  refine W.newArray_of hk hkind hl hh hc hs rfl fun acts' => ?_
  have e0 : ({ cls := cI, slots := Array.replicate (7 : Int32).toNatClampNeg (defaultValue .int) } : Cell) = mnR cI := arrV_new cI 7 (.int 0)
  rw [e0]
  exact hq acts'
theorem mn_make {E : CtlPost} {e : Env} {kA kc : Class} {cc : ClassId} (hkA : S.vm.classes[cA]? = some kA) (hkindA : kA.kind = .array cI (.array .int)) (hkc : S.vm.classes[cI]? = some kc) (hkind : kc.kind = .array cc .int)
    (hl : 9 ≤ e.platform.arrayLengthLimit) (hh : 36 ≤ e.platform.maxHeapBytes) (hc : S.heap.size + 10 ≤ e.platform.maxCells) (hs : S.slotsUsed + 72 ≤ e.platform.maxSlots) {d : Bool} {acts : List Action} {Q : Addr → Pre}
    (hq : ∀ d' acts', Q S.heap.size d' acts' (mnS S cA cI 9)) : Jvm.Sem.wp (multianewarray.make cA [9, 7]) Q E e d acts S := by
  rw [multianewarray.make]
  simp only [wp_bind', W.ite, show ¬ (9 : Int32) < 0 by decide, if_false, wp_pure', W.theClass, hkA, hkindA, Option.some.injEq, exists_eq_left']
  refine W.newArray_of hkA hkindA (by show ¬ 9 > _; omega) (by show ¬ 9 * 4 > _; omega) (by omega) (by show _ + 9 ≤ _; omega) rfl fun acts1 => ?_
  have e0 : S.pushCell ({ cls := cA, slots := Array.replicate (9 : Int32).toNatClampNeg .null } : Cell) = mnS S cA cI 0 := mnS_begin
  rw [e0]
  simp only [show ((9 : Int32) == 0) = false from rfl, Bool.false_eq_true, if_false, wp_pure']
  rw [wp_bind', Std.Legacy.Range.forIn_eq_forIn_range']
  have e9 : ([:(9 : Int32).toNatClampNeg] : Std.Legacy.Range).size = 9 := rfl
  rw [e9]
  refine mn_rows _ (fun i hi d' acts' Q' hnext => ?_) (fun d' acts' => ?_) 9 0 rfl _ _
  · simp only [wp_bind']
    refine mn_row (e := e) (S := S) (U := mnS S cA cI i) hkc hkind (by omega) (by show ¬ 7 * 4 > _; omega) rfl (by rw [mnS_size]; omega) (by show S.slotsUsed + 9 + i * 7 + 7 ≤ _; omega) fun acts2 => ?_
    simp only [wp_bind', W.writeLoc, wp_pure']
    have hlt : S.heap.size < (mnS S cA cI i).heap.size := by rw [mnS_size]; omega
    refine ⟨mnO S.heap.size cA i, by rw [State.heap_pushCell_of_lt (h := hlt)]; exact mnS_outer i, (fun h => by cases h), by rw [mnO_size]; exact hi, ?_, ?_⟩
    · show State.fitsSlot _ cA .none i _ = true
      simp [State.fitsSlot, State.slotType?, show (mnS S cA cI i).vm.classes[cA]? = some kA from hkA, hkindA, fits]
    · rw [mnS_size, mnO_next, mnS_next]
      exact hnext _ _
  · simp only [wp_pure']
    exact hq _ _
end MN
def mE (X : Cx) (b n : Nat) (E : Nat → va_E) : Nat → va_E := fun k => if k = n then qA X 9 (fun i => if i < 9 then some (b + n + 1 + i) else none) 4 else if n < k ∧ k < n + 10 then .inl (X.2.2 0, 7, .inl (fun _ => 0)) else E k
section MM
variable {p : Program} {l : Launch} {e : Env} {R : Room} {s : State} {m : MethodId} {args : Array Value} {below : List Frame} {meth : Method} {c : Code} {H : Heap} {locs : List Loc} {cells slots : Nat} {Q : State → Prop}
variable {cc : ByteArray} {pc : Nat} {ls : Array Slot} {rest st0 : List Value} {X : Cx} {H0 : Heap} {own : String} {nL b n : Nat} {E : Nat → va_E}
/-- the walk stands there too: what is new is nobody's -/
theorem mn_stand {T : State} (Xs : Stand p l e R s m args below meth c T locs cells slots) (cA cI : ClassId) : ∀ i : Nat, Stand p l e R s m args below meth c (mnS T cA cI i) locs (cells + 1 + i) (slots + 9 + i * 7)
  | 0 => by
    have h := Xs.pushed { cls := cA, slots := Array.replicate 9 .null, vm := .none }
    rw [mnS_begin (cI := cI)] at h
    simpa using h
  | i + 1 => by
    have hlt : T.heap.size < (mnS T cA cI i).heap.size := by rw [mnS_size]; omega
    have h := ((mn_stand Xs cA cI i).pushed (mnR cI)).stored (a := T.heap.size) (cell := mnO T.heap.size cA i) (by rw [State.heap_pushCell_of_lt (h := hlt)]; exact mnS_outer i) i (.ref (T.heap.size + 1 + i))
    rw [mnO_next, mnS_next, mnR_size] at h
    have h' := h.dropFresh (fun x hx => by
      obtain rfl := List.mem_singleton.mp hx
      exact Xs.heapGrown)
    rw [show slots + 9 + (i + 1) * 7 = slots + 9 + i * 7 + 7 by omega]
    exact h'
theorem s_mna (B : By p s m args c cc nL X own) (hS : SP X b n E H0 H locs) {index : Nat} (hcl : Cond.classLink own index ("[" ++ (FieldType.array .int).toString) ∈ W0) (harr : Cond.arrayClass .int ∈ W0) (hcells : cells + (1 + 9) ≤ R.cells) (hslots : slots + (9 + 9 * 7) ≤ R.slots) (hdg : decode cc pc = .ok (.multianewarray index 2, 4))
    (kk : ∀ (H1 : Heap), SP X b (n + 10) (mE X b n E) H0 H1 locs → W p l e R s m args below meth c H1 locs (cells + 1 + 9) (slots + 9 + 9 * 7) Q (F0 m (pc + 4) ls (.ref (b + n) :: rest))) : W p l e R s m args below meth c H locs cells slots Q (F0 m pc ls (.int 7 :: .int 9 :: rest)) := by
  obtain ⟨h1, h2, h3, h4, h5, h6, h7, h8⟩ := B
  intro T hT Xs
  have hpl : e.platform.magicAccessors = ({} : Platform).magicAccessors := by rw [Xs.admits.platform]
  obtain ⟨comp, cA, kA, fC, -, hkA, hkindA, fA⟩ := arrayOverA_spec (show (Cond.arrayOver (.array .int)).before args s = true from h8.2.2)
  obtain ⟨comp', kC, ci, fC', hkC, hkindC⟩ := Cond.arrayClass_spec (h5 _ harr)
  obtain rfl : comp' = comp := Option.some.inj (fC'.symm.trans fC)
  obtain ⟨cA', fA', hlk⟩ := Cond.classLink_spec h4 (h5 _ hcl) e.platform hpl
  obtain rfl : cA = cA' := Option.some.inj (fA.symm.trans fA')
  obtain ⟨hg1, hw1, -⟩ := State.classEntry (e := e) Xs.warmed hlk
  generalize T.vm.noted m.cls index (.cls cA) = vm₁ at hg1 hw1
  obtain ⟨kA1, hkA1, heA⟩ := hw1.alike.2.2 _ _ hkA
  obtain ⟨kC1, hkC1, heC⟩ := hw1.alike.2.2 _ _ hkC
  have hc1 : cA = X.2.2 4 := Option.some.inj (fA.symm.trans (h6.2 4 _ rfl).2)
  have hc0 : comp' = X.2.2 0 := Option.some.inj (fC.symm.trans (show s.vm.findClass (FieldType.array .int).toString = some (X.2.2 0) from (h6.2 0 _ rfl).2))
  obtain ⟨hr1, hr2⟩ := Xs.roomAbove hcells hslots
  have X' := mn_stand (Xs.noted hw1) cA comp' 9
  have hTh : (T.setVm vm₁).heap = H := hT
  have f1 := mnS_size (S := T.setVm vm₁) (cA := cA) (cI := comp') 9
  have f2 := mnS_outer (S := T.setVm vm₁) (cA := cA) (cI := comp') 9
  have hold : ∀ x : Nat, x < H.size → (mnS (T.setVm vm₁) cA comp' 9).heap[x]? = H[x]? := fun x hx => by
    have h9 := mnS_old (S := T.setVm vm₁) (cA := cA) (cI := comp') (a := x) (by rw [hTh]; exact hx) 9
    rw [hTh] at h9
    exact h9
  have hrow : ∀ j : Nat, j < 9 → (mnS (T.setVm vm₁) cA comp' 9).heap[H.size + 1 + j]? = some (mnR comp') := fun j hj => by
    have h9 := mnS_row (S := T.setVm vm₁) (cA := cA) (cI := comp') hj
    rw [hTh] at h9
    exact h9
  rw [hTh] at f1 f2
  have step : ∀ target, Steps p.tables e below ((mnS (T.setVm vm₁) cA comp' 9).setTop (F0 m (pc + 4) ls (.ref T.heap.size :: rest))) target → Steps p.tables e below (T.setTop (F0 m pc ls (.int 7 :: .int 9 :: rest))) target := by
    intro target hrest
    have hd : decode c.code pc = .ok (.multianewarray index 2, 4) := by rw [h2]; exact hdg
    jvm_step Xs.here [h1, hd]
    simp only [multianewarray.sem, wp_bind', W.resolveClassAt_links (State.method?_setTop (F0 m pc ls (.int 7 :: .int 9 :: rest)) Xs.here.top) hg1]
    rw [W.popN, if_neg (by decide)]
    refine ⟨F0 m pc ls (.int 7 :: .int 9 :: rest), State.topJava?_setTop' (s := T.setVm vm₁) _ Xs.here.top, [.int 9, .int 7], rest, rfl, rfl, ?_⟩
    simp only [List.mapM_cons, List.mapM_nil, wp_bind', wp_pure']
    refine mn_make (kA := kA1) (kc := kC1) (cI := comp') (cc := ci) hkA1 (by rw [heA]; exact hkindA) hkC1 (by rw [heC]; exact hkindC) (by rw [Launch.admits_arrayLengthLimit Xs.admits]; decide) (by rw [Launch.admits_maxHeapBytes Xs.admits]; decide) (by show T.heap.size + 10 ≤ _; omega) (by show T.slotsUsed + 72 ≤ _; omega) (fun d' acts' => ?_)
    have e0 : mnS (((T.setTop (F0 m pc ls (.int 7 :: .int 9 :: rest))).setVm vm₁).setTop (F0 m pc ls rest)) cA comp' 9 = (mnS (T.setVm vm₁) cA comp' 9).setTop (F0 m pc ls rest) := by
      show mnS (((T.setVm vm₁).setTop _).setTop _) cA comp' 9 = _
      rw [State.setTop_setTop]
      rfl
    show Jvm.Sem.wp _ _ _ e d' acts' (mnS (((T.setTop (F0 m pc ls (.int 7 :: .int 9 :: rest))).setVm vm₁).setTop (F0 m pc ls rest)) cA comp' 9)
    rw [e0]
    simp only [wp_bind', W.mark, W.pushRef, State.topJava?_setTop' _ X'.here.top, Option.some.injEq, exists_eq_left', State.setTop_setTop, State.heap_setTop]
    intro acts
    simp [jvm, X'.here.top]
    exact hrest
  subst hc1
  subst hc0
  generalize hF : mnS (T.setVm vm₁) (X.2.2 4) (X.2.2 0) 9 = F at X' step f1 f2 hold hrow
  obtain ⟨hP, hz, hS1, hb⟩ := hS
  have hk := kk F.heap ⟨fun k q hq => ?_, by rw [f1, hz]; omega, ⟨by rw [f1]; have := hS1.1; omega, fun q g1 g2 => (hold q (by have := hS1.1; omega)).trans (hS1.2.1 q g1 g2), hS1.2.2⟩, hb⟩
  · obtain ⟨t, a1, b1⟩ := hk F rfl X'
    refine ⟨t, step t ?_, b1⟩
    have e : T.heap.size = b + n := by rw [hT, hz]
    rw [e]
    exact a1
  · have hlt := wp_lt hq
    rw [wp_at hlt] at hq
    cases hq
    by_cases k0 : k = n
    · subst k0
      have e0 : mE X b k E k = qA X 9 (fun i => if i < 9 then some (b + k + 1 + i) else none) 4 := by simp [mE]
      rw [e0]
      show F.heap[b + k]? = some (vp_cell _ _)
      rw [← hz, f2]
      rfl
    · by_cases k1 : k < n
      · have e0 : mE X b n E k = E k := by
          unfold mE
          rw [if_neg k0, if_neg (by omega)]
        rw [e0]
        have h9 := hP k _ (wp_at k1)
        exact h9.kept (hold _ h9.lt)
      · have e0 : mE X b n E k = .inl (X.2.2 0, 7, .inl (fun _ => 0)) := by
          unfold mE
          rw [if_neg k0, if_pos (by omega)]
        rw [e0]
        show F.heap[b + k]? = some (vp_cell _ _)
        have h9 := hrow (k - n - 1) (by omega)
        rw [show H.size + 1 + (k - n - 1) = b + k by omega] at h9
        exact h9
end MM
