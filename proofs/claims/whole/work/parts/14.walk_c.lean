theorem mdX11_in : MD yX11_in 3 := ⟨by decide +kernel, by decide +kernel, by decide +kernel⟩
set_option maxHeartbeats 4000000 in
set_option maxRecDepth 100000 in
theorem kX11_in (l : Launch) (X : Cx) (t : St) (x0 : Int64) (x2 : Int64) (x4 : Int64) (r : Int32) (hrun : fX11_in t x0 x2 x4 = some r) : Ci l X t yX11_in cX11_in 6 .boolean 0 0 [.long x0, .long x2, .long x4] r t := by
  refine Ci_of (by decide) (Nat.le_of_ble_eq_true rfl) ?_
  intro p e s m args below meth c Q B hret hS ls hl
  have hx := B.1
  have hb := B.2.1
  have hown := B.2.2.2.1
  have hts := B.2.2.2.2.1
  have hl : lv_has ls 6 [(0, .long x0), (2, .long x2), (4, .long x4)] := hl
  unfold fX11_in at hrun
  refine lv_lload_n hx hb dX11_in_0 rfl (lv_at hl 0 rfl) ?_
  refine lv_lload_n hx hb dX11_in_1 rfl (lv_at hl 1 rfl) ?_
  refine W.lcmp hx hb dX11_in_2 ?_
  refine lv_if_lt (tgt := 17) hx hb dX11_in_3 (by decide) (fun hc => ?_) (fun hc => ?_)
  · have hrun := ip hc hrun
    refine lv_iconst (v := 0) hx hb dX11_in_17 (by decide) ?_
    exact hret _ _ _ _ _ _ (congrArg (Option.map (fun w => (w, t))) hrun) rfl hS dX11_in_18
  · have hrun := iq hc hrun
    refine lv_lload_n hx hb dX11_in_6 rfl (lv_at hl 0 rfl) ?_
    refine lv_lload hx hb dX11_in_7 (lv_at hl 2 rfl) ?_
    refine W.lcmp hx hb dX11_in_9 ?_
    refine lv_if_gt (tgt := 17) hx hb dX11_in_10 (by decide) (fun hc => ?_) (fun hc => ?_)
    · have hrun := ip hc hrun
      refine lv_iconst (v := 0) hx hb dX11_in_17 (by decide) ?_
      exact hret _ _ _ _ _ _ (congrArg (Option.map (fun w => (w, t))) hrun) rfl hS dX11_in_18
    · have hrun := iq hc hrun
      refine lv_iconst (v := 1) hx hb dX11_in_13 (by decide) ?_
      refine lv_goto (tgt := 18) hx hb dX11_in_14 (by decide) ?_
      exact hret _ _ _ _ _ _ (congrArg (Option.map (fun w => (w, t))) hrun) rfl hS dX11_in_18
theorem mdX11_has : MD yX11_has 2 := ⟨by decide +kernel, by decide +kernel, by decide +kernel⟩
set_option maxHeartbeats 4000000 in
set_option maxRecDepth 100000 in
theorem kX11_has (l : Launch) (X : Cx) (t : St) (x0 : Int32) (x1 : Int32) (r : Int32) (hrun : fX11_has t x0 x1 = some r) : Ci l X t yX11_has cX11_has 2 .boolean 0 0 [.int x0, .int x1] r t := by
  refine Ci_of (by decide) (Nat.le_of_ble_eq_true rfl) ?_
  intro p e s m args below meth c Q B hret hS ls hl
  have hx := B.1
  have hb := B.2.1
  have hown := B.2.2.2.1
  have hts := B.2.2.2.2.1
  have hl : lv_has ls 2 [(0, .int x0), (1, .int x1)] := hl
  unfold fX11_has at hrun
  refine lv_iload_n hx hb dX11_has_0 rfl (lv_at hl 0 rfl) ?_
  refine lv_iload_n hx hb dX11_has_1 rfl (lv_at hl 1 rfl) ?_
  refine lv_ishr hx hb dX11_has_2 ?_
  refine lv_iconst (v := 1) hx hb dX11_has_3 (by decide) ?_
  refine lv_iand hx hb dX11_has_4 ?_
  refine lv_iconst (v := 1) hx hb dX11_has_5 (by decide) ?_
  refine lv_icmp_ne (tgt := 13) hx hb dX11_has_6 (by decide) (fun hc => ?_) (fun hc => ?_)
  · have hrun := iq hc hrun
    refine lv_iconst (v := 0) hx hb dX11_has_13 (by decide) ?_
    exact hret _ _ _ _ _ _ (congrArg (Option.map (fun w => (w, t))) hrun) rfl hS dX11_has_14
  · have hrun := ip hc hrun
    refine lv_iconst (v := 1) hx hb dX11_has_9 (by decide) ?_
    refine lv_goto (tgt := 14) hx hb dX11_has_10 (by decide) ?_
    exact hret _ _ _ _ _ _ (congrArg (Option.map (fun w => (w, t))) hrun) rfl hS dX11_has_14
theorem mdX11_bits : MD yX11_bits 1 := ⟨by decide +kernel, by decide +kernel, by decide +kernel⟩
set_option maxHeartbeats 4000000 in
set_option maxRecDepth 100000 in
theorem kX11_bits (l : Launch) (X : Cx) (t : St) (x0 : Int32) (r : Int32) (hrun : fX11_bits t x0 = some r) : Ci l X t yX11_bits cX11_bits 3 .int 0 0 [.int x0] r t := by
  refine Ci_of (by decide) (Nat.le_of_ble_eq_true rfl) ?_
  intro p e s m args below meth c Q B hret hS ls hl
  have hx := B.1
  have hb := B.2.1
  have hown := B.2.2.2.1
  have hts := B.2.2.2.2.1
  have hl : lv_has ls 3 [(0, .int x0)] := hl
  have hB4 : ∀ (n4 : Nat) (x0 : Int32) (x1 : Int32) (x2 : Int32) (H : Heap) (locs : List Loc) (ls : Array Slot), SS X t s.heap H locs → lv_has ls 3 [(0, .int x0), (1, .int x1), (2, .int x2)] → fX11_bits_4 t n4 x0 x1 x2 = some r → W p l e ({ frames := 0, cells := 0, slots := 0, locals := 0 } : Room) s m args below meth c H locs 0 0 Q (F0 m 4 ls []) := by
    intro n4
    induction n4 with
    | zero =>
      intro x0 x1 x2 H locs ls hS hl hrun
      cases (show (none : Option (Int32)) = some r from hrun)
    | succ n4 ih4 =>
      intro x0 x1 x2 H locs ls hS hl hrun
      rw [fX11_bits_4_s] at hrun
      refine lv_iload_n hx hb dX11_bits_4 rfl (lv_at hl 2 rfl) ?_
      refine lv_bipush (v := 9) hx hb dX11_bits_5 (by decide) ?_
      refine lv_icmp_ge (tgt := 24) hx hb dX11_bits_7 (by decide) (fun hc => ?_) (fun hc => ?_)
      · have hrun := ip hc hrun
        refine lv_iload_n hx hb dX11_bits_24 rfl (lv_at hl 1 rfl) ?_
        exact hret _ _ _ _ _ _ (congrArg (Option.map (fun w => (w, t))) hrun) rfl hS dX11_bits_25
      · have hrun := iq hc hrun
        refine lv_iload_n hx hb dX11_bits_10 rfl (lv_at hl 1 rfl) ?_
        refine lv_iload_n hx hb dX11_bits_11 rfl (lv_at hl 0 rfl) ?_
        refine lv_iload_n hx hb dX11_bits_12 rfl (lv_at hl 2 rfl) ?_
        refine lv_ishr hx hb dX11_bits_13 ?_
        refine lv_iconst (v := 1) hx hb dX11_bits_14 (by decide) ?_
        refine lv_iand hx hb dX11_bits_15 ?_
        refine lv_iadd hx hb dX11_bits_16 ?_
        refine lv_topi (fun x1_1005 ex => ?_)
        obtain ⟨z, ez, hrun⟩ := bsE hrun
        obtain rfl : x1_1005 = z := ex.trans ez.symm
        clear ex ez
        refine lv_istore_n (lv' := [(1, .int x1_1005), (0, .int x0), (2, .int x2)]) hx hb dX11_bits_17 rfl hl (by decide) rfl (fun ls hl => ?_)
        refine lv_iinc (v := x2 + (1 : Int32)) (k := 2) (lv' := [(2, .int (x2 + (1 : Int32))), (1, .int x1_1005), (0, .int x0)]) hx hb dX11_bits_18 hl rfl rfl (by decide) rfl (fun ls hl => ?_)
        refine lv_goto (tgt := 4) hx hb dX11_bits_21 (by decide) ?_
        exact ih4 x0 x1_1005 (x2 + (1 : Int32)) _ _ _ hS (lv_sub hl [2, 1, 0] rfl) hrun
  unfold fX11_bits at hrun
  refine lv_iconst (v := 0) hx hb dX11_bits_0 (by decide) ?_
  refine lv_istore_n (lv' := [(1, .int (0 : Int32)), (0, .int x0)]) hx hb dX11_bits_1 rfl hl (by decide) rfl (fun ls hl => ?_)
  refine lv_iconst (v := 0) hx hb dX11_bits_2 (by decide) ?_
  refine lv_istore_n (lv' := [(2, .int (0 : Int32)), (1, .int (0 : Int32)), (0, .int x0)]) hx hb dX11_bits_3 rfl hl (by decide) rfl (fun ls hl => ?_)
  exact hB4 fuelN x0 (0 : Int32) (0 : Int32) _ _ _ hS (lv_sub hl [2, 1, 0] rfl) hrun
theorem mdX11_isSinger : MD yX11_isSinger 1 := ⟨by decide +kernel, by decide +kernel, by decide +kernel⟩
section QX11_isSinger
variable {p : Program} {l : Launch} {e : Env} {R : Room} {s : State} {m : MethodId} {args : Array Value} {below : List Frame} {meth : Method} {c : Code} {H : Heap} {locs : List Loc} {cells slots : Nat} {Q : State → Prop}
variable {cc : ByteArray} {pc : Nat} {ls : Array Slot} {rest : List Value} {X : Cx} {t : St} {H0 : Heap} {nL : Nat}
theorem qX11_84 (B : Bx p s m args c cc nL X RX11) (hS : SS X t H0 H locs) {x0 : Int64} {x2 : Int64} {x4 : Int64} {r : Int32} (hM : fX11_in t x0 x2 x4 = some r) (hsz : ls.size = nL) (hW : (rest.map fun v => v.category).sum ≤ 8) (hR : 0 + 1 ≤ R.frames ∧ 8 + (6 + 11) + 0 ≤ R.locals) (hR2 : cells ≤ R.cells ∧ slots ≤ R.slots) (hdg : decode cc pc = .ok (.invokestatic 84, 3)) (kk : ∀ (H1 : Heap) (locs1 : List Loc), SS X t H0 H1 locs1 → W p l e R s m args below meth c H1 locs1 cells slots Q (F0 m (pc + 3) ls (.int r :: rest))) : W p l e R s m args below meth c H locs cells slots Q (F0 m pc ls (.long x4 :: .long x2 :: .long x0 :: rest)) :=
  xSi B hS (kX11_in l X t x0 x2 x4 r hM) (tw_4 217 rfl rfl) (tw_4 218 rfl rfl) (tw_1 12 rfl rfl) (tw_4 219 rfl rfl) mdX11_in rfl hsz rfl hW hR hR2 hdg kk
end QX11_isSinger
set_option maxHeartbeats 4000000 in
set_option maxRecDepth 100000 in
theorem kX11_isSinger (l : Launch) (X : Cx) (t : St) (x1 : Int32) (r : Int32) (hrun : fX11_isSinger t x1 = some r) : Ci l X t yX11_isSinger cX11_isSinger 2 .boolean 1 25 [.ref (X.2.1 144), .int x1] r t := by
  refine Ci_of (by decide) (Nat.le_of_ble_eq_true rfl) ?_
  intro p e s m args below meth c Q B hret hS ls hl
  have hx := B.1
  have hb := B.2.1
  have hown := B.2.2.2.1
  have hts := B.2.2.2.2.1
  have hl : lv_has ls 2 [(0, .ref (X.2.1 144)), (1, .int x1)] := hl
  unfold fX11_isSinger at hrun
  refine lv_iload_n hx hb dX11_isSinger_0 rfl (lv_at hl 1 rfl) ?_
  refine lv_i2l hx hb dX11_isSinger_1 rfl ?_
  refine lv_lconst (v := 0) hx hb dX11_isSinger_2 (by decide) ?_
  refine lv_aload_n hx hb dX11_isSinger_3 rfl (lv_at hl 0 rfl) ?_
  refine gX11_81 B hS dX11_isSinger_4 ?_
  refine lv_iconst (v := 1) hx hb dX11_isSinger_7 (by decide) ?_
  refine lv_isub hx hb dX11_isSinger_8 ?_
  refine lv_i2l hx hb dX11_isSinger_9 rfl ?_
  obtain ⟨r_2, hc_1, hrun⟩ := bdE hrun
  refine qX11_84 B hS hc_1 hl.1 (Nat.le_of_ble_eq_true rfl) ⟨Nat.le_of_ble_eq_true rfl, Nat.le_of_ble_eq_true rfl⟩ ⟨Nat.zero_le _, Nat.zero_le _⟩ dX11_isSinger_10 (fun H locs hS => ?_)
  obtain ⟨hbo_3, hrun⟩ := gbE hrun
  exact hret _ _ _ _ _ _ (congrArg (Option.map (fun w => (w, t))) hrun) (nb hbo_3) hS dX11_isSinger_13
theorem mdX11_isPlace : MD yX11_isPlace 1 := ⟨by decide +kernel, by decide +kernel, by decide +kernel⟩
set_option maxHeartbeats 4000000 in
set_option maxRecDepth 100000 in
theorem kX11_isPlace (l : Launch) (X : Cx) (t : St) (x1 : Int32) (r : Int32) (hrun : fX11_isPlace t x1 = some r) : Ci l X t yX11_isPlace cX11_isPlace 2 .boolean 1 25 [.ref (X.2.1 144), .int x1] r t := by
  refine Ci_of (by decide) (Nat.le_of_ble_eq_true rfl) ?_
  intro p e s m args below meth c Q B hret hS ls hl
  have hx := B.1
  have hb := B.2.1
  have hown := B.2.2.2.1
  have hts := B.2.2.2.2.1
  have hl : lv_has ls 2 [(0, .ref (X.2.1 144)), (1, .int x1)] := hl
  unfold fX11_isPlace at hrun
  refine lv_iload_n hx hb dX11_isPlace_0 rfl (lv_at hl 1 rfl) ?_
  refine lv_i2l hx hb dX11_isPlace_1 rfl ?_
  refine lv_lconst (v := 0) hx hb dX11_isPlace_2 (by decide) ?_
  refine lv_aload_n hx hb dX11_isPlace_3 rfl (lv_at hl 0 rfl) ?_
  refine gX11_88 B hS dX11_isPlace_4 ?_
  refine lv_iconst (v := 1) hx hb dX11_isPlace_7 (by decide) ?_
  refine lv_isub hx hb dX11_isPlace_8 ?_
  refine lv_i2l hx hb dX11_isPlace_9 rfl ?_
  obtain ⟨r_2, hc_1, hrun⟩ := bdE hrun
  refine qX11_84 B hS hc_1 hl.1 (Nat.le_of_ble_eq_true rfl) ⟨Nat.le_of_ble_eq_true rfl, Nat.le_of_ble_eq_true rfl⟩ ⟨Nat.zero_le _, Nat.zero_le _⟩ dX11_isPlace_10 (fun H locs hS => ?_)
  obtain ⟨hbo_3, hrun⟩ := gbE hrun
  exact hret _ _ _ _ _ _ (congrArg (Option.map (fun w => (w, t))) hrun) (nb hbo_3) hS dX11_isPlace_13
theorem mdX11_isSet : MD yX11_isSet 1 := ⟨by decide +kernel, by decide +kernel, by decide +kernel⟩
set_option maxHeartbeats 4000000 in
set_option maxRecDepth 100000 in
theorem kX11_isSet (l : Launch) (X : Cx) (t : St) (x1 : Int32) (r : Int32) (hrun : fX11_isSet t x1 = some r) : Ci l X t yX11_isSet cX11_isSet 2 .boolean 1 25 [.ref (X.2.1 144), .int x1] r t := by
  refine Ci_of (by decide) (Nat.le_of_ble_eq_true rfl) ?_
  intro p e s m args below meth c Q B hret hS ls hl
  have hx := B.1
  have hb := B.2.1
  have hown := B.2.2.2.1
  have hts := B.2.2.2.2.1
  have hl : lv_has ls 2 [(0, .ref (X.2.1 144)), (1, .int x1)] := hl
  unfold fX11_isSet at hrun
  refine lv_iload_n hx hb dX11_isSet_0 rfl (lv_at hl 1 rfl) ?_
  refine lv_i2l hx hb dX11_isSet_1 rfl ?_
  refine lv_lconst (v := 0) hx hb dX11_isSet_2 (by decide) ?_
  refine lv_iconst (v := 1) hx hb dX11_isSet_3 (by decide) ?_
  refine lv_aload_n hx hb dX11_isSet_4 rfl (lv_at hl 0 rfl) ?_
  refine gX11_81 B hS dX11_isSet_5 ?_
  refine lv_ishl hx hb dX11_isSet_8 ?_
  refine lv_iconst (v := 1) hx hb dX11_isSet_9 (by decide) ?_
  refine lv_isub hx hb dX11_isSet_10 ?_
  refine lv_i2l hx hb dX11_isSet_11 rfl ?_
  obtain ⟨r_2, hc_1, hrun⟩ := bdE hrun
  refine qX11_84 B hS hc_1 hl.1 (Nat.le_of_ble_eq_true rfl) ⟨Nat.le_of_ble_eq_true rfl, Nat.le_of_ble_eq_true rfl⟩ ⟨Nat.zero_le _, Nat.zero_le _⟩ dX11_isSet_12 (fun H locs hS => ?_)
  obtain ⟨hbo_3, hrun⟩ := gbE hrun
  exact hret _ _ _ _ _ _ (congrArg (Option.map (fun w => (w, t))) hrun) (nb hbo_3) hS dX11_isSet_15
theorem mdX11_feed : MD yX11_feed 1 := ⟨by decide +kernel, by decide +kernel, by decide +kernel⟩
set_option maxHeartbeats 4000000 in
set_option maxRecDepth 100000 in
theorem kX11_feed (l : Launch) (X : Cx) (t : St) (x1 : Int32) (r : Int32) (t' : St) (hrun : fX11_feed t x1 = some (r, t')) : Ci l X t yX11_feed cX11_feed 2 .int 1 25 [.ref (X.2.1 144), .int x1] r t' := by
  refine Ci_of (by decide) (Nat.le_of_ble_eq_true rfl) ?_
  intro p e s m args below meth c Q B hret hS ls hl
  have hx := B.1
  have hb := B.2.1
  have hown := B.2.2.2.1
  have hts := B.2.2.2.2.1
  have hl : lv_has ls 2 [(0, .ref (X.2.1 144)), (1, .int x1)] := hl
  unfold fX11_feed at hrun
  refine lv_iload_n hx hb dX11_feed_0 rfl (lv_at hl 1 rfl) ?_
  refine lv_i2l hx hb dX11_feed_1 rfl ?_
  refine lv_lconst (v := 0) hx hb dX11_feed_2 (by decide) ?_
  refine lv_ldc2 (v := 255) hx hb hown (hts _ (tw_4 216 rfl rfl)) dX11_feed_3 ?_
  obtain ⟨r_2, hc_1, hrun⟩ := bdE hrun
  refine qX11_84 B hS hc_1 hl.1 (Nat.le_of_ble_eq_true rfl) ⟨Nat.le_of_ble_eq_true rfl, Nat.le_of_ble_eq_true rfl⟩ ⟨Nat.zero_le _, Nat.zero_le _⟩ dX11_feed_6 (fun H locs hS => ?_)
  refine lv_if_ne (tgt := 15) hx hb dX11_feed_9 (by decide) (fun hc => ?_) (fun hc => ?_)
  · have hrun := iq hc hrun
    refine lv_aload_n hx hb dX11_feed_15 rfl (lv_at hl 0 rfl) ?_
    refine gX11_94 B hS dX11_feed_16 ?_
    refine lv_sipush (v := 240) hx hb dX11_feed_19 (by decide) ?_
    refine lv_icmp_ne (tgt := 28) hx hb dX11_feed_22 (by decide) (fun hc => ?_) (fun hc => ?_)
    · have hrun := iq hc hrun
      refine lv_aload_n hx hb dX11_feed_28 rfl (lv_at hl 0 rfl) ?_
      refine gX11_28 B hS dX11_feed_29 ?_
      refine lv_aload_n hx hb dX11_feed_32 rfl (lv_at hl 0 rfl) ?_
      refine gX11_94 B hS dX11_feed_33 ?_
      refine lv_iload_n hx hb dX11_feed_36 rfl (lv_at hl 1 rfl) ?_
      obtain ⟨hi_3, hrun⟩ := gdE hrun
      refine xs B hS ia_151 hi_3 dX11_feed_37 (fun H locs hS => ?_)
      obtain ⟨t_4, et, hrun⟩ := bsE hrun
      have hS : SS X t_4 s.heap H locs := by rw [et]; exact hS
      clear et
      refine lv_aload_n hx hb dX11_feed_38 rfl (lv_at hl 0 rfl) ?_
      refine lv_dup hx hb dX11_feed_39 rfl ?_
      refine gX11_94 B hS dX11_feed_40 ?_
      refine lv_iconst (v := 1) hx hb dX11_feed_43 (by decide) ?_
      refine lv_iadd hx hb dX11_feed_44 ?_
      refine pX11_94 B hS dX11_feed_45 (fun H locs hS => ?_)
      obtain ⟨t_5, et, hrun⟩ := bsE hrun
      have hS : SS X t_5 s.heap H locs := by rw [et]; exact hS
      clear et
      refine lv_aload_n hx hb dX11_feed_48 rfl (lv_at hl 0 rfl) ?_
      refine gX11_94 B hS dX11_feed_49 ?_
      exact hret _ _ _ _ _ _ hrun rfl hS dX11_feed_52
    · have hrun := ip hc hrun
      refine lv_ldc (v := -1000000004) hx hb hown (hts _ (tw_4 221 rfl rfl)) dX11_feed_25 ?_
      exact hret _ _ _ _ _ _ hrun rfl hS dX11_feed_27
  · have hrun := ip hc hrun
    refine lv_ldc (v := -1000000002) hx hb hown (hts _ (tw_4 220 rfl rfl)) dX11_feed_12 ?_
    exact hret _ _ _ _ _ _ hrun rfl hS dX11_feed_14
theorem mdX11_here : MD yX11_here 0 := ⟨by decide +kernel, by decide +kernel, by decide +kernel⟩
set_option maxHeartbeats 4000000 in
set_option maxRecDepth 100000 in
theorem kX11_here (l : Launch) (X : Cx) (t : St) (r : Int32) (t' : St) (hrun : fX11_here t = some (r, t')) : Ci l X t yX11_here cX11_here 1 .int 0 0 [.ref (X.2.1 144)] r t' := by
  refine Ci_of (by decide) (Nat.le_of_ble_eq_true rfl) ?_
  intro p e s m args below meth c Q B hret hS ls hl
  have hx := B.1
  have hb := B.2.1
  have hown := B.2.2.2.1
  have hts := B.2.2.2.2.1
  have hl : lv_has ls 1 [(0, .ref (X.2.1 144))] := hl
  have hB38 : ∀ (t : St) (H : Heap) (locs : List Loc) (ls : Array Slot), SS X t s.heap H locs → lv_has ls 1 [(0, .ref (X.2.1 144))] → fX11_here_38 t = some (r, t') → W p l e ({ frames := 0, cells := 0, slots := 0, locals := 0 } : Room) s m args below meth c H locs 0 0 Q (F0 m 38 ls []) := by
    intro t H locs ls hS hl hrun
    unfold fX11_here_38 at hrun
    refine lv_aload_n hx hb dX11_here_38 rfl (lv_at hl 0 rfl) ?_
    refine gX11_98 B hS dX11_here_39 ?_
    refine lv_aload_n hx hb dX11_here_42 rfl (lv_at hl 0 rfl) ?_
    refine gX11_94 B hS dX11_here_43 ?_
    refine lv_icmp_ge (tgt := 61) hx hb dX11_here_46 (by decide) (fun hc => ?_) (fun hc => ?_)
    · have hrun := ip hc hrun
      refine lv_iconst (v := -1) hx hb dX11_here_61 (by decide) ?_
      exact hret _ _ _ _ _ _ hrun rfl hS dX11_here_62
    · have hrun := iq hc hrun
      refine lv_aload_n hx hb dX11_here_49 rfl (lv_at hl 0 rfl) ?_
      refine gX11_28 B hS dX11_here_50 ?_
      refine lv_aload_n hx hb dX11_here_53 rfl (lv_at hl 0 rfl) ?_
      refine gX11_98 B hS dX11_here_54 ?_
      obtain ⟨hi_1039, hrun⟩ := gdE hrun
      refine xa B hS ia_151 hi_1039 dX11_here_57 ?_
      refine lv_goto (tgt := 62) hx hb dX11_here_58 (by decide) ?_
      exact hret _ _ _ _ _ _ hrun rfl hS dX11_here_62
  have hB0 : ∀ (n0 : Nat) (t : St) (H : Heap) (locs : List Loc) (ls : Array Slot), SS X t s.heap H locs → lv_has ls 1 [(0, .ref (X.2.1 144))] → fX11_here_0 n0 t = some (r, t') → W p l e ({ frames := 0, cells := 0, slots := 0, locals := 0 } : Room) s m args below meth c H locs 0 0 Q (F0 m 0 ls []) := by
    intro n0
    induction n0 with
    | zero =>
      intro t H locs ls hS hl hrun
      cases (show (none : Option (Int32 × St)) = some (r, t') from hrun)
    | succ n0 ih0 =>
      intro t H locs ls hS hl hrun
      rw [fX11_here_0_s] at hrun
      refine lv_aload_n hx hb dX11_here_0 rfl (lv_at hl 0 rfl) ?_
      refine gX11_98 B hS dX11_here_1 ?_
      refine lv_aload_n hx hb dX11_here_4 rfl (lv_at hl 0 rfl) ?_
      refine gX11_94 B hS dX11_here_5 ?_
      refine lv_icmp_ge (tgt := 38) hx hb dX11_here_8 (by decide) (fun hc => ?_) (fun hc => ?_)
      · have hrun := ip hc hrun
        exact hB38 t _ _ _ hS (lv_sub hl [0] rfl) hrun
      · have hrun := iq hc hrun
        refine lv_aload_n hx hb dX11_here_11 rfl (lv_at hl 0 rfl) ?_
        refine gX11_28 B hS dX11_here_12 ?_
        refine lv_aload_n hx hb dX11_here_15 rfl (lv_at hl 0 rfl) ?_
        refine gX11_98 B hS dX11_here_16 ?_
        obtain ⟨hi_1001, hrun⟩ := gdE hrun
        refine xa B hS ia_151 hi_1001 dX11_here_19 ?_
        refine lv_bipush (v := 32) hx hb dX11_here_20 (by decide) ?_
        refine lv_icmp_ne (tgt := 38) hx hb dX11_here_22 (by decide) (fun hc => ?_) (fun hc => ?_)
        · have hrun := iq hc hrun
          exact hB38 t _ _ _ hS (lv_sub hl [0] rfl) hrun
        · have hrun := ip hc hrun
          refine lv_aload_n hx hb dX11_here_25 rfl (lv_at hl 0 rfl) ?_
          refine lv_dup hx hb dX11_here_26 rfl ?_
          refine gX11_98 B hS dX11_here_27 ?_
          refine lv_iconst (v := 1) hx hb dX11_here_30 (by decide) ?_
          refine lv_iadd hx hb dX11_here_31 ?_
          refine pX11_98 B hS dX11_here_32 (fun H locs hS => ?_)
          obtain ⟨t_1002, et, hrun⟩ := bsE hrun
          have hS : SS X t_1002 s.heap H locs := by rw [et]; exact hS
          clear et
          refine lv_goto (tgt := 0) hx hb dX11_here_35 (by decide) ?_
          exact ih0 t_1002 _ _ _ hS (lv_sub hl [0] rfl) hrun
  unfold fX11_here at hrun
  exact hB0 fuelN t _ _ _ hS (lv_sub hl [0] rfl) hrun
theorem mdX11_fails : MD yX11_fails 2 := ⟨by decide +kernel, by decide +kernel, by decide +kernel⟩
set_option maxHeartbeats 4000000 in
set_option maxRecDepth 100000 in
theorem kX11_fails (l : Launch) (X : Cx) (t : St) (x1 : Int32) (x2 : Int32) (r : Int32) (t' : St) (hrun : fX11_fails t x1 x2 = some (r, t')) : Ci l X t yX11_fails cX11_fails 3 .int 0 0 [.ref (X.2.1 144), .int x1, .int x2] r t' := by
  refine Ci_of (by decide) (Nat.le_of_ble_eq_true rfl) ?_
  intro p e s m args below meth c Q B hret hS ls hl
  have hx := B.1
  have hb := B.2.1
  have hown := B.2.2.2.1
  have hts := B.2.2.2.2.1
  have hl : lv_has ls 3 [(0, .ref (X.2.1 144)), (1, .int x1), (2, .int x2)] := hl
  unfold fX11_fails at hrun
  refine lv_aload_n hx hb dX11_fails_0 rfl (lv_at hl 0 rfl) ?_
  refine lv_iload_n hx hb dX11_fails_1 rfl (lv_at hl 2 rfl) ?_
  refine pX11_31 B hS dX11_fails_2 (fun H locs hS => ?_)
  obtain ⟨t_1, et, hrun⟩ := bsE hrun
  have hS : SS X t_1 s.heap H locs := by rw [et]; exact hS
  clear et
  refine lv_iload_n hx hb dX11_fails_5 rfl (lv_at hl 1 rfl) ?_
  exact hret _ _ _ _ _ _ hrun rfl hS dX11_fails_6
theorem mdX11_takeNumber : MD yX11_takeNumber 2 := ⟨by decide +kernel, by decide +kernel, by decide +kernel⟩
section QX11_takeNumber
variable {p : Program} {l : Launch} {e : Env} {R : Room} {s : State} {m : MethodId} {args : Array Value} {below : List Frame} {meth : Method} {c : Code} {H : Heap} {locs : List Loc} {cells slots : Nat} {Q : State → Prop}
variable {cc : ByteArray} {pc : Nat} {ls : Array Slot} {rest : List Value} {X : Cx} {t : St} {H0 : Heap} {nL : Nat}
theorem qX11_101 (B : Bx p s m args c cc nL X RX11) (hS : SS X t H0 H locs) {r : Int32} {t' : St} (hM : fX11_here t = some (r, t')) (hsz : ls.size = nL) (hW : (rest.map fun v => v.category).sum ≤ 8) (hR : 0 + 1 ≤ R.frames ∧ 8 + (1 + 11) + 0 ≤ R.locals) (hR2 : cells ≤ R.cells ∧ slots ≤ R.slots) (hdg : decode cc pc = .ok (.invokevirtual 101, 3)) (kk : ∀ (H1 : Heap) (locs1 : List Loc), SS X t' H0 H1 locs1 → W p l e R s m args below meth c H1 locs1 cells slots Q (F0 m (pc + 3) ls (.int r :: rest))) : W p l e R s m args below meth c H locs cells slots Q (F0 m pc ls (.ref (X.2.1 144) :: rest)) :=
  xVi B hS (kX11_here l X t r t' hM) (tw_4 226 rfl rfl) (tw_4 228 rfl rfl) (tw_0 21 rfl rfl) (tw_1 12 rfl rfl) (tw_4 229 rfl rfl) mdX11_here (by decide) (ceX11 _) rfl rfl rfl hsz rfl hW hR hR2 hdg kk
theorem qX11_109 (B : Bx p s m args c cc nL X RX11) (hS : SS X t H0 H locs) {x1 : Int32} {x2 : Int32} {r : Int32} {t' : St} (hM : fX11_fails t x1 x2 = some (r, t')) (hsz : ls.size = nL) (hW : (rest.map fun v => v.category).sum ≤ 8) (hR : 0 + 1 ≤ R.frames ∧ 8 + (3 + 11) + 0 ≤ R.locals) (hR2 : cells ≤ R.cells ∧ slots ≤ R.slots) (hdg : decode cc pc = .ok (.invokevirtual 109, 3)) (kk : ∀ (H1 : Heap) (locs1 : List Loc), SS X t' H0 H1 locs1 → W p l e R s m args below meth c H1 locs1 cells slots Q (F0 m (pc + 3) ls (.int r :: rest))) : W p l e R s m args below meth c H locs cells slots Q (F0 m pc ls (.int x2 :: .int x1 :: .ref (X.2.1 144) :: rest)) :=
  xVi B hS (kX11_fails l X t x1 x2 r t' hM) (tw_4 234 rfl rfl) (tw_4 236 rfl rfl) (tw_0 23 rfl rfl) (tw_1 12 rfl rfl) (tw_4 237 rfl rfl) mdX11_fails (by decide) (ceX11 _) rfl rfl rfl hsz rfl hW hR hR2 hdg kk
end QX11_takeNumber
set_option maxHeartbeats 4000000 in
set_option maxRecDepth 100000 in
theorem kX11_takeNumber (l : Launch) (X : Cx) (t : St) (x1 : Int32) (x2 : Int32) (r : Int32) (t' : St) (hrun : fX11_takeNumber t x1 x2 = some (r, t')) : Ci l X t yX11_takeNumber cX11_takeNumber 4 .int 1 25 [.ref (X.2.1 144), .int x1, .int x2] r t' := by
  refine Ci_of (by decide) (Nat.le_of_ble_eq_true rfl) ?_
  intro p e s m args below meth c Q B hret hS ls hl
  have hx := B.1
  have hb := B.2.1
  have hown := B.2.2.2.1
  have hts := B.2.2.2.2.1
  have hl : lv_has ls 4 [(0, .ref (X.2.1 144)), (1, .int x1), (2, .int x2)] := hl
  have hB157 : ∀ (t : St) (H : Heap) (locs : List Loc) (ls : Array Slot), SS X t s.heap H locs → lv_has ls 4 [(0, .ref (X.2.1 144))] → fX11_takeNumber_157 t = some (r, t') → W p l e ({ frames := 1, cells := 0, slots := 0, locals := 25 } : Room) s m args below meth c H locs 0 0 Q (F0 m 157 ls []) := by
    intro t H locs ls hS hl hrun
    unfold fX11_takeNumber_157 at hrun
    refine lv_aload_n hx hb dX11_takeNumber_157 rfl (lv_at hl 0 rfl) ?_
    refine lv_iconst (v := 2) hx hb dX11_takeNumber_158 (by decide) ?_
    refine lv_aload_n hx hb dX11_takeNumber_159 rfl (lv_at hl 0 rfl) ?_
    refine gX11_113 B hS dX11_takeNumber_160 ?_
    obtain ⟨r_1159, t_1160, hc_1158, hrun⟩ := bd2E hrun
    refine qX11_109 B hS hc_1158 hl.1 (Nat.le_of_ble_eq_true rfl) ⟨Nat.le_of_ble_eq_true rfl, Nat.le_of_ble_eq_true rfl⟩ ⟨Nat.zero_le _, Nat.zero_le _⟩ dX11_takeNumber_163 (fun H locs hS => ?_)
    refine lv_goto (tgt := 170) hx hb dX11_takeNumber_166 (by decide) ?_
    exact hret _ _ _ _ _ _ hrun rfl hS dX11_takeNumber_170
  have hB129 : ∀ (t : St) (x1 : Int32) (x2 : Int32) (H : Heap) (locs : List Loc) (ls : Array Slot), SS X t s.heap H locs → lv_has ls 4 [(0, .ref (X.2.1 144)), (1, .int x1), (2, .int x2)] → fX11_takeNumber_129 t x1 x2 = some (r, t') → W p l e ({ frames := 1, cells := 0, slots := 0, locals := 25 } : Room) s m args below meth c H locs 0 0 Q (F0 m 129 ls []) := by
    intro t x1 x2 H locs ls hS hl hrun
    unfold fX11_takeNumber_129 at hrun
    refine lv_aload_n hx hb dX11_takeNumber_129 rfl (lv_at hl 0 rfl) ?_
    refine gX11_98 B hS dX11_takeNumber_130 ?_
    refine lv_aload_n hx hb dX11_takeNumber_133 rfl (lv_at hl 0 rfl) ?_
    refine gX11_113 B hS dX11_takeNumber_134 ?_
    refine lv_isub hx hb dX11_takeNumber_137 ?_
    refine lv_iconst (v := 3) hx hb dX11_takeNumber_138 (by decide) ?_
    refine lv_icmp_gt (tgt := 157) hx hb dX11_takeNumber_139 (by decide) (fun hc => ?_) (fun hc => ?_)
    · have hrun := ip hc hrun
      exact hB157 t _ _ _ hS (lv_sub hl [0] rfl) hrun
    · have hrun := iq hc hrun
      refine lv_aload_n hx hb dX11_takeNumber_142 rfl (lv_at hl 0 rfl) ?_
      refine gX11_116 B hS dX11_takeNumber_143 ?_
      refine lv_i2l hx hb dX11_takeNumber_146 rfl ?_
      refine lv_iload_n hx hb dX11_takeNumber_147 rfl (lv_at hl 1 rfl) ?_
      refine lv_i2l hx hb dX11_takeNumber_148 rfl ?_
      refine lv_iload_n hx hb dX11_takeNumber_149 rfl (lv_at hl 2 rfl) ?_
      refine lv_i2l hx hb dX11_takeNumber_150 rfl ?_
      obtain ⟨r_1131, hc_1130, hrun⟩ := bdE hrun
      refine qX11_84 B hS hc_1130 hl.1 (Nat.le_of_ble_eq_true rfl) ⟨Nat.le_of_ble_eq_true rfl, Nat.le_of_ble_eq_true rfl⟩ ⟨Nat.zero_le _, Nat.zero_le _⟩ dX11_takeNumber_151 (fun H locs hS => ?_)
      refine lv_if_ne (tgt := 169) hx hb dX11_takeNumber_154 (by decide) (fun hc => ?_) (fun hc => ?_)
      · have hrun := iq hc hrun
        refine lv_iconst (v := 0) hx hb dX11_takeNumber_169 (by decide) ?_
        exact hret _ _ _ _ _ _ hrun rfl hS dX11_takeNumber_170
      · have hrun := ip hc hrun
        exact hB157 t _ _ _ hS (lv_sub hl [0] rfl) hrun
  have hB42 : ∀ (n42 : Nat) (t : St) (x1 : Int32) (x2 : Int32) (H : Heap) (locs : List Loc) (ls : Array Slot), SS X t s.heap H locs → lv_has ls 4 [(0, .ref (X.2.1 144)), (1, .int x1), (2, .int x2)] → fX11_takeNumber_42 n42 t x1 x2 = some (r, t') → W p l e ({ frames := 1, cells := 0, slots := 0, locals := 25 } : Room) s m args below meth c H locs 0 0 Q (F0 m 42 ls []) := by
    intro n42
    induction n42 with
    | zero =>
      intro t x1 x2 H locs ls hS hl hrun
      cases (show (none : Option (Int32 × St)) = some (r, t') from hrun)
    | succ n42 ih42 =>
      have hB113 : ∀ (t : St) (x1 : Int32) (x2 : Int32) (y1 : Int32) (H : Heap) (locs : List Loc) (ls : Array Slot), SS X t s.heap H locs → lv_has ls 4 [(0, .ref (X.2.1 144)), (1, .int x1), (2, .int x2)] → fX11_takeNumber_113 (fX11_takeNumber_42 n42) t x1 x2 y1 = some (r, t') → W p l e ({ frames := 1, cells := 0, slots := 0, locals := 25 } : Room) s m args below meth c H locs 0 0 Q (F0 m 113 ls [.int y1, .ref (X.2.1 144)]) := by
        intro t x1 x2 y1 H locs ls hS hl hrun
        unfold fX11_takeNumber_113 at hrun
        refine pX11_116 B hS dX11_takeNumber_113 (fun H locs hS => ?_)
        obtain ⟨t_1114, et, hrun⟩ := bsE hrun
        have hS : SS X t_1114 s.heap H locs := by rw [et]; exact hS
        clear et
        refine lv_aload_n hx hb dX11_takeNumber_116 rfl (lv_at hl 0 rfl) ?_
        refine lv_dup hx hb dX11_takeNumber_117 rfl ?_
        refine gX11_98 B hS dX11_takeNumber_118 ?_
        refine lv_iconst (v := 1) hx hb dX11_takeNumber_121 (by decide) ?_
        refine lv_iadd hx hb dX11_takeNumber_122 ?_
        refine pX11_98 B hS dX11_takeNumber_123 (fun H locs hS => ?_)
        obtain ⟨t_1115, et, hrun⟩ := bsE hrun
        have hS : SS X t_1115 s.heap H locs := by rw [et]; exact hS
        clear et
        refine lv_goto (tgt := 42) hx hb dX11_takeNumber_126 (by decide) ?_
        exact ih42 t_1115 x1 x2 _ _ _ hS (lv_sub hl [0, 1, 2] rfl) hrun
      intro t x1 x2 H locs ls hS hl hrun
      rw [fX11_takeNumber_42_s] at hrun
      refine lv_aload_n hx hb dX11_takeNumber_42 rfl (lv_at hl 0 rfl) ?_
      refine gX11_98 B hS dX11_takeNumber_43 ?_
      refine lv_aload_n hx hb dX11_takeNumber_46 rfl (lv_at hl 0 rfl) ?_
      refine gX11_94 B hS dX11_takeNumber_47 ?_
      refine lv_icmp_ge (tgt := 129) hx hb dX11_takeNumber_50 (by decide) (fun hc => ?_) (fun hc => ?_)
      · have hrun := ip hc hrun
        exact hB129 t x1 x2 _ _ _ hS (lv_sub hl [0, 1, 2] rfl) hrun
      · have hrun := iq hc hrun
        refine lv_aload_n hx hb dX11_takeNumber_53 rfl (lv_at hl 0 rfl) ?_
        refine gX11_28 B hS dX11_takeNumber_54 ?_
        refine lv_aload_n hx hb dX11_takeNumber_57 rfl (lv_at hl 0 rfl) ?_
        refine gX11_98 B hS dX11_takeNumber_58 ?_
        obtain ⟨hi_1043, hrun⟩ := gdE hrun
        refine xa B hS ia_151 hi_1043 dX11_takeNumber_61 ?_
        refine lv_i2l hx hb dX11_takeNumber_62 rfl ?_
        refine lv_ldc2 (v := 48) hx hb hown (hts _ (tw_5 6 rfl rfl)) dX11_takeNumber_63 ?_
        refine lv_ldc2 (v := 57) hx hb hown (hts _ (tw_5 7 rfl rfl)) dX11_takeNumber_66 ?_
        obtain ⟨r_1045, hc_1044, hrun⟩ := bdE hrun
        refine qX11_84 B hS hc_1044 hl.1 (Nat.le_of_ble_eq_true rfl) ⟨Nat.le_of_ble_eq_true rfl, Nat.le_of_ble_eq_true rfl⟩ ⟨Nat.zero_le _, Nat.zero_le _⟩ dX11_takeNumber_69 (fun H locs hS => ?_)
        refine lv_if_eq (tgt := 129) hx hb dX11_takeNumber_72 (by decide) (fun hc => ?_) (fun hc => ?_)
        · have hrun := ip hc hrun
          exact hB129 t x1 x2 _ _ _ hS (lv_sub hl [0, 1, 2] rfl) hrun
        · have hrun := iq hc hrun
          refine lv_aload_n hx hb dX11_takeNumber_75 rfl (lv_at hl 0 rfl) ?_
          refine lv_aload_n hx hb dX11_takeNumber_76 rfl (lv_at hl 0 rfl) ?_
          refine gX11_116 B hS dX11_takeNumber_77 ?_
          refine lv_sipush (v := 10000) hx hb dX11_takeNumber_80 (by decide) ?_
          refine lv_icmp_le (tgt := 93) hx hb dX11_takeNumber_83 (by decide) (fun hc => ?_) (fun hc => ?_)
          · have hrun := ip hc hrun
            refine lv_bipush (v := 10) hx hb dX11_takeNumber_93 (by decide) ?_
            refine lv_aload_n hx hb dX11_takeNumber_95 rfl (lv_at hl 0 rfl) ?_
            refine gX11_116 B hS dX11_takeNumber_96 ?_
            refine lv_imul hx hb dX11_takeNumber_99 ?_
            refine lv_aload_n hx hb dX11_takeNumber_100 rfl (lv_at hl 0 rfl) ?_
            refine gX11_28 B hS dX11_takeNumber_101 ?_
            refine lv_aload_n hx hb dX11_takeNumber_104 rfl (lv_at hl 0 rfl) ?_
            refine gX11_98 B hS dX11_takeNumber_105 ?_
            obtain ⟨hi_1046, hrun⟩ := gdE hrun
            refine xa B hS ia_151 hi_1046 dX11_takeNumber_108 ?_
            refine lv_iadd hx hb dX11_takeNumber_109 ?_
            refine lv_bipush (v := 48) hx hb dX11_takeNumber_110 (by decide) ?_
            refine lv_isub hx hb dX11_takeNumber_112 ?_
            exact hB113 t x1 x2 ((((10 : Int32) * t 144 16) + t 151 (t 144 15).toNatClampNeg) - (48 : Int32)) _ _ _ hS (lv_sub hl [0, 1, 2] rfl) hrun
          · have hrun := iq hc hrun
            refine lv_aload_n hx hb dX11_takeNumber_86 rfl (lv_at hl 0 rfl) ?_
            refine gX11_116 B hS dX11_takeNumber_87 ?_
            refine lv_goto (tgt := 113) hx hb dX11_takeNumber_90 (by decide) ?_
            exact hB113 t x1 x2 (t 144 16) _ _ _ hS (lv_sub hl [0, 1, 2] rfl) hrun
  unfold fX11_takeNumber at hrun
  refine lv_aload_n hx hb dX11_takeNumber_0 rfl (lv_at hl 0 rfl) ?_
  obtain ⟨r_2, t_3, hc_1, hrun⟩ := bd2E hrun
  refine qX11_101 B hS hc_1 hl.1 (Nat.le_of_ble_eq_true rfl) ⟨Nat.le_of_ble_eq_true rfl, Nat.le_of_ble_eq_true rfl⟩ ⟨Nat.zero_le _, Nat.zero_le _⟩ dX11_takeNumber_1 (fun H locs hS => ?_)
  refine lv_istore_n (lv' := [(3, .int r_2), (0, .ref (X.2.1 144)), (1, .int x1), (2, .int x2)]) hx hb dX11_takeNumber_4 rfl hl (by decide) rfl (fun ls hl => ?_)
  refine lv_iload_n hx hb dX11_takeNumber_5 rfl (lv_at hl 0 rfl) ?_
  refine lv_i2l hx hb dX11_takeNumber_6 rfl ?_
  refine lv_ldc2 (v := 48) hx hb hown (hts _ (tw_5 6 rfl rfl)) dX11_takeNumber_7 ?_
  refine lv_ldc2 (v := 57) hx hb hown (hts _ (tw_5 7 rfl rfl)) dX11_takeNumber_10 ?_
  obtain ⟨r_5, hc_4, hrun⟩ := bdE hrun
  refine qX11_84 B hS hc_4 hl.1 (Nat.le_of_ble_eq_true rfl) ⟨Nat.le_of_ble_eq_true rfl, Nat.le_of_ble_eq_true rfl⟩ ⟨Nat.zero_le _, Nat.zero_le _⟩ dX11_takeNumber_13 (fun H locs hS => ?_)
  refine lv_if_ne (tgt := 29) hx hb dX11_takeNumber_16 (by decide) (fun hc => ?_) (fun hc => ?_)
  · have hrun := iq hc hrun
    refine lv_aload_n hx hb dX11_takeNumber_29 rfl (lv_at hl 1 rfl) ?_
    refine lv_aload_n hx hb dX11_takeNumber_30 rfl (lv_at hl 1 rfl) ?_
    refine gX11_98 B hS dX11_takeNumber_31 ?_
    refine pX11_113 B hS dX11_takeNumber_34 (fun H locs hS => ?_)
    obtain ⟨t_6, et, hrun⟩ := bsE hrun
    have hS : SS X t_6 s.heap H locs := by rw [et]; exact hS
    clear et
    refine lv_aload_n hx hb dX11_takeNumber_37 rfl (lv_at hl 1 rfl) ?_
    refine lv_iconst (v := 0) hx hb dX11_takeNumber_38 (by decide) ?_
    refine pX11_116 B hS dX11_takeNumber_39 (fun H locs hS => ?_)
    obtain ⟨t_7, et, hrun⟩ := bsE hrun
    have hS : SS X t_7 s.heap H locs := by rw [et]; exact hS
    clear et
    exact hB42 fuelN t_7 x1 x2 _ _ _ hS (lv_sub hl [1, 2, 3] rfl) hrun
  · have hrun := ip hc hrun
    refine lv_aload_n hx hb dX11_takeNumber_19 rfl (lv_at hl 1 rfl) ?_
    refine lv_iconst (v := 1) hx hb dX11_takeNumber_20 (by decide) ?_
    refine lv_aload_n hx hb dX11_takeNumber_21 rfl (lv_at hl 1 rfl) ?_
    refine gX11_98 B hS dX11_takeNumber_22 ?_
    obtain ⟨r_9, t_10, hc_8, hrun⟩ := bd2E hrun
    refine qX11_109 B hS hc_8 hl.1 (Nat.le_of_ble_eq_true rfl) ⟨Nat.le_of_ble_eq_true rfl, Nat.le_of_ble_eq_true rfl⟩ ⟨Nat.zero_le _, Nat.zero_le _⟩ dX11_takeNumber_25 (fun H locs hS => ?_)
    exact hret _ _ _ _ _ _ hrun rfl hS dX11_takeNumber_28
theorem mdX11_into : MD yX11_into 4 := ⟨by decide +kernel, by decide +kernel, by decide +kernel⟩
section QX11_into
variable {p : Program} {l : Launch} {e : Env} {R : Room} {s : State} {m : MethodId} {args : Array Value} {below : List Frame} {meth : Method} {c : Code} {H : Heap} {locs : List Loc} {cells slots : Nat} {Q : State → Prop}
variable {cc : ByteArray} {pc : Nat} {ls : Array Slot} {rest : List Value} {X : Cx} {t : St} {H0 : Heap} {nL : Nat}
theorem qX11_119 (B : Bx p s m args c cc nL X RX11) (hS : SS X t H0 H locs) {x1 : Int32} {x2 : Int32} {r : Int32} {t' : St} (hM : fX11_takeNumber t x1 x2 = some (r, t')) (hsz : ls.size = nL) (hW : (rest.map fun v => v.category).sum ≤ 8) (hR : 1 + 1 ≤ R.frames ∧ 8 + (4 + 11) + 25 ≤ R.locals) (hR2 : cells ≤ R.cells ∧ slots ≤ R.slots) (hdg : decode cc pc = .ok (.invokevirtual 119, 3)) (kk : ∀ (H1 : Heap) (locs1 : List Loc), SS X t' H0 H1 locs1 → W p l e R s m args below meth c H1 locs1 cells slots Q (F0 m (pc + 3) ls (.int r :: rest))) : W p l e R s m args below meth c H locs cells slots Q (F0 m pc ls (.int x2 :: .int x1 :: .ref (X.2.1 144) :: rest)) :=
  xVi B hS (kX11_takeNumber l X t x1 x2 r t' hM) (tw_5 2 rfl rfl) (tw_5 4 rfl rfl) (tw_0 25 rfl rfl) (tw_1 12 rfl rfl) (tw_5 5 rfl rfl) mdX11_takeNumber (by decide) (ceX11 _) rfl rfl rfl hsz rfl hW hR hR2 hdg kk
end QX11_into
set_option maxHeartbeats 4000000 in
set_option maxRecDepth 100000 in
theorem kX11_into (l : Launch) (X : Cx) (t : St) (h1 : Nat) (n1 : Nat) (e1 : isI X h1 n1) (x2 : Int32) (x3 : Int32) (x4 : Int32) (r : Int32) (t' : St) (hrun : fX11_into h1 n1 t x2 x3 x4 = some (r, t')) : Ci l X t yX11_into cX11_into 6 .int 2 48 [.ref (X.2.1 144), .ref (X.2.1 h1), .int x2, .int x3, .int x4] r t' := by
  refine Ci_of (by decide) (Nat.le_of_ble_eq_true rfl) ?_
  intro p e s m args below meth c Q B hret hS ls hl
  have hx := B.1
  have hb := B.2.1
  have hown := B.2.2.2.1
  have hts := B.2.2.2.2.1
  have hl : lv_has ls 6 [(0, .ref (X.2.1 144)), (1, .ref (X.2.1 h1)), (2, .int x2), (3, .int x3), (4, .int x4)] := hl
  unfold fX11_into at hrun
  refine lv_aload_n hx hb dX11_into_0 rfl (lv_at hl 0 rfl) ?_
  refine lv_iload_n hx hb dX11_into_1 rfl (lv_at hl 3 rfl) ?_
  refine lv_iload hx hb dX11_into_2 (lv_at hl 4 rfl) ?_
  obtain ⟨r_2, t_3, hc_1, hrun⟩ := bd2E hrun
  refine qX11_119 B hS hc_1 hl.1 (Nat.le_of_ble_eq_true rfl) ⟨Nat.le_of_ble_eq_true rfl, Nat.le_of_ble_eq_true rfl⟩ ⟨Nat.zero_le _, Nat.zero_le _⟩ dX11_into_4 (fun H locs hS => ?_)
  refine lv_istore (lv' := [(5, .int r_2), (0, .ref (X.2.1 144)), (1, .ref (X.2.1 h1)), (2, .int x2), (3, .int x3), (4, .int x4)]) hx hb dX11_into_7 hl (by decide) rfl (fun ls hl => ?_)
  refine lv_aload_n hx hb dX11_into_9 rfl (lv_at hl 2 rfl) ?_
  refine lv_iload_n hx hb dX11_into_10 rfl (lv_at hl 3 rfl) ?_
  refine lv_aload_n hx hb dX11_into_11 rfl (lv_at hl 1 rfl) ?_
  refine gX11_116 B hS dX11_into_12 ?_
  obtain ⟨hi_4, hrun⟩ := gdE hrun
  refine xs B hS e1 hi_4 dX11_into_15 (fun H locs hS => ?_)
  obtain ⟨t_5, et, hrun⟩ := bsE hrun
  have hS : SS X t_5 s.heap H locs := by rw [et]; exact hS
  clear et
  refine lv_iload hx hb dX11_into_16 (lv_at hl 0 rfl) ?_
  exact hret _ _ _ _ _ _ hrun rfl hS dX11_into_18
theorem mdX11_takeDuchy : MD yX11_takeDuchy 0 := ⟨by decide +kernel, by decide +kernel, by decide +kernel⟩
set_option maxHeartbeats 4000000 in
set_option maxRecDepth 100000 in
theorem kX11_takeDuchy (l : Launch) (X : Cx) (t : St) (r : Int32) (t' : St) (hrun : fX11_takeDuchy t = some (r, t')) : Ci l X t yX11_takeDuchy cX11_takeDuchy 2 .int 2 48 [.ref (X.2.1 144)] r t' := by
  refine Ci_of (by decide) (Nat.le_of_ble_eq_true rfl) ?_
  intro p e s m args below meth c Q B hret hS ls hl
  have hx := B.1
  have hb := B.2.1
  have hown := B.2.2.2.1
  have hts := B.2.2.2.2.1
  have hl : lv_has ls 2 [(0, .ref (X.2.1 144))] := hl
  have hB54 : ∀ (t : St) (y0 : Int32) (H : Heap) (locs : List Loc) (ls : Array Slot), SS X t s.heap H locs → lv_has ls 2 [(0, .ref (X.2.1 144))] → fX11_takeDuchy_54 t y0 = some (r, t') → W p l e ({ frames := 2, cells := 0, slots := 0, locals := 48 } : Room) s m args below meth c H locs 0 0 Q (F0 m 54 ls [.int y0]) := by
    intro t y0 H locs ls hS hl hrun
    unfold fX11_takeDuchy_54 at hrun
    refine lv_istore_n (lv' := [(1, .int y0), (0, .ref (X.2.1 144))]) hx hb dX11_takeDuchy_54 rfl hl (by decide) rfl (fun ls hl => ?_)
    refine lv_aload_n hx hb dX11_takeDuchy_55 rfl (lv_at hl 1 rfl) ?_
    refine lv_aload_n hx hb dX11_takeDuchy_56 rfl (lv_at hl 1 rfl) ?_
    refine gX11_116 B hS dX11_takeDuchy_57 ?_
    refine pX11_128 B hS dX11_takeDuchy_60 (fun H locs hS => ?_)
    obtain ⟨t_1055, et, hrun⟩ := bsE hrun
    have hS : SS X t_1055 s.heap H locs := by rw [et]; exact hS
    clear et
    refine lv_iload_n hx hb dX11_takeDuchy_63 rfl (lv_at hl 0 rfl) ?_
    exact hret _ _ _ _ _ _ hrun rfl hS dX11_takeDuchy_64
  have hB30 : ∀ (t : St) (y0 : Int32) (H : Heap) (locs : List Loc) (ls : Array Slot), SS X t s.heap H locs → lv_has ls 2 [(0, .ref (X.2.1 144))] → fX11_takeDuchy_30 t y0 = some (r, t') → W p l e ({ frames := 2, cells := 0, slots := 0, locals := 48 } : Room) s m args below meth c H locs 0 0 Q (F0 m 30 ls [.int y0]) := by
    intro t y0 H locs ls hS hl hrun
    unfold fX11_takeDuchy_30 at hrun
    refine lv_istore_n (lv' := [(1, .int y0), (0, .ref (X.2.1 144))]) hx hb dX11_takeDuchy_30 rfl hl (by decide) rfl (fun ls hl => ?_)
    refine lv_aload_n hx hb dX11_takeDuchy_31 rfl (lv_at hl 1 rfl) ?_
    refine lv_aload_n hx hb dX11_takeDuchy_32 rfl (lv_at hl 1 rfl) ?_
    refine gX11_116 B hS dX11_takeDuchy_33 ?_
    refine pX11_125 B hS dX11_takeDuchy_36 (fun H locs hS => ?_)
    obtain ⟨t_1031, et, hrun⟩ := bsE hrun
    have hS : SS X t_1031 s.heap H locs := by rw [et]; exact hS
    clear et
    refine lv_iload_n hx hb dX11_takeDuchy_39 rfl (lv_at hl 0 rfl) ?_
    refine lv_if_le (tgt := 47) hx hb dX11_takeDuchy_40 (by decide) (fun hc => ?_) (fun hc => ?_)
    · have hrun := ip hc hrun
      refine lv_aload_n hx hb dX11_takeDuchy_47 rfl (lv_at hl 1 rfl) ?_
      refine lv_iconst (v := 1) hx hb dX11_takeDuchy_48 (by decide) ?_
      refine lv_bipush (v := 9) hx hb dX11_takeDuchy_49 (by decide) ?_
      obtain ⟨r_1033, t_1034, hc_1032, hrun⟩ := bd2E hrun
      refine qX11_119 B hS hc_1032 hl.1 (Nat.le_of_ble_eq_true rfl) ⟨Nat.le_of_ble_eq_true rfl, Nat.le_of_ble_eq_true rfl⟩ ⟨Nat.zero_le _, Nat.zero_le _⟩ dX11_takeDuchy_51 (fun H locs hS => ?_)
      exact hB54 t_1034 r_1033 _ _ _ hS (lv_sub hl [1] rfl) hrun
    · have hrun := iq hc hrun
      refine lv_iload_n hx hb dX11_takeDuchy_43 rfl (lv_at hl 0 rfl) ?_
      refine lv_goto (tgt := 54) hx hb dX11_takeDuchy_44 (by decide) ?_
      exact hB54 t_1031 y0 _ _ _ hS (lv_sub hl [1] rfl) hrun
  unfold fX11_takeDuchy at hrun
  refine lv_aload_n hx hb dX11_takeDuchy_0 rfl (lv_at hl 0 rfl) ?_
  refine lv_iconst (v := 1) hx hb dX11_takeDuchy_1 (by decide) ?_
  refine lv_bipush (v := 9) hx hb dX11_takeDuchy_2 (by decide) ?_
  obtain ⟨r_2, t_3, hc_1, hrun⟩ := bd2E hrun
  refine qX11_119 B hS hc_1 hl.1 (Nat.le_of_ble_eq_true rfl) ⟨Nat.le_of_ble_eq_true rfl, Nat.le_of_ble_eq_true rfl⟩ ⟨Nat.zero_le _, Nat.zero_le _⟩ dX11_takeDuchy_4 (fun H locs hS => ?_)
  refine lv_istore_n (lv' := [(1, .int r_2), (0, .ref (X.2.1 144))]) hx hb dX11_takeDuchy_7 rfl hl (by decide) rfl (fun ls hl => ?_)
  refine lv_aload_n hx hb dX11_takeDuchy_8 rfl (lv_at hl 1 rfl) ?_
  refine lv_aload_n hx hb dX11_takeDuchy_9 rfl (lv_at hl 1 rfl) ?_
  refine gX11_116 B hS dX11_takeDuchy_10 ?_
  refine pX11_122 B hS dX11_takeDuchy_13 (fun H locs hS => ?_)
  obtain ⟨t_4, et, hrun⟩ := bsE hrun
  have hS : SS X t_4 s.heap H locs := by rw [et]; exact hS
  clear et
  refine lv_iload_n hx hb dX11_takeDuchy_16 rfl (lv_at hl 0 rfl) ?_
  refine lv_if_le (tgt := 24) hx hb dX11_takeDuchy_17 (by decide) (fun hc => ?_) (fun hc => ?_)
  · have hrun := ip hc hrun
    refine lv_aload_n hx hb dX11_takeDuchy_24 rfl (lv_at hl 1 rfl) ?_
    refine lv_iconst (v := 1) hx hb dX11_takeDuchy_25 (by decide) ?_
    refine lv_iconst (v := 4) hx hb dX11_takeDuchy_26 (by decide) ?_
    obtain ⟨r_6, t_7, hc_5, hrun⟩ := bd2E hrun
    refine qX11_119 B hS hc_5 hl.1 (Nat.le_of_ble_eq_true rfl) ⟨Nat.le_of_ble_eq_true rfl, Nat.le_of_ble_eq_true rfl⟩ ⟨Nat.zero_le _, Nat.zero_le _⟩ dX11_takeDuchy_27 (fun H locs hS => ?_)
    exact hB30 t_7 r_6 _ _ _ hS (lv_sub hl [1] rfl) hrun
  · have hrun := iq hc hrun
    refine lv_iload_n hx hb dX11_takeDuchy_20 rfl (lv_at hl 0 rfl) ?_
    refine lv_goto (tgt := 30) hx hb dX11_takeDuchy_21 (by decide) ?_
    exact hB30 t_4 r_2 _ _ _ hS (lv_sub hl [1] rfl) hrun
theorem mdX11_takeSinger : MD yX11_takeSinger 0 := ⟨by decide +kernel, by decide +kernel, by decide +kernel⟩
section QX11_takeSinger
variable {p : Program} {l : Launch} {e : Env} {R : Room} {s : State} {m : MethodId} {args : Array Value} {below : List Frame} {meth : Method} {c : Code} {H : Heap} {locs : List Loc} {cells slots : Nat} {Q : State → Prop}
variable {cc : ByteArray} {pc : Nat} {ls : Array Slot} {rest : List Value} {X : Cx} {t : St} {H0 : Heap} {nL : Nat}
theorem qX11_134 (B : Bx p s m args c cc nL X RX11) (hS : SS X t H0 H locs) {h1 : Nat} {n1 : Nat} (e1 : isI X h1 n1) {x2 : Int32} {x3 : Int32} {x4 : Int32} {r : Int32} {t' : St} (hM : fX11_into h1 n1 t x2 x3 x4 = some (r, t')) (hsz : ls.size = nL) (hW : (rest.map fun v => v.category).sum ≤ 8) (hR : 2 + 1 ≤ R.frames ∧ 8 + (6 + 11) + 48 ≤ R.locals) (hR2 : cells ≤ R.cells ∧ slots ≤ R.slots) (hdg : decode cc pc = .ok (.invokevirtual 134, 3)) (kk : ∀ (H1 : Heap) (locs1 : List Loc), SS X t' H0 H1 locs1 → W p l e R s m args below meth c H1 locs1 cells slots Q (F0 m (pc + 3) ls (.int r :: rest))) : W p l e R s m args below meth c H locs cells slots Q (F0 m pc ls (.int x4 :: .int x3 :: .int x2 :: .ref (X.2.1 h1) :: .ref (X.2.1 144) :: rest)) :=
  xVi B hS (kX11_into l X t h1 n1 e1 x2 x3 x4 r t' hM) (tw_5 12 rfl rfl) (tw_5 14 rfl rfl) (tw_0 27 rfl rfl) (tw_1 12 rfl rfl) (tw_5 15 rfl rfl) mdX11_into (by decide) (ceX11 _) rfl rfl rfl hsz rfl hW hR hR2 hdg kk
end QX11_takeSinger
set_option maxHeartbeats 4000000 in
set_option maxRecDepth 100000 in
theorem kX11_takeSinger (l : Launch) (X : Cx) (t : St) (r : Int32) (t' : St) (hrun : fX11_takeSinger t = some (r, t')) : Ci l X t yX11_takeSinger cX11_takeSinger 3 .int 3 73 [.ref (X.2.1 144)] r t' := by
  refine Ci_of (by decide) (Nat.le_of_ble_eq_true rfl) ?_
  intro p e s m args below meth c Q B hret hS ls hl
  have hx := B.1
  have hb := B.2.1
  have hown := B.2.2.2.1
  have hts := B.2.2.2.2.1
  have hl : lv_has ls 3 [(0, .ref (X.2.1 144))] := hl
  have hB73 : ∀ (t : St) (x1 : Int32) (y0 : Int32) (H : Heap) (locs : List Loc) (ls : Array Slot), SS X t s.heap H locs → lv_has ls 3 [(0, .ref (X.2.1 144)), (1, .int x1)] → fX11_takeSinger_73 t x1 y0 = some (r, t') → W p l e ({ frames := 3, cells := 0, slots := 0, locals := 73 } : Room) s m args below meth c H locs 0 0 Q (F0 m 73 ls [.int y0]) := by
    intro t x1 y0 H locs ls hS hl hrun
    unfold fX11_takeSinger_73 at hrun
    refine lv_istore_n (lv' := [(2, .int y0), (0, .ref (X.2.1 144)), (1, .int x1)]) hx hb dX11_takeSinger_73 rfl hl (by decide) rfl (fun ls hl => ?_)
    refine lv_iload_n hx hb dX11_takeSinger_74 rfl (lv_at hl 0 rfl) ?_
    refine lv_if_le (tgt := 82) hx hb dX11_takeSinger_75 (by decide) (fun hc => ?_) (fun hc => ?_)
    · have hrun := ip hc hrun
      refine lv_aload_n hx hb dX11_takeSinger_82 rfl (lv_at hl 1 rfl) ?_
      refine lv_aload_n hx hb dX11_takeSinger_83 rfl (lv_at hl 1 rfl) ?_
      refine gX11_44 B hS dX11_takeSinger_84 ?_
      refine lv_iload_n hx hb dX11_takeSinger_87 rfl (lv_at hl 2 rfl) ?_
      refine lv_iconst (v := 0) hx hb dX11_takeSinger_88 (by decide) ?_
      refine lv_iconst (v := 1) hx hb dX11_takeSinger_89 (by decide) ?_
      refine lv_aload_n hx hb dX11_takeSinger_90 rfl (lv_at hl 1 rfl) ?_
      refine gX11_128 B hS dX11_takeSinger_91 ?_
      refine lv_ishl hx hb dX11_takeSinger_94 ?_
      refine lv_iconst (v := 1) hx hb dX11_takeSinger_95 (by decide) ?_
      refine lv_isub hx hb dX11_takeSinger_96 ?_
      obtain ⟨r_1075, t_1076, hc_1074, hrun⟩ := bd2E hrun
      refine qX11_134 B hS ia_155 hc_1074 hl.1 (Nat.le_of_ble_eq_true rfl) ⟨Nat.le_of_ble_eq_true rfl, Nat.le_of_ble_eq_true rfl⟩ ⟨Nat.zero_le _, Nat.zero_le _⟩ dX11_takeSinger_97 (fun H locs hS => ?_)
      exact hret _ _ _ _ _ _ hrun rfl hS dX11_takeSinger_100
    · have hrun := iq hc hrun
      refine lv_iload_n hx hb dX11_takeSinger_78 rfl (lv_at hl 0 rfl) ?_
      refine lv_goto (tgt := 100) hx hb dX11_takeSinger_79 (by decide) ?_
      exact hret _ _ _ _ _ _ hrun rfl hS dX11_takeSinger_100
  have hB51 : ∀ (t : St) (x1 : Int32) (y0 : Int32) (H : Heap) (locs : List Loc) (ls : Array Slot), SS X t s.heap H locs → lv_has ls 3 [(0, .ref (X.2.1 144)), (1, .int x1)] → fX11_takeSinger_51 t x1 y0 = some (r, t') → W p l e ({ frames := 3, cells := 0, slots := 0, locals := 73 } : Room) s m args below meth c H locs 0 0 Q (F0 m 51 ls [.int y0]) := by
    intro t x1 y0 H locs ls hS hl hrun
    unfold fX11_takeSinger_51 at hrun
    refine lv_istore_n (lv' := [(2, .int y0), (0, .ref (X.2.1 144)), (1, .int x1)]) hx hb dX11_takeSinger_51 rfl hl (by decide) rfl (fun ls hl => ?_)
    refine lv_iload_n hx hb dX11_takeSinger_52 rfl (lv_at hl 0 rfl) ?_
    refine lv_if_le (tgt := 60) hx hb dX11_takeSinger_53 (by decide) (fun hc => ?_) (fun hc => ?_)
    · have hrun := ip hc hrun
      refine lv_aload_n hx hb dX11_takeSinger_60 rfl (lv_at hl 1 rfl) ?_
      refine lv_aload_n hx hb dX11_takeSinger_61 rfl (lv_at hl 1 rfl) ?_
      refine gX11_41 B hS dX11_takeSinger_62 ?_
      refine lv_iload_n hx hb dX11_takeSinger_65 rfl (lv_at hl 2 rfl) ?_
      refine lv_iconst (v := 0) hx hb dX11_takeSinger_66 (by decide) ?_
      refine lv_sipush (v := 999) hx hb dX11_takeSinger_67 (by decide) ?_
      obtain ⟨r_1053, t_1054, hc_1052, hrun⟩ := bd2E hrun
      refine qX11_134 B hS ia_154 hc_1052 hl.1 (Nat.le_of_ble_eq_true rfl) ⟨Nat.le_of_ble_eq_true rfl, Nat.le_of_ble_eq_true rfl⟩ ⟨Nat.zero_le _, Nat.zero_le _⟩ dX11_takeSinger_70 (fun H locs hS => ?_)
      exact hB73 t_1054 x1 r_1053 _ _ _ hS (lv_sub hl [1, 2] rfl) hrun
    · have hrun := iq hc hrun
      refine lv_iload_n hx hb dX11_takeSinger_56 rfl (lv_at hl 0 rfl) ?_
      refine lv_goto (tgt := 73) hx hb dX11_takeSinger_57 (by decide) ?_
      exact hB73 t x1 y0 _ _ _ hS (lv_sub hl [1, 2] rfl) hrun
  unfold fX11_takeSinger at hrun
  refine lv_aload_n hx hb dX11_takeSinger_0 rfl (lv_at hl 0 rfl) ?_
  refine gX11_131 B hS dX11_takeSinger_1 ?_
  refine lv_topi (fun x1_1 ex => ?_)
  obtain ⟨z, ez, hrun⟩ := bsE hrun
  obtain rfl : x1_1 = z := ex.trans ez.symm
  clear ex ez
  refine lv_istore_n (lv' := [(1, .int x1_1), (0, .ref (X.2.1 144))]) hx hb dX11_takeSinger_4 rfl hl (by decide) rfl (fun ls hl => ?_)
  refine lv_aload_n hx hb dX11_takeSinger_5 rfl (lv_at hl 1 rfl) ?_
  refine lv_dup hx hb dX11_takeSinger_6 rfl ?_
  refine gX11_131 B hS dX11_takeSinger_7 ?_
  refine lv_iconst (v := 1) hx hb dX11_takeSinger_10 (by decide) ?_
  refine lv_iadd hx hb dX11_takeSinger_11 ?_
  refine pX11_131 B hS dX11_takeSinger_12 (fun H locs hS => ?_)
  obtain ⟨t_2, et, hrun⟩ := bsE hrun
  have hS : SS X t_2 s.heap H locs := by rw [et]; exact hS
  clear et
  refine lv_aload_n hx hb dX11_takeSinger_15 rfl (lv_at hl 1 rfl) ?_
  refine lv_aload_n hx hb dX11_takeSinger_16 rfl (lv_at hl 1 rfl) ?_
  refine gX11_35 B hS dX11_takeSinger_17 ?_
  refine lv_iload_n hx hb dX11_takeSinger_20 rfl (lv_at hl 0 rfl) ?_
  refine lv_iconst (v := 0) hx hb dX11_takeSinger_21 (by decide) ?_
  refine lv_iconst (v := 3) hx hb dX11_takeSinger_22 (by decide) ?_
  obtain ⟨r_4, t_5, hc_3, hrun⟩ := bd2E hrun
  refine qX11_134 B hS ia_152 hc_3 hl.1 (Nat.le_of_ble_eq_true rfl) ⟨Nat.le_of_ble_eq_true rfl, Nat.le_of_ble_eq_true rfl⟩ ⟨Nat.zero_le _, Nat.zero_le _⟩ dX11_takeSinger_23 (fun H locs hS => ?_)
  refine lv_istore_n (lv' := [(2, .int r_4), (1, .int x1_1), (0, .ref (X.2.1 144))]) hx hb dX11_takeSinger_26 rfl hl (by decide) rfl (fun ls hl => ?_)
  refine lv_iload_n hx hb dX11_takeSinger_27 rfl (lv_at hl 0 rfl) ?_
  refine lv_if_le (tgt := 35) hx hb dX11_takeSinger_28 (by decide) (fun hc => ?_) (fun hc => ?_)
  · have hrun := ip hc hrun
    refine lv_aload_n hx hb dX11_takeSinger_35 rfl (lv_at hl 2 rfl) ?_
    refine lv_aload_n hx hb dX11_takeSinger_36 rfl (lv_at hl 2 rfl) ?_
    refine gX11_38 B hS dX11_takeSinger_37 ?_
    refine lv_iload_n hx hb dX11_takeSinger_40 rfl (lv_at hl 1 rfl) ?_
    refine lv_iconst (v := 0) hx hb dX11_takeSinger_41 (by decide) ?_
    refine lv_aload_n hx hb dX11_takeSinger_42 rfl (lv_at hl 2 rfl) ?_
    refine gX11_125 B hS dX11_takeSinger_43 ?_
    refine lv_iconst (v := 1) hx hb dX11_takeSinger_46 (by decide) ?_
    refine lv_isub hx hb dX11_takeSinger_47 ?_
    obtain ⟨r_7, t_8, hc_6, hrun⟩ := bd2E hrun
    refine qX11_134 B hS ia_153 hc_6 hl.1 (Nat.le_of_ble_eq_true rfl) ⟨Nat.le_of_ble_eq_true rfl, Nat.le_of_ble_eq_true rfl⟩ ⟨Nat.zero_le _, Nat.zero_le _⟩ dX11_takeSinger_48 (fun H locs hS => ?_)
    exact hB51 t_8 x1_1 r_7 _ _ _ hS (lv_sub hl [2, 1] rfl) hrun
  · have hrun := iq hc hrun
    refine lv_iload_n hx hb dX11_takeSinger_31 rfl (lv_at hl 0 rfl) ?_
    refine lv_goto (tgt := 51) hx hb dX11_takeSinger_32 (by decide) ?_
    exact hB51 t_5 x1_1 r_4 _ _ _ hS (lv_sub hl [2, 1] rfl) hrun
theorem mdX11_takeInspector : MD yX11_takeInspector 0 := ⟨by decide +kernel, by decide +kernel, by decide +kernel⟩
set_option maxHeartbeats 4000000 in
set_option maxRecDepth 100000 in
theorem kX11_takeInspector (l : Launch) (X : Cx) (t : St) (r : Int32) (t' : St) (hrun : fX11_takeInspector t = some (r, t')) : Ci l X t yX11_takeInspector cX11_takeInspector 1 .int 3 73 [.ref (X.2.1 144)] r t' := by
  refine Ci_of (by decide) (Nat.le_of_ble_eq_true rfl) ?_
  intro p e s m args below meth c Q B hret hS ls hl
  have hx := B.1
  have hb := B.2.1
  have hown := B.2.2.2.1
  have hts := B.2.2.2.2.1
  have hl : lv_has ls 1 [(0, .ref (X.2.1 144))] := hl
  unfold fX11_takeInspector at hrun
  refine lv_aload_n hx hb dX11_takeInspector_0 rfl (lv_at hl 0 rfl) ?_
  refine lv_dup hx hb dX11_takeInspector_1 rfl ?_
  refine gX11_138 B hS dX11_takeInspector_2 ?_
  refine lv_iconst (v := 1) hx hb dX11_takeInspector_5 (by decide) ?_
  refine lv_iadd hx hb dX11_takeInspector_6 ?_
  refine pX11_138 B hS dX11_takeInspector_7 (fun H locs hS => ?_)
  obtain ⟨t_1, et, hrun⟩ := bsE hrun
  have hS : SS X t_1 s.heap H locs := by rw [et]; exact hS
  clear et
  refine lv_aload_n hx hb dX11_takeInspector_10 rfl (lv_at hl 0 rfl) ?_
  refine lv_aload_n hx hb dX11_takeInspector_11 rfl (lv_at hl 0 rfl) ?_
  refine gX11_47 B hS dX11_takeInspector_12 ?_
  refine lv_aload_n hx hb dX11_takeInspector_15 rfl (lv_at hl 0 rfl) ?_
  refine gX11_138 B hS dX11_takeInspector_16 ?_
  refine lv_iconst (v := 1) hx hb dX11_takeInspector_19 (by decide) ?_
  refine lv_isub hx hb dX11_takeInspector_20 ?_
  refine lv_iconst (v := 0) hx hb dX11_takeInspector_21 (by decide) ?_
  refine lv_aload_n hx hb dX11_takeInspector_22 rfl (lv_at hl 0 rfl) ?_
  refine gX11_125 B hS dX11_takeInspector_23 ?_
  refine lv_iconst (v := 1) hx hb dX11_takeInspector_26 (by decide) ?_
  refine lv_isub hx hb dX11_takeInspector_27 ?_
  obtain ⟨r_3, t_4, hc_2, hrun⟩ := bd2E hrun
  refine qX11_134 B hS ia_156 hc_2 hl.1 (Nat.le_of_ble_eq_true rfl) ⟨Nat.le_of_ble_eq_true rfl, Nat.le_of_ble_eq_true rfl⟩ ⟨Nat.zero_le _, Nat.zero_le _⟩ dX11_takeInspector_28 (fun H locs hS => ?_)
  exact hret _ _ _ _ _ _ hrun rfl hS dX11_takeInspector_31
theorem mdX11_takeClause : MD yX11_takeClause 0 := ⟨by decide +kernel, by decide +kernel, by decide +kernel⟩
section QX11_takeClause
variable {p : Program} {l : Launch} {e : Env} {R : Room} {s : State} {m : MethodId} {args : Array Value} {below : List Frame} {meth : Method} {c : Code} {H : Heap} {locs : List Loc} {cells slots : Nat} {Q : State → Prop}
variable {cc : ByteArray} {pc : Nat} {ls : Array Slot} {rest : List Value} {X : Cx} {t : St} {H0 : Heap} {nL : Nat}
theorem qX11_141 (B : Bx p s m args c cc nL X RX11) (hS : SS X t H0 H locs) {r : Int32} {t' : St} (hM : fX11_takeDuchy t = some (r, t')) (hsz : ls.size = nL) (hW : (rest.map fun v => v.category).sum ≤ 8) (hR : 2 + 1 ≤ R.frames ∧ 8 + (2 + 11) + 48 ≤ R.locals) (hR2 : cells ≤ R.cells ∧ slots ≤ R.slots) (hdg : decode cc pc = .ok (.invokevirtual 141, 3)) (kk : ∀ (H1 : Heap) (locs1 : List Loc), SS X t' H0 H1 locs1 → W p l e R s m args below meth c H1 locs1 cells slots Q (F0 m (pc + 3) ls (.int r :: rest))) : W p l e R s m args below meth c H locs cells slots Q (F0 m pc ls (.ref (X.2.1 144) :: rest)) :=
  xVi B hS (kX11_takeDuchy l X t r t' hM) (tw_4 238 rfl rfl) (tw_5 0 rfl rfl) (tw_0 24 rfl rfl) (tw_1 12 rfl rfl) (tw_5 1 rfl rfl) mdX11_takeDuchy (by decide) (ceX11 _) rfl rfl rfl hsz rfl hW hR hR2 hdg kk
theorem qX11_144 (B : Bx p s m args c cc nL X RX11) (hS : SS X t H0 H locs) {r : Int32} {t' : St} (hM : fX11_takeSinger t = some (r, t')) (hsz : ls.size = nL) (hW : (rest.map fun v => v.category).sum ≤ 8) (hR : 3 + 1 ≤ R.frames ∧ 8 + (3 + 11) + 73 ≤ R.locals) (hR2 : cells ≤ R.cells ∧ slots ≤ R.slots) (hdg : decode cc pc = .ok (.invokevirtual 144, 3)) (kk : ∀ (H1 : Heap) (locs1 : List Loc), SS X t' H0 H1 locs1 → W p l e R s m args below meth c H1 locs1 cells slots Q (F0 m (pc + 3) ls (.int r :: rest))) : W p l e R s m args below meth c H locs cells slots Q (F0 m pc ls (.ref (X.2.1 144) :: rest)) :=
  xVi B hS (kX11_takeSinger l X t r t' hM) (tw_5 8 rfl rfl) (tw_5 10 rfl rfl) (tw_0 26 rfl rfl) (tw_1 12 rfl rfl) (tw_5 11 rfl rfl) mdX11_takeSinger (by decide) (ceX11 _) rfl rfl rfl hsz rfl hW hR hR2 hdg kk
theorem qX11_147 (B : Bx p s m args c cc nL X RX11) (hS : SS X t H0 H locs) {r : Int32} {t' : St} (hM : fX11_takeInspector t = some (r, t')) (hsz : ls.size = nL) (hW : (rest.map fun v => v.category).sum ≤ 8) (hR : 3 + 1 ≤ R.frames ∧ 8 + (1 + 11) + 73 ≤ R.locals) (hR2 : cells ≤ R.cells ∧ slots ≤ R.slots) (hdg : decode cc pc = .ok (.invokevirtual 147, 3)) (kk : ∀ (H1 : Heap) (locs1 : List Loc), SS X t' H0 H1 locs1 → W p l e R s m args below meth c H1 locs1 cells slots Q (F0 m (pc + 3) ls (.int r :: rest))) : W p l e R s m args below meth c H locs cells slots Q (F0 m pc ls (.ref (X.2.1 144) :: rest)) :=
  xVi B hS (kX11_takeInspector l X t r t' hM) (tw_5 16 rfl rfl) (tw_5 18 rfl rfl) (tw_0 28 rfl rfl) (tw_1 12 rfl rfl) (tw_5 19 rfl rfl) mdX11_takeInspector (by decide) (ceX11 _) rfl rfl rfl hsz rfl hW hR hR2 hdg kk
end QX11_takeClause
set_option maxHeartbeats 4000000 in
set_option maxRecDepth 100000 in
theorem kX11_takeClause (l : Launch) (X : Cx) (t : St) (r : Int32) (t' : St) (hrun : fX11_takeClause t = some (r, t')) : Ci l X t yX11_takeClause cX11_takeClause 5 .int 4 95 [.ref (X.2.1 144)] r t' := by
  refine Ci_of (by decide) (Nat.le_of_ble_eq_true rfl) ?_
  intro p e s m args below meth c Q B hret hS ls hl
  have hx := B.1
  have hb := B.2.1
  have hown := B.2.2.2.1
  have hts := B.2.2.2.2.1
  have hl : lv_has ls 5 [(0, .ref (X.2.1 144))] := hl
  have hB194 : ∀ (t : St) (x4 : Int32) (H : Heap) (locs : List Loc) (ls : Array Slot), SS X t s.heap H locs → lv_has ls 5 [(0, .ref (X.2.1 144)), (4, .int x4)] → fX11_takeClause_194 t x4 = some (r, t') → W p l e ({ frames := 4, cells := 0, slots := 0, locals := 95 } : Room) s m args below meth c H locs 0 0 Q (F0 m 194 ls []) := by
    intro t x4 H locs ls hS hl hrun
    unfold fX11_takeClause_194 at hrun
    refine lv_aload_n hx hb dX11_takeClause_194 rfl (lv_at hl 0 rfl) ?_
    refine lv_dup hx hb dX11_takeClause_195 rfl ?_
    refine gX11_98 B hS dX11_takeClause_196 ?_
    refine lv_iconst (v := 1) hx hb dX11_takeClause_199 (by decide) ?_
    refine lv_iadd hx hb dX11_takeClause_200 ?_
    refine pX11_98 B hS dX11_takeClause_201 (fun H locs hS => ?_)
    obtain ⟨t_1195, et, hrun⟩ := bsE hrun
    have hS : SS X t_1195 s.heap H locs := by rw [et]; exact hS
    clear et
    refine lv_iload hx hb dX11_takeClause_204 (lv_at hl 1 rfl) ?_
    exact hret _ _ _ _ _ _ hrun rfl hS dX11_takeClause_206
  have hB168 : ∀ (t : St) (y0 : Int32) (H : Heap) (locs : List Loc) (ls : Array Slot), SS X t s.heap H locs → lv_has ls 5 [(0, .ref (X.2.1 144))] → fX11_takeClause_168 t y0 = some (r, t') → W p l e ({ frames := 4, cells := 0, slots := 0, locals := 95 } : Room) s m args below meth c H locs 0 0 Q (F0 m 168 ls [.int y0]) := by
    intro t y0 H locs ls hS hl hrun
    unfold fX11_takeClause_168 at hrun
    refine lv_istore (lv' := [(4, .int y0), (0, .ref (X.2.1 144))]) hx hb dX11_takeClause_168 hl (by decide) rfl (fun ls hl => ?_)
    refine lv_iload hx hb dX11_takeClause_170 (lv_at hl 0 rfl) ?_
    refine lv_if_ne (tgt := 194) hx hb dX11_takeClause_172 (by decide) (fun hc => ?_) (fun hc => ?_)
    · have hrun := iq hc hrun
      exact hB194 t y0 _ _ _ hS (lv_sub hl [1, 0] rfl) hrun
    · have hrun := ip hc hrun
      refine lv_aload_n hx hb dX11_takeClause_175 rfl (lv_at hl 1 rfl) ?_
      obtain ⟨r_1170, t_1171, hc_1169, hrun⟩ := bd2E hrun
      refine qX11_101 B hS hc_1169 hl.1 (Nat.le_of_ble_eq_true rfl) ⟨Nat.le_of_ble_eq_true rfl, Nat.le_of_ble_eq_true rfl⟩ ⟨Nat.zero_le _, Nat.zero_le _⟩ dX11_takeClause_176 (fun H locs hS => ?_)
      refine lv_bipush (v := 59) hx hb dX11_takeClause_179 (by decide) ?_
      refine lv_icmp_eq (tgt := 194) hx hb dX11_takeClause_181 (by decide) (fun hc => ?_) (fun hc => ?_)
      · have hrun := ip hc hrun
        exact hB194 t_1171 y0 _ _ _ hS (lv_sub hl [1, 0] rfl) hrun
      · have hrun := iq hc hrun
        refine lv_aload_n hx hb dX11_takeClause_184 rfl (lv_at hl 1 rfl) ?_
        refine lv_iconst (v := 1) hx hb dX11_takeClause_185 (by decide) ?_
        refine lv_aload_n hx hb dX11_takeClause_186 rfl (lv_at hl 1 rfl) ?_
        refine gX11_98 B hS dX11_takeClause_187 ?_
        obtain ⟨r_1173, t_1174, hc_1172, hrun⟩ := bd2E hrun
        refine qX11_109 B hS hc_1172 hl.1 (Nat.le_of_ble_eq_true rfl) ⟨Nat.le_of_ble_eq_true rfl, Nat.le_of_ble_eq_true rfl⟩ ⟨Nat.zero_le _, Nat.zero_le _⟩ dX11_takeClause_190 (fun H locs hS => ?_)
        exact hret _ _ _ _ _ _ hrun rfl hS dX11_takeClause_193
  have hB116 : ∀ (t : St) (x2 : Int32) (y0 : Int32) (H : Heap) (locs : List Loc) (ls : Array Slot), SS X t s.heap H locs → lv_has ls 5 [(0, .ref (X.2.1 144)), (2, .int x2)] → fX11_takeClause_116 t x2 y0 = some (r, t') → W p l e ({ frames := 4, cells := 0, slots := 0, locals := 95 } : Room) s m args below meth c H locs 0 0 Q (F0 m 116 ls [.int y0]) := by
    intro t x2 y0 H locs ls hS hl hrun
    unfold fX11_takeClause_116 at hrun
    refine lv_istore_n (lv' := [(3, .int y0), (0, .ref (X.2.1 144)), (2, .int x2)]) hx hb dX11_takeClause_116 rfl hl (by decide) rfl (fun ls hl => ?_)
    refine lv_iload_n hx hb dX11_takeClause_117 rfl (lv_at hl 0 rfl) ?_
    refine lv_if_eq (tgt := 131) hx hb dX11_takeClause_118 (by decide) (fun hc => ?_) (fun hc => ?_)
    · have hrun := ip hc hrun
      refine lv_aload_n hx hb dX11_takeClause_131 rfl (lv_at hl 1 rfl) ?_
      refine lv_dup hx hb dX11_takeClause_132 rfl ?_
      refine gX11_98 B hS dX11_takeClause_133 ?_
      refine lv_iconst (v := 1) hx hb dX11_takeClause_136 (by decide) ?_
      refine lv_iadd hx hb dX11_takeClause_137 ?_
      refine pX11_98 B hS dX11_takeClause_138 (fun H locs hS => ?_)
      obtain ⟨t_1117, et, hrun⟩ := bsE hrun
      have hS : SS X t_1117 s.heap H locs := by rw [et]; exact hS
      clear et
      refine lv_iload_n hx hb dX11_takeClause_141 rfl (lv_at hl 2 rfl) ?_
      refine lv_if_ne (tgt := 152) hx hb dX11_takeClause_142 (by decide) (fun hc => ?_) (fun hc => ?_)
      · have hrun := iq hc hrun
        refine lv_iload_n hx hb dX11_takeClause_152 rfl (lv_at hl 2 rfl) ?_
        refine lv_iconst (v := 1) hx hb dX11_takeClause_153 (by decide) ?_
        refine lv_icmp_ne (tgt := 164) hx hb dX11_takeClause_154 (by decide) (fun hc => ?_) (fun hc => ?_)
        · have hrun := iq hc hrun
          refine lv_aload_n hx hb dX11_takeClause_164 rfl (lv_at hl 1 rfl) ?_
          obtain ⟨r_1119, t_1120, hc_1118, hrun⟩ := bd2E hrun
          refine qX11_147 B hS hc_1118 hl.1 (Nat.le_of_ble_eq_true rfl) ⟨Nat.le_of_ble_eq_true rfl, Nat.le_of_ble_eq_true rfl⟩ ⟨Nat.zero_le _, Nat.zero_le _⟩ dX11_takeClause_165 (fun H locs hS => ?_)
          exact hB168 t_1120 r_1119 _ _ _ hS (lv_sub hl [1] rfl) hrun
        · have hrun := ip hc hrun
          refine lv_aload_n hx hb dX11_takeClause_157 rfl (lv_at hl 1 rfl) ?_
          obtain ⟨r_1122, t_1123, hc_1121, hrun⟩ := bd2E hrun
          refine qX11_144 B hS hc_1121 hl.1 (Nat.le_of_ble_eq_true rfl) ⟨Nat.le_of_ble_eq_true rfl, Nat.le_of_ble_eq_true rfl⟩ ⟨Nat.zero_le _, Nat.zero_le _⟩ dX11_takeClause_158 (fun H locs hS => ?_)
          refine lv_goto (tgt := 168) hx hb dX11_takeClause_161 (by decide) ?_
          exact hB168 t_1123 r_1122 _ _ _ hS (lv_sub hl [1] rfl) hrun
      · have hrun := ip hc hrun
        refine lv_aload_n hx hb dX11_takeClause_145 rfl (lv_at hl 1 rfl) ?_
        obtain ⟨r_1125, t_1126, hc_1124, hrun⟩ := bd2E hrun
        refine qX11_141 B hS hc_1124 hl.1 (Nat.le_of_ble_eq_true rfl) ⟨Nat.le_of_ble_eq_true rfl, Nat.le_of_ble_eq_true rfl⟩ ⟨Nat.zero_le _, Nat.zero_le _⟩ dX11_takeClause_146 (fun H locs hS => ?_)
        refine lv_goto (tgt := 168) hx hb dX11_takeClause_149 (by decide) ?_
        exact hB168 t_1126 r_1125 _ _ _ hS (lv_sub hl [1] rfl) hrun
    · have hrun := iq hc hrun
      refine lv_aload_n hx hb dX11_takeClause_121 rfl (lv_at hl 1 rfl) ?_
      refine lv_iconst (v := 3) hx hb dX11_takeClause_122 (by decide) ?_
      refine lv_aload_n hx hb dX11_takeClause_123 rfl (lv_at hl 1 rfl) ?_
      refine gX11_98 B hS dX11_takeClause_124 ?_
      obtain ⟨r_1128, t_1129, hc_1127, hrun⟩ := bd2E hrun
      refine qX11_109 B hS hc_1127 hl.1 (Nat.le_of_ble_eq_true rfl) ⟨Nat.le_of_ble_eq_true rfl, Nat.le_of_ble_eq_true rfl⟩ ⟨Nat.zero_le _, Nat.zero_le _⟩ dX11_takeClause_127 (fun H locs hS => ?_)
      exact hret _ _ _ _ _ _ hrun rfl hS dX11_takeClause_130
  have hB62 : ∀ (t : St) (x2 : Int32) (H : Heap) (locs : List Loc) (ls : Array Slot), SS X t s.heap H locs → lv_has ls 5 [(0, .ref (X.2.1 144)), (2, .int x2)] → fX11_takeClause_62 t x2 = some (r, t') → W p l e ({ frames := 4, cells := 0, slots := 0, locals := 95 } : Room) s m args below meth c H locs 0 0 Q (F0 m 62 ls []) := by
    intro t x2 H locs ls hS hl hrun
    unfold fX11_takeClause_62 at hrun
    refine lv_iload_n hx hb dX11_takeClause_62 rfl (lv_at hl 1 rfl) ?_
    refine lv_if_ne (tgt := 81) hx hb dX11_takeClause_63 (by decide) (fun hc => ?_) (fun hc => ?_)
    · have hrun := iq hc hrun
      refine lv_iload_n hx hb dX11_takeClause_81 rfl (lv_at hl 1 rfl) ?_
      refine lv_iconst (v := 1) hx hb dX11_takeClause_82 (by decide) ?_
      refine lv_icmp_ne (tgt := 103) hx hb dX11_takeClause_83 (by decide) (fun hc => ?_) (fun hc => ?_)
      · have hrun := iq hc hrun
        refine lv_aload_n hx hb dX11_takeClause_103 rfl (lv_at hl 0 rfl) ?_
        refine gX11_138 B hS dX11_takeClause_104 ?_
        refine lv_iconst (v := 4) hx hb dX11_takeClause_107 (by decide) ?_
        refine lv_icmp_ne (tgt := 115) hx hb dX11_takeClause_108 (by decide) (fun hc => ?_) (fun hc => ?_)
        · have hrun := iq hc hrun
          refine lv_iconst (v := 0) hx hb dX11_takeClause_115 (by decide) ?_
          exact hB116 t x2 (0 : Int32) _ _ _ hS (lv_sub hl [0, 1] rfl) hrun
        · have hrun := ip hc hrun
          refine lv_iconst (v := 1) hx hb dX11_takeClause_111 (by decide) ?_
          refine lv_goto (tgt := 116) hx hb dX11_takeClause_112 (by decide) ?_
          exact hB116 t x2 (1 : Int32) _ _ _ hS (lv_sub hl [0, 1] rfl) hrun
      · have hrun := ip hc hrun
        refine lv_aload_n hx hb dX11_takeClause_86 rfl (lv_at hl 0 rfl) ?_
        refine gX11_131 B hS dX11_takeClause_87 ?_
        refine lv_bipush (v := 7) hx hb dX11_takeClause_90 (by decide) ?_
        refine lv_icmp_ne (tgt := 99) hx hb dX11_takeClause_92 (by decide) (fun hc => ?_) (fun hc => ?_)
        · have hrun := iq hc hrun
          refine lv_iconst (v := 0) hx hb dX11_takeClause_99 (by decide) ?_
          refine lv_goto (tgt := 116) hx hb dX11_takeClause_100 (by decide) ?_
          exact hB116 t x2 (0 : Int32) _ _ _ hS (lv_sub hl [0, 1] rfl) hrun
        · have hrun := ip hc hrun
          refine lv_iconst (v := 1) hx hb dX11_takeClause_95 (by decide) ?_
          refine lv_goto (tgt := 116) hx hb dX11_takeClause_96 (by decide) ?_
          exact hB116 t x2 (1 : Int32) _ _ _ hS (lv_sub hl [0, 1] rfl) hrun
    · have hrun := ip hc hrun
      refine lv_aload_n hx hb dX11_takeClause_66 rfl (lv_at hl 0 rfl) ?_
      refine gX11_122 B hS dX11_takeClause_67 ?_
      refine lv_if_le (tgt := 77) hx hb dX11_takeClause_70 (by decide) (fun hc => ?_) (fun hc => ?_)
      · have hrun := ip hc hrun
        refine lv_iconst (v := 0) hx hb dX11_takeClause_77 (by decide) ?_
        refine lv_goto (tgt := 116) hx hb dX11_takeClause_78 (by decide) ?_
        exact hB116 t x2 (0 : Int32) _ _ _ hS (lv_sub hl [0, 1] rfl) hrun
      · have hrun := iq hc hrun
        refine lv_iconst (v := 1) hx hb dX11_takeClause_73 (by decide) ?_
        refine lv_goto (tgt := 116) hx hb dX11_takeClause_74 (by decide) ?_
        exact hB116 t x2 (1 : Int32) _ _ _ hS (lv_sub hl [0, 1] rfl) hrun
  have hB52 : ∀ (t : St) (H : Heap) (locs : List Loc) (ls : Array Slot), SS X t s.heap H locs → lv_has ls 5 [(0, .ref (X.2.1 144))] → fX11_takeClause_52 t = some (r, t') → W p l e ({ frames := 4, cells := 0, slots := 0, locals := 95 } : Room) s m args below meth c H locs 0 0 Q (F0 m 52 ls []) := by
    intro t H locs ls hS hl hrun
    unfold fX11_takeClause_52 at hrun
    refine lv_aload_n hx hb dX11_takeClause_52 rfl (lv_at hl 0 rfl) ?_
    refine lv_iconst (v := 1) hx hb dX11_takeClause_53 (by decide) ?_
    refine lv_aload_n hx hb dX11_takeClause_54 rfl (lv_at hl 0 rfl) ?_
    refine gX11_98 B hS dX11_takeClause_55 ?_
    obtain ⟨r_1054, t_1055, hc_1053, hrun⟩ := bd2E hrun
    refine qX11_109 B hS hc_1053 hl.1 (Nat.le_of_ble_eq_true rfl) ⟨Nat.le_of_ble_eq_true rfl, Nat.le_of_ble_eq_true rfl⟩ ⟨Nat.zero_le _, Nat.zero_le _⟩ dX11_takeClause_58 (fun H locs hS => ?_)
    exact hret _ _ _ _ _ _ hrun rfl hS dX11_takeClause_61
  have hB36 : ∀ (t : St) (y0 : Int32) (H : Heap) (locs : List Loc) (ls : Array Slot), SS X t s.heap H locs → lv_has ls 5 [(0, .ref (X.2.1 144))] → fX11_takeClause_36 t y0 = some (r, t') → W p l e ({ frames := 4, cells := 0, slots := 0, locals := 95 } : Room) s m args below meth c H locs 0 0 Q (F0 m 36 ls [.int y0]) := by
    intro t y0 H locs ls hS hl hrun
    unfold fX11_takeClause_36 at hrun
    refine lv_istore_n (lv' := [(2, .int y0), (0, .ref (X.2.1 144))]) hx hb dX11_takeClause_36 rfl hl (by decide) rfl (fun ls hl => ?_)
    refine lv_iload_n hx hb dX11_takeClause_37 rfl (lv_at hl 0 rfl) ?_
    refine lv_if_lt (tgt := 52) hx hb dX11_takeClause_38 (by decide) (fun hc => ?_) (fun hc => ?_)
    · have hrun := ip hc hrun
      exact hB52 t _ _ _ hS (lv_sub hl [1] rfl) hrun
    · have hrun := iq hc hrun
      refine lv_iload_n hx hb dX11_takeClause_41 rfl (lv_at hl 0 rfl) ?_
      refine lv_if_le (tgt := 62) hx hb dX11_takeClause_42 (by decide) (fun hc => ?_) (fun hc => ?_)
      · have hrun := ip hc hrun
        exact hB62 t y0 _ _ _ hS (lv_sub hl [1, 0] rfl) hrun
      · have hrun := iq hc hrun
        refine lv_aload_n hx hb dX11_takeClause_45 rfl (lv_at hl 1 rfl) ?_
        refine gX11_122 B hS dX11_takeClause_46 ?_
        refine lv_if_ne (tgt := 62) hx hb dX11_takeClause_49 (by decide) (fun hc => ?_) (fun hc => ?_)
        · have hrun := iq hc hrun
          exact hB62 t y0 _ _ _ hS (lv_sub hl [1, 0] rfl) hrun
        · have hrun := ip hc hrun
          exact hB52 t _ _ _ hS (lv_sub hl [1] rfl) hrun
  unfold fX11_takeClause at hrun
  refine lv_aload_n hx hb dX11_takeClause_0 rfl (lv_at hl 0 rfl) ?_
  obtain ⟨r_2, t_3, hc_1, hrun⟩ := bd2E hrun
  refine qX11_101 B hS hc_1 hl.1 (Nat.le_of_ble_eq_true rfl) ⟨Nat.le_of_ble_eq_true rfl, Nat.le_of_ble_eq_true rfl⟩ ⟨Nat.zero_le _, Nat.zero_le _⟩ dX11_takeClause_1 (fun H locs hS => ?_)
  refine lv_istore_n (lv' := [(1, .int r_2), (0, .ref (X.2.1 144))]) hx hb dX11_takeClause_4 rfl hl (by decide) rfl (fun ls hl => ?_)
  refine lv_iload_n hx hb dX11_takeClause_5 rfl (lv_at hl 0 rfl) ?_
  refine lv_bipush (v := 100) hx hb dX11_takeClause_6 (by decide) ?_
  refine lv_icmp_ne (tgt := 15) hx hb dX11_takeClause_8 (by decide) (fun hc => ?_) (fun hc => ?_)
  · have hrun := iq hc hrun
    refine lv_iload_n hx hb dX11_takeClause_15 rfl (lv_at hl 0 rfl) ?_
    refine lv_bipush (v := 115) hx hb dX11_takeClause_16 (by decide) ?_
    refine lv_icmp_ne (tgt := 25) hx hb dX11_takeClause_18 (by decide) (fun hc => ?_) (fun hc => ?_)
    · have hrun := iq hc hrun
      refine lv_iload_n hx hb dX11_takeClause_25 rfl (lv_at hl 0 rfl) ?_
      refine lv_bipush (v := 105) hx hb dX11_takeClause_26 (by decide) ?_
      refine lv_icmp_ne (tgt := 35) hx hb dX11_takeClause_28 (by decide) (fun hc => ?_) (fun hc => ?_)
      · have hrun := iq hc hrun
        refine lv_iconst (v := -1) hx hb dX11_takeClause_35 (by decide) ?_
        exact hB36 t_3 (-1 : Int32) _ _ _ hS (lv_sub hl [1] rfl) hrun
      · have hrun := ip hc hrun
        refine lv_iconst (v := 2) hx hb dX11_takeClause_31 (by decide) ?_
        refine lv_goto (tgt := 36) hx hb dX11_takeClause_32 (by decide) ?_
        exact hB36 t_3 (2 : Int32) _ _ _ hS (lv_sub hl [1] rfl) hrun
    · have hrun := ip hc hrun
      refine lv_iconst (v := 1) hx hb dX11_takeClause_21 (by decide) ?_
      refine lv_goto (tgt := 36) hx hb dX11_takeClause_22 (by decide) ?_
      exact hB36 t_3 (1 : Int32) _ _ _ hS (lv_sub hl [1] rfl) hrun
  · have hrun := ip hc hrun
    refine lv_iconst (v := 0) hx hb dX11_takeClause_11 (by decide) ?_
    refine lv_goto (tgt := 36) hx hb dX11_takeClause_12 (by decide) ?_
    exact hB36 t_3 (0 : Int32) _ _ _ hS (lv_sub hl [1] rfl) hrun
theorem mdX11_copyRow : MD yX11_copyRow 3 := ⟨by decide +kernel, by decide +kernel, by decide +kernel⟩
set_option maxHeartbeats 4000000 in
set_option maxRecDepth 100000 in
theorem kX11_copyRow (l : Launch) (X : Cx) (t : St) (h0 : Nat) (n0 : Nat) (h1 : Nat) (n1 : Nat) (e0 : isI X h0 n0) (e1 : isI X h1 n1) (x2 : Int32) (t' : St) (hrun : fX11_copyRow h0 n0 h1 n1 t x2 = some t') : Cv l X t yX11_copyRow cX11_copyRow 4 0 0 [.ref (X.2.1 h0), .ref (X.2.1 h1), .int x2] t' := by
  refine Cv_of (by decide) (Nat.le_of_ble_eq_true rfl) ?_
  intro p e s m args below meth c Q B hret hS ls hl
  have hx := B.1
  have hb := B.2.1
  have hown := B.2.2.2.1
  have hts := B.2.2.2.2.1
  have hl : lv_has ls 4 [(0, .ref (X.2.1 h0)), (1, .ref (X.2.1 h1)), (2, .int x2)] := hl
  have hB2 : ∀ (n2 : Nat) (t : St) (x2 : Int32) (x3 : Int32) (H : Heap) (locs : List Loc) (ls : Array Slot), SS X t s.heap H locs → lv_has ls 4 [(0, .ref (X.2.1 h0)), (1, .ref (X.2.1 h1)), (2, .int x2), (3, .int x3)] → fX11_copyRow_2 h0 n0 h1 n1 n2 t x2 x3 = some t' → W p l e ({ frames := 0, cells := 0, slots := 0, locals := 0 } : Room) s m args below meth c H locs 0 0 Q (F0 m 2 ls []) := by
    intro n2
    induction n2 with
    | zero =>
      intro t x2 x3 H locs ls hS hl hrun
      cases (show (none : Option (St)) = some t' from hrun)
    | succ n2 ih2 =>
      intro t x2 x3 H locs ls hS hl hrun
      rw [fX11_copyRow_2_s] at hrun
      refine lv_iload_n hx hb dX11_copyRow_2 rfl (lv_at hl 3 rfl) ?_
      refine lv_iload_n hx hb dX11_copyRow_3 rfl (lv_at hl 2 rfl) ?_
      refine lv_icmp_ge (tgt := 19) hx hb dX11_copyRow_4 (by decide) (fun hc => ?_) (fun hc => ?_)
      · have hrun := ip hc hrun
        exact hret _ _ _ _ _ hrun hS dX11_copyRow_19
      · have hrun := iq hc hrun
        refine lv_aload_n hx hb dX11_copyRow_7 rfl (lv_at hl 1 rfl) ?_
        refine lv_iload_n hx hb dX11_copyRow_8 rfl (lv_at hl 3 rfl) ?_
        refine lv_aload_n hx hb dX11_copyRow_9 rfl (lv_at hl 0 rfl) ?_
        refine lv_iload_n hx hb dX11_copyRow_10 rfl (lv_at hl 3 rfl) ?_
        obtain ⟨hi_1003, hrun⟩ := gdE hrun
        refine xa B hS e0 hi_1003 dX11_copyRow_11 ?_
        obtain ⟨hi_1004, hrun⟩ := gdE hrun
        refine xs B hS e1 hi_1004 dX11_copyRow_12 (fun H locs hS => ?_)
        obtain ⟨t_1005, et, hrun⟩ := bsE hrun
        have hS : SS X t_1005 s.heap H locs := by rw [et]; exact hS
        clear et
        refine lv_iinc (v := x3 + (1 : Int32)) (k := 3) (lv' := [(3, .int (x3 + (1 : Int32))), (0, .ref (X.2.1 h0)), (1, .ref (X.2.1 h1)), (2, .int x2)]) hx hb dX11_copyRow_13 hl rfl rfl (by decide) rfl (fun ls hl => ?_)
        refine lv_goto (tgt := 2) hx hb dX11_copyRow_16 (by decide) ?_
        exact ih2 t_1005 x2 (x3 + (1 : Int32)) _ _ _ hS (lv_sub hl [1, 2, 3, 0] rfl) hrun
  unfold fX11_copyRow at hrun
  refine lv_iconst (v := 0) hx hb dX11_copyRow_0 (by decide) ?_
  refine lv_istore_n (lv' := [(3, .int (0 : Int32)), (0, .ref (X.2.1 h0)), (1, .ref (X.2.1 h1)), (2, .int x2)]) hx hb dX11_copyRow_1 rfl hl (by decide) rfl (fun ls hl => ?_)
  exact hB2 fuelN t x2 (0 : Int32) _ _ _ hS (lv_sub hl [1, 2, 3, 0] rfl) hrun
theorem mdX11_takeRead : MD yX11_takeRead 0 := ⟨by decide +kernel, by decide +kernel, by decide +kernel⟩
section QX11_takeRead
variable {p : Program} {l : Launch} {e : Env} {R : Room} {s : State} {m : MethodId} {args : Array Value} {below : List Frame} {meth : Method} {c : Code} {H : Heap} {locs : List Loc} {cells slots : Nat} {Q : State → Prop}
variable {cc : ByteArray} {pc : Nat} {ls : Array Slot} {rest : List Value} {X : Cx} {t : St} {H0 : Heap} {nL : Nat}
theorem qX11_156 (B : Bx p s m args c cc nL X RX11) (hS : SS X t H0 H locs) {h0 : Nat} {n0 : Nat} {h1 : Nat} {n1 : Nat} (e0 : isI X h0 n0) (e1 : isI X h1 n1) {x2 : Int32} {t' : St} (hM : fX11_copyRow h0 n0 h1 n1 t x2 = some t') (hsz : ls.size = nL) (hW : (rest.map fun v => v.category).sum ≤ 8) (hR : 0 + 1 ≤ R.frames ∧ 8 + (4 + 11) + 0 ≤ R.locals) (hR2 : cells ≤ R.cells ∧ slots ≤ R.slots) (hdg : decode cc pc = .ok (.invokestatic 156, 3)) (kk : ∀ (H1 : Heap) (locs1 : List Loc), SS X t' H0 H1 locs1 → W p l e R s m args below meth c H1 locs1 cells slots Q (F0 m (pc + 3) ls (rest))) : W p l e R s m args below meth c H locs cells slots Q (F0 m pc ls (.int x2 :: .ref (X.2.1 h1) :: .ref (X.2.1 h0) :: rest)) :=
  xSv B hS (kX11_copyRow l X t h0 n0 h1 n1 e0 e1 x2 t' hM) (tw_5 24 rfl rfl) (tw_5 25 rfl rfl) (tw_1 12 rfl rfl) (tw_5 26 rfl rfl) mdX11_copyRow rfl hsz rfl hW hR hR2 hdg kk
end QX11_takeRead
set_option maxHeartbeats 4000000 in
set_option maxRecDepth 100000 in
theorem kX11_takeRead (l : Launch) (X : Cx) (t : St) (t' : St) (hrun : fX11_takeRead t = some t') : Cv l X t yX11_takeRead cX11_takeRead 2 1 25 [.ref (X.2.1 144)] t' := by
  refine Cv_of (by decide) (Nat.le_of_ble_eq_true rfl) ?_
  intro p e s m args below meth c Q B hret hS ls hl
  have hx := B.1
  have hb := B.2.1
  have hown := B.2.2.2.1
  have hts := B.2.2.2.2.1
  have hl : lv_has ls 2 [(0, .ref (X.2.1 144))] := hl
  have hB228 : ∀ (t : St) (H : Heap) (locs : List Loc) (ls : Array Slot), SS X t s.heap H locs → lv_has ls 2 [(0, .ref (X.2.1 144))] → fX11_takeRead_228 t = some t' → W p l e ({ frames := 1, cells := 0, slots := 0, locals := 25 } : Room) s m args below meth c H locs 0 0 Q (F0 m 228 ls []) := by
    intro t H locs ls hS hl hrun
    unfold fX11_takeRead_228 at hrun
    refine lv_aload_n hx hb dX11_takeRead_228 rfl (lv_at hl 0 rfl) ?_
    refine gX11_25 B hS dX11_takeRead_229 ?_
    refine lv_bipush (v := 25) hx hb dX11_takeRead_232 (by decide) ?_
    refine lv_aload_n hx hb dX11_takeRead_234 rfl (lv_at hl 0 rfl) ?_
    refine gX11_78 B hS dX11_takeRead_235 ?_
    refine xs B hS ia_150 (by unfold vp_in; decide) dX11_takeRead_238 (fun H locs hS => ?_)
    obtain ⟨t_1229, et, hrun⟩ := bsE hrun
    have hS : SS X t_1229 s.heap H locs := by rw [et]; exact hS
    clear et
    exact hret _ _ _ _ _ hrun hS dX11_takeRead_239
  have hB199 : ∀ (n199 : Nat) (t : St) (x1 : Int32) (H : Heap) (locs : List Loc) (ls : Array Slot), SS X t s.heap H locs → lv_has ls 2 [(0, .ref (X.2.1 144)), (1, .int x1)] → fX11_takeRead_199 n199 t x1 = some t' → W p l e ({ frames := 1, cells := 0, slots := 0, locals := 25 } : Room) s m args below meth c H locs 0 0 Q (F0 m 199 ls []) := by
    intro n199
    induction n199 with
    | zero =>
      intro t x1 H locs ls hS hl hrun
      cases (show (none : Option (St)) = some t' from hrun)
    | succ n199 ih199 =>
      intro t x1 H locs ls hS hl hrun
      rw [fX11_takeRead_199_s] at hrun
      refine lv_iload_n hx hb dX11_takeRead_199 rfl (lv_at hl 1 rfl) ?_
      refine lv_aload_n hx hb dX11_takeRead_200 rfl (lv_at hl 0 rfl) ?_
      refine gX11_153 B hS dX11_takeRead_201 ?_
      refine lv_icmp_ge (tgt := 228) hx hb dX11_takeRead_204 (by decide) (fun hc => ?_) (fun hc => ?_)
      · have hrun := ip hc hrun
        exact hB228 t _ _ _ hS (lv_sub hl [0] rfl) hrun
      · have hrun := iq hc hrun
        refine lv_aload_n hx hb dX11_takeRead_207 rfl (lv_at hl 0 rfl) ?_
        refine gX11_25 B hS dX11_takeRead_208 ?_
        refine lv_bipush (v := 21) hx hb dX11_takeRead_211 (by decide) ?_
        refine lv_iload_n hx hb dX11_takeRead_213 rfl (lv_at hl 1 rfl) ?_
        refine lv_iadd hx hb dX11_takeRead_214 ?_
        refine lv_aload_n hx hb dX11_takeRead_215 rfl (lv_at hl 0 rfl) ?_
        refine gX11_22 B hS dX11_takeRead_216 ?_
        refine lv_iload_n hx hb dX11_takeRead_219 rfl (lv_at hl 1 rfl) ?_
        obtain ⟨hi_1200, hrun⟩ := gdE hrun
        refine xa B hS ia_149 hi_1200 dX11_takeRead_220 ?_
        obtain ⟨hi_1201, hrun⟩ := gdE hrun
        refine xs B hS ia_150 hi_1201 dX11_takeRead_221 (fun H locs hS => ?_)
        obtain ⟨t_1202, et, hrun⟩ := bsE hrun
        have hS : SS X t_1202 s.heap H locs := by rw [et]; exact hS
        clear et
        refine lv_iinc (v := x1 + (1 : Int32)) (k := 1) (lv' := [(1, .int (x1 + (1 : Int32))), (0, .ref (X.2.1 144))]) hx hb dX11_takeRead_222 hl rfl rfl (by decide) rfl (fun ls hl => ?_)
        refine lv_goto (tgt := 199) hx hb dX11_takeRead_225 (by decide) ?_
        exact ih199 t_1202 (x1 + (1 : Int32)) _ _ _ hS (lv_sub hl [1, 0] rfl) hrun
  have hB156 : ∀ (n156 : Nat) (t : St) (x1 : Int32) (H : Heap) (locs : List Loc) (ls : Array Slot), SS X t s.heap H locs → lv_has ls 2 [(0, .ref (X.2.1 144)), (1, .int x1)] → fX11_takeRead_156 n156 t x1 = some t' → W p l e ({ frames := 1, cells := 0, slots := 0, locals := 25 } : Room) s m args below meth c H locs 0 0 Q (F0 m 156 ls []) := by
    intro n156
    induction n156 with
    | zero =>
      intro t x1 H locs ls hS hl hrun
      cases (show (none : Option (St)) = some t' from hrun)
    | succ n156 ih156 =>
      intro t x1 H locs ls hS hl hrun
      rw [fX11_takeRead_156_s] at hrun
      refine lv_iload_n hx hb dX11_takeRead_156 rfl (lv_at hl 1 rfl) ?_
      refine lv_aload_n hx hb dX11_takeRead_157 rfl (lv_at hl 0 rfl) ?_
      refine gX11_81 B hS dX11_takeRead_158 ?_
      refine lv_icmp_ge (tgt := 197) hx hb dX11_takeRead_161 (by decide) (fun hc => ?_) (fun hc => ?_)
      · have hrun := ip hc hrun
        refine lv_iconst (v := 0) hx hb dX11_takeRead_197 (by decide) ?_
        refine lv_istore_n (lv' := [(1, .int (0 : Int32)), (0, .ref (X.2.1 144))]) hx hb dX11_takeRead_198 rfl hl (by decide) rfl (fun ls hl => ?_)
        exact hB199 fuelN t (0 : Int32) _ _ _ hS (lv_sub hl [1, 0] rfl) hrun
      · have hrun := iq hc hrun
        refine lv_aload_n hx hb dX11_takeRead_164 rfl (lv_at hl 0 rfl) ?_
        refine gX11_25 B hS dX11_takeRead_165 ?_
        refine lv_iload_n hx hb dX11_takeRead_168 rfl (lv_at hl 1 rfl) ?_
        refine lv_aload_n hx hb dX11_takeRead_169 rfl (lv_at hl 0 rfl) ?_
        refine gX11_13 B hS dX11_takeRead_170 ?_
        refine lv_iload_n hx hb dX11_takeRead_173 rfl (lv_at hl 1 rfl) ?_
        obtain ⟨hi_1157, hrun⟩ := gdE hrun
        refine xa B hS ia_146 hi_1157 dX11_takeRead_174 ?_
        obtain ⟨hi_1158, hrun⟩ := gdE hrun
        refine xs B hS ia_150 hi_1158 dX11_takeRead_175 (fun H locs hS => ?_)
        obtain ⟨t_1159, et, hrun⟩ := bsE hrun
        have hS : SS X t_1159 s.heap H locs := by rw [et]; exact hS
        clear et
        refine lv_aload_n hx hb dX11_takeRead_176 rfl (lv_at hl 0 rfl) ?_
        refine gX11_25 B hS dX11_takeRead_177 ?_
        refine lv_bipush (v := 7) hx hb dX11_takeRead_180 (by decide) ?_
        refine lv_iload_n hx hb dX11_takeRead_182 rfl (lv_at hl 1 rfl) ?_
        refine lv_iadd hx hb dX11_takeRead_183 ?_
        refine lv_aload_n hx hb dX11_takeRead_184 rfl (lv_at hl 0 rfl) ?_
        refine gX11_16 B hS dX11_takeRead_185 ?_
        refine lv_iload_n hx hb dX11_takeRead_188 rfl (lv_at hl 1 rfl) ?_
        obtain ⟨hi_1160, hrun⟩ := gdE hrun
        refine xa B hS ia_147 hi_1160 dX11_takeRead_189 ?_
        obtain ⟨hi_1161, hrun⟩ := gdE hrun
        refine xs B hS ia_150 hi_1161 dX11_takeRead_190 (fun H locs hS => ?_)
        obtain ⟨t_1162, et, hrun⟩ := bsE hrun
        have hS : SS X t_1162 s.heap H locs := by rw [et]; exact hS
        clear et
        refine lv_iinc (v := x1 + (1 : Int32)) (k := 1) (lv' := [(1, .int (x1 + (1 : Int32))), (0, .ref (X.2.1 144))]) hx hb dX11_takeRead_191 hl rfl rfl (by decide) rfl (fun ls hl => ?_)
        refine lv_goto (tgt := 156) hx hb dX11_takeRead_194 (by decide) ?_
        exact ih156 t_1162 (x1 + (1 : Int32)) _ _ _ hS (lv_sub hl [1, 0] rfl) hrun
  have hB117 : ∀ (n117 : Nat) (t : St) (x1 : Int32) (H : Heap) (locs : List Loc) (ls : Array Slot), SS X t s.heap H locs → lv_has ls 2 [(0, .ref (X.2.1 144)), (1, .int x1)] → fX11_takeRead_117 n117 t x1 = some t' → W p l e ({ frames := 1, cells := 0, slots := 0, locals := 25 } : Room) s m args below meth c H locs 0 0 Q (F0 m 117 ls []) := by
    intro n117
    induction n117 with
    | zero =>
      intro t x1 H locs ls hS hl hrun
      cases (show (none : Option (St)) = some t' from hrun)
    | succ n117 ih117 =>
      have hB147 : ∀ (t : St) (x1 : Int32) (y1 : Int32) (y2 : Int32) (H : Heap) (locs : List Loc) (ls : Array Slot), SS X t s.heap H locs → lv_has ls 2 [(0, .ref (X.2.1 144)), (1, .int x1)] → fX11_takeRead_147 (fX11_takeRead_117 n117) t x1 y1 y2 = some t' → W p l e ({ frames := 1, cells := 0, slots := 0, locals := 25 } : Room) s m args below meth c H locs 0 0 Q (F0 m 147 ls [.int y2, .int y1, .ref (X.2.1 150)]) := by
        intro t x1 y1 y2 H locs ls hS hl hrun
        unfold fX11_takeRead_147 at hrun
        obtain ⟨hi_1148, hrun⟩ := gdE hrun
        refine xs B hS ia_150 hi_1148 dX11_takeRead_147 (fun H locs hS => ?_)
        obtain ⟨t_1149, et, hrun⟩ := bsE hrun
        have hS : SS X t_1149 s.heap H locs := by rw [et]; exact hS
        clear et
        refine lv_iinc (v := x1 + (1 : Int32)) (k := 1) (lv' := [(1, .int (x1 + (1 : Int32))), (0, .ref (X.2.1 144))]) hx hb dX11_takeRead_148 hl rfl rfl (by decide) rfl (fun ls hl => ?_)
        refine lv_goto (tgt := 117) hx hb dX11_takeRead_151 (by decide) ?_
        exact ih117 t_1149 (x1 + (1 : Int32)) _ _ _ hS (lv_sub hl [1, 0] rfl) hrun
      intro t x1 H locs ls hS hl hrun
      rw [fX11_takeRead_117_s] at hrun
      refine lv_iload_n hx hb dX11_takeRead_117 rfl (lv_at hl 1 rfl) ?_
      refine lv_bipush (v := 29) hx hb dX11_takeRead_118 (by decide) ?_
      refine lv_icmp_ge (tgt := 154) hx hb dX11_takeRead_120 (by decide) (fun hc => ?_) (fun hc => ?_)
      · have hrun := ip hc hrun
        refine lv_iconst (v := 0) hx hb dX11_takeRead_154 (by decide) ?_
        refine lv_istore_n (lv' := [(1, .int (0 : Int32)), (0, .ref (X.2.1 144))]) hx hb dX11_takeRead_155 rfl hl (by decide) rfl (fun ls hl => ?_)
        exact hB156 fuelN t (0 : Int32) _ _ _ hS (lv_sub hl [1, 0] rfl) hrun
      · have hrun := iq hc hrun
        refine lv_aload_n hx hb dX11_takeRead_123 rfl (lv_at hl 0 rfl) ?_
        refine gX11_25 B hS dX11_takeRead_124 ?_
        refine lv_iload_n hx hb dX11_takeRead_127 rfl (lv_at hl 1 rfl) ?_
        refine lv_iload_n hx hb dX11_takeRead_128 rfl (lv_at hl 1 rfl) ?_
        refine lv_i2l hx hb dX11_takeRead_129 rfl ?_
        refine lv_ldc2 (v := 14) hx hb hown (hts _ (tw_5 27 rfl rfl)) dX11_takeRead_130 ?_
        refine lv_ldc2 (v := 20) hx hb hown (hts _ (tw_5 28 rfl rfl)) dX11_takeRead_133 ?_
        obtain ⟨r_1119, hc_1118, hrun⟩ := bdE hrun
        refine qX11_84 B hS hc_1118 hl.1 (Nat.le_of_ble_eq_true rfl) ⟨Nat.le_of_ble_eq_true rfl, Nat.le_of_ble_eq_true rfl⟩ ⟨Nat.zero_le _, Nat.zero_le _⟩ dX11_takeRead_136 (fun H locs hS => ?_)
        refine lv_if_eq (tgt := 146) hx hb dX11_takeRead_139 (by decide) (fun hc => ?_) (fun hc => ?_)
        · have hrun := ip hc hrun
          refine lv_iconst (v := 0) hx hb dX11_takeRead_146 (by decide) ?_
          exact hB147 t x1 x1 (0 : Int32) _ _ _ hS (lv_sub hl [0, 1] rfl) hrun
        · have hrun := iq hc hrun
          refine lv_iconst (v := -1) hx hb dX11_takeRead_142 (by decide) ?_
          refine lv_goto (tgt := 147) hx hb dX11_takeRead_143 (by decide) ?_
          exact hB147 t x1 x1 (-1 : Int32) _ _ _ hS (lv_sub hl [0, 1] rfl) hrun
  unfold fX11_takeRead at hrun
  refine lv_aload_n hx hb dX11_takeRead_0 rfl (lv_at hl 0 rfl) ?_
  refine lv_aload_n hx hb dX11_takeRead_1 rfl (lv_at hl 0 rfl) ?_
  refine gX11_122 B hS dX11_takeRead_2 ?_
  refine pX11_78 B hS dX11_takeRead_5 (fun H locs hS => ?_)
  obtain ⟨t_1, et, hrun⟩ := bsE hrun
  have hS : SS X t_1 s.heap H locs := by rw [et]; exact hS
  clear et
  refine lv_aload_n hx hb dX11_takeRead_8 rfl (lv_at hl 0 rfl) ?_
  refine lv_aload_n hx hb dX11_takeRead_9 rfl (lv_at hl 0 rfl) ?_
  refine gX11_125 B hS dX11_takeRead_10 ?_
  refine pX11_88 B hS dX11_takeRead_13 (fun H locs hS => ?_)
  obtain ⟨t_2, et, hrun⟩ := bsE hrun
  have hS : SS X t_2 s.heap H locs := by rw [et]; exact hS
  clear et
  refine lv_aload_n hx hb dX11_takeRead_16 rfl (lv_at hl 0 rfl) ?_
  refine lv_aload_n hx hb dX11_takeRead_17 rfl (lv_at hl 0 rfl) ?_
  refine gX11_128 B hS dX11_takeRead_18 ?_
  refine pX11_150 B hS dX11_takeRead_21 (fun H locs hS => ?_)
  obtain ⟨t_3, et, hrun⟩ := bsE hrun
  have hS : SS X t_3 s.heap H locs := by rw [et]; exact hS
  clear et
  refine lv_aload_n hx hb dX11_takeRead_24 rfl (lv_at hl 0 rfl) ?_
  refine lv_aload_n hx hb dX11_takeRead_25 rfl (lv_at hl 0 rfl) ?_
  refine gX11_131 B hS dX11_takeRead_26 ?_
  refine pX11_81 B hS dX11_takeRead_29 (fun H locs hS => ?_)
  obtain ⟨t_4, et, hrun⟩ := bsE hrun
  have hS : SS X t_4 s.heap H locs := by rw [et]; exact hS
  clear et
  refine lv_aload_n hx hb dX11_takeRead_32 rfl (lv_at hl 0 rfl) ?_
  refine lv_aload_n hx hb dX11_takeRead_33 rfl (lv_at hl 0 rfl) ?_
  refine gX11_138 B hS dX11_takeRead_34 ?_
  refine pX11_153 B hS dX11_takeRead_37 (fun H locs hS => ?_)
  obtain ⟨t_5, et, hrun⟩ := bsE hrun
  have hS : SS X t_5 s.heap H locs := by rw [et]; exact hS
  clear et
  refine lv_aload_n hx hb dX11_takeRead_40 rfl (lv_at hl 0 rfl) ?_
  refine gX11_35 B hS dX11_takeRead_41 ?_
  refine lv_aload_n hx hb dX11_takeRead_44 rfl (lv_at hl 0 rfl) ?_
  refine gX11_7 B hS dX11_takeRead_45 ?_
  refine lv_aload_n hx hb dX11_takeRead_48 rfl (lv_at hl 0 rfl) ?_
  refine gX11_81 B hS dX11_takeRead_49 ?_
  obtain ⟨t_7, hc_6, hrun⟩ := bdE hrun
  refine qX11_156 B hS ia_152 ia_145 hc_6 hl.1 (Nat.le_of_ble_eq_true rfl) ⟨Nat.le_of_ble_eq_true rfl, Nat.le_of_ble_eq_true rfl⟩ ⟨Nat.zero_le _, Nat.zero_le _⟩ dX11_takeRead_52 (fun H locs hS => ?_)
  refine lv_aload_n hx hb dX11_takeRead_55 rfl (lv_at hl 0 rfl) ?_
  refine gX11_38 B hS dX11_takeRead_56 ?_
  refine lv_aload_n hx hb dX11_takeRead_59 rfl (lv_at hl 0 rfl) ?_
  refine gX11_13 B hS dX11_takeRead_60 ?_
  refine lv_aload_n hx hb dX11_takeRead_63 rfl (lv_at hl 0 rfl) ?_
  refine gX11_81 B hS dX11_takeRead_64 ?_
  obtain ⟨t_9, hc_8, hrun⟩ := bdE hrun
  refine qX11_156 B hS ia_153 ia_146 hc_8 hl.1 (Nat.le_of_ble_eq_true rfl) ⟨Nat.le_of_ble_eq_true rfl, Nat.le_of_ble_eq_true rfl⟩ ⟨Nat.zero_le _, Nat.zero_le _⟩ dX11_takeRead_67 (fun H locs hS => ?_)
  refine lv_aload_n hx hb dX11_takeRead_70 rfl (lv_at hl 0 rfl) ?_
  refine gX11_41 B hS dX11_takeRead_71 ?_
  refine lv_aload_n hx hb dX11_takeRead_74 rfl (lv_at hl 0 rfl) ?_
  refine gX11_16 B hS dX11_takeRead_75 ?_
  refine lv_aload_n hx hb dX11_takeRead_78 rfl (lv_at hl 0 rfl) ?_
  refine gX11_81 B hS dX11_takeRead_79 ?_
  obtain ⟨t_11, hc_10, hrun⟩ := bdE hrun
  refine qX11_156 B hS ia_154 ia_147 hc_10 hl.1 (Nat.le_of_ble_eq_true rfl) ⟨Nat.le_of_ble_eq_true rfl, Nat.le_of_ble_eq_true rfl⟩ ⟨Nat.zero_le _, Nat.zero_le _⟩ dX11_takeRead_82 (fun H locs hS => ?_)
  refine lv_aload_n hx hb dX11_takeRead_85 rfl (lv_at hl 0 rfl) ?_
  refine gX11_44 B hS dX11_takeRead_86 ?_
  refine lv_aload_n hx hb dX11_takeRead_89 rfl (lv_at hl 0 rfl) ?_
  refine gX11_19 B hS dX11_takeRead_90 ?_
  refine lv_aload_n hx hb dX11_takeRead_93 rfl (lv_at hl 0 rfl) ?_
  refine gX11_81 B hS dX11_takeRead_94 ?_
  obtain ⟨t_13, hc_12, hrun⟩ := bdE hrun
  refine qX11_156 B hS ia_155 ia_148 hc_12 hl.1 (Nat.le_of_ble_eq_true rfl) ⟨Nat.le_of_ble_eq_true rfl, Nat.le_of_ble_eq_true rfl⟩ ⟨Nat.zero_le _, Nat.zero_le _⟩ dX11_takeRead_97 (fun H locs hS => ?_)
  refine lv_aload_n hx hb dX11_takeRead_100 rfl (lv_at hl 0 rfl) ?_
  refine gX11_47 B hS dX11_takeRead_101 ?_
  refine lv_aload_n hx hb dX11_takeRead_104 rfl (lv_at hl 0 rfl) ?_
  refine gX11_22 B hS dX11_takeRead_105 ?_
  refine lv_aload_n hx hb dX11_takeRead_108 rfl (lv_at hl 0 rfl) ?_
  refine gX11_153 B hS dX11_takeRead_109 ?_
  obtain ⟨t_15, hc_14, hrun⟩ := bdE hrun
  refine qX11_156 B hS ia_156 ia_149 hc_14 hl.1 (Nat.le_of_ble_eq_true rfl) ⟨Nat.le_of_ble_eq_true rfl, Nat.le_of_ble_eq_true rfl⟩ ⟨Nat.zero_le _, Nat.zero_le _⟩ dX11_takeRead_112 (fun H locs hS => ?_)
  refine lv_iconst (v := 0) hx hb dX11_takeRead_115 (by decide) ?_
  refine lv_istore_n (lv' := [(1, .int (0 : Int32)), (0, .ref (X.2.1 144))]) hx hb dX11_takeRead_116 rfl hl (by decide) rfl (fun ls hl => ?_)
  exact hB117 fuelN t_15 (0 : Int32) _ _ _ hS (lv_sub hl [1, 0] rfl) hrun
theorem mdX11_duchy : MD yX11_duchy 0 := ⟨by decide +kernel, by decide +kernel, by decide +kernel⟩
section QX11_duchy
variable {p : Program} {l : Launch} {e : Env} {R : Room} {s : State} {m : MethodId} {args : Array Value} {below : List Frame} {meth : Method} {c : Code} {H : Heap} {locs : List Loc} {cells slots : Nat} {Q : State → Prop}
variable {cc : ByteArray} {pc : Nat} {ls : Array Slot} {rest : List Value} {X : Cx} {t : St} {H0 : Heap} {nL : Nat}
theorem qX11_164 (B : Bx p s m args c cc nL X RX11) (hS : SS X t H0 H locs) {r : Int32} {t' : St} (hM : fX11_takeClause t = some (r, t')) (hsz : ls.size = nL) (hW : (rest.map fun v => v.category).sum ≤ 8) (hR : 4 + 1 ≤ R.frames ∧ 8 + (5 + 11) + 95 ≤ R.locals) (hR2 : cells ≤ R.cells ∧ slots ≤ R.slots) (hdg : decode cc pc = .ok (.invokevirtual 164, 3)) (kk : ∀ (H1 : Heap) (locs1 : List Loc), SS X t' H0 H1 locs1 → W p l e R s m args below meth c H1 locs1 cells slots Q (F0 m (pc + 3) ls (.int r :: rest))) : W p l e R s m args below meth c H locs cells slots Q (F0 m pc ls (.ref (X.2.1 144) :: rest)) :=
  xVi B hS (kX11_takeClause l X t r t' hM) (tw_4 230 rfl rfl) (tw_4 232 rfl rfl) (tw_0 22 rfl rfl) (tw_1 12 rfl rfl) (tw_4 233 rfl rfl) mdX11_takeClause (by decide) (ceX11 _) rfl rfl rfl hsz rfl hW hR hR2 hdg kk
theorem qX11_167 (B : Bx p s m args c cc nL X RX11) (hS : SS X t H0 H locs) {t' : St} (hM : fX11_takeRead t = some t') (hsz : ls.size = nL) (hW : (rest.map fun v => v.category).sum ≤ 8) (hR : 1 + 1 ≤ R.frames ∧ 8 + (2 + 11) + 25 ≤ R.locals) (hR2 : cells ≤ R.cells ∧ slots ≤ R.slots) (hdg : decode cc pc = .ok (.invokevirtual 167, 3)) (kk : ∀ (H1 : Heap) (locs1 : List Loc), SS X t' H0 H1 locs1 → W p l e R s m args below meth c H1 locs1 cells slots Q (F0 m (pc + 3) ls (rest))) : W p l e R s m args below meth c H locs cells slots Q (F0 m pc ls (.ref (X.2.1 144) :: rest)) :=
  xVv B hS (kX11_takeRead l X t t' hM) (tw_5 20 rfl rfl) (tw_5 22 rfl rfl) (tw_0 29 rfl rfl) (tw_1 12 rfl rfl) (tw_5 23 rfl rfl) mdX11_takeRead (by decide) (ceX11 _) rfl rfl rfl hsz rfl hW hR hR2 hdg kk
end QX11_duchy
set_option maxHeartbeats 4000000 in
set_option maxRecDepth 100000 in
theorem kX11_duchy (l : Launch) (X : Cx) (t : St) (r : Int32) (t' : St) (hrun : fX11_duchy t = some (r, t')) : Ci l X t yX11_duchy cX11_duchy 2 .int 5 119 [.ref (X.2.1 144)] r t' := by
  refine Ci_of (by decide) (Nat.le_of_ble_eq_true rfl) ?_
  intro p e s m args below meth c Q B hret hS ls hl
  have hx := B.1
  have hb := B.2.1
  have hown := B.2.2.2.1
  have hts := B.2.2.2.2.1
  have hl : lv_has ls 2 [(0, .ref (X.2.1 144))] := hl
  have hB56 : ∀ (t : St) (x1 : Int32) (H : Heap) (locs : List Loc) (ls : Array Slot), SS X t s.heap H locs → lv_has ls 2 [(0, .ref (X.2.1 144)), (1, .int x1)] → fX11_duchy_56 t x1 = some (r, t') → W p l e ({ frames := 5, cells := 0, slots := 0, locals := 119 } : Room) s m args below meth c H locs 0 0 Q (F0 m 56 ls []) := by
    intro t x1 H locs ls hS hl hrun
    unfold fX11_duchy_56 at hrun
    refine lv_aload_n hx hb dX11_duchy_56 rfl (lv_at hl 0 rfl) ?_
    refine lv_iconst (v := 0) hx hb dX11_duchy_57 (by decide) ?_
    refine pX11_94 B hS dX11_duchy_58 (fun H locs hS => ?_)
    obtain ⟨t_1057, et, hrun⟩ := bsE hrun
    have hS : SS X t_1057 s.heap H locs := by rw [et]; exact hS
    clear et
    refine lv_iload_n hx hb dX11_duchy_61 rfl (lv_at hl 1 rfl) ?_
    refine lv_if_le (tgt := 70) hx hb dX11_duchy_62 (by decide) (fun hc => ?_) (fun hc => ?_)
    · have hrun := ip hc hrun
      refine lv_aload_n hx hb dX11_duchy_70 rfl (lv_at hl 0 rfl) ?_
      obtain ⟨t_1059, hc_1058, hrun⟩ := bdE hrun
      refine qX11_167 B hS hc_1058 hl.1 (Nat.le_of_ble_eq_true rfl) ⟨Nat.le_of_ble_eq_true rfl, Nat.le_of_ble_eq_true rfl⟩ ⟨Nat.zero_le _, Nat.zero_le _⟩ dX11_duchy_71 (fun H locs hS => ?_)
      refine lv_aload_n hx hb dX11_duchy_74 rfl (lv_at hl 0 rfl) ?_
      refine lv_iconst (v := 0) hx hb dX11_duchy_75 (by decide) ?_
      refine pX11_170 B hS dX11_duchy_76 (fun H locs hS => ?_)
      obtain ⟨t_1060, et, hrun⟩ := bsE hrun
      have hS : SS X t_1060 s.heap H locs := by rw [et]; exact hS
      clear et
      refine lv_aload_n hx hb dX11_duchy_79 rfl (lv_at hl 0 rfl) ?_
      refine lv_iconst (v := 0) hx hb dX11_duchy_80 (by decide) ?_
      refine pX11_173 B hS dX11_duchy_81 (fun H locs hS => ?_)
      obtain ⟨t_1061, et, hrun⟩ := bsE hrun
      have hS : SS X t_1061 s.heap H locs := by rw [et]; exact hS
      clear et
      refine lv_aload_n hx hb dX11_duchy_84 rfl (lv_at hl 0 rfl) ?_
      refine lv_iconst (v := 0) hx hb dX11_duchy_85 (by decide) ?_
      refine pX11_176 B hS dX11_duchy_86 (fun H locs hS => ?_)
      obtain ⟨t_1062, et, hrun⟩ := bsE hrun
      have hS : SS X t_1062 s.heap H locs := by rw [et]; exact hS
      clear et
      refine lv_aload_n hx hb dX11_duchy_89 rfl (lv_at hl 0 rfl) ?_
      refine gX11_74 B hS dX11_duchy_90 ?_
      refine lv_iconst (v := 0) hx hb dX11_duchy_93 (by decide) ?_
      refine lv_iconst (v := 0) hx hb dX11_duchy_94 (by decide) ?_
      refine xsz B hS za_165 (by unfold vp_in; decide) rfl dX11_duchy_95 (fun H locs hS => ?_)
      obtain ⟨t_1063, et, hrun⟩ := bsE hrun
      have hS : SS X t_1063 s.heap H locs := by rw [et]; exact hS
      clear et
      refine lv_aload_n hx hb dX11_duchy_96 rfl (lv_at hl 0 rfl) ?_
      refine gX11_74 B hS dX11_duchy_97 ?_
      refine lv_iconst (v := 1) hx hb dX11_duchy_100 (by decide) ?_
      refine lv_iconst (v := 0) hx hb dX11_duchy_101 (by decide) ?_
      refine xsz B hS za_165 (by unfold vp_in; decide) rfl dX11_duchy_102 (fun H locs hS => ?_)
      obtain ⟨t_1064, et, hrun⟩ := bsE hrun
      have hS : SS X t_1064 s.heap H locs := by rw [et]; exact hS
      clear et
      refine lv_aload_n hx hb dX11_duchy_103 rfl (lv_at hl 0 rfl) ?_
      refine gX11_81 B hS dX11_duchy_104 ?_
      exact hret _ _ _ _ _ _ hrun rfl hS dX11_duchy_107
    · have hrun := iq hc hrun
      refine lv_bipush (v := -10) hx hb dX11_duchy_65 (by decide) ?_
      refine lv_iload_n hx hb dX11_duchy_67 rfl (lv_at hl 1 rfl) ?_
      refine lv_isub hx hb dX11_duchy_68 ?_
      exact hret _ _ _ _ _ _ hrun rfl hS dX11_duchy_69
  have hB37 : ∀ (n37 : Nat) (t : St) (x1 : Int32) (H : Heap) (locs : List Loc) (ls : Array Slot), SS X t s.heap H locs → lv_has ls 2 [(0, .ref (X.2.1 144)), (1, .int x1)] → fX11_duchy_37 n37 t x1 = some (r, t') → W p l e ({ frames := 5, cells := 0, slots := 0, locals := 119 } : Room) s m args below meth c H locs 0 0 Q (F0 m 37 ls []) := by
    intro n37
    induction n37 with
    | zero =>
      intro t x1 H locs ls hS hl hrun
      cases (show (none : Option (Int32 × St)) = some (r, t') from hrun)
    | succ n37 ih37 =>
      intro t x1 H locs ls hS hl hrun
      rw [fX11_duchy_37_s] at hrun
      refine lv_iload_n hx hb dX11_duchy_37 rfl (lv_at hl 1 rfl) ?_
      refine lv_if_ne (tgt := 56) hx hb dX11_duchy_38 (by decide) (fun hc => ?_) (fun hc => ?_)
      · have hrun := iq hc hrun
        exact hB56 t x1 _ _ _ hS (lv_sub hl [0, 1] rfl) hrun
      · have hrun := ip hc hrun
        refine lv_aload_n hx hb dX11_duchy_41 rfl (lv_at hl 0 rfl) ?_
        obtain ⟨r_1039, t_1040, hc_1038, hrun⟩ := bd2E hrun
        refine qX11_101 B hS hc_1038 hl.1 (Nat.le_of_ble_eq_true rfl) ⟨Nat.le_of_ble_eq_true rfl, Nat.le_of_ble_eq_true rfl⟩ ⟨Nat.zero_le _, Nat.zero_le _⟩ dX11_duchy_42 (fun H locs hS => ?_)
        refine lv_if_lt (tgt := 56) hx hb dX11_duchy_45 (by decide) (fun hc => ?_) (fun hc => ?_)
        · have hrun := ip hc hrun
          exact hB56 t_1040 x1 _ _ _ hS (lv_sub hl [0, 1] rfl) hrun
        · have hrun := iq hc hrun
          refine lv_aload_n hx hb dX11_duchy_48 rfl (lv_at hl 0 rfl) ?_
          obtain ⟨r_1042, t_1043, hc_1041, hrun⟩ := bd2E hrun
          refine qX11_164 B hS hc_1041 hl.1 (Nat.le_of_ble_eq_true rfl) ⟨Nat.le_of_ble_eq_true rfl, Nat.le_of_ble_eq_true rfl⟩ ⟨Nat.zero_le _, Nat.zero_le _⟩ dX11_duchy_49 (fun H locs hS => ?_)
          refine lv_istore_n (lv' := [(1, .int r_1042), (0, .ref (X.2.1 144))]) hx hb dX11_duchy_52 rfl hl (by decide) rfl (fun ls hl => ?_)
          refine lv_goto (tgt := 37) hx hb dX11_duchy_53 (by decide) ?_
          exact ih37 t_1043 r_1042 _ _ _ hS (lv_sub hl [1, 0] rfl) hrun
  unfold fX11_duchy at hrun
  refine lv_aload_n hx hb dX11_duchy_0 rfl (lv_at hl 0 rfl) ?_
  refine lv_iconst (v := -1) hx hb dX11_duchy_1 (by decide) ?_
  refine pX11_31 B hS dX11_duchy_2 (fun H locs hS => ?_)
  obtain ⟨t_1, et, hrun⟩ := bsE hrun
  have hS : SS X t_1 s.heap H locs := by rw [et]; exact hS
  clear et
  refine lv_aload_n hx hb dX11_duchy_5 rfl (lv_at hl 0 rfl) ?_
  refine lv_iconst (v := 0) hx hb dX11_duchy_6 (by decide) ?_
  refine pX11_98 B hS dX11_duchy_7 (fun H locs hS => ?_)
  obtain ⟨t_2, et, hrun⟩ := bsE hrun
  have hS : SS X t_2 s.heap H locs := by rw [et]; exact hS
  clear et
  refine lv_aload_n hx hb dX11_duchy_10 rfl (lv_at hl 0 rfl) ?_
  refine lv_iconst (v := 0) hx hb dX11_duchy_11 (by decide) ?_
  refine pX11_122 B hS dX11_duchy_12 (fun H locs hS => ?_)
  obtain ⟨t_3, et, hrun⟩ := bsE hrun
  have hS : SS X t_3 s.heap H locs := by rw [et]; exact hS
  clear et
  refine lv_aload_n hx hb dX11_duchy_15 rfl (lv_at hl 0 rfl) ?_
  refine lv_iconst (v := 0) hx hb dX11_duchy_16 (by decide) ?_
  refine pX11_125 B hS dX11_duchy_17 (fun H locs hS => ?_)
  obtain ⟨t_4, et, hrun⟩ := bsE hrun
  have hS : SS X t_4 s.heap H locs := by rw [et]; exact hS
  clear et
  refine lv_aload_n hx hb dX11_duchy_20 rfl (lv_at hl 0 rfl) ?_
  refine lv_iconst (v := 0) hx hb dX11_duchy_21 (by decide) ?_
  refine pX11_128 B hS dX11_duchy_22 (fun H locs hS => ?_)
  obtain ⟨t_5, et, hrun⟩ := bsE hrun
  have hS : SS X t_5 s.heap H locs := by rw [et]; exact hS
  clear et
  refine lv_aload_n hx hb dX11_duchy_25 rfl (lv_at hl 0 rfl) ?_
  refine lv_iconst (v := 0) hx hb dX11_duchy_26 (by decide) ?_
  refine pX11_131 B hS dX11_duchy_27 (fun H locs hS => ?_)
  obtain ⟨t_6, et, hrun⟩ := bsE hrun
  have hS : SS X t_6 s.heap H locs := by rw [et]; exact hS
  clear et
  refine lv_aload_n hx hb dX11_duchy_30 rfl (lv_at hl 0 rfl) ?_
  refine lv_iconst (v := 0) hx hb dX11_duchy_31 (by decide) ?_
  refine pX11_138 B hS dX11_duchy_32 (fun H locs hS => ?_)
  obtain ⟨t_7, et, hrun⟩ := bsE hrun
  have hS : SS X t_7 s.heap H locs := by rw [et]; exact hS
  clear et
  refine lv_iconst (v := 0) hx hb dX11_duchy_35 (by decide) ?_
  refine lv_istore_n (lv' := [(1, .int (0 : Int32)), (0, .ref (X.2.1 144))]) hx hb dX11_duchy_36 rfl hl (by decide) rfl (fun ls hl => ?_)
  exact hB37 fuelN t_7 (0 : Int32) _ _ _ hS (lv_sub hl [1, 0] rfl) hrun
theorem mdX11_fault : MD yX11_fault 0 := ⟨by decide +kernel, by decide +kernel, by decide +kernel⟩
set_option maxHeartbeats 4000000 in
set_option maxRecDepth 100000 in
theorem kX11_fault (l : Launch) (X : Cx) (t : St) (r : Int32) (hrun : fX11_fault t = some r) : Ci l X t yX11_fault cX11_fault 1 .int 0 0 [.ref (X.2.1 144)] r t := by
  refine Ci_of (by decide) (Nat.le_of_ble_eq_true rfl) ?_
  intro p e s m args below meth c Q B hret hS ls hl
  have hx := B.1
  have hb := B.2.1
  have hown := B.2.2.2.1
  have hts := B.2.2.2.2.1
  have hl : lv_has ls 1 [(0, .ref (X.2.1 144))] := hl
  unfold fX11_fault at hrun
  refine lv_aload_n hx hb dX11_fault_0 rfl (lv_at hl 0 rfl) ?_
  refine gX11_31 B hS dX11_fault_1 ?_
  exact hret _ _ _ _ _ _ (congrArg (Option.map (fun w => (w, t))) hrun) rfl hS dX11_fault_4
theorem mdX11_sings : MD yX11_sings 1 := ⟨by decide +kernel, by decide +kernel, by decide +kernel⟩
set_option maxHeartbeats 4000000 in
set_option maxRecDepth 100000 in
theorem kX11_sings (l : Launch) (X : Cx) (t : St) (x1 : Int32) (r : Int32) (hrun : fX11_sings t x1 = some r) : Ci l X t yX11_sings cX11_sings 2 .boolean 0 0 [.ref (X.2.1 144), .int x1] r t := by
  refine Ci_of (by decide) (Nat.le_of_ble_eq_true rfl) ?_
  intro p e s m args below meth c Q B hret hS ls hl
  have hx := B.1
  have hb := B.2.1
  have hown := B.2.2.2.1
  have hts := B.2.2.2.2.1
  have hl : lv_has ls 2 [(0, .ref (X.2.1 144)), (1, .int x1)] := hl
  unfold fX11_sings at hrun
  refine lv_aload_n hx hb dX11_sings_0 rfl (lv_at hl 0 rfl) ?_
  refine gX11_25 B hS dX11_sings_1 ?_
  refine lv_bipush (v := 14) hx hb dX11_sings_4 (by decide) ?_
  refine lv_iload_n hx hb dX11_sings_6 rfl (lv_at hl 1 rfl) ?_
  refine lv_iadd hx hb dX11_sings_7 ?_
  obtain ⟨hi_1, hrun⟩ := gdE hrun
  refine xa B hS ia_150 hi_1 dX11_sings_8 ?_
  refine lv_iconst (v := -1) hx hb dX11_sings_9 (by decide) ?_
  refine lv_icmp_eq (tgt := 17) hx hb dX11_sings_10 (by decide) (fun hc => ?_) (fun hc => ?_)
  · have hrun := ip hc hrun
    refine lv_iconst (v := 0) hx hb dX11_sings_17 (by decide) ?_
    exact hret _ _ _ _ _ _ (congrArg (Option.map (fun w => (w, t))) hrun) rfl hS dX11_sings_18
  · have hrun := iq hc hrun
    refine lv_iconst (v := 1) hx hb dX11_sings_13 (by decide) ?_
    refine lv_goto (tgt := 18) hx hb dX11_sings_14 (by decide) ?_
    exact hret _ _ _ _ _ _ (congrArg (Option.map (fun w => (w, t))) hrun) rfl hS dX11_sings_18
theorem mdX11_inspectorsAt : MD yX11_inspectorsAt 1 := ⟨by decide +kernel, by decide +kernel, by decide +kernel⟩
set_option maxHeartbeats 4000000 in
set_option maxRecDepth 100000 in
theorem kX11_inspectorsAt (l : Launch) (X : Cx) (t : St) (x1 : Int32) (r : Int32) (hrun : fX11_inspectorsAt t x1 = some r) : Ci l X t yX11_inspectorsAt cX11_inspectorsAt 4 .int 0 0 [.ref (X.2.1 144), .int x1] r t := by
  refine Ci_of (by decide) (Nat.le_of_ble_eq_true rfl) ?_
  intro p e s m args below meth c Q B hret hS ls hl
  have hx := B.1
  have hb := B.2.1
  have hown := B.2.2.2.1
  have hts := B.2.2.2.2.1
  have hl : lv_has ls 4 [(0, .ref (X.2.1 144)), (1, .int x1)] := hl
  have hB4 : ∀ (n4 : Nat) (x1 : Int32) (x2 : Int32) (x3 : Int32) (H : Heap) (locs : List Loc) (ls : Array Slot), SS X t s.heap H locs → lv_has ls 4 [(0, .ref (X.2.1 144)), (1, .int x1), (2, .int x2), (3, .int x3)] → fX11_inspectorsAt_4 t n4 x1 x2 x3 = some r → W p l e ({ frames := 0, cells := 0, slots := 0, locals := 0 } : Room) s m args below meth c H locs 0 0 Q (F0 m 4 ls []) := by
    intro n4
    induction n4 with
    | zero =>
      intro x1 x2 x3 H locs ls hS hl hrun
      cases (show (none : Option (Int32)) = some r from hrun)
    | succ n4 ih4 =>
      intro x1 x2 x3 H locs ls hS hl hrun
      rw [fX11_inspectorsAt_4_s] at hrun
      refine lv_iload_n hx hb dX11_inspectorsAt_4 rfl (lv_at hl 3 rfl) ?_
      refine lv_aload_n hx hb dX11_inspectorsAt_5 rfl (lv_at hl 0 rfl) ?_
      refine gX11_153 B hS dX11_inspectorsAt_6 ?_
      refine lv_icmp_ge (tgt := 39) hx hb dX11_inspectorsAt_9 (by decide) (fun hc => ?_) (fun hc => ?_)
      · have hrun := ip hc hrun
        refine lv_iload_n hx hb dX11_inspectorsAt_39 rfl (lv_at hl 2 rfl) ?_
        exact hret _ _ _ _ _ _ (congrArg (Option.map (fun w => (w, t))) hrun) rfl hS dX11_inspectorsAt_40
      · have hrun := iq hc hrun
        refine lv_iload_n hx hb dX11_inspectorsAt_12 rfl (lv_at hl 2 rfl) ?_
        refine lv_aload_n hx hb dX11_inspectorsAt_13 rfl (lv_at hl 0 rfl) ?_
        refine gX11_25 B hS dX11_inspectorsAt_14 ?_
        refine lv_bipush (v := 21) hx hb dX11_inspectorsAt_17 (by decide) ?_
        refine lv_iload_n hx hb dX11_inspectorsAt_19 rfl (lv_at hl 3 rfl) ?_
        refine lv_iadd hx hb dX11_inspectorsAt_20 ?_
        obtain ⟨hi_1005, hrun⟩ := gdE hrun
        refine xa B hS ia_150 hi_1005 dX11_inspectorsAt_21 ?_
        refine lv_iload_n hx hb dX11_inspectorsAt_22 rfl (lv_at hl 1 rfl) ?_
        refine lv_icmp_ne (tgt := 30) hx hb dX11_inspectorsAt_23 (by decide) (fun hc => ?_) (fun hc => ?_)
        · have hrun := iq hc hrun
          refine lv_iconst (v := 0) hx hb dX11_inspectorsAt_30 (by decide) ?_
          refine lv_iadd hx hb dX11_inspectorsAt_31 ?_
          refine lv_topi (fun x2_1006 ex => ?_)
          obtain ⟨z, ez, hrun⟩ := bsE hrun
          obtain rfl : x2_1006 = z := ex.trans ez.symm
          clear ex ez
          refine lv_istore_n (lv' := [(2, .int x2_1006), (0, .ref (X.2.1 144)), (1, .int x1), (3, .int x3)]) hx hb dX11_inspectorsAt_32 rfl hl (by decide) rfl (fun ls hl => ?_)
          refine lv_iinc (v := x3 + (1 : Int32)) (k := 3) (lv' := [(3, .int (x3 + (1 : Int32))), (2, .int x2_1006), (0, .ref (X.2.1 144)), (1, .int x1)]) hx hb dX11_inspectorsAt_33 hl rfl rfl (by decide) rfl (fun ls hl => ?_)
          refine lv_goto (tgt := 4) hx hb dX11_inspectorsAt_36 (by decide) ?_
          exact ih4 x1 x2_1006 (x3 + (1 : Int32)) _ _ _ hS (lv_sub hl [2, 3, 1, 0] rfl) hrun
        · have hrun := ip hc hrun
          refine lv_iconst (v := 1) hx hb dX11_inspectorsAt_26 (by decide) ?_
          refine lv_goto (tgt := 31) hx hb dX11_inspectorsAt_27 (by decide) ?_
          refine lv_iadd hx hb dX11_inspectorsAt_31 ?_
          refine lv_topi (fun x2_1007 ex => ?_)
          obtain ⟨z, ez, hrun⟩ := bsE hrun
          obtain rfl : x2_1007 = z := ex.trans ez.symm
          clear ex ez
          refine lv_istore_n (lv' := [(2, .int x2_1007), (0, .ref (X.2.1 144)), (1, .int x1), (3, .int x3)]) hx hb dX11_inspectorsAt_32 rfl hl (by decide) rfl (fun ls hl => ?_)
          refine lv_iinc (v := x3 + (1 : Int32)) (k := 3) (lv' := [(3, .int (x3 + (1 : Int32))), (2, .int x2_1007), (0, .ref (X.2.1 144)), (1, .int x1)]) hx hb dX11_inspectorsAt_33 hl rfl rfl (by decide) rfl (fun ls hl => ?_)
          refine lv_goto (tgt := 4) hx hb dX11_inspectorsAt_36 (by decide) ?_
          exact ih4 x1 x2_1007 (x3 + (1 : Int32)) _ _ _ hS (lv_sub hl [2, 3, 1, 0] rfl) hrun
  unfold fX11_inspectorsAt at hrun
  refine lv_iconst (v := 0) hx hb dX11_inspectorsAt_0 (by decide) ?_
  refine lv_istore_n (lv' := [(2, .int (0 : Int32)), (0, .ref (X.2.1 144)), (1, .int x1)]) hx hb dX11_inspectorsAt_1 rfl hl (by decide) rfl (fun ls hl => ?_)
  refine lv_iconst (v := 0) hx hb dX11_inspectorsAt_2 (by decide) ?_
  refine lv_istore_n (lv' := [(3, .int (0 : Int32)), (2, .int (0 : Int32)), (0, .ref (X.2.1 144)), (1, .int x1)]) hx hb dX11_inspectorsAt_3 rfl hl (by decide) rfl (fun ls hl => ?_)
  exact hB4 fuelN x1 (0 : Int32) (0 : Int32) _ _ _ hS (lv_sub hl [2, 3, 1, 0] rfl) hrun
theorem mdX11_owesBy : MD yX11_owesBy 4 := ⟨by decide +kernel, by decide +kernel, by decide +kernel⟩
section QX11_owesBy
variable {p : Program} {l : Launch} {e : Env} {R : Room} {s : State} {m : MethodId} {args : Array Value} {below : List Frame} {meth : Method} {c : Code} {H : Heap} {locs : List Loc} {cells slots : Nat} {Q : State → Prop}
variable {cc : ByteArray} {pc : Nat} {ls : Array Slot} {rest : List Value} {X : Cx} {t : St} {H0 : Heap} {nL : Nat}
theorem qX11_179 (B : Bx p s m args c cc nL X RX11) (hS : SS X t H0 H locs) {x1 : Int32} {r : Int32} (hM : fX11_inspectorsAt t x1 = some r) (hsz : ls.size = nL) (hW : (rest.map fun v => v.category).sum ≤ 8) (hR : 0 + 1 ≤ R.frames ∧ 8 + (4 + 11) + 0 ≤ R.locals) (hR2 : cells ≤ R.cells ∧ slots ≤ R.slots) (hdg : decode cc pc = .ok (.invokevirtual 179, 3)) (kk : ∀ (H1 : Heap) (locs1 : List Loc), SS X t H0 H1 locs1 → W p l e R s m args below meth c H1 locs1 cells slots Q (F0 m (pc + 3) ls (.int r :: rest))) : W p l e R s m args below meth c H locs cells slots Q (F0 m pc ls (.int x1 :: .ref (X.2.1 144) :: rest)) :=
  xVi B hS (kX11_inspectorsAt l X t x1 r hM) (tw_5 57 rfl rfl) (tw_5 59 rfl rfl) (tw_0 35 rfl rfl) (tw_1 12 rfl rfl) (tw_5 60 rfl rfl) mdX11_inspectorsAt (by decide) (ceX11 _) rfl rfl rfl hsz rfl hW hR hR2 hdg kk
end QX11_owesBy
set_option maxHeartbeats 4000000 in
set_option maxRecDepth 100000 in
theorem kX11_owesBy (l : Launch) (X : Cx) (t : St) (x1 : Int32) (x2 : Int32) (x3 : Int32) (x4 : Int32) (r : Int32) (hrun : fX11_owesBy t x1 x2 x3 x4 = some r) : Ci l X t yX11_owesBy cX11_owesBy 6 .int 1 23 [.ref (X.2.1 144), .int x1, .int x2, .int x3, .int x4] r t := by
  refine Ci_of (by decide) (Nat.le_of_ble_eq_true rfl) ?_
  intro p e s m args below meth c Q B hret hS ls hl
  have hx := B.1
  have hb := B.2.1
  have hown := B.2.2.2.1
  have hts := B.2.2.2.2.1
  have hl : lv_has ls 6 [(0, .ref (X.2.1 144)), (1, .int x1), (2, .int x2), (3, .int x3), (4, .int x4)] := hl
  unfold fX11_owesBy at hrun
  refine lv_iload hx hb dX11_owesBy_0 (lv_at hl 4 rfl) ?_
  refine lv_iload_n hx hb dX11_owesBy_2 rfl (lv_at hl 3 rfl) ?_
  refine lv_imul hx hb dX11_owesBy_3 ?_
  refine lv_iload_n hx hb dX11_owesBy_4 rfl (lv_at hl 3 rfl) ?_
  refine lv_imul hx hb dX11_owesBy_5 ?_
  refine lv_topi (fun x5_1 ex => ?_)
  obtain ⟨z, ez, hrun⟩ := bsE hrun
  obtain rfl : x5_1 = z := ex.trans ez.symm
  clear ex ez
  refine lv_istore (lv' := [(5, .int x5_1), (0, .ref (X.2.1 144)), (1, .int x1), (2, .int x2), (3, .int x3), (4, .int x4)]) hx hb dX11_owesBy_6 hl (by decide) rfl (fun ls hl => ?_)
  refine lv_aload_n hx hb dX11_owesBy_8 rfl (lv_at hl 1 rfl) ?_
  refine gX11_7 B hS dX11_owesBy_9 ?_
  refine lv_iload_n hx hb dX11_owesBy_12 rfl (lv_at hl 2 rfl) ?_
  obtain ⟨hi_2, hrun⟩ := gdE hrun
  refine xa B hS ia_145 hi_2 dX11_owesBy_13 ?_
  refine lv_topi (fun x_3 ex => ?_)
  obtain ⟨z, ez, hrun⟩ := bsE hrun
  obtain rfl : x_3 = z := ex.trans ez.symm
  clear ex ez
  by_cases hw_4 : x_3 = (1 : Int32)
  · have hrun := ip hw_4 hrun
    refine lv_tableIn (off := 26) (tgt := 40) hx hb dX11_owesBy_14 (by rw [hw_4]; decide) (by rw [hw_4]; decide) (by rw [hw_4]; rfl) (by decide) ?_
    refine lv_iconst (v := 2) hx hb dX11_owesBy_40 (by decide) ?_
    refine lv_iload hx hb dX11_owesBy_41 (lv_at hl 0 rfl) ?_
    refine lv_imul hx hb dX11_owesBy_43 ?_
    exact hret _ _ _ _ _ _ (congrArg (Option.map (fun w => (w, t))) hrun) rfl hS dX11_owesBy_44
  have hrun := iq hw_4 hrun
  by_cases hw_5 : x_3 = (2 : Int32)
  · have hrun := ip hw_5 hrun
    refine lv_tableIn (off := 31) (tgt := 45) hx hb dX11_owesBy_14 (by rw [hw_5]; decide) (by rw [hw_5]; decide) (by rw [hw_5]; rfl) (by decide) ?_
    refine lv_iconst (v := 0) hx hb dX11_owesBy_45 (by decide) ?_
    exact hret _ _ _ _ _ _ (congrArg (Option.map (fun w => (w, t))) hrun) rfl hS dX11_owesBy_46
  have hrun := iq hw_5 hrun
  by_cases hw_6 : x_3 = (3 : Int32)
  · have hrun := ip hw_6 hrun
    refine lv_tableIn (off := 33) (tgt := 47) hx hb dX11_owesBy_14 (by rw [hw_6]; decide) (by rw [hw_6]; decide) (by rw [hw_6]; rfl) (by decide) ?_
    refine lv_aload_n hx hb dX11_owesBy_47 rfl (lv_at hl 1 rfl) ?_
    refine lv_iload_n hx hb dX11_owesBy_48 rfl (lv_at hl 3 rfl) ?_
    obtain ⟨r_8, hc_7, hrun⟩ := bdE hrun
    refine qX11_179 B hS hc_7 hl.1 (Nat.le_of_ble_eq_true rfl) ⟨Nat.le_of_ble_eq_true rfl, Nat.le_of_ble_eq_true rfl⟩ ⟨Nat.zero_le _, Nat.zero_le _⟩ dX11_owesBy_49 (fun H locs hS => ?_)
    refine lv_if_le (tgt := 60) hx hb dX11_owesBy_52 (by decide) (fun hc => ?_) (fun hc => ?_)
    · have hrun := ip hc hrun
      refine lv_iload hx hb dX11_owesBy_60 (lv_at hl 0 rfl) ?_
      refine lv_iconst (v := 2) hx hb dX11_owesBy_62 (by decide) ?_
      refine lv_idiv hx hb dX11_owesBy_63 (by decide) ?_
      exact hret _ _ _ _ _ _ (congrArg (Option.map (fun w => (w, t))) hrun) rfl hS dX11_owesBy_64
    · have hrun := iq hc hrun
      refine lv_iload hx hb dX11_owesBy_55 (lv_at hl 0 rfl) ?_
      refine lv_goto (tgt := 64) hx hb dX11_owesBy_57 (by decide) ?_
      exact hret _ _ _ _ _ _ (congrArg (Option.map (fun w => (w, t))) hrun) rfl hS dX11_owesBy_64
  have hrun := iq hw_6 hrun
  have hw_4 := lv_neT (a := 1) hw_4 (by decide)
  have hw_5 := lv_neT (a := 2) hw_5 (by decide)
  have hw_6 := lv_neT (a := 3) hw_6 (by decide)
  refine lv_tableOut (tgt := 65) hx hb dX11_owesBy_14 (by omega) (by decide) ?_
  refine lv_iload hx hb dX11_owesBy_65 (lv_at hl 0 rfl) ?_
  exact hret _ _ _ _ _ _ (congrArg (Option.map (fun w => (w, t))) hrun) rfl hS dX11_owesBy_67
theorem mdX11_owesOf : MD yX11_owesOf 1 := ⟨by decide +kernel, by decide +kernel, by decide +kernel⟩
section QX11_owesOf
variable {p : Program} {l : Launch} {e : Env} {R : Room} {s : State} {m : MethodId} {args : Array Value} {below : List Frame} {meth : Method} {c : Code} {H : Heap} {locs : List Loc} {cells slots : Nat} {Q : State → Prop}
variable {cc : ByteArray} {pc : Nat} {ls : Array Slot} {rest : List Value} {X : Cx} {t : St} {H0 : Heap} {nL : Nat}
theorem qX11_183 (B : Bx p s m args c cc nL X RX11) (hS : SS X t H0 H locs) {x1 : Int32} {r : Int32} (hM : fX11_sings t x1 = some r) (hsz : ls.size = nL) (hW : (rest.map fun v => v.category).sum ≤ 8) (hR : 0 + 1 ≤ R.frames ∧ 8 + (2 + 11) + 0 ≤ R.locals) (hR2 : cells ≤ R.cells ∧ slots ≤ R.slots) (hdg : decode cc pc = .ok (.invokevirtual 183, 3)) (kk : ∀ (H1 : Heap) (locs1 : List Loc), SS X t H0 H1 locs1 → W p l e R s m args below meth c H1 locs1 cells slots Q (F0 m (pc + 3) ls (.int r :: rest))) : W p l e R s m args below meth c H locs cells slots Q (F0 m pc ls (.int x1 :: .ref (X.2.1 144) :: rest)) :=
  xVi B hS (kX11_sings l X t x1 r hM) (tw_5 41 rfl rfl) (tw_5 43 rfl rfl) (tw_0 31 rfl rfl) (tw_1 12 rfl rfl) (tw_5 44 rfl rfl) mdX11_sings (by decide) (ceX11 _) rfl rfl rfl hsz rfl hW hR hR2 hdg kk
theorem qX11_187 (B : Bx p s m args c cc nL X RX11) (hS : SS X t H0 H locs) {x1 : Int32} {x2 : Int32} {x3 : Int32} {x4 : Int32} {r : Int32} (hM : fX11_owesBy t x1 x2 x3 x4 = some r) (hsz : ls.size = nL) (hW : (rest.map fun v => v.category).sum ≤ 8) (hR : 1 + 1 ≤ R.frames ∧ 8 + (6 + 11) + 23 ≤ R.locals) (hR2 : cells ≤ R.cells ∧ slots ≤ R.slots) (hdg : decode cc pc = .ok (.invokevirtual 187, 3)) (kk : ∀ (H1 : Heap) (locs1 : List Loc), SS X t H0 H1 locs1 → W p l e R s m args below meth c H1 locs1 cells slots Q (F0 m (pc + 3) ls (.int r :: rest))) : W p l e R s m args below meth c H locs cells slots Q (F0 m pc ls (.int x4 :: .int x3 :: .int x2 :: .int x1 :: .ref (X.2.1 144) :: rest)) :=
  xVi B hS (kX11_owesBy l X t x1 x2 x3 x4 r hM) (tw_5 53 rfl rfl) (tw_5 55 rfl rfl) (tw_0 34 rfl rfl) (tw_1 12 rfl rfl) (tw_5 56 rfl rfl) mdX11_owesBy (by decide) (ceX11 _) rfl rfl rfl hsz rfl hW hR hR2 hdg kk
end QX11_owesOf
set_option maxHeartbeats 4000000 in
set_option maxRecDepth 100000 in
theorem kX11_owesOf (l : Launch) (X : Cx) (t : St) (x1 : Int32) (r : Int32) (hrun : fX11_owesOf t x1 = some r) : Ci l X t yX11_owesOf cX11_owesOf 2 .int 2 48 [.ref (X.2.1 144), .int x1] r t := by
  refine Ci_of (by decide) (Nat.le_of_ble_eq_true rfl) ?_
  intro p e s m args below meth c Q B hret hS ls hl
  have hx := B.1
  have hb := B.2.1
  have hown := B.2.2.2.1
  have hts := B.2.2.2.2.1
  have hl : lv_has ls 2 [(0, .ref (X.2.1 144)), (1, .int x1)] := hl
  unfold fX11_owesOf at hrun
  refine lv_aload_n hx hb dX11_owesOf_0 rfl (lv_at hl 0 rfl) ?_
  refine lv_iload_n hx hb dX11_owesOf_1 rfl (lv_at hl 1 rfl) ?_
  obtain ⟨r_2, hc_1, hrun⟩ := bdE hrun
  refine qX11_183 B hS hc_1 hl.1 (Nat.le_of_ble_eq_true rfl) ⟨Nat.le_of_ble_eq_true rfl, Nat.le_of_ble_eq_true rfl⟩ ⟨Nat.zero_le _, Nat.zero_le _⟩ dX11_owesOf_2 (fun H locs hS => ?_)
  refine lv_if_eq (tgt := 38) hx hb dX11_owesOf_5 (by decide) (fun hc => ?_) (fun hc => ?_)
  · have hrun := ip hc hrun
    refine lv_iconst (v := 0) hx hb dX11_owesOf_38 (by decide) ?_
    exact hret _ _ _ _ _ _ (congrArg (Option.map (fun w => (w, t))) hrun) rfl hS dX11_owesOf_39
  · have hrun := iq hc hrun
    refine lv_aload_n hx hb dX11_owesOf_8 rfl (lv_at hl 0 rfl) ?_
    refine lv_iload_n hx hb dX11_owesOf_9 rfl (lv_at hl 1 rfl) ?_
    refine lv_aload_n hx hb dX11_owesOf_10 rfl (lv_at hl 0 rfl) ?_
    refine gX11_25 B hS dX11_owesOf_11 ?_
    refine lv_iload_n hx hb dX11_owesOf_14 rfl (lv_at hl 1 rfl) ?_
    obtain ⟨hi_3, hrun⟩ := gdE hrun
    refine xa B hS ia_150 hi_3 dX11_owesOf_15 ?_
    refine lv_aload_n hx hb dX11_owesOf_16 rfl (lv_at hl 0 rfl) ?_
    refine gX11_25 B hS dX11_owesOf_17 ?_
    refine lv_bipush (v := 14) hx hb dX11_owesOf_20 (by decide) ?_
    refine lv_iload_n hx hb dX11_owesOf_22 rfl (lv_at hl 1 rfl) ?_
    refine lv_iadd hx hb dX11_owesOf_23 ?_
    obtain ⟨hi_4, hrun⟩ := gdE hrun
    refine xa B hS ia_150 hi_4 dX11_owesOf_24 ?_
    refine lv_aload_n hx hb dX11_owesOf_25 rfl (lv_at hl 0 rfl) ?_
    refine gX11_25 B hS dX11_owesOf_26 ?_
    refine lv_bipush (v := 25) hx hb dX11_owesOf_29 (by decide) ?_
    refine xa B hS ia_150 (by unfold vp_in; decide) dX11_owesOf_31 ?_
    obtain ⟨r_6, hc_5, hrun⟩ := bdE hrun
    refine qX11_187 B hS hc_5 hl.1 (Nat.le_of_ble_eq_true rfl) ⟨Nat.le_of_ble_eq_true rfl, Nat.le_of_ble_eq_true rfl⟩ ⟨Nat.zero_le _, Nat.zero_le _⟩ dX11_owesOf_32 (fun H locs hS => ?_)
    refine lv_goto (tgt := 39) hx hb dX11_owesOf_35 (by decide) ?_
    exact hret _ _ _ _ _ _ (congrArg (Option.map (fun w => (w, t))) hrun) rfl hS dX11_owesOf_39
theorem mdX11_whoIsIn : MD yX11_whoIsIn 1 := ⟨by decide +kernel, by decide +kernel, by decide +kernel⟩
set_option maxHeartbeats 4000000 in
set_option maxRecDepth 100000 in
theorem kX11_whoIsIn (l : Launch) (X : Cx) (t : St) (x1 : Int32) (r : Int32) (hrun : fX11_whoIsIn t x1 = some r) : Ci l X t yX11_whoIsIn cX11_whoIsIn 4 .int 0 0 [.ref (X.2.1 144), .int x1] r t := by
  refine Ci_of (by decide) (Nat.le_of_ble_eq_true rfl) ?_
  intro p e s m args below meth c Q B hret hS ls hl
  have hx := B.1
  have hb := B.2.1
  have hown := B.2.2.2.1
  have hts := B.2.2.2.2.1
  have hl : lv_has ls 4 [(0, .ref (X.2.1 144)), (1, .int x1)] := hl
  have hB4 : ∀ (n4 : Nat) (x1 : Int32) (x2 : Int32) (x3 : Int32) (H : Heap) (locs : List Loc) (ls : Array Slot), SS X t s.heap H locs → lv_has ls 4 [(0, .ref (X.2.1 144)), (1, .int x1), (2, .int x2), (3, .int x3)] → fX11_whoIsIn_4 t n4 x1 x2 x3 = some r → W p l e ({ frames := 0, cells := 0, slots := 0, locals := 0 } : Room) s m args below meth c H locs 0 0 Q (F0 m 4 ls []) := by
    intro n4
    induction n4 with
    | zero =>
      intro x1 x2 x3 H locs ls hS hl hrun
      cases (show (none : Option (Int32)) = some r from hrun)
    | succ n4 ih4 =>
      intro x1 x2 x3 H locs ls hS hl hrun
      rw [fX11_whoIsIn_4_s] at hrun
      refine lv_iload_n hx hb dX11_whoIsIn_4 rfl (lv_at hl 3 rfl) ?_
      refine lv_aload_n hx hb dX11_whoIsIn_5 rfl (lv_at hl 0 rfl) ?_
      refine gX11_81 B hS dX11_whoIsIn_6 ?_
      refine lv_icmp_ge (tgt := 38) hx hb dX11_whoIsIn_9 (by decide) (fun hc => ?_) (fun hc => ?_)
      · have hrun := ip hc hrun
        refine lv_iload_n hx hb dX11_whoIsIn_38 rfl (lv_at hl 2 rfl) ?_
        exact hret _ _ _ _ _ _ (congrArg (Option.map (fun w => (w, t))) hrun) rfl hS dX11_whoIsIn_39
      · have hrun := iq hc hrun
        refine lv_iload_n hx hb dX11_whoIsIn_12 rfl (lv_at hl 2 rfl) ?_
        refine lv_aload_n hx hb dX11_whoIsIn_13 rfl (lv_at hl 0 rfl) ?_
        refine gX11_25 B hS dX11_whoIsIn_14 ?_
        refine lv_iload_n hx hb dX11_whoIsIn_17 rfl (lv_at hl 3 rfl) ?_
        obtain ⟨hi_1005, hrun⟩ := gdE hrun
        refine xa B hS ia_150 hi_1005 dX11_whoIsIn_18 ?_
        refine lv_iload_n hx hb dX11_whoIsIn_19 rfl (lv_at hl 1 rfl) ?_
        refine lv_icmp_ne (tgt := 29) hx hb dX11_whoIsIn_20 (by decide) (fun hc => ?_) (fun hc => ?_)
        · have hrun := iq hc hrun
          refine lv_iconst (v := 0) hx hb dX11_whoIsIn_29 (by decide) ?_
          refine lv_ior hx hb dX11_whoIsIn_30 ?_
          refine lv_topi (fun x2_1006 ex => ?_)
          obtain ⟨z, ez, hrun⟩ := bsE hrun
          obtain rfl : x2_1006 = z := ex.trans ez.symm
          clear ex ez
          refine lv_istore_n (lv' := [(2, .int x2_1006), (0, .ref (X.2.1 144)), (1, .int x1), (3, .int x3)]) hx hb dX11_whoIsIn_31 rfl hl (by decide) rfl (fun ls hl => ?_)
          refine lv_iinc (v := x3 + (1 : Int32)) (k := 3) (lv' := [(3, .int (x3 + (1 : Int32))), (2, .int x2_1006), (0, .ref (X.2.1 144)), (1, .int x1)]) hx hb dX11_whoIsIn_32 hl rfl rfl (by decide) rfl (fun ls hl => ?_)
          refine lv_goto (tgt := 4) hx hb dX11_whoIsIn_35 (by decide) ?_
          exact ih4 x1 x2_1006 (x3 + (1 : Int32)) _ _ _ hS (lv_sub hl [2, 3, 1, 0] rfl) hrun
        · have hrun := ip hc hrun
          refine lv_iconst (v := 1) hx hb dX11_whoIsIn_23 (by decide) ?_
          refine lv_iload_n hx hb dX11_whoIsIn_24 rfl (lv_at hl 3 rfl) ?_
          refine lv_ishl hx hb dX11_whoIsIn_25 ?_
          refine lv_goto (tgt := 30) hx hb dX11_whoIsIn_26 (by decide) ?_
          refine lv_ior hx hb dX11_whoIsIn_30 ?_
          refine lv_topi (fun x2_1007 ex => ?_)
          obtain ⟨z, ez, hrun⟩ := bsE hrun
          obtain rfl : x2_1007 = z := ex.trans ez.symm
          clear ex ez
          refine lv_istore_n (lv' := [(2, .int x2_1007), (0, .ref (X.2.1 144)), (1, .int x1), (3, .int x3)]) hx hb dX11_whoIsIn_31 rfl hl (by decide) rfl (fun ls hl => ?_)
          refine lv_iinc (v := x3 + (1 : Int32)) (k := 3) (lv' := [(3, .int (x3 + (1 : Int32))), (2, .int x2_1007), (0, .ref (X.2.1 144)), (1, .int x1)]) hx hb dX11_whoIsIn_32 hl rfl rfl (by decide) rfl (fun ls hl => ?_)
          refine lv_goto (tgt := 4) hx hb dX11_whoIsIn_35 (by decide) ?_
          exact ih4 x1 x2_1007 (x3 + (1 : Int32)) _ _ _ hS (lv_sub hl [2, 3, 1, 0] rfl) hrun
  unfold fX11_whoIsIn at hrun
  refine lv_iconst (v := 0) hx hb dX11_whoIsIn_0 (by decide) ?_
  refine lv_istore_n (lv' := [(2, .int (0 : Int32)), (0, .ref (X.2.1 144)), (1, .int x1)]) hx hb dX11_whoIsIn_1 rfl hl (by decide) rfl (fun ls hl => ?_)
  refine lv_iconst (v := 0) hx hb dX11_whoIsIn_2 (by decide) ?_
  refine lv_istore_n (lv' := [(3, .int (0 : Int32)), (2, .int (0 : Int32)), (0, .ref (X.2.1 144)), (1, .int x1)]) hx hb dX11_whoIsIn_3 rfl hl (by decide) rfl (fun ls hl => ?_)
  exact hB4 fuelN x1 (0 : Int32) (0 : Int32) _ _ _ hS (lv_sub hl [2, 3, 1, 0] rfl) hrun
theorem mdX11_singingOnes : MD yX11_singingOnes 0 := ⟨by decide +kernel, by decide +kernel, by decide +kernel⟩
set_option maxHeartbeats 4000000 in
set_option maxRecDepth 100000 in
theorem kX11_singingOnes (l : Launch) (X : Cx) (t : St) (r : Int32) (hrun : fX11_singingOnes t = some r) : Ci l X t yX11_singingOnes cX11_singingOnes 3 .int 1 21 [.ref (X.2.1 144)] r t := by
  refine Ci_of (by decide) (Nat.le_of_ble_eq_true rfl) ?_
  intro p e s m args below meth c Q B hret hS ls hl
  have hx := B.1
  have hb := B.2.1
  have hown := B.2.2.2.1
  have hts := B.2.2.2.2.1
  have hl : lv_has ls 3 [(0, .ref (X.2.1 144))] := hl
  have hB4 : ∀ (n4 : Nat) (x1 : Int32) (x2 : Int32) (H : Heap) (locs : List Loc) (ls : Array Slot), SS X t s.heap H locs → lv_has ls 3 [(0, .ref (X.2.1 144)), (1, .int x1), (2, .int x2)] → fX11_singingOnes_4 t n4 x1 x2 = some r → W p l e ({ frames := 1, cells := 0, slots := 0, locals := 21 } : Room) s m args below meth c H locs 0 0 Q (F0 m 4 ls []) := by
    intro n4
    induction n4 with
    | zero =>
      intro x1 x2 H locs ls hS hl hrun
      cases (show (none : Option (Int32)) = some r from hrun)
    | succ n4 ih4 =>
      intro x1 x2 H locs ls hS hl hrun
      rw [fX11_singingOnes_4_s] at hrun
      refine lv_iload_n hx hb dX11_singingOnes_4 rfl (lv_at hl 2 rfl) ?_
      refine lv_aload_n hx hb dX11_singingOnes_5 rfl (lv_at hl 0 rfl) ?_
      refine gX11_81 B hS dX11_singingOnes_6 ?_
      refine lv_icmp_ge (tgt := 36) hx hb dX11_singingOnes_9 (by decide) (fun hc => ?_) (fun hc => ?_)
      · have hrun := ip hc hrun
        refine lv_iload_n hx hb dX11_singingOnes_36 rfl (lv_at hl 1 rfl) ?_
        exact hret _ _ _ _ _ _ (congrArg (Option.map (fun w => (w, t))) hrun) rfl hS dX11_singingOnes_37
      · have hrun := iq hc hrun
        refine lv_iload_n hx hb dX11_singingOnes_12 rfl (lv_at hl 1 rfl) ?_
        refine lv_aload_n hx hb dX11_singingOnes_13 rfl (lv_at hl 0 rfl) ?_
        refine lv_iload_n hx hb dX11_singingOnes_14 rfl (lv_at hl 2 rfl) ?_
        obtain ⟨r_1006, hc_1005, hrun⟩ := bdE hrun
        refine qX11_183 B hS hc_1005 hl.1 (Nat.le_of_ble_eq_true rfl) ⟨Nat.le_of_ble_eq_true rfl, Nat.le_of_ble_eq_true rfl⟩ ⟨Nat.zero_le _, Nat.zero_le _⟩ dX11_singingOnes_15 (fun H locs hS => ?_)
        refine lv_if_eq (tgt := 27) hx hb dX11_singingOnes_18 (by decide) (fun hc => ?_) (fun hc => ?_)
        · have hrun := ip hc hrun
          refine lv_iconst (v := 0) hx hb dX11_singingOnes_27 (by decide) ?_
          refine lv_ior hx hb dX11_singingOnes_28 ?_
          refine lv_topi (fun x1_1007 ex => ?_)
          obtain ⟨z, ez, hrun⟩ := bsE hrun
          obtain rfl : x1_1007 = z := ex.trans ez.symm
          clear ex ez
          refine lv_istore_n (lv' := [(1, .int x1_1007), (0, .ref (X.2.1 144)), (2, .int x2)]) hx hb dX11_singingOnes_29 rfl hl (by decide) rfl (fun ls hl => ?_)
          refine lv_iinc (v := x2 + (1 : Int32)) (k := 2) (lv' := [(2, .int (x2 + (1 : Int32))), (1, .int x1_1007), (0, .ref (X.2.1 144))]) hx hb dX11_singingOnes_30 hl rfl rfl (by decide) rfl (fun ls hl => ?_)
          refine lv_goto (tgt := 4) hx hb dX11_singingOnes_33 (by decide) ?_
          exact ih4 x1_1007 (x2 + (1 : Int32)) _ _ _ hS (lv_sub hl [2, 1, 0] rfl) hrun
        · have hrun := iq hc hrun
          refine lv_iconst (v := 1) hx hb dX11_singingOnes_21 (by decide) ?_
          refine lv_iload_n hx hb dX11_singingOnes_22 rfl (lv_at hl 2 rfl) ?_
          refine lv_ishl hx hb dX11_singingOnes_23 ?_
          refine lv_goto (tgt := 28) hx hb dX11_singingOnes_24 (by decide) ?_
          refine lv_ior hx hb dX11_singingOnes_28 ?_
          refine lv_topi (fun x1_1008 ex => ?_)
          obtain ⟨z, ez, hrun⟩ := bsE hrun
          obtain rfl : x1_1008 = z := ex.trans ez.symm
          clear ex ez
          refine lv_istore_n (lv' := [(1, .int x1_1008), (0, .ref (X.2.1 144)), (2, .int x2)]) hx hb dX11_singingOnes_29 rfl hl (by decide) rfl (fun ls hl => ?_)
          refine lv_iinc (v := x2 + (1 : Int32)) (k := 2) (lv' := [(2, .int (x2 + (1 : Int32))), (1, .int x1_1008), (0, .ref (X.2.1 144))]) hx hb dX11_singingOnes_30 hl rfl rfl (by decide) rfl (fun ls hl => ?_)
          refine lv_goto (tgt := 4) hx hb dX11_singingOnes_33 (by decide) ?_
          exact ih4 x1_1008 (x2 + (1 : Int32)) _ _ _ hS (lv_sub hl [2, 1, 0] rfl) hrun
  unfold fX11_singingOnes at hrun
  refine lv_iconst (v := 0) hx hb dX11_singingOnes_0 (by decide) ?_
  refine lv_istore_n (lv' := [(1, .int (0 : Int32)), (0, .ref (X.2.1 144))]) hx hb dX11_singingOnes_1 rfl hl (by decide) rfl (fun ls hl => ?_)
  refine lv_iconst (v := 0) hx hb dX11_singingOnes_2 (by decide) ?_
  refine lv_istore_n (lv' := [(2, .int (0 : Int32)), (1, .int (0 : Int32)), (0, .ref (X.2.1 144))]) hx hb dX11_singingOnes_3 rfl hl (by decide) rfl (fun ls hl => ?_)
  exact hB4 fuelN (0 : Int32) (0 : Int32) _ _ _ hS (lv_sub hl [2, 1, 0] rfl) hrun
theorem mdX11_voicesIn : MD yX11_voicesIn 1 := ⟨by decide +kernel, by decide +kernel, by decide +kernel⟩
section QX11_voicesIn
variable {p : Program} {l : Launch} {e : Env} {R : Room} {s : State} {m : MethodId} {args : Array Value} {below : List Frame} {meth : Method} {c : Code} {H : Heap} {locs : List Loc} {cells slots : Nat} {Q : State → Prop}
variable {cc : ByteArray} {pc : Nat} {ls : Array Slot} {rest : List Value} {X : Cx} {t : St} {H0 : Heap} {nL : Nat}
theorem qX11_191 (B : Bx p s m args c cc nL X RX11) (hS : SS X t H0 H locs) {x1 : Int32} {r : Int32} (hM : fX11_whoIsIn t x1 = some r) (hsz : ls.size = nL) (hW : (rest.map fun v => v.category).sum ≤ 8) (hR : 0 + 1 ≤ R.frames ∧ 8 + (4 + 11) + 0 ≤ R.locals) (hR2 : cells ≤ R.cells ∧ slots ≤ R.slots) (hdg : decode cc pc = .ok (.invokevirtual 191, 3)) (kk : ∀ (H1 : Heap) (locs1 : List Loc), SS X t H0 H1 locs1 → W p l e R s m args below meth c H1 locs1 cells slots Q (F0 m (pc + 3) ls (.int r :: rest))) : W p l e R s m args below meth c H locs cells slots Q (F0 m pc ls (.int x1 :: .ref (X.2.1 144) :: rest)) :=
  xVi B hS (kX11_whoIsIn l X t x1 r hM) (tw_5 120 rfl rfl) (tw_5 122 rfl rfl) (tw_0 47 rfl rfl) (tw_1 12 rfl rfl) (tw_5 123 rfl rfl) mdX11_whoIsIn (by decide) (ceX11 _) rfl rfl rfl hsz rfl hW hR hR2 hdg kk
theorem qX11_194 (B : Bx p s m args c cc nL X RX11) (hS : SS X t H0 H locs) {r : Int32} (hM : fX11_singingOnes t = some r) (hsz : ls.size = nL) (hW : (rest.map fun v => v.category).sum ≤ 8) (hR : 1 + 1 ≤ R.frames ∧ 8 + (3 + 11) + 21 ≤ R.locals) (hR2 : cells ≤ R.cells ∧ slots ≤ R.slots) (hdg : decode cc pc = .ok (.invokevirtual 194, 3)) (kk : ∀ (H1 : Heap) (locs1 : List Loc), SS X t H0 H1 locs1 → W p l e R s m args below meth c H1 locs1 cells slots Q (F0 m (pc + 3) ls (.int r :: rest))) : W p l e R s m args below meth c H locs cells slots Q (F0 m pc ls (.ref (X.2.1 144) :: rest)) :=
  xVi B hS (kX11_singingOnes l X t r hM) (tw_5 37 rfl rfl) (tw_5 39 rfl rfl) (tw_0 30 rfl rfl) (tw_1 12 rfl rfl) (tw_5 40 rfl rfl) mdX11_singingOnes (by decide) (ceX11 _) rfl rfl rfl hsz rfl hW hR hR2 hdg kk
theorem qX11_197 (B : Bx p s m args c cc nL X RX11) (hS : SS X t H0 H locs) {x0 : Int32} {r : Int32} (hM : fX11_bits t x0 = some r) (hsz : ls.size = nL) (hW : (rest.map fun v => v.category).sum ≤ 8) (hR : 0 + 1 ≤ R.frames ∧ 8 + (3 + 11) + 0 ≤ R.locals) (hR2 : cells ≤ R.cells ∧ slots ≤ R.slots) (hdg : decode cc pc = .ok (.invokestatic 197, 3)) (kk : ∀ (H1 : Heap) (locs1 : List Loc), SS X t H0 H1 locs1 → W p l e R s m args below meth c H1 locs1 cells slots Q (F0 m (pc + 3) ls (.int r :: rest))) : W p l e R s m args below meth c H locs cells slots Q (F0 m pc ls (.int x0 :: rest)) :=
  xSi B hS (kX11_bits l X t x0 r hM) (tw_5 76 rfl rfl) (tw_5 77 rfl rfl) (tw_1 12 rfl rfl) (tw_5 78 rfl rfl) mdX11_bits rfl hsz rfl hW hR hR2 hdg kk
end QX11_voicesIn
set_option maxHeartbeats 4000000 in
set_option maxRecDepth 100000 in
theorem kX11_voicesIn (l : Launch) (X : Cx) (t : St) (x1 : Int32) (r : Int32) (hrun : fX11_voicesIn t x1 = some r) : Ci l X t yX11_voicesIn cX11_voicesIn 2 .int 2 43 [.ref (X.2.1 144), .int x1] r t := by
  refine Ci_of (by decide) (Nat.le_of_ble_eq_true rfl) ?_
  intro p e s m args below meth c Q B hret hS ls hl
  have hx := B.1
  have hb := B.2.1
  have hown := B.2.2.2.1
  have hts := B.2.2.2.2.1
  have hl : lv_has ls 2 [(0, .ref (X.2.1 144)), (1, .int x1)] := hl
  unfold fX11_voicesIn at hrun
  refine lv_aload_n hx hb dX11_voicesIn_0 rfl (lv_at hl 0 rfl) ?_
  refine lv_iload_n hx hb dX11_voicesIn_1 rfl (lv_at hl 1 rfl) ?_
  obtain ⟨r_2, hc_1, hrun⟩ := bdE hrun
  refine qX11_191 B hS hc_1 hl.1 (Nat.le_of_ble_eq_true rfl) ⟨Nat.le_of_ble_eq_true rfl, Nat.le_of_ble_eq_true rfl⟩ ⟨Nat.zero_le _, Nat.zero_le _⟩ dX11_voicesIn_2 (fun H locs hS => ?_)
  refine lv_aload_n hx hb dX11_voicesIn_5 rfl (lv_at hl 0 rfl) ?_
  obtain ⟨r_4, hc_3, hrun⟩ := bdE hrun
  refine qX11_194 B hS hc_3 hl.1 (Nat.le_of_ble_eq_true rfl) ⟨Nat.le_of_ble_eq_true rfl, Nat.le_of_ble_eq_true rfl⟩ ⟨Nat.zero_le _, Nat.zero_le _⟩ dX11_voicesIn_6 (fun H locs hS => ?_)
  refine lv_iand hx hb dX11_voicesIn_9 ?_
  obtain ⟨r_6, hc_5, hrun⟩ := bdE hrun
  refine qX11_197 B hS hc_5 hl.1 (Nat.le_of_ble_eq_true rfl) ⟨Nat.le_of_ble_eq_true rfl, Nat.le_of_ble_eq_true rfl⟩ ⟨Nat.zero_le _, Nat.zero_le _⟩ dX11_voicesIn_10 (fun H locs hS => ?_)
  exact hret _ _ _ _ _ _ (congrArg (Option.map (fun w => (w, t))) hrun) rfl hS dX11_voicesIn_13
theorem mdX11_owedIn : MD yX11_owedIn 1 := ⟨by decide +kernel, by decide +kernel, by decide +kernel⟩
section QX11_owedIn
variable {p : Program} {l : Launch} {e : Env} {R : Room} {s : State} {m : MethodId} {args : Array Value} {below : List Frame} {meth : Method} {c : Code} {H : Heap} {locs : List Loc} {cells slots : Nat} {Q : State → Prop}
variable {cc : ByteArray} {pc : Nat} {ls : Array Slot} {rest : List Value} {X : Cx} {t : St} {H0 : Heap} {nL : Nat}
theorem qX11_200 (B : Bx p s m args c cc nL X RX11) (hS : SS X t H0 H locs) {x1 : Int32} {r : Int32} (hM : fX11_owesOf t x1 = some r) (hsz : ls.size = nL) (hW : (rest.map fun v => v.category).sum ≤ 8) (hR : 2 + 1 ≤ R.frames ∧ 8 + (2 + 11) + 48 ≤ R.locals) (hR2 : cells ≤ R.cells ∧ slots ≤ R.slots) (hdg : decode cc pc = .ok (.invokevirtual 200, 3)) (kk : ∀ (H1 : Heap) (locs1 : List Loc), SS X t H0 H1 locs1 → W p l e R s m args below meth c H1 locs1 cells slots Q (F0 m (pc + 3) ls (.int r :: rest))) : W p l e R s m args below meth c H locs cells slots Q (F0 m pc ls (.int x1 :: .ref (X.2.1 144) :: rest)) :=
  xVi B hS (kX11_owesOf l X t x1 r hM) (tw_5 49 rfl rfl) (tw_5 51 rfl rfl) (tw_0 33 rfl rfl) (tw_1 12 rfl rfl) (tw_5 52 rfl rfl) mdX11_owesOf (by decide) (ceX11 _) rfl rfl rfl hsz rfl hW hR hR2 hdg kk
end QX11_owedIn
set_option maxHeartbeats 4000000 in
set_option maxRecDepth 100000 in
theorem kX11_owedIn (l : Launch) (X : Cx) (t : St) (x1 : Int32) (r : Int32) (hrun : fX11_owedIn t x1 = some r) : Ci l X t yX11_owedIn cX11_owedIn 4 .int 3 69 [.ref (X.2.1 144), .int x1] r t := by
  refine Ci_of (by decide) (Nat.le_of_ble_eq_true rfl) ?_
  intro p e s m args below meth c Q B hret hS ls hl
  have hx := B.1
  have hb := B.2.1
  have hown := B.2.2.2.1
  have hts := B.2.2.2.2.1
  have hl : lv_has ls 4 [(0, .ref (X.2.1 144)), (1, .int x1)] := hl
  have hB4 : ∀ (n4 : Nat) (x1 : Int32) (x2 : Int32) (x3 : Int32) (H : Heap) (locs : List Loc) (ls : Array Slot), SS X t s.heap H locs → lv_has ls 4 [(0, .ref (X.2.1 144)), (1, .int x1), (2, .int x2), (3, .int x3)] → fX11_owedIn_4 t n4 x1 x2 x3 = some r → W p l e ({ frames := 3, cells := 0, slots := 0, locals := 69 } : Room) s m args below meth c H locs 0 0 Q (F0 m 4 ls []) := by
    intro n4
    induction n4 with
    | zero =>
      intro x1 x2 x3 H locs ls hS hl hrun
      cases (show (none : Option (Int32)) = some r from hrun)
    | succ n4 ih4 =>
      intro x1 x2 x3 H locs ls hS hl hrun
      rw [fX11_owedIn_4_s] at hrun
      refine lv_iload_n hx hb dX11_owedIn_4 rfl (lv_at hl 3 rfl) ?_
      refine lv_aload_n hx hb dX11_owedIn_5 rfl (lv_at hl 0 rfl) ?_
      refine gX11_81 B hS dX11_owedIn_6 ?_
      refine lv_icmp_ge (tgt := 40) hx hb dX11_owedIn_9 (by decide) (fun hc => ?_) (fun hc => ?_)
      · have hrun := ip hc hrun
        refine lv_iload_n hx hb dX11_owedIn_40 rfl (lv_at hl 2 rfl) ?_
        exact hret _ _ _ _ _ _ (congrArg (Option.map (fun w => (w, t))) hrun) rfl hS dX11_owedIn_41
      · have hrun := iq hc hrun
        refine lv_iload_n hx hb dX11_owedIn_12 rfl (lv_at hl 2 rfl) ?_
        refine lv_aload_n hx hb dX11_owedIn_13 rfl (lv_at hl 0 rfl) ?_
        refine gX11_25 B hS dX11_owedIn_14 ?_
        refine lv_iload_n hx hb dX11_owedIn_17 rfl (lv_at hl 3 rfl) ?_
        obtain ⟨hi_1005, hrun⟩ := gdE hrun
        refine xa B hS ia_150 hi_1005 dX11_owedIn_18 ?_
        refine lv_iload_n hx hb dX11_owedIn_19 rfl (lv_at hl 1 rfl) ?_
        refine lv_icmp_ne (tgt := 31) hx hb dX11_owedIn_20 (by decide) (fun hc => ?_) (fun hc => ?_)
        · have hrun := iq hc hrun
          refine lv_iconst (v := 0) hx hb dX11_owedIn_31 (by decide) ?_
          refine lv_iadd hx hb dX11_owedIn_32 ?_
          refine lv_topi (fun x2_1006 ex => ?_)
          obtain ⟨z, ez, hrun⟩ := bsE hrun
          obtain rfl : x2_1006 = z := ex.trans ez.symm
          clear ex ez
          refine lv_istore_n (lv' := [(2, .int x2_1006), (0, .ref (X.2.1 144)), (1, .int x1), (3, .int x3)]) hx hb dX11_owedIn_33 rfl hl (by decide) rfl (fun ls hl => ?_)
          refine lv_iinc (v := x3 + (1 : Int32)) (k := 3) (lv' := [(3, .int (x3 + (1 : Int32))), (2, .int x2_1006), (0, .ref (X.2.1 144)), (1, .int x1)]) hx hb dX11_owedIn_34 hl rfl rfl (by decide) rfl (fun ls hl => ?_)
          refine lv_goto (tgt := 4) hx hb dX11_owedIn_37 (by decide) ?_
          exact ih4 x1 x2_1006 (x3 + (1 : Int32)) _ _ _ hS (lv_sub hl [2, 3, 1, 0] rfl) hrun
        · have hrun := ip hc hrun
          refine lv_aload_n hx hb dX11_owedIn_23 rfl (lv_at hl 0 rfl) ?_
          refine lv_iload_n hx hb dX11_owedIn_24 rfl (lv_at hl 3 rfl) ?_
          obtain ⟨r_1008, hc_1007, hrun⟩ := bdE hrun
          refine qX11_200 B hS hc_1007 hl.1 (Nat.le_of_ble_eq_true rfl) ⟨Nat.le_of_ble_eq_true rfl, Nat.le_of_ble_eq_true rfl⟩ ⟨Nat.zero_le _, Nat.zero_le _⟩ dX11_owedIn_25 (fun H locs hS => ?_)
          refine lv_goto (tgt := 32) hx hb dX11_owedIn_28 (by decide) ?_
          refine lv_iadd hx hb dX11_owedIn_32 ?_
          refine lv_topi (fun x2_1009 ex => ?_)
          obtain ⟨z, ez, hrun⟩ := bsE hrun
          obtain rfl : x2_1009 = z := ex.trans ez.symm
          clear ex ez
          refine lv_istore_n (lv' := [(2, .int x2_1009), (0, .ref (X.2.1 144)), (1, .int x1), (3, .int x3)]) hx hb dX11_owedIn_33 rfl hl (by decide) rfl (fun ls hl => ?_)
          refine lv_iinc (v := x3 + (1 : Int32)) (k := 3) (lv' := [(3, .int (x3 + (1 : Int32))), (2, .int x2_1009), (0, .ref (X.2.1 144)), (1, .int x1)]) hx hb dX11_owedIn_34 hl rfl rfl (by decide) rfl (fun ls hl => ?_)
          refine lv_goto (tgt := 4) hx hb dX11_owedIn_37 (by decide) ?_
          exact ih4 x1 x2_1009 (x3 + (1 : Int32)) _ _ _ hS (lv_sub hl [2, 3, 1, 0] rfl) hrun
  unfold fX11_owedIn at hrun
  refine lv_iconst (v := 0) hx hb dX11_owedIn_0 (by decide) ?_
  refine lv_istore_n (lv' := [(2, .int (0 : Int32)), (0, .ref (X.2.1 144)), (1, .int x1)]) hx hb dX11_owedIn_1 rfl hl (by decide) rfl (fun ls hl => ?_)
  refine lv_iconst (v := 0) hx hb dX11_owedIn_2 (by decide) ?_
  refine lv_istore_n (lv' := [(3, .int (0 : Int32)), (2, .int (0 : Int32)), (0, .ref (X.2.1 144)), (1, .int x1)]) hx hb dX11_owedIn_3 rfl hl (by decide) rfl (fun ls hl => ?_)
  exact hB4 fuelN x1 (0 : Int32) (0 : Int32) _ _ _ hS (lv_sub hl [2, 3, 1, 0] rfl) hrun
theorem mdX11_owedByAll : MD yX11_owedByAll 0 := ⟨by decide +kernel, by decide +kernel, by decide +kernel⟩
set_option maxHeartbeats 4000000 in
set_option maxRecDepth 100000 in
theorem kX11_owedByAll (l : Launch) (X : Cx) (t : St) (r : Int32) (hrun : fX11_owedByAll t = some r) : Ci l X t yX11_owedByAll cX11_owedByAll 3 .int 3 69 [.ref (X.2.1 144)] r t := by
  refine Ci_of (by decide) (Nat.le_of_ble_eq_true rfl) ?_
  intro p e s m args below meth c Q B hret hS ls hl
  have hx := B.1
  have hb := B.2.1
  have hown := B.2.2.2.1
  have hts := B.2.2.2.2.1
  have hl : lv_has ls 3 [(0, .ref (X.2.1 144))] := hl
  have hB4 : ∀ (n4 : Nat) (x1 : Int32) (x2 : Int32) (H : Heap) (locs : List Loc) (ls : Array Slot), SS X t s.heap H locs → lv_has ls 3 [(0, .ref (X.2.1 144)), (1, .int x1), (2, .int x2)] → fX11_owedByAll_4 t n4 x1 x2 = some r → W p l e ({ frames := 3, cells := 0, slots := 0, locals := 69 } : Room) s m args below meth c H locs 0 0 Q (F0 m 4 ls []) := by
    intro n4
    induction n4 with
    | zero =>
      intro x1 x2 H locs ls hS hl hrun
      cases (show (none : Option (Int32)) = some r from hrun)
    | succ n4 ih4 =>
      intro x1 x2 H locs ls hS hl hrun
      rw [fX11_owedByAll_4_s] at hrun
      refine lv_iload_n hx hb dX11_owedByAll_4 rfl (lv_at hl 2 rfl) ?_
      refine lv_aload_n hx hb dX11_owedByAll_5 rfl (lv_at hl 0 rfl) ?_
      refine gX11_81 B hS dX11_owedByAll_6 ?_
      refine lv_icmp_ge (tgt := 26) hx hb dX11_owedByAll_9 (by decide) (fun hc => ?_) (fun hc => ?_)
      · have hrun := ip hc hrun
        refine lv_iload_n hx hb dX11_owedByAll_26 rfl (lv_at hl 1 rfl) ?_
        exact hret _ _ _ _ _ _ (congrArg (Option.map (fun w => (w, t))) hrun) rfl hS dX11_owedByAll_27
      · have hrun := iq hc hrun
        refine lv_iload_n hx hb dX11_owedByAll_12 rfl (lv_at hl 1 rfl) ?_
        refine lv_aload_n hx hb dX11_owedByAll_13 rfl (lv_at hl 0 rfl) ?_
        refine lv_iload_n hx hb dX11_owedByAll_14 rfl (lv_at hl 2 rfl) ?_
        obtain ⟨r_1006, hc_1005, hrun⟩ := bdE hrun
        refine qX11_200 B hS hc_1005 hl.1 (Nat.le_of_ble_eq_true rfl) ⟨Nat.le_of_ble_eq_true rfl, Nat.le_of_ble_eq_true rfl⟩ ⟨Nat.zero_le _, Nat.zero_le _⟩ dX11_owedByAll_15 (fun H locs hS => ?_)
        refine lv_iadd hx hb dX11_owedByAll_18 ?_
        refine lv_topi (fun x1_1007 ex => ?_)
        obtain ⟨z, ez, hrun⟩ := bsE hrun
        obtain rfl : x1_1007 = z := ex.trans ez.symm
        clear ex ez
        refine lv_istore_n (lv' := [(1, .int x1_1007), (0, .ref (X.2.1 144)), (2, .int x2)]) hx hb dX11_owedByAll_19 rfl hl (by decide) rfl (fun ls hl => ?_)
        refine lv_iinc (v := x2 + (1 : Int32)) (k := 2) (lv' := [(2, .int (x2 + (1 : Int32))), (1, .int x1_1007), (0, .ref (X.2.1 144))]) hx hb dX11_owedByAll_20 hl rfl rfl (by decide) rfl (fun ls hl => ?_)
        refine lv_goto (tgt := 4) hx hb dX11_owedByAll_23 (by decide) ?_
        exact ih4 x1_1007 (x2 + (1 : Int32)) _ _ _ hS (lv_sub hl [2, 1, 0] rfl) hrun
  unfold fX11_owedByAll at hrun
  refine lv_iconst (v := 0) hx hb dX11_owedByAll_0 (by decide) ?_
  refine lv_istore_n (lv' := [(1, .int (0 : Int32)), (0, .ref (X.2.1 144))]) hx hb dX11_owedByAll_1 rfl hl (by decide) rfl (fun ls hl => ?_)
  refine lv_iconst (v := 0) hx hb dX11_owedByAll_2 (by decide) ?_
  refine lv_istore_n (lv' := [(2, .int (0 : Int32)), (1, .int (0 : Int32)), (0, .ref (X.2.1 144))]) hx hb dX11_owedByAll_3 rfl hl (by decide) rfl (fun ls hl => ?_)
  exact hB4 fuelN (0 : Int32) (0 : Int32) _ _ _ hS (lv_sub hl [2, 1, 0] rfl) hrun
theorem mdX11_owedBy : MD yX11_owedBy 2 := ⟨by decide +kernel, by decide +kernel, by decide +kernel⟩
section QX11_owedBy
variable {p : Program} {l : Launch} {e : Env} {R : Room} {s : State} {m : MethodId} {args : Array Value} {below : List Frame} {meth : Method} {c : Code} {H : Heap} {locs : List Loc} {cells slots : Nat} {Q : State → Prop}
variable {cc : ByteArray} {pc : Nat} {ls : Array Slot} {rest : List Value} {X : Cx} {t : St} {H0 : Heap} {nL : Nat}
theorem qX11_203 (B : Bx p s m args c cc nL X RX11) (hS : SS X t H0 H locs) {x0 : Int32} {x1 : Int32} {r : Int32} (hM : fX11_has t x0 x1 = some r) (hsz : ls.size = nL) (hW : (rest.map fun v => v.category).sum ≤ 8) (hR : 0 + 1 ≤ R.frames ∧ 8 + (2 + 11) + 0 ≤ R.locals) (hR2 : cells ≤ R.cells ∧ slots ≤ R.slots) (hdg : decode cc pc = .ok (.invokestatic 203, 3)) (kk : ∀ (H1 : Heap) (locs1 : List Loc), SS X t H0 H1 locs1 → W p l e R s m args below meth c H1 locs1 cells slots Q (F0 m (pc + 3) ls (.int r :: rest))) : W p l e R s m args below meth c H locs cells slots Q (F0 m pc ls (.int x1 :: .int x0 :: rest)) :=
  xSi B hS (kX11_has l X t x0 x1 r hM) (tw_5 73 rfl rfl) (tw_5 74 rfl rfl) (tw_1 12 rfl rfl) (tw_5 75 rfl rfl) mdX11_has rfl hsz rfl hW hR hR2 hdg kk
end QX11_owedBy
set_option maxHeartbeats 4000000 in
set_option maxRecDepth 100000 in
theorem kX11_owedBy (l : Launch) (X : Cx) (t : St) (x1 : Int32) (x2 : Int32) (r : Int32) (hrun : fX11_owedBy t x1 x2 = some r) : Ci l X t yX11_owedBy cX11_owedBy 6 .int 2 48 [.ref (X.2.1 144), .int x1, .int x2] r t := by
  refine Ci_of (by decide) (Nat.le_of_ble_eq_true rfl) ?_
  intro p e s m args below meth c Q B hret hS ls hl
  have hx := B.1
  have hb := B.2.1
  have hown := B.2.2.2.1
  have hts := B.2.2.2.2.1
  have hl : lv_has ls 6 [(0, .ref (X.2.1 144)), (1, .int x1), (2, .int x2)] := hl
  have hB8 : ∀ (n8 : Nat) (x1 : Int32) (x2 : Int32) (x3 : Int32) (x4 : Int32) (x5 : Int32) (H : Heap) (locs : List Loc) (ls : Array Slot), SS X t s.heap H locs → lv_has ls 6 [(0, .ref (X.2.1 144)), (1, .int x1), (2, .int x2), (3, .int x3), (4, .int x4), (5, .int x5)] → fX11_owedBy_8 t n8 x1 x2 x3 x4 x5 = some r → W p l e ({ frames := 2, cells := 0, slots := 0, locals := 48 } : Room) s m args below meth c H locs 0 0 Q (F0 m 8 ls []) := by
    intro n8
    induction n8 with
    | zero =>
      intro x1 x2 x3 x4 x5 H locs ls hS hl hrun
      cases (show (none : Option (Int32)) = some r from hrun)
    | succ n8 ih8 =>
      intro x1 x2 x3 x4 x5 H locs ls hS hl hrun
      rw [fX11_owedBy_8_s] at hrun
      refine lv_iload hx hb dX11_owedBy_8 (lv_at hl 5 rfl) ?_
      refine lv_aload_n hx hb dX11_owedBy_10 rfl (lv_at hl 0 rfl) ?_
      refine gX11_81 B hS dX11_owedBy_11 ?_
      refine lv_icmp_ge (tgt := 54) hx hb dX11_owedBy_14 (by decide) (fun hc => ?_) (fun hc => ?_)
      · have hrun := ip hc hrun
        refine lv_iload_n hx hb dX11_owedBy_54 rfl (lv_at hl 3 rfl) ?_
        exact hret _ _ _ _ _ _ (congrArg (Option.map (fun w => (w, t))) hrun) rfl hS dX11_owedBy_55
      · have hrun := iq hc hrun
        refine lv_iload_n hx hb dX11_owedBy_17 rfl (lv_at hl 1 rfl) ?_
        refine lv_iload hx hb dX11_owedBy_18 (lv_at hl 5 rfl) ?_
        obtain ⟨r_1010, hc_1009, hrun⟩ := bdE hrun
        refine qX11_203 B hS hc_1009 hl.1 (Nat.le_of_ble_eq_true rfl) ⟨Nat.le_of_ble_eq_true rfl, Nat.le_of_ble_eq_true rfl⟩ ⟨Nat.zero_le _, Nat.zero_le _⟩ dX11_owedBy_20 (fun H locs hS => ?_)
        refine lv_if_eq (tgt := 48) hx hb dX11_owedBy_23 (by decide) (fun hc => ?_) (fun hc => ?_)
        · have hrun := ip hc hrun
          refine lv_iinc (v := x5 + (1 : Int32)) (k := 5) (lv' := [(5, .int (x5 + (1 : Int32))), (0, .ref (X.2.1 144)), (1, .int x1), (2, .int x2), (3, .int x3), (4, .int x4)]) hx hb dX11_owedBy_48 hl rfl rfl (by decide) rfl (fun ls hl => ?_)
          refine lv_goto (tgt := 8) hx hb dX11_owedBy_51 (by decide) ?_
          exact ih8 x1 x2 x3 x4 (x5 + (1 : Int32)) _ _ _ hS (lv_sub hl [1, 2, 3, 4, 5, 0] rfl) hrun
        · have hrun := iq hc hrun
          refine lv_iload_n hx hb dX11_owedBy_26 rfl (lv_at hl 3 rfl) ?_
          refine lv_aload_n hx hb dX11_owedBy_27 rfl (lv_at hl 0 rfl) ?_
          refine lv_iload hx hb dX11_owedBy_28 (lv_at hl 5 rfl) ?_
          refine lv_iload_n hx hb dX11_owedBy_30 rfl (lv_at hl 2 rfl) ?_
          refine lv_iload hx hb dX11_owedBy_31 (lv_at hl 4 rfl) ?_
          refine lv_aload_n hx hb dX11_owedBy_33 rfl (lv_at hl 0 rfl) ?_
          refine gX11_25 B hS dX11_owedBy_34 ?_
          refine lv_bipush (v := 25) hx hb dX11_owedBy_37 (by decide) ?_
          refine xa B hS ia_150 (by unfold vp_in; decide) dX11_owedBy_39 ?_
          obtain ⟨r_1012, hc_1011, hrun⟩ := bdE hrun
          refine qX11_187 B hS hc_1011 hl.1 (Nat.le_of_ble_eq_true rfl) ⟨Nat.le_of_ble_eq_true rfl, Nat.le_of_ble_eq_true rfl⟩ ⟨Nat.zero_le _, Nat.zero_le _⟩ dX11_owedBy_40 (fun H locs hS => ?_)
          refine lv_iadd hx hb dX11_owedBy_43 ?_
          refine lv_topi (fun x3_1013 ex => ?_)
          obtain ⟨z, ez, hrun⟩ := bsE hrun
          obtain rfl : x3_1013 = z := ex.trans ez.symm
          clear ex ez
          refine lv_istore_n (lv' := [(3, .int x3_1013), (0, .ref (X.2.1 144)), (1, .int x1), (2, .int x2), (4, .int x4), (5, .int x5)]) hx hb dX11_owedBy_44 rfl hl (by decide) rfl (fun ls hl => ?_)
          refine lv_iinc (v := x4 + (1 : Int32)) (k := 4) (lv' := [(4, .int (x4 + (1 : Int32))), (3, .int x3_1013), (0, .ref (X.2.1 144)), (1, .int x1), (2, .int x2), (5, .int x5)]) hx hb dX11_owedBy_45 hl rfl rfl (by decide) rfl (fun ls hl => ?_)
          refine lv_iinc (v := x5 + (1 : Int32)) (k := 5) (lv' := [(5, .int (x5 + (1 : Int32))), (4, .int (x4 + (1 : Int32))), (3, .int x3_1013), (0, .ref (X.2.1 144)), (1, .int x1), (2, .int x2)]) hx hb dX11_owedBy_48 hl rfl rfl (by decide) rfl (fun ls hl => ?_)
          refine lv_goto (tgt := 8) hx hb dX11_owedBy_51 (by decide) ?_
          exact ih8 x1 x2 x3_1013 (x4 + (1 : Int32)) (x5 + (1 : Int32)) _ _ _ hS (lv_sub hl [3, 4, 5, 2, 1, 0] rfl) hrun
  unfold fX11_owedBy at hrun
  refine lv_iconst (v := 0) hx hb dX11_owedBy_0 (by decide) ?_
  refine lv_istore_n (lv' := [(3, .int (0 : Int32)), (0, .ref (X.2.1 144)), (1, .int x1), (2, .int x2)]) hx hb dX11_owedBy_1 rfl hl (by decide) rfl (fun ls hl => ?_)
  refine lv_iconst (v := 0) hx hb dX11_owedBy_2 (by decide) ?_
  refine lv_istore (lv' := [(4, .int (0 : Int32)), (3, .int (0 : Int32)), (0, .ref (X.2.1 144)), (1, .int x1), (2, .int x2)]) hx hb dX11_owedBy_3 hl (by decide) rfl (fun ls hl => ?_)
  refine lv_iconst (v := 0) hx hb dX11_owedBy_5 (by decide) ?_
  refine lv_istore (lv' := [(5, .int (0 : Int32)), (4, .int (0 : Int32)), (3, .int (0 : Int32)), (0, .ref (X.2.1 144)), (1, .int x1), (2, .int x2)]) hx hb dX11_owedBy_6 hl (by decide) rfl (fun ls hl => ?_)
  exact hB8 fuelN x1 x2 (0 : Int32) (0 : Int32) (0 : Int32) _ _ _ hS (lv_sub hl [3, 4, 5, 2, 1, 0] rfl) hrun
theorem mdX11_deafPlaces : MD yX11_deafPlaces 0 := ⟨by decide +kernel, by decide +kernel, by decide +kernel⟩
set_option maxHeartbeats 4000000 in
set_option maxRecDepth 100000 in
theorem kX11_deafPlaces (l : Launch) (X : Cx) (t : St) (r : Int32) (hrun : fX11_deafPlaces t = some r) : Ci l X t yX11_deafPlaces cX11_deafPlaces 3 .int 1 23 [.ref (X.2.1 144)] r t := by
  refine Ci_of (by decide) (Nat.le_of_ble_eq_true rfl) ?_
  intro p e s m args below meth c Q B hret hS ls hl
  have hx := B.1
  have hb := B.2.1
  have hown := B.2.2.2.1
  have hts := B.2.2.2.2.1
  have hl : lv_has ls 3 [(0, .ref (X.2.1 144))] := hl
  have hB4 : ∀ (n4 : Nat) (x1 : Int32) (x2 : Int32) (H : Heap) (locs : List Loc) (ls : Array Slot), SS X t s.heap H locs → lv_has ls 3 [(0, .ref (X.2.1 144)), (1, .int x1), (2, .int x2)] → fX11_deafPlaces_4 t n4 x1 x2 = some r → W p l e ({ frames := 1, cells := 0, slots := 0, locals := 23 } : Room) s m args below meth c H locs 0 0 Q (F0 m 4 ls []) := by
    intro n4
    induction n4 with
    | zero =>
      intro x1 x2 H locs ls hS hl hrun
      cases (show (none : Option (Int32)) = some r from hrun)
    | succ n4 ih4 =>
      intro x1 x2 H locs ls hS hl hrun
      rw [fX11_deafPlaces_4_s] at hrun
      refine lv_iload_n hx hb dX11_deafPlaces_4 rfl (lv_at hl 2 rfl) ?_
      refine lv_aload_n hx hb dX11_deafPlaces_5 rfl (lv_at hl 0 rfl) ?_
      refine gX11_88 B hS dX11_deafPlaces_6 ?_
      refine lv_icmp_ge (tgt := 36) hx hb dX11_deafPlaces_9 (by decide) (fun hc => ?_) (fun hc => ?_)
      · have hrun := ip hc hrun
        refine lv_iload_n hx hb dX11_deafPlaces_36 rfl (lv_at hl 1 rfl) ?_
        exact hret _ _ _ _ _ _ (congrArg (Option.map (fun w => (w, t))) hrun) rfl hS dX11_deafPlaces_37
      · have hrun := iq hc hrun
        refine lv_iload_n hx hb dX11_deafPlaces_12 rfl (lv_at hl 1 rfl) ?_
        refine lv_aload_n hx hb dX11_deafPlaces_13 rfl (lv_at hl 0 rfl) ?_
        refine lv_iload_n hx hb dX11_deafPlaces_14 rfl (lv_at hl 2 rfl) ?_
        obtain ⟨r_1006, hc_1005, hrun⟩ := bdE hrun
        refine qX11_179 B hS hc_1005 hl.1 (Nat.le_of_ble_eq_true rfl) ⟨Nat.le_of_ble_eq_true rfl, Nat.le_of_ble_eq_true rfl⟩ ⟨Nat.zero_le _, Nat.zero_le _⟩ dX11_deafPlaces_15 (fun H locs hS => ?_)
        refine lv_if_ne (tgt := 27) hx hb dX11_deafPlaces_18 (by decide) (fun hc => ?_) (fun hc => ?_)
        · have hrun := iq hc hrun
          refine lv_iconst (v := 0) hx hb dX11_deafPlaces_27 (by decide) ?_
          refine lv_ior hx hb dX11_deafPlaces_28 ?_
          refine lv_topi (fun x1_1007 ex => ?_)
          obtain ⟨z, ez, hrun⟩ := bsE hrun
          obtain rfl : x1_1007 = z := ex.trans ez.symm
          clear ex ez
          refine lv_istore_n (lv' := [(1, .int x1_1007), (0, .ref (X.2.1 144)), (2, .int x2)]) hx hb dX11_deafPlaces_29 rfl hl (by decide) rfl (fun ls hl => ?_)
          refine lv_iinc (v := x2 + (1 : Int32)) (k := 2) (lv' := [(2, .int (x2 + (1 : Int32))), (1, .int x1_1007), (0, .ref (X.2.1 144))]) hx hb dX11_deafPlaces_30 hl rfl rfl (by decide) rfl (fun ls hl => ?_)
          refine lv_goto (tgt := 4) hx hb dX11_deafPlaces_33 (by decide) ?_
          exact ih4 x1_1007 (x2 + (1 : Int32)) _ _ _ hS (lv_sub hl [2, 1, 0] rfl) hrun
        · have hrun := ip hc hrun
          refine lv_iconst (v := 1) hx hb dX11_deafPlaces_21 (by decide) ?_
          refine lv_iload_n hx hb dX11_deafPlaces_22 rfl (lv_at hl 2 rfl) ?_
          refine lv_ishl hx hb dX11_deafPlaces_23 ?_
          refine lv_goto (tgt := 28) hx hb dX11_deafPlaces_24 (by decide) ?_
          refine lv_ior hx hb dX11_deafPlaces_28 ?_
          refine lv_topi (fun x1_1008 ex => ?_)
          obtain ⟨z, ez, hrun⟩ := bsE hrun
          obtain rfl : x1_1008 = z := ex.trans ez.symm
          clear ex ez
          refine lv_istore_n (lv' := [(1, .int x1_1008), (0, .ref (X.2.1 144)), (2, .int x2)]) hx hb dX11_deafPlaces_29 rfl hl (by decide) rfl (fun ls hl => ?_)
          refine lv_iinc (v := x2 + (1 : Int32)) (k := 2) (lv' := [(2, .int (x2 + (1 : Int32))), (1, .int x1_1008), (0, .ref (X.2.1 144))]) hx hb dX11_deafPlaces_30 hl rfl rfl (by decide) rfl (fun ls hl => ?_)
          refine lv_goto (tgt := 4) hx hb dX11_deafPlaces_33 (by decide) ?_
          exact ih4 x1_1008 (x2 + (1 : Int32)) _ _ _ hS (lv_sub hl [2, 1, 0] rfl) hrun
  unfold fX11_deafPlaces at hrun
  refine lv_iconst (v := 0) hx hb dX11_deafPlaces_0 (by decide) ?_
  refine lv_istore_n (lv' := [(1, .int (0 : Int32)), (0, .ref (X.2.1 144))]) hx hb dX11_deafPlaces_1 rfl hl (by decide) rfl (fun ls hl => ?_)
  refine lv_iconst (v := 0) hx hb dX11_deafPlaces_2 (by decide) ?_
  refine lv_istore_n (lv' := [(2, .int (0 : Int32)), (1, .int (0 : Int32)), (0, .ref (X.2.1 144))]) hx hb dX11_deafPlaces_3 rfl hl (by decide) rfl (fun ls hl => ?_)
  exact hB4 fuelN (0 : Int32) (0 : Int32) _ _ _ hS (lv_sub hl [2, 1, 0] rfl) hrun
theorem mdX11_richest : MD yX11_richest 0 := ⟨by decide +kernel, by decide +kernel, by decide +kernel⟩
set_option maxHeartbeats 4000000 in
set_option maxRecDepth 100000 in
theorem kX11_richest (l : Launch) (X : Cx) (t : St) (r : Int32) (hrun : fX11_richest t = some r) : Ci l X t yX11_richest cX11_richest 3 .int 0 0 [.ref (X.2.1 144)] r t := by
  refine Ci_of (by decide) (Nat.le_of_ble_eq_true rfl) ?_
  intro p e s m args below meth c Q B hret hS ls hl
  have hx := B.1
  have hb := B.2.1
  have hown := B.2.2.2.1
  have hts := B.2.2.2.2.1
  have hl : lv_has ls 3 [(0, .ref (X.2.1 144))] := hl
  have hB4 : ∀ (n4 : Nat) (x1 : Int32) (x2 : Int32) (H : Heap) (locs : List Loc) (ls : Array Slot), SS X t s.heap H locs → lv_has ls 3 [(0, .ref (X.2.1 144)), (1, .int x1), (2, .int x2)] → fX11_richest_4 t n4 x1 x2 = some r → W p l e ({ frames := 0, cells := 0, slots := 0, locals := 0 } : Room) s m args below meth c H locs 0 0 Q (F0 m 4 ls []) := by
    intro n4
    induction n4 with
    | zero =>
      intro x1 x2 H locs ls hS hl hrun
      cases (show (none : Option (Int32)) = some r from hrun)
    | succ n4 ih4 =>
      intro x1 x2 H locs ls hS hl hrun
      rw [fX11_richest_4_s] at hrun
      refine lv_iload_n hx hb dX11_richest_4 rfl (lv_at hl 2 rfl) ?_
      refine lv_aload_n hx hb dX11_richest_5 rfl (lv_at hl 0 rfl) ?_
      refine gX11_81 B hS dX11_richest_6 ?_
      refine lv_icmp_ge (tgt := 49) hx hb dX11_richest_9 (by decide) (fun hc => ?_) (fun hc => ?_)
      · have hrun := ip hc hrun
        refine lv_iload_n hx hb dX11_richest_49 rfl (lv_at hl 1 rfl) ?_
        exact hret _ _ _ _ _ _ (congrArg (Option.map (fun w => (w, t))) hrun) rfl hS dX11_richest_50
      · have hrun := iq hc hrun
        refine lv_iload_n hx hb dX11_richest_12 rfl (lv_at hl 1 rfl) ?_
        refine lv_if_lt (tgt := 37) hx hb dX11_richest_13 (by decide) (fun hc => ?_) (fun hc => ?_)
        · have hrun := ip hc hrun
          refine lv_iload_n hx hb dX11_richest_37 rfl (lv_at hl 2 rfl) ?_
          refine lv_goto (tgt := 42) hx hb dX11_richest_38 (by decide) ?_
          refine lv_istore_n (lv' := [(1, .int x2), (0, .ref (X.2.1 144)), (2, .int x2)]) hx hb dX11_richest_42 rfl hl (by decide) rfl (fun ls hl => ?_)
          refine lv_iinc (v := x2 + (1 : Int32)) (k := 2) (lv' := [(2, .int (x2 + (1 : Int32))), (1, .int x2), (0, .ref (X.2.1 144))]) hx hb dX11_richest_43 hl rfl rfl (by decide) rfl (fun ls hl => ?_)
          refine lv_goto (tgt := 4) hx hb dX11_richest_46 (by decide) ?_
          exact ih4 x2 (x2 + (1 : Int32)) _ _ _ hS (lv_sub hl [2, 1, 0] rfl) hrun
        · have hrun := iq hc hrun
          refine lv_aload_n hx hb dX11_richest_16 rfl (lv_at hl 0 rfl) ?_
          refine gX11_25 B hS dX11_richest_17 ?_
          refine lv_bipush (v := 7) hx hb dX11_richest_20 (by decide) ?_
          refine lv_iload_n hx hb dX11_richest_22 rfl (lv_at hl 2 rfl) ?_
          refine lv_iadd hx hb dX11_richest_23 ?_
          obtain ⟨hi_1005, hrun⟩ := gdE hrun
          refine xa B hS ia_150 hi_1005 dX11_richest_24 ?_
          refine lv_aload_n hx hb dX11_richest_25 rfl (lv_at hl 0 rfl) ?_
          refine gX11_25 B hS dX11_richest_26 ?_
          refine lv_bipush (v := 7) hx hb dX11_richest_29 (by decide) ?_
          refine lv_iload_n hx hb dX11_richest_31 rfl (lv_at hl 1 rfl) ?_
          refine lv_iadd hx hb dX11_richest_32 ?_
          obtain ⟨hi_1006, hrun⟩ := gdE hrun
          refine xa B hS ia_150 hi_1006 dX11_richest_33 ?_
          refine lv_icmp_le (tgt := 41) hx hb dX11_richest_34 (by decide) (fun hc => ?_) (fun hc => ?_)
          · have hrun := ip hc hrun
            refine lv_iload_n hx hb dX11_richest_41 rfl (lv_at hl 1 rfl) ?_
            refine lv_istore_n (lv' := [(1, .int x1), (0, .ref (X.2.1 144)), (2, .int x2)]) hx hb dX11_richest_42 rfl hl (by decide) rfl (fun ls hl => ?_)
            refine lv_iinc (v := x2 + (1 : Int32)) (k := 2) (lv' := [(2, .int (x2 + (1 : Int32))), (1, .int x1), (0, .ref (X.2.1 144))]) hx hb dX11_richest_43 hl rfl rfl (by decide) rfl (fun ls hl => ?_)
            refine lv_goto (tgt := 4) hx hb dX11_richest_46 (by decide) ?_
            exact ih4 x1 (x2 + (1 : Int32)) _ _ _ hS (lv_sub hl [2, 1, 0] rfl) hrun
          · have hrun := iq hc hrun
            refine lv_iload_n hx hb dX11_richest_37 rfl (lv_at hl 2 rfl) ?_
            refine lv_goto (tgt := 42) hx hb dX11_richest_38 (by decide) ?_
            refine lv_istore_n (lv' := [(1, .int x2), (0, .ref (X.2.1 144)), (2, .int x2)]) hx hb dX11_richest_42 rfl hl (by decide) rfl (fun ls hl => ?_)
            refine lv_iinc (v := x2 + (1 : Int32)) (k := 2) (lv' := [(2, .int (x2 + (1 : Int32))), (1, .int x2), (0, .ref (X.2.1 144))]) hx hb dX11_richest_43 hl rfl rfl (by decide) rfl (fun ls hl => ?_)
            refine lv_goto (tgt := 4) hx hb dX11_richest_46 (by decide) ?_
            exact ih4 x2 (x2 + (1 : Int32)) _ _ _ hS (lv_sub hl [2, 1, 0] rfl) hrun
  unfold fX11_richest at hrun
  refine lv_iconst (v := -1) hx hb dX11_richest_0 (by decide) ?_
  refine lv_istore_n (lv' := [(1, .int (-1 : Int32)), (0, .ref (X.2.1 144))]) hx hb dX11_richest_1 rfl hl (by decide) rfl (fun ls hl => ?_)
  refine lv_iconst (v := 0) hx hb dX11_richest_2 (by decide) ?_
  refine lv_istore_n (lv' := [(2, .int (0 : Int32)), (1, .int (-1 : Int32)), (0, .ref (X.2.1 144))]) hx hb dX11_richest_3 rfl hl (by decide) rfl (fun ls hl => ?_)
  exact hB4 fuelN (-1 : Int32) (0 : Int32) _ _ _ hS (lv_sub hl [2, 1, 0] rfl) hrun
theorem mdX11_fewest : MD yX11_fewest 0 := ⟨by decide +kernel, by decide +kernel, by decide +kernel⟩
set_option maxHeartbeats 4000000 in
set_option maxRecDepth 100000 in
theorem kX11_fewest (l : Launch) (X : Cx) (t : St) (r : Int32) (hrun : fX11_fewest t = some r) : Ci l X t yX11_fewest cX11_fewest 5 .int 1 22 [.ref (X.2.1 144)] r t := by
  refine Ci_of (by decide) (Nat.le_of_ble_eq_true rfl) ?_
  intro p e s m args below meth c Q B hret hS ls hl
  have hx := B.1
  have hb := B.2.1
  have hown := B.2.2.2.1
  have hts := B.2.2.2.2.1
  have hl : lv_has ls 5 [(0, .ref (X.2.1 144))] := hl
  have hB4 : ∀ (n4 : Nat) (x1 : Int32) (x2 : Int32) (H : Heap) (locs : List Loc) (ls : Array Slot), SS X t s.heap H locs → lv_has ls 5 [(0, .ref (X.2.1 144)), (1, .int x1), (2, .int x2)] → fX11_fewest_4 t n4 x1 x2 = some r → W p l e ({ frames := 1, cells := 0, slots := 0, locals := 22 } : Room) s m args below meth c H locs 0 0 Q (F0 m 4 ls []) := by
    intro n4
    induction n4 with
    | zero =>
      intro x1 x2 H locs ls hS hl hrun
      cases (show (none : Option (Int32)) = some r from hrun)
    | succ n4 ih4 =>
      have hB84 : ∀ (x1 : Int32) (x2 : Int32) (x3 : Int32) (y0 : Int32) (H : Heap) (locs : List Loc) (ls : Array Slot), SS X t s.heap H locs → lv_has ls 5 [(0, .ref (X.2.1 144)), (1, .int x1), (2, .int x2), (3, .int x3)] → fX11_fewest_84 t (fX11_fewest_4 t n4) x1 x2 x3 y0 = some r → W p l e ({ frames := 1, cells := 0, slots := 0, locals := 22 } : Room) s m args below meth c H locs 0 0 Q (F0 m 84 ls [.int y0]) := by
        intro x1 x2 x3 y0 H locs ls hS hl hrun
        unfold fX11_fewest_84 at hrun
        refine lv_istore (lv' := [(4, .int y0), (0, .ref (X.2.1 144)), (1, .int x1), (2, .int x2), (3, .int x3)]) hx hb dX11_fewest_84 hl (by decide) rfl (fun ls hl => ?_)
        refine lv_iload hx hb dX11_fewest_86 (lv_at hl 0 rfl) ?_
        refine lv_if_eq (tgt := 107) hx hb dX11_fewest_88 (by decide) (fun hc => ?_) (fun hc => ?_)
        · have hrun := ip hc hrun
          refine lv_iload_n hx hb dX11_fewest_107 rfl (lv_at hl 2 rfl) ?_
          refine lv_istore_n (lv' := [(1, .int x1), (4, .int y0), (0, .ref (X.2.1 144)), (2, .int x2), (3, .int x3)]) hx hb dX11_fewest_108 rfl hl (by decide) rfl (fun ls hl => ?_)
          refine lv_iinc (v := x2 + (1 : Int32)) (k := 3) (lv' := [(2, .int (x2 + (1 : Int32))), (1, .int x1), (4, .int y0), (0, .ref (X.2.1 144)), (3, .int x3)]) hx hb dX11_fewest_109 hl rfl rfl (by decide) rfl (fun ls hl => ?_)
          refine lv_goto (tgt := 4) hx hb dX11_fewest_112 (by decide) ?_
          exact ih4 x1 (x2 + (1 : Int32)) _ _ _ hS (lv_sub hl [3, 1, 0] rfl) hrun
        · have hrun := iq hc hrun
          refine lv_iload_n hx hb dX11_fewest_91 rfl (lv_at hl 4 rfl) ?_
          refine lv_iconst (v := 1) hx hb dX11_fewest_92 (by decide) ?_
          refine lv_aload_n hx hb dX11_fewest_93 rfl (lv_at hl 1 rfl) ?_
          refine gX11_150 B hS dX11_fewest_94 ?_
          refine lv_ishl hx hb dX11_fewest_97 ?_
          refine lv_iconst (v := 1) hx hb dX11_fewest_98 (by decide) ?_
          refine lv_isub hx hb dX11_fewest_99 ?_
          refine lv_icmp_ne (tgt := 107) hx hb dX11_fewest_100 (by decide) (fun hc => ?_) (fun hc => ?_)
          · have hrun := iq hc hrun
            refine lv_iload_n hx hb dX11_fewest_107 rfl (lv_at hl 2 rfl) ?_
            refine lv_istore_n (lv' := [(1, .int x1), (4, .int y0), (0, .ref (X.2.1 144)), (2, .int x2), (3, .int x3)]) hx hb dX11_fewest_108 rfl hl (by decide) rfl (fun ls hl => ?_)
            refine lv_iinc (v := x2 + (1 : Int32)) (k := 3) (lv' := [(2, .int (x2 + (1 : Int32))), (1, .int x1), (4, .int y0), (0, .ref (X.2.1 144)), (3, .int x3)]) hx hb dX11_fewest_109 hl rfl rfl (by decide) rfl (fun ls hl => ?_)
            refine lv_goto (tgt := 4) hx hb dX11_fewest_112 (by decide) ?_
            exact ih4 x1 (x2 + (1 : Int32)) _ _ _ hS (lv_sub hl [3, 1, 0] rfl) hrun
          · have hrun := ip hc hrun
            refine lv_iload_n hx hb dX11_fewest_103 rfl (lv_at hl 3 rfl) ?_
            refine lv_goto (tgt := 108) hx hb dX11_fewest_104 (by decide) ?_
            refine lv_istore_n (lv' := [(1, .int x2), (4, .int y0), (0, .ref (X.2.1 144)), (2, .int x2), (3, .int x3)]) hx hb dX11_fewest_108 rfl hl (by decide) rfl (fun ls hl => ?_)
            refine lv_iinc (v := x2 + (1 : Int32)) (k := 3) (lv' := [(2, .int (x2 + (1 : Int32))), (1, .int x2), (4, .int y0), (0, .ref (X.2.1 144)), (3, .int x3)]) hx hb dX11_fewest_109 hl rfl rfl (by decide) rfl (fun ls hl => ?_)
            refine lv_goto (tgt := 4) hx hb dX11_fewest_112 (by decide) ?_
            exact ih4 x2 (x2 + (1 : Int32)) _ _ _ hS (lv_sub hl [3, 1, 0] rfl) hrun
      have hB79 : ∀ (x1 : Int32) (x2 : Int32) (x3 : Int32) (H : Heap) (locs : List Loc) (ls : Array Slot), SS X t s.heap H locs → lv_has ls 5 [(0, .ref (X.2.1 144)), (1, .int x1), (2, .int x2), (3, .int x3)] → fX11_fewest_79 t (fX11_fewest_4 t n4) x1 x2 x3 = some r → W p l e ({ frames := 1, cells := 0, slots := 0, locals := 22 } : Room) s m args below meth c H locs 0 0 Q (F0 m 79 ls []) := by
        intro x1 x2 x3 H locs ls hS hl hrun
        unfold fX11_fewest_79 at hrun
        refine lv_iconst (v := 1) hx hb dX11_fewest_79 (by decide) ?_
        refine lv_goto (tgt := 84) hx hb dX11_fewest_80 (by decide) ?_
        exact hB84 x1 x2 x3 (1 : Int32) _ _ _ hS (lv_sub hl [0, 1, 2, 3] rfl) hrun
      have hB64 : ∀ (x1 : Int32) (x2 : Int32) (x3 : Int32) (H : Heap) (locs : List Loc) (ls : Array Slot), SS X t s.heap H locs → lv_has ls 5 [(0, .ref (X.2.1 144)), (1, .int x1), (2, .int x2), (3, .int x3)] → fX11_fewest_64 t (fX11_fewest_4 t n4) x1 x2 x3 = some r → W p l e ({ frames := 1, cells := 0, slots := 0, locals := 22 } : Room) s m args below meth c H locs 0 0 Q (F0 m 64 ls []) := by
        intro x1 x2 x3 H locs ls hS hl hrun
        unfold fX11_fewest_64 at hrun
        refine lv_iload_n hx hb dX11_fewest_64 rfl (lv_at hl 1 rfl) ?_
        refine lv_if_lt (tgt := 79) hx hb dX11_fewest_65 (by decide) (fun hc => ?_) (fun hc => ?_)
        · have hrun := ip hc hrun
          exact hB79 x1 x2 x3 _ _ _ hS (lv_sub hl [0, 1, 2, 3] rfl) hrun
        · have hrun := iq hc hrun
          refine lv_iload_n hx hb dX11_fewest_68 rfl (lv_at hl 2 rfl) ?_
          obtain ⟨r_1066, hc_1065, hrun⟩ := bdE hrun
          refine qX11_197 B hS hc_1065 hl.1 (Nat.le_of_ble_eq_true rfl) ⟨Nat.le_of_ble_eq_true rfl, Nat.le_of_ble_eq_true rfl⟩ ⟨Nat.zero_le _, Nat.zero_le _⟩ dX11_fewest_69 (fun H locs hS => ?_)
          refine lv_iload_n hx hb dX11_fewest_72 rfl (lv_at hl 1 rfl) ?_
          obtain ⟨r_1068, hc_1067, hrun⟩ := bdE hrun
          refine qX11_197 B hS hc_1067 hl.1 (Nat.le_of_ble_eq_true rfl) ⟨Nat.le_of_ble_eq_true rfl, Nat.le_of_ble_eq_true rfl⟩ ⟨Nat.zero_le _, Nat.zero_le _⟩ dX11_fewest_73 (fun H locs hS => ?_)
          refine lv_icmp_ge (tgt := 83) hx hb dX11_fewest_76 (by decide) (fun hc => ?_) (fun hc => ?_)
          · have hrun := ip hc hrun
            refine lv_iconst (v := 0) hx hb dX11_fewest_83 (by decide) ?_
            exact hB84 x1 x2 x3 (0 : Int32) _ _ _ hS (lv_sub hl [0, 1, 2, 3] rfl) hrun
          · have hrun := iq hc hrun
            exact hB79 x1 x2 x3 _ _ _ hS (lv_sub hl [0, 1, 2, 3] rfl) hrun
      have hB26 : ∀ (n26 : Nat) (x1 : Int32) (x2 : Int32) (x3 : Int32) (x4 : Int32) (H : Heap) (locs : List Loc) (ls : Array Slot), SS X t s.heap H locs → lv_has ls 5 [(0, .ref (X.2.1 144)), (1, .int x1), (2, .int x2), (3, .int x3), (4, .int x4)] → fX11_fewest_26 t (fX11_fewest_4 t n4) n26 x1 x2 x3 x4 = some r → W p l e ({ frames := 1, cells := 0, slots := 0, locals := 22 } : Room) s m args below meth c H locs 0 0 Q (F0 m 26 ls []) := by
        intro n26
        induction n26 with
        | zero =>
          intro x1 x2 x3 x4 H locs ls hS hl hrun
          cases (show (none : Option (Int32)) = some r from hrun)
        | succ n26 ih26 =>
          intro x1 x2 x3 x4 H locs ls hS hl hrun
          rw [fX11_fewest_26_s] at hrun
          refine lv_iload hx hb dX11_fewest_26 (lv_at hl 4 rfl) ?_
          refine lv_aload_n hx hb dX11_fewest_28 rfl (lv_at hl 0 rfl) ?_
          refine gX11_81 B hS dX11_fewest_29 ?_
          refine lv_icmp_ge (tgt := 64) hx hb dX11_fewest_32 (by decide) (fun hc => ?_) (fun hc => ?_)
          · have hrun := ip hc hrun
            exact hB64 x1 x2 x3 _ _ _ hS (lv_sub hl [0, 1, 2, 3] rfl) hrun
          · have hrun := iq hc hrun
            refine lv_iload_n hx hb dX11_fewest_35 rfl (lv_at hl 3 rfl) ?_
            refine lv_iload_n hx hb dX11_fewest_36 rfl (lv_at hl 2 rfl) ?_
            refine lv_iload hx hb dX11_fewest_37 (lv_at hl 4 rfl) ?_
            obtain ⟨r_1028, hc_1027, hrun⟩ := bdE hrun
            refine qX11_203 B hS hc_1027 hl.1 (Nat.le_of_ble_eq_true rfl) ⟨Nat.le_of_ble_eq_true rfl, Nat.le_of_ble_eq_true rfl⟩ ⟨Nat.zero_le _, Nat.zero_le _⟩ dX11_fewest_39 (fun H locs hS => ?_)
            refine lv_if_eq (tgt := 55) hx hb dX11_fewest_42 (by decide) (fun hc => ?_) (fun hc => ?_)
            · have hrun := ip hc hrun
              refine lv_iconst (v := 0) hx hb dX11_fewest_55 (by decide) ?_
              refine lv_ior hx hb dX11_fewest_56 ?_
              refine lv_topi (fun x3_1029 ex => ?_)
              obtain ⟨z, ez, hrun⟩ := bsE hrun
              obtain rfl : x3_1029 = z := ex.trans ez.symm
              clear ex ez
              refine lv_istore_n (lv' := [(3, .int x3_1029), (0, .ref (X.2.1 144)), (1, .int x1), (2, .int x2), (4, .int x4)]) hx hb dX11_fewest_57 rfl hl (by decide) rfl (fun ls hl => ?_)
              refine lv_iinc (v := x4 + (1 : Int32)) (k := 4) (lv' := [(4, .int (x4 + (1 : Int32))), (3, .int x3_1029), (0, .ref (X.2.1 144)), (1, .int x1), (2, .int x2)]) hx hb dX11_fewest_58 hl rfl rfl (by decide) rfl (fun ls hl => ?_)
              refine lv_goto (tgt := 26) hx hb dX11_fewest_61 (by decide) ?_
              exact ih26 x1 x2 x3_1029 (x4 + (1 : Int32)) _ _ _ hS (lv_sub hl [2, 3, 4, 1, 0] rfl) hrun
            · have hrun := iq hc hrun
              refine lv_aload_n hx hb dX11_fewest_45 rfl (lv_at hl 0 rfl) ?_
              refine gX11_19 B hS dX11_fewest_46 ?_
              refine lv_iload hx hb dX11_fewest_49 (lv_at hl 4 rfl) ?_
              obtain ⟨hi_1030, hrun⟩ := gdE hrun
              refine xa B hS ia_148 hi_1030 dX11_fewest_51 ?_
              refine lv_goto (tgt := 56) hx hb dX11_fewest_52 (by decide) ?_
              refine lv_ior hx hb dX11_fewest_56 ?_
              refine lv_topi (fun x3_1031 ex => ?_)
              obtain ⟨z, ez, hrun⟩ := bsE hrun
              obtain rfl : x3_1031 = z := ex.trans ez.symm
              clear ex ez
              refine lv_istore_n (lv' := [(3, .int x3_1031), (0, .ref (X.2.1 144)), (1, .int x1), (2, .int x2), (4, .int x4)]) hx hb dX11_fewest_57 rfl hl (by decide) rfl (fun ls hl => ?_)
              refine lv_iinc (v := x4 + (1 : Int32)) (k := 4) (lv' := [(4, .int (x4 + (1 : Int32))), (3, .int x3_1031), (0, .ref (X.2.1 144)), (1, .int x1), (2, .int x2)]) hx hb dX11_fewest_58 hl rfl rfl (by decide) rfl (fun ls hl => ?_)
              refine lv_goto (tgt := 26) hx hb dX11_fewest_61 (by decide) ?_
              exact ih26 x1 x2 x3_1031 (x4 + (1 : Int32)) _ _ _ hS (lv_sub hl [2, 3, 4, 1, 0] rfl) hrun
      intro x1 x2 H locs ls hS hl hrun
      rw [fX11_fewest_4_s] at hrun
      refine lv_iload_n hx hb dX11_fewest_4 rfl (lv_at hl 2 rfl) ?_
      refine lv_iconst (v := 1) hx hb dX11_fewest_5 (by decide) ?_
      refine lv_aload_n hx hb dX11_fewest_6 rfl (lv_at hl 0 rfl) ?_
      refine gX11_81 B hS dX11_fewest_7 ?_
      refine lv_ishl hx hb dX11_fewest_10 ?_
      refine lv_icmp_ge (tgt := 115) hx hb dX11_fewest_11 (by decide) (fun hc => ?_) (fun hc => ?_)
      · have hrun := ip hc hrun
        refine lv_iload_n hx hb dX11_fewest_115 rfl (lv_at hl 1 rfl) ?_
        exact hret _ _ _ _ _ _ (congrArg (Option.map (fun w => (w, t))) hrun) rfl hS dX11_fewest_116
      · have hrun := iq hc hrun
        refine lv_aload_n hx hb dX11_fewest_14 rfl (lv_at hl 0 rfl) ?_
        refine gX11_150 B hS dX11_fewest_15 ?_
        refine lv_if_le (tgt := 115) hx hb dX11_fewest_18 (by decide) (fun hc => ?_) (fun hc => ?_)
        · have hrun := ip hc hrun
          refine lv_iload_n hx hb dX11_fewest_115 rfl (lv_at hl 1 rfl) ?_
          exact hret _ _ _ _ _ _ (congrArg (Option.map (fun w => (w, t))) hrun) rfl hS dX11_fewest_116
        · have hrun := iq hc hrun
          refine lv_iconst (v := 0) hx hb dX11_fewest_21 (by decide) ?_
          refine lv_istore_n (lv' := [(3, .int (0 : Int32)), (0, .ref (X.2.1 144)), (1, .int x1), (2, .int x2)]) hx hb dX11_fewest_22 rfl hl (by decide) rfl (fun ls hl => ?_)
          refine lv_iconst (v := 0) hx hb dX11_fewest_23 (by decide) ?_
          refine lv_istore (lv' := [(4, .int (0 : Int32)), (3, .int (0 : Int32)), (0, .ref (X.2.1 144)), (1, .int x1), (2, .int x2)]) hx hb dX11_fewest_24 hl (by decide) rfl (fun ls hl => ?_)
          exact hB26 fuelN x1 x2 (0 : Int32) (0 : Int32) _ _ _ hS (lv_sub hl [2, 3, 4, 1, 0] rfl) hrun
  unfold fX11_fewest at hrun
  refine lv_iconst (v := -1) hx hb dX11_fewest_0 (by decide) ?_
  refine lv_istore_n (lv' := [(1, .int (-1 : Int32)), (0, .ref (X.2.1 144))]) hx hb dX11_fewest_1 rfl hl (by decide) rfl (fun ls hl => ?_)
  refine lv_iconst (v := 0) hx hb dX11_fewest_2 (by decide) ?_
  refine lv_istore_n (lv' := [(2, .int (0 : Int32)), (1, .int (-1 : Int32)), (0, .ref (X.2.1 144))]) hx hb dX11_fewest_3 rfl hl (by decide) rfl (fun ls hl => ?_)
  exact hB4 fuelN (-1 : Int32) (0 : Int32) _ _ _ hS (lv_sub hl [2, 1, 0] rfl) hrun
theorem mdX11_couldBe : MD yX11_couldBe 1 := ⟨by decide +kernel, by decide +kernel, by decide +kernel⟩
section QX11_couldBe
variable {p : Program} {l : Launch} {e : Env} {R : Room} {s : State} {m : MethodId} {args : Array Value} {below : List Frame} {meth : Method} {c : Code} {H : Heap} {locs : List Loc} {cells slots : Nat} {Q : State → Prop}
variable {cc : ByteArray} {pc : Nat} {ls : Array Slot} {rest : List Value} {X : Cx} {t : St} {H0 : Heap} {nL : Nat}
theorem qX11_310 (B : Bx p s m args c cc nL X RX11) (hS : SS X t H0 H locs) {x1 : Int32} {x2 : Int32} {r : Int32} (hM : fX11_owedBy t x1 x2 = some r) (hsz : ls.size = nL) (hW : (rest.map fun v => v.category).sum ≤ 8) (hR : 2 + 1 ≤ R.frames ∧ 8 + (6 + 11) + 48 ≤ R.locals) (hR2 : cells ≤ R.cells ∧ slots ≤ R.slots) (hdg : decode cc pc = .ok (.invokevirtual 310, 3)) (kk : ∀ (H1 : Heap) (locs1 : List Loc), SS X t H0 H1 locs1 → W p l e R s m args below meth c H1 locs1 cells slots Q (F0 m (pc + 3) ls (.int r :: rest))) : W p l e R s m args below meth c H locs cells slots Q (F0 m pc ls (.int x2 :: .int x1 :: .ref (X.2.1 144) :: rest)) :=
  xVi B hS (kX11_owedBy l X t x1 x2 r hM) (tw_5 91 rfl rfl) (tw_5 93 rfl rfl) (tw_0 42 rfl rfl) (tw_1 12 rfl rfl) (tw_5 94 rfl rfl) mdX11_owedBy (by decide) (ceX11 _) rfl rfl rfl hsz rfl hW hR hR2 hdg kk
end QX11_couldBe
set_option maxHeartbeats 4000000 in
set_option maxRecDepth 100000 in
theorem kX11_couldBe (l : Launch) (X : Cx) (t : St) (x1 : Int32) (r : Int32) (hrun : fX11_couldBe t x1 = some r) : Ci l X t yX11_couldBe cX11_couldBe 4 .boolean 3 73 [.ref (X.2.1 144), .int x1] r t := by
  refine Ci_of (by decide) (Nat.le_of_ble_eq_true rfl) ?_
  intro p e s m args below meth c Q B hret hS ls hl
  have hx := B.1
  have hb := B.2.1
  have hown := B.2.2.2.1
  have hts := B.2.2.2.2.1
  have hl : lv_has ls 4 [(0, .ref (X.2.1 144)), (1, .int x1)] := hl
  have hB4 : ∀ (n4 : Nat) (x1 : Int32) (x2 : Int32) (x3 : Int32) (H : Heap) (locs : List Loc) (ls : Array Slot), SS X t s.heap H locs → lv_has ls 4 [(0, .ref (X.2.1 144)), (1, .int x1), (2, .int x2), (3, .int x3)] → fX11_couldBe_4 t n4 x1 x2 x3 = some r → W p l e ({ frames := 3, cells := 0, slots := 0, locals := 73 } : Room) s m args below meth c H locs 0 0 Q (F0 m 4 ls []) := by
    intro n4
    induction n4 with
    | zero =>
      intro x1 x2 x3 H locs ls hS hl hrun
      cases (show (none : Option (Int32)) = some r from hrun)
    | succ n4 ih4 =>
      intro x1 x2 x3 H locs ls hS hl hrun
      rw [fX11_couldBe_4_s] at hrun
      refine lv_iload_n hx hb dX11_couldBe_4 rfl (lv_at hl 3 rfl) ?_
      refine lv_aload_n hx hb dX11_couldBe_5 rfl (lv_at hl 0 rfl) ?_
      refine gX11_170 B hS dX11_couldBe_6 ?_
      refine lv_icmp_ge (tgt := 48) hx hb dX11_couldBe_9 (by decide) (fun hc => ?_) (fun hc => ?_)
      · have hrun := ip hc hrun
        refine lv_iload_n hx hb dX11_couldBe_48 rfl (lv_at hl 2 rfl) ?_
        obtain ⟨hbo_1005, hrun⟩ := gbE hrun
        exact hret _ _ _ _ _ _ (congrArg (Option.map (fun w => (w, t))) hrun) (nb hbo_1005) hS dX11_couldBe_49
      · have hrun := iq hc hrun
        refine lv_iload_n hx hb dX11_couldBe_12 rfl (lv_at hl 2 rfl) ?_
        refine lv_if_eq (tgt := 48) hx hb dX11_couldBe_13 (by decide) (fun hc => ?_) (fun hc => ?_)
        · have hrun := ip hc hrun
          refine lv_iload_n hx hb dX11_couldBe_48 rfl (lv_at hl 2 rfl) ?_
          obtain ⟨hbo_1006, hrun⟩ := gbE hrun
          exact hret _ _ _ _ _ _ (congrArg (Option.map (fun w => (w, t))) hrun) (nb hbo_1006) hS dX11_couldBe_49
        · have hrun := iq hc hrun
          refine lv_aload_n hx hb dX11_couldBe_16 rfl (lv_at hl 0 rfl) ?_
          refine lv_iload_n hx hb dX11_couldBe_17 rfl (lv_at hl 1 rfl) ?_
          refine lv_aload_n hx hb dX11_couldBe_18 rfl (lv_at hl 0 rfl) ?_
          refine gX11_59 B hS dX11_couldBe_19 ?_
          refine lv_iload_n hx hb dX11_couldBe_22 rfl (lv_at hl 3 rfl) ?_
          obtain ⟨hi_1007, hrun⟩ := gdE hrun
          refine xa B hS ia_160 hi_1007 dX11_couldBe_23 ?_
          obtain ⟨r_1009, hc_1008, hrun⟩ := bdE hrun
          refine qX11_310 B hS hc_1008 hl.1 (Nat.le_of_ble_eq_true rfl) ⟨Nat.le_of_ble_eq_true rfl, Nat.le_of_ble_eq_true rfl⟩ ⟨Nat.zero_le _, Nat.zero_le _⟩ dX11_couldBe_24 (fun H locs hS => ?_)
          refine lv_aload_n hx hb dX11_couldBe_27 rfl (lv_at hl 0 rfl) ?_
          refine gX11_62 B hS dX11_couldBe_28 ?_
          refine lv_iload_n hx hb dX11_couldBe_31 rfl (lv_at hl 3 rfl) ?_
          obtain ⟨hi_1010, hrun⟩ := gdE hrun
          refine xa B hS ia_161 hi_1010 dX11_couldBe_32 ?_
          refine lv_icmp_ne (tgt := 40) hx hb dX11_couldBe_33 (by decide) (fun hc => ?_) (fun hc => ?_)
          · have hrun := iq hc hrun
            refine lv_iconst (v := 0) hx hb dX11_couldBe_40 (by decide) ?_
            refine lv_istore_n (lv' := [(2, .int (0 : Int32)), (0, .ref (X.2.1 144)), (1, .int x1), (3, .int x3)]) hx hb dX11_couldBe_41 rfl hl (by decide) rfl (fun ls hl => ?_)
            refine lv_iinc (v := x3 + (1 : Int32)) (k := 3) (lv' := [(3, .int (x3 + (1 : Int32))), (2, .int (0 : Int32)), (0, .ref (X.2.1 144)), (1, .int x1)]) hx hb dX11_couldBe_42 hl rfl rfl (by decide) rfl (fun ls hl => ?_)
            refine lv_goto (tgt := 4) hx hb dX11_couldBe_45 (by decide) ?_
            exact ih4 x1 (0 : Int32) (x3 + (1 : Int32)) _ _ _ hS (lv_sub hl [2, 3, 1, 0] rfl) hrun
          · have hrun := ip hc hrun
            refine lv_iconst (v := 1) hx hb dX11_couldBe_36 (by decide) ?_
            refine lv_goto (tgt := 41) hx hb dX11_couldBe_37 (by decide) ?_
            refine lv_istore_n (lv' := [(2, .int (1 : Int32)), (0, .ref (X.2.1 144)), (1, .int x1), (3, .int x3)]) hx hb dX11_couldBe_41 rfl hl (by decide) rfl (fun ls hl => ?_)
            refine lv_iinc (v := x3 + (1 : Int32)) (k := 3) (lv' := [(3, .int (x3 + (1 : Int32))), (2, .int (1 : Int32)), (0, .ref (X.2.1 144)), (1, .int x1)]) hx hb dX11_couldBe_42 hl rfl rfl (by decide) rfl (fun ls hl => ?_)
            refine lv_goto (tgt := 4) hx hb dX11_couldBe_45 (by decide) ?_
            exact ih4 x1 (1 : Int32) (x3 + (1 : Int32)) _ _ _ hS (lv_sub hl [2, 3, 1, 0] rfl) hrun
  unfold fX11_couldBe at hrun
  refine lv_iconst (v := 1) hx hb dX11_couldBe_0 (by decide) ?_
  refine lv_istore_n (lv' := [(2, .int (1 : Int32)), (0, .ref (X.2.1 144)), (1, .int x1)]) hx hb dX11_couldBe_1 rfl hl (by decide) rfl (fun ls hl => ?_)
  refine lv_iconst (v := 0) hx hb dX11_couldBe_2 (by decide) ?_
  refine lv_istore_n (lv' := [(3, .int (0 : Int32)), (2, .int (1 : Int32)), (0, .ref (X.2.1 144)), (1, .int x1)]) hx hb dX11_couldBe_3 rfl hl (by decide) rfl (fun ls hl => ?_)
  exact hB4 fuelN x1 (1 : Int32) (0 : Int32) _ _ _ hS (lv_sub hl [2, 3, 1, 0] rfl) hrun
theorem mdX11_choirsWith : MD yX11_choirsWith 1 := ⟨by decide +kernel, by decide +kernel, by decide +kernel⟩
section QX11_choirsWith
variable {p : Program} {l : Launch} {e : Env} {R : Room} {s : State} {m : MethodId} {args : Array Value} {below : List Frame} {meth : Method} {c : Code} {H : Heap} {locs : List Loc} {cells slots : Nat} {Q : State → Prop}
variable {cc : ByteArray} {pc : Nat} {ls : Array Slot} {rest : List Value} {X : Cx} {t : St} {H0 : Heap} {nL : Nat}
theorem qX11_324 (B : Bx p s m args c cc nL X RX11) (hS : SS X t H0 H locs) {x1 : Int32} {r : Int32} (hM : fX11_couldBe t x1 = some r) (hsz : ls.size = nL) (hW : (rest.map fun v => v.category).sum ≤ 8) (hR : 3 + 1 ≤ R.frames ∧ 8 + (4 + 11) + 73 ≤ R.locals) (hR2 : cells ≤ R.cells ∧ slots ≤ R.slots) (hdg : decode cc pc = .ok (.invokevirtual 324, 3)) (kk : ∀ (H1 : Heap) (locs1 : List Loc), SS X t H0 H1 locs1 → W p l e R s m args below meth c H1 locs1 cells slots Q (F0 m (pc + 3) ls (.int r :: rest))) : W p l e R s m args below meth c H locs cells slots Q (F0 m pc ls (.int x1 :: .ref (X.2.1 144) :: rest)) :=
  xVi B hS (kX11_couldBe l X t x1 r hM) (tw_5 87 rfl rfl) (tw_5 89 rfl rfl) (tw_0 41 rfl rfl) (tw_1 12 rfl rfl) (tw_5 90 rfl rfl) mdX11_couldBe (by decide) (ceX11 _) rfl rfl rfl hsz rfl hW hR hR2 hdg kk
end QX11_choirsWith
set_option maxHeartbeats 4000000 in
set_option maxRecDepth 100000 in
theorem kX11_choirsWith (l : Launch) (X : Cx) (t : St) (x1 : Int32) (r : Int32) (hrun : fX11_choirsWith t x1 = some r) : Ci l X t yX11_choirsWith cX11_choirsWith 4 .int 4 96 [.ref (X.2.1 144), .int x1] r t := by
  refine Ci_of (by decide) (Nat.le_of_ble_eq_true rfl) ?_
  intro p e s m args below meth c Q B hret hS ls hl
  have hx := B.1
  have hb := B.2.1
  have hown := B.2.2.2.1
  have hts := B.2.2.2.2.1
  have hl : lv_has ls 4 [(0, .ref (X.2.1 144)), (1, .int x1)] := hl
  have hB4 : ∀ (n4 : Nat) (x1 : Int32) (x2 : Int32) (x3 : Int32) (H : Heap) (locs : List Loc) (ls : Array Slot), SS X t s.heap H locs → lv_has ls 4 [(0, .ref (X.2.1 144)), (1, .int x1), (2, .int x2), (3, .int x3)] → fX11_choirsWith_4 t n4 x1 x2 x3 = some r → W p l e ({ frames := 4, cells := 0, slots := 0, locals := 96 } : Room) s m args below meth c H locs 0 0 Q (F0 m 4 ls []) := by
    intro n4
    induction n4 with
    | zero =>
      intro x1 x2 x3 H locs ls hS hl hrun
      cases (show (none : Option (Int32)) = some r from hrun)
    | succ n4 ih4 =>
      have hB34 : ∀ (x1 : Int32) (x3 : Int32) (y0 : Int32) (H : Heap) (locs : List Loc) (ls : Array Slot), SS X t s.heap H locs → lv_has ls 4 [(0, .ref (X.2.1 144)), (1, .int x1), (3, .int x3)] → fX11_choirsWith_34 t (fX11_choirsWith_4 t n4) x1 x3 y0 = some r → W p l e ({ frames := 4, cells := 0, slots := 0, locals := 96 } : Room) s m args below meth c H locs 0 0 Q (F0 m 34 ls [.int y0]) := by
        intro x1 x3 y0 H locs ls hS hl hrun
        unfold fX11_choirsWith_34 at hrun
        refine lv_iconst (v := 0) hx hb dX11_choirsWith_34 (by decide) ?_
        refine lv_iadd hx hb dX11_choirsWith_35 ?_
        refine lv_topi (fun x2_1035 ex => ?_)
        obtain ⟨z, ez, hrun⟩ := bsE hrun
        obtain rfl : x2_1035 = z := ex.trans ez.symm
        clear ex ez
        refine lv_istore_n (lv' := [(2, .int x2_1035), (0, .ref (X.2.1 144)), (1, .int x1), (3, .int x3)]) hx hb dX11_choirsWith_36 rfl hl (by decide) rfl (fun ls hl => ?_)
        refine lv_iinc (v := x3 + (1 : Int32)) (k := 3) (lv' := [(3, .int (x3 + (1 : Int32))), (2, .int x2_1035), (0, .ref (X.2.1 144)), (1, .int x1)]) hx hb dX11_choirsWith_37 hl rfl rfl (by decide) rfl (fun ls hl => ?_)
        refine lv_goto (tgt := 4) hx hb dX11_choirsWith_40 (by decide) ?_
        exact ih4 x1 x2_1035 (x3 + (1 : Int32)) _ _ _ hS (lv_sub hl [2, 3, 1, 0] rfl) hrun
      intro x1 x2 x3 H locs ls hS hl hrun
      rw [fX11_choirsWith_4_s] at hrun
      refine lv_iload_n hx hb dX11_choirsWith_4 rfl (lv_at hl 3 rfl) ?_
      refine lv_iconst (v := 1) hx hb dX11_choirsWith_5 (by decide) ?_
      refine lv_aload_n hx hb dX11_choirsWith_6 rfl (lv_at hl 0 rfl) ?_
      refine gX11_81 B hS dX11_choirsWith_7 ?_
      refine lv_ishl hx hb dX11_choirsWith_10 ?_
      refine lv_icmp_ge (tgt := 43) hx hb dX11_choirsWith_11 (by decide) (fun hc => ?_) (fun hc => ?_)
      · have hrun := ip hc hrun
        refine lv_iload_n hx hb dX11_choirsWith_43 rfl (lv_at hl 2 rfl) ?_
        exact hret _ _ _ _ _ _ (congrArg (Option.map (fun w => (w, t))) hrun) rfl hS dX11_choirsWith_44
      · have hrun := iq hc hrun
        refine lv_iload_n hx hb dX11_choirsWith_14 rfl (lv_at hl 2 rfl) ?_
        refine lv_iload_n hx hb dX11_choirsWith_15 rfl (lv_at hl 3 rfl) ?_
        refine lv_iload_n hx hb dX11_choirsWith_16 rfl (lv_at hl 1 rfl) ?_
        refine lv_iand hx hb dX11_choirsWith_17 ?_
        refine lv_iload_n hx hb dX11_choirsWith_18 rfl (lv_at hl 1 rfl) ?_
        refine lv_icmp_ne (tgt := 34) hx hb dX11_choirsWith_19 (by decide) (fun hc => ?_) (fun hc => ?_)
        · have hrun := iq hc hrun
          exact hB34 x1 x3 x2 _ _ _ hS (lv_sub hl [0, 1, 3] rfl) hrun
        · have hrun := ip hc hrun
          refine lv_aload_n hx hb dX11_choirsWith_22 rfl (lv_at hl 0 rfl) ?_
          refine lv_iload_n hx hb dX11_choirsWith_23 rfl (lv_at hl 3 rfl) ?_
          obtain ⟨r_1006, hc_1005, hrun⟩ := bdE hrun
          refine qX11_324 B hS hc_1005 hl.1 (Nat.le_of_ble_eq_true rfl) ⟨Nat.le_of_ble_eq_true rfl, Nat.le_of_ble_eq_true rfl⟩ ⟨Nat.zero_le _, Nat.zero_le _⟩ dX11_choirsWith_24 (fun H locs hS => ?_)
          refine lv_if_eq (tgt := 34) hx hb dX11_choirsWith_27 (by decide) (fun hc => ?_) (fun hc => ?_)
          · have hrun := ip hc hrun
            exact hB34 x1 x3 x2 _ _ _ hS (lv_sub hl [0, 1, 3] rfl) hrun
          · have hrun := iq hc hrun
            refine lv_iconst (v := 1) hx hb dX11_choirsWith_30 (by decide) ?_
            refine lv_goto (tgt := 35) hx hb dX11_choirsWith_31 (by decide) ?_
            refine lv_iadd hx hb dX11_choirsWith_35 ?_
            refine lv_topi (fun x2_1007 ex => ?_)
            obtain ⟨z, ez, hrun⟩ := bsE hrun
            obtain rfl : x2_1007 = z := ex.trans ez.symm
            clear ex ez
            refine lv_istore_n (lv' := [(2, .int x2_1007), (0, .ref (X.2.1 144)), (1, .int x1), (3, .int x3)]) hx hb dX11_choirsWith_36 rfl hl (by decide) rfl (fun ls hl => ?_)
            refine lv_iinc (v := x3 + (1 : Int32)) (k := 3) (lv' := [(3, .int (x3 + (1 : Int32))), (2, .int x2_1007), (0, .ref (X.2.1 144)), (1, .int x1)]) hx hb dX11_choirsWith_37 hl rfl rfl (by decide) rfl (fun ls hl => ?_)
            refine lv_goto (tgt := 4) hx hb dX11_choirsWith_40 (by decide) ?_
            exact ih4 x1 x2_1007 (x3 + (1 : Int32)) _ _ _ hS (lv_sub hl [2, 3, 1, 0] rfl) hrun
  unfold fX11_choirsWith at hrun
  refine lv_iconst (v := 0) hx hb dX11_choirsWith_0 (by decide) ?_
  refine lv_istore_n (lv' := [(2, .int (0 : Int32)), (0, .ref (X.2.1 144)), (1, .int x1)]) hx hb dX11_choirsWith_1 rfl hl (by decide) rfl (fun ls hl => ?_)
  refine lv_iconst (v := 0) hx hb dX11_choirsWith_2 (by decide) ?_
  refine lv_istore_n (lv' := [(3, .int (0 : Int32)), (2, .int (0 : Int32)), (0, .ref (X.2.1 144)), (1, .int x1)]) hx hb dX11_choirsWith_3 rfl hl (by decide) rfl (fun ls hl => ?_)
  exact hB4 fuelN x1 (0 : Int32) (0 : Int32) _ _ _ hS (lv_sub hl [2, 3, 1, 0] rfl) hrun
theorem mdX11_choirs : MD yX11_choirs 0 := ⟨by decide +kernel, by decide +kernel, by decide +kernel⟩
section QX11_choirs
variable {p : Program} {l : Launch} {e : Env} {R : Room} {s : State} {m : MethodId} {args : Array Value} {below : List Frame} {meth : Method} {c : Code} {H : Heap} {locs : List Loc} {cells slots : Nat} {Q : State → Prop}
variable {cc : ByteArray} {pc : Nat} {ls : Array Slot} {rest : List Value} {X : Cx} {t : St} {H0 : Heap} {nL : Nat}
theorem qX11_327 (B : Bx p s m args c cc nL X RX11) (hS : SS X t H0 H locs) {x1 : Int32} {r : Int32} (hM : fX11_choirsWith t x1 = some r) (hsz : ls.size = nL) (hW : (rest.map fun v => v.category).sum ≤ 8) (hR : 4 + 1 ≤ R.frames ∧ 8 + (4 + 11) + 96 ≤ R.locals) (hR2 : cells ≤ R.cells ∧ slots ≤ R.slots) (hdg : decode cc pc = .ok (.invokevirtual 327, 3)) (kk : ∀ (H1 : Heap) (locs1 : List Loc), SS X t H0 H1 locs1 → W p l e R s m args below meth c H1 locs1 cells slots Q (F0 m (pc + 3) ls (.int r :: rest))) : W p l e R s m args below meth c H locs cells slots Q (F0 m pc ls (.int x1 :: .ref (X.2.1 144) :: rest)) :=
  xVi B hS (kX11_choirsWith l X t x1 r hM) (tw_5 83 rfl rfl) (tw_5 85 rfl rfl) (tw_0 40 rfl rfl) (tw_1 12 rfl rfl) (tw_5 86 rfl rfl) mdX11_choirsWith (by decide) (ceX11 _) rfl rfl rfl hsz rfl hW hR hR2 hdg kk
end QX11_choirs
set_option maxHeartbeats 4000000 in
set_option maxRecDepth 100000 in
theorem kX11_choirs (l : Launch) (X : Cx) (t : St) (r : Int32) (hrun : fX11_choirs t = some r) : Ci l X t yX11_choirs cX11_choirs 1 .int 5 119 [.ref (X.2.1 144)] r t := by
  refine Ci_of (by decide) (Nat.le_of_ble_eq_true rfl) ?_
  intro p e s m args below meth c Q B hret hS ls hl
  have hx := B.1
  have hb := B.2.1
  have hown := B.2.2.2.1
  have hts := B.2.2.2.2.1
  have hl : lv_has ls 1 [(0, .ref (X.2.1 144))] := hl
  unfold fX11_choirs at hrun
  refine lv_aload_n hx hb dX11_choirs_0 rfl (lv_at hl 0 rfl) ?_
  refine lv_iconst (v := 0) hx hb dX11_choirs_1 (by decide) ?_
  obtain ⟨r_2, hc_1, hrun⟩ := bdE hrun
  refine qX11_327 B hS hc_1 hl.1 (Nat.le_of_ble_eq_true rfl) ⟨Nat.le_of_ble_eq_true rfl, Nat.le_of_ble_eq_true rfl⟩ ⟨Nat.zero_le _, Nat.zero_le _⟩ dX11_choirs_2 (fun H locs hS => ?_)
  exact hret _ _ _ _ _ _ (congrArg (Option.map (fun w => (w, t))) hrun) rfl hS dX11_choirs_5
theorem mdX11_inEach : MD yX11_inEach 0 := ⟨by decide +kernel, by decide +kernel, by decide +kernel⟩
set_option maxHeartbeats 4000000 in
set_option maxRecDepth 100000 in
theorem kX11_inEach (l : Launch) (X : Cx) (t : St) (r : Int32) (hrun : fX11_inEach t = some r) : Ci l X t yX11_inEach cX11_inEach 3 .int 4 96 [.ref (X.2.1 144)] r t := by
  refine Ci_of (by decide) (Nat.le_of_ble_eq_true rfl) ?_
  intro p e s m args below meth c Q B hret hS ls hl
  have hx := B.1
  have hb := B.2.1
  have hown := B.2.2.2.1
  have hts := B.2.2.2.2.1
  have hl : lv_has ls 3 [(0, .ref (X.2.1 144))] := hl
  have hB4 : ∀ (n4 : Nat) (x1 : Int32) (x2 : Int32) (H : Heap) (locs : List Loc) (ls : Array Slot), SS X t s.heap H locs → lv_has ls 3 [(0, .ref (X.2.1 144)), (1, .int x1), (2, .int x2)] → fX11_inEach_4 t n4 x1 x2 = some r → W p l e ({ frames := 4, cells := 0, slots := 0, locals := 96 } : Room) s m args below meth c H locs 0 0 Q (F0 m 4 ls []) := by
    intro n4
    induction n4 with
    | zero =>
      intro x1 x2 H locs ls hS hl hrun
      cases (show (none : Option (Int32)) = some r from hrun)
    | succ n4 ih4 =>
      intro x1 x2 H locs ls hS hl hrun
      rw [fX11_inEach_4_s] at hrun
      refine lv_iload_n hx hb dX11_inEach_4 rfl (lv_at hl 2 rfl) ?_
      refine lv_iconst (v := 1) hx hb dX11_inEach_5 (by decide) ?_
      refine lv_aload_n hx hb dX11_inEach_6 rfl (lv_at hl 0 rfl) ?_
      refine gX11_81 B hS dX11_inEach_7 ?_
      refine lv_ishl hx hb dX11_inEach_10 ?_
      refine lv_icmp_ge (tgt := 44) hx hb dX11_inEach_11 (by decide) (fun hc => ?_) (fun hc => ?_)
      · have hrun := ip hc hrun
        refine lv_iload_n hx hb dX11_inEach_44 rfl (lv_at hl 1 rfl) ?_
        exact hret _ _ _ _ _ _ (congrArg (Option.map (fun w => (w, t))) hrun) rfl hS dX11_inEach_45
      · have hrun := iq hc hrun
        refine lv_aload_n hx hb dX11_inEach_14 rfl (lv_at hl 0 rfl) ?_
        refine lv_iload_n hx hb dX11_inEach_15 rfl (lv_at hl 2 rfl) ?_
        obtain ⟨r_1006, hc_1005, hrun⟩ := bdE hrun
        refine qX11_324 B hS hc_1005 hl.1 (Nat.le_of_ble_eq_true rfl) ⟨Nat.le_of_ble_eq_true rfl, Nat.le_of_ble_eq_true rfl⟩ ⟨Nat.zero_le _, Nat.zero_le _⟩ dX11_inEach_16 (fun H locs hS => ?_)
        refine lv_if_eq (tgt := 36) hx hb dX11_inEach_19 (by decide) (fun hc => ?_) (fun hc => ?_)
        · have hrun := ip hc hrun
          refine lv_iload_n hx hb dX11_inEach_36 rfl (lv_at hl 1 rfl) ?_
          refine lv_istore_n (lv' := [(1, .int x1), (0, .ref (X.2.1 144)), (2, .int x2)]) hx hb dX11_inEach_37 rfl hl (by decide) rfl (fun ls hl => ?_)
          refine lv_iinc (v := x2 + (1 : Int32)) (k := 2) (lv' := [(2, .int (x2 + (1 : Int32))), (1, .int x1), (0, .ref (X.2.1 144))]) hx hb dX11_inEach_38 hl rfl rfl (by decide) rfl (fun ls hl => ?_)
          refine lv_goto (tgt := 4) hx hb dX11_inEach_41 (by decide) ?_
          exact ih4 x1 (x2 + (1 : Int32)) _ _ _ hS (lv_sub hl [2, 1, 0] rfl) hrun
        · have hrun := iq hc hrun
          refine lv_iload_n hx hb dX11_inEach_22 rfl (lv_at hl 1 rfl) ?_
          refine lv_if_ge (tgt := 30) hx hb dX11_inEach_23 (by decide) (fun hc => ?_) (fun hc => ?_)
          · have hrun := ip hc hrun
            refine lv_iload_n hx hb dX11_inEach_30 rfl (lv_at hl 1 rfl) ?_
            refine lv_iload_n hx hb dX11_inEach_31 rfl (lv_at hl 2 rfl) ?_
            refine lv_iand hx hb dX11_inEach_32 ?_
            refine lv_goto (tgt := 37) hx hb dX11_inEach_33 (by decide) ?_
            refine lv_topi (fun x1_1007 ex => ?_)
            obtain ⟨z, ez, hrun⟩ := bsE hrun
            obtain rfl : x1_1007 = z := ex.trans ez.symm
            clear ex ez
            refine lv_istore_n (lv' := [(1, .int x1_1007), (0, .ref (X.2.1 144)), (2, .int x2)]) hx hb dX11_inEach_37 rfl hl (by decide) rfl (fun ls hl => ?_)
            refine lv_iinc (v := x2 + (1 : Int32)) (k := 2) (lv' := [(2, .int (x2 + (1 : Int32))), (1, .int x1_1007), (0, .ref (X.2.1 144))]) hx hb dX11_inEach_38 hl rfl rfl (by decide) rfl (fun ls hl => ?_)
            refine lv_goto (tgt := 4) hx hb dX11_inEach_41 (by decide) ?_
            exact ih4 x1_1007 (x2 + (1 : Int32)) _ _ _ hS (lv_sub hl [2, 1, 0] rfl) hrun
          · have hrun := iq hc hrun
            refine lv_iload_n hx hb dX11_inEach_26 rfl (lv_at hl 2 rfl) ?_
            refine lv_goto (tgt := 37) hx hb dX11_inEach_27 (by decide) ?_
            refine lv_istore_n (lv' := [(1, .int x2), (0, .ref (X.2.1 144)), (2, .int x2)]) hx hb dX11_inEach_37 rfl hl (by decide) rfl (fun ls hl => ?_)
            refine lv_iinc (v := x2 + (1 : Int32)) (k := 2) (lv' := [(2, .int (x2 + (1 : Int32))), (1, .int x2), (0, .ref (X.2.1 144))]) hx hb dX11_inEach_38 hl rfl rfl (by decide) rfl (fun ls hl => ?_)
            refine lv_goto (tgt := 4) hx hb dX11_inEach_41 (by decide) ?_
            exact ih4 x2 (x2 + (1 : Int32)) _ _ _ hS (lv_sub hl [2, 1, 0] rfl) hrun
  unfold fX11_inEach at hrun
  refine lv_iconst (v := -1) hx hb dX11_inEach_0 (by decide) ?_
  refine lv_istore_n (lv' := [(1, .int (-1 : Int32)), (0, .ref (X.2.1 144))]) hx hb dX11_inEach_1 rfl hl (by decide) rfl (fun ls hl => ?_)
  refine lv_iconst (v := 0) hx hb dX11_inEach_2 (by decide) ?_
  refine lv_istore_n (lv' := [(2, .int (0 : Int32)), (1, .int (-1 : Int32)), (0, .ref (X.2.1 144))]) hx hb dX11_inEach_3 rfl hl (by decide) rfl (fun ls hl => ?_)
  exact hB4 fuelN (-1 : Int32) (0 : Int32) _ _ _ hS (lv_sub hl [2, 1, 0] rfl) hrun
theorem mdX11_lip : MD yX11_lip 0 := ⟨by decide +kernel, by decide +kernel, by decide +kernel⟩
section QX11_lip
variable {p : Program} {l : Launch} {e : Env} {R : Room} {s : State} {m : MethodId} {args : Array Value} {below : List Frame} {meth : Method} {c : Code} {H : Heap} {locs : List Loc} {cells slots : Nat} {Q : State → Prop}
variable {cc : ByteArray} {pc : Nat} {ls : Array Slot} {rest : List Value} {X : Cx} {t : St} {H0 : Heap} {nL : Nat}
theorem qX11_219 (B : Bx p s m args c cc nL X RX11) (hS : SS X t H0 H locs) {r : Int32} (hM : fX11_choirs t = some r) (hsz : ls.size = nL) (hW : (rest.map fun v => v.category).sum ≤ 8) (hR : 5 + 1 ≤ R.frames ∧ 8 + (1 + 11) + 119 ≤ R.locals) (hR2 : cells ≤ R.cells ∧ slots ≤ R.slots) (hdg : decode cc pc = .ok (.invokevirtual 219, 3)) (kk : ∀ (H1 : Heap) (locs1 : List Loc), SS X t H0 H1 locs1 → W p l e R s m args below meth c H1 locs1 cells slots Q (F0 m (pc + 3) ls (.int r :: rest))) : W p l e R s m args below meth c H locs cells slots Q (F0 m pc ls (.ref (X.2.1 144) :: rest)) :=
  xVi B hS (kX11_choirs l X t r hM) (tw_5 79 rfl rfl) (tw_5 81 rfl rfl) (tw_0 39 rfl rfl) (tw_1 12 rfl rfl) (tw_5 82 rfl rfl) mdX11_choirs (by decide) (ceX11 _) rfl rfl rfl hsz rfl hW hR hR2 hdg kk
end QX11_lip
set_option maxHeartbeats 4000000 in
set_option maxRecDepth 100000 in
theorem kX11_lip (l : Launch) (X : Cx) (t : St) (r : Int32) (hrun : fX11_lip t = some r) : Ci l X t yX11_lip cX11_lip 7 .int 6 139 [.ref (X.2.1 144)] r t := by
  refine Ci_of (by decide) (Nat.le_of_ble_eq_true rfl) ?_
  intro p e s m args below meth c Q B hret hS ls hl
  have hx := B.1
  have hb := B.2.1
  have hown := B.2.2.2.1
  have hts := B.2.2.2.2.1
  have hl : lv_has ls 7 [(0, .ref (X.2.1 144))] := hl
  have hB12 : ∀ (n12 : Nat) (x1 : Int32) (x2 : Int32) (x3 : Int32) (x4 : Int32) (H : Heap) (locs : List Loc) (ls : Array Slot), SS X t s.heap H locs → lv_has ls 7 [(0, .ref (X.2.1 144)), (1, .int x1), (2, .int x2), (3, .int x3), (4, .int x4)] → fX11_lip_12 t n12 x1 x2 x3 x4 = some r → W p l e ({ frames := 6, cells := 0, slots := 0, locals := 139 } : Room) s m args below meth c H locs 0 0 Q (F0 m 12 ls []) := by
    intro n12
    induction n12 with
    | zero =>
      intro x1 x2 x3 x4 H locs ls hS hl hrun
      cases (show (none : Option (Int32)) = some r from hrun)
    | succ n12 ih12 =>
      have hB63 : ∀ (x1 : Int32) (x3 : Int32) (x4 : Int32) (x6 : Int32) (y0 : Int32) (H : Heap) (locs : List Loc) (ls : Array Slot), SS X t s.heap H locs → lv_has ls 7 [(0, .ref (X.2.1 144)), (1, .int x1), (3, .int x3), (4, .int x4), (6, .int x6)] → fX11_lip_63 t (fX11_lip_12 t n12) x1 x3 x4 x6 y0 = some r → W p l e ({ frames := 6, cells := 0, slots := 0, locals := 139 } : Room) s m args below meth c H locs 0 0 Q (F0 m 63 ls [.int y0]) := by
        intro x1 x3 x4 x6 y0 H locs ls hS hl hrun
        unfold fX11_lip_63 at hrun
        refine lv_istore_n (lv' := [(2, .int y0), (0, .ref (X.2.1 144)), (1, .int x1), (3, .int x3), (4, .int x4), (6, .int x6)]) hx hb dX11_lip_63 rfl hl (by decide) rfl (fun ls hl => ?_)
        refine lv_iload hx hb dX11_lip_64 (lv_at hl 5 rfl) ?_
        refine lv_iload_n hx hb dX11_lip_66 rfl (lv_at hl 3 rfl) ?_
        refine lv_icmp_ge (tgt := 75) hx hb dX11_lip_67 (by decide) (fun hc => ?_) (fun hc => ?_)
        · have hrun := ip hc hrun
          refine lv_iload_n hx hb dX11_lip_75 rfl (lv_at hl 3 rfl) ?_
          refine lv_istore_n (lv' := [(3, .int x3), (2, .int y0), (0, .ref (X.2.1 144)), (1, .int x1), (4, .int x4), (6, .int x6)]) hx hb dX11_lip_76 rfl hl (by decide) rfl (fun ls hl => ?_)
          refine lv_iinc (v := x4 + (1 : Int32)) (k := 4) (lv' := [(4, .int (x4 + (1 : Int32))), (3, .int x3), (2, .int y0), (0, .ref (X.2.1 144)), (1, .int x1), (6, .int x6)]) hx hb dX11_lip_77 hl rfl rfl (by decide) rfl (fun ls hl => ?_)
          refine lv_goto (tgt := 12) hx hb dX11_lip_80 (by decide) ?_
          exact ih12 x1 y0 x3 (x4 + (1 : Int32)) _ _ _ hS (lv_sub hl [3, 4, 2, 1, 0] rfl) hrun
        · have hrun := iq hc hrun
          refine lv_iload hx hb dX11_lip_70 (lv_at hl 5 rfl) ?_
          refine lv_goto (tgt := 76) hx hb dX11_lip_72 (by decide) ?_
          refine lv_istore_n (lv' := [(3, .int x6), (2, .int y0), (0, .ref (X.2.1 144)), (1, .int x1), (4, .int x4), (6, .int x6)]) hx hb dX11_lip_76 rfl hl (by decide) rfl (fun ls hl => ?_)
          refine lv_iinc (v := x4 + (1 : Int32)) (k := 4) (lv' := [(4, .int (x4 + (1 : Int32))), (3, .int x6), (2, .int y0), (0, .ref (X.2.1 144)), (1, .int x1), (6, .int x6)]) hx hb dX11_lip_77 hl rfl rfl (by decide) rfl (fun ls hl => ?_)
          refine lv_goto (tgt := 12) hx hb dX11_lip_80 (by decide) ?_
          exact ih12 x1 y0 x6 (x4 + (1 : Int32)) _ _ _ hS (lv_sub hl [3, 4, 2, 1, 0] rfl) hrun
      have hB49 : ∀ (x1 : Int32) (x2 : Int32) (x3 : Int32) (x4 : Int32) (y0 : Int32) (H : Heap) (locs : List Loc) (ls : Array Slot), SS X t s.heap H locs → lv_has ls 7 [(0, .ref (X.2.1 144)), (1, .int x1), (2, .int x2), (3, .int x3), (4, .int x4)] → fX11_lip_49 t (fX11_lip_12 t n12) x1 x2 x3 x4 y0 = some r → W p l e ({ frames := 6, cells := 0, slots := 0, locals := 139 } : Room) s m args below meth c H locs 0 0 Q (F0 m 49 ls [.int y0]) := by
        intro x1 x2 x3 x4 y0 H locs ls hS hl hrun
        unfold fX11_lip_49 at hrun
        refine lv_istore (lv' := [(6, .int y0), (0, .ref (X.2.1 144)), (1, .int x1), (2, .int x2), (3, .int x3), (4, .int x4)]) hx hb dX11_lip_49 hl (by decide) rfl (fun ls hl => ?_)
        refine lv_iload hx hb dX11_lip_51 (lv_at hl 0 rfl) ?_
        refine lv_iload_n hx hb dX11_lip_53 rfl (lv_at hl 4 rfl) ?_
        refine lv_icmp_ge (tgt := 62) hx hb dX11_lip_54 (by decide) (fun hc => ?_) (fun hc => ?_)
        · have hrun := ip hc hrun
          refine lv_iload_n hx hb dX11_lip_62 rfl (lv_at hl 3 rfl) ?_
          exact hB63 x1 x3 x4 y0 x2 _ _ _ hS (lv_sub hl [1, 2, 4, 5, 0] rfl) hrun
        · have hrun := iq hc hrun
          refine lv_iload hx hb dX11_lip_57 (lv_at hl 5 rfl) ?_
          refine lv_goto (tgt := 63) hx hb dX11_lip_59 (by decide) ?_
          exact hB63 x1 x3 x4 y0 x4 _ _ _ hS (lv_sub hl [1, 2, 4, 5, 0] rfl) hrun
      intro x1 x2 x3 x4 H locs ls hS hl hrun
      rw [fX11_lip_12_s] at hrun
      refine lv_iload hx hb dX11_lip_12 (lv_at hl 4 rfl) ?_
      refine lv_aload_n hx hb dX11_lip_14 rfl (lv_at hl 0 rfl) ?_
      refine gX11_81 B hS dX11_lip_15 ?_
      refine lv_icmp_ge (tgt := 83) hx hb dX11_lip_18 (by decide) (fun hc => ?_) (fun hc => ?_)
      · have hrun := ip hc hrun
        refine lv_iload_n hx hb dX11_lip_83 rfl (lv_at hl 2 rfl) ?_
        exact hret _ _ _ _ _ _ (congrArg (Option.map (fun w => (w, t))) hrun) rfl hS dX11_lip_84
      · have hrun := iq hc hrun
        refine lv_aload_n hx hb dX11_lip_21 rfl (lv_at hl 0 rfl) ?_
        refine lv_iconst (v := 1) hx hb dX11_lip_22 (by decide) ?_
        refine lv_iload hx hb dX11_lip_23 (lv_at hl 4 rfl) ?_
        refine lv_ishl hx hb dX11_lip_25 ?_
        obtain ⟨r_1014, hc_1013, hrun⟩ := bdE hrun
        refine qX11_327 B hS hc_1013 hl.1 (Nat.le_of_ble_eq_true rfl) ⟨Nat.le_of_ble_eq_true rfl, Nat.le_of_ble_eq_true rfl⟩ ⟨Nat.zero_le _, Nat.zero_le _⟩ dX11_lip_26 (fun H locs hS => ?_)
        refine lv_istore (lv' := [(5, .int r_1014), (0, .ref (X.2.1 144)), (1, .int x1), (2, .int x2), (3, .int x3), (4, .int x4)]) hx hb dX11_lip_29 hl (by decide) rfl (fun ls hl => ?_)
        refine lv_iload hx hb dX11_lip_31 (lv_at hl 0 rfl) ?_
        refine lv_iload_n hx hb dX11_lip_33 rfl (lv_at hl 2 rfl) ?_
        refine lv_iload hx hb dX11_lip_34 (lv_at hl 0 rfl) ?_
        refine lv_isub hx hb dX11_lip_36 ?_
        refine lv_icmp_le (tgt := 45) hx hb dX11_lip_37 (by decide) (fun hc => ?_) (fun hc => ?_)
        · have hrun := ip hc hrun
          refine lv_iload_n hx hb dX11_lip_45 rfl (lv_at hl 2 rfl) ?_
          refine lv_iload hx hb dX11_lip_46 (lv_at hl 0 rfl) ?_
          refine lv_isub hx hb dX11_lip_48 ?_
          exact hB49 x1 x2 x3 x4 (x1 - r_1014) _ _ _ hS (lv_sub hl [1, 2, 3, 4, 5] rfl) hrun
        · have hrun := iq hc hrun
          refine lv_iload hx hb dX11_lip_40 (lv_at hl 0 rfl) ?_
          refine lv_goto (tgt := 49) hx hb dX11_lip_42 (by decide) ?_
          exact hB49 x1 x2 x3 x4 r_1014 _ _ _ hS (lv_sub hl [1, 2, 3, 4, 5] rfl) hrun
  unfold fX11_lip at hrun
  refine lv_aload_n hx hb dX11_lip_0 rfl (lv_at hl 0 rfl) ?_
  obtain ⟨r_2, hc_1, hrun⟩ := bdE hrun
  refine qX11_219 B hS hc_1 hl.1 (Nat.le_of_ble_eq_true rfl) ⟨Nat.le_of_ble_eq_true rfl, Nat.le_of_ble_eq_true rfl⟩ ⟨Nat.zero_le _, Nat.zero_le _⟩ dX11_lip_1 (fun H locs hS => ?_)
  refine lv_istore_n (lv' := [(1, .int r_2), (0, .ref (X.2.1 144))]) hx hb dX11_lip_4 rfl hl (by decide) rfl (fun ls hl => ?_)
  refine lv_iconst (v := -1) hx hb dX11_lip_5 (by decide) ?_
  refine lv_istore_n (lv' := [(2, .int (-1 : Int32)), (1, .int r_2), (0, .ref (X.2.1 144))]) hx hb dX11_lip_6 rfl hl (by decide) rfl (fun ls hl => ?_)
  refine lv_iload_n hx hb dX11_lip_7 rfl (lv_at hl 1 rfl) ?_
  refine lv_istore_n (lv' := [(3, .int r_2), (2, .int (-1 : Int32)), (1, .int r_2), (0, .ref (X.2.1 144))]) hx hb dX11_lip_8 rfl hl (by decide) rfl (fun ls hl => ?_)
  refine lv_iconst (v := 0) hx hb dX11_lip_9 (by decide) ?_
  refine lv_istore (lv' := [(4, .int (0 : Int32)), (3, .int r_2), (2, .int (-1 : Int32)), (1, .int r_2), (0, .ref (X.2.1 144))]) hx hb dX11_lip_10 hl (by decide) rfl (fun ls hl => ?_)
  exact hB12 fuelN r_2 (-1 : Int32) r_2 (0 : Int32) _ _ _ hS (lv_sub hl [4, 3, 2, 1, 0] rfl) hrun
theorem mdX11_told : MD yX11_told 1 := ⟨by decide +kernel, by decide +kernel, by decide +kernel⟩
section QX11_told
variable {p : Program} {l : Launch} {e : Env} {R : Room} {s : State} {m : MethodId} {args : Array Value} {below : List Frame} {meth : Method} {c : Code} {H : Heap} {locs : List Loc} {cells slots : Nat} {Q : State → Prop}
variable {cc : ByteArray} {pc : Nat} {ls : Array Slot} {rest : List Value} {X : Cx} {t : St} {H0 : Heap} {nL : Nat}
theorem qX11_207 (B : Bx p s m args c cc nL X RX11) (hS : SS X t H0 H locs) {r : Int32} (hM : fX11_owedByAll t = some r) (hsz : ls.size = nL) (hW : (rest.map fun v => v.category).sum ≤ 8) (hR : 3 + 1 ≤ R.frames ∧ 8 + (3 + 11) + 69 ≤ R.locals) (hR2 : cells ≤ R.cells ∧ slots ≤ R.slots) (hdg : decode cc pc = .ok (.invokevirtual 207, 3)) (kk : ∀ (H1 : Heap) (locs1 : List Loc), SS X t H0 H1 locs1 → W p l e R s m args below meth c H1 locs1 cells slots Q (F0 m (pc + 3) ls (.int r :: rest))) : W p l e R s m args below meth c H locs cells slots Q (F0 m pc ls (.ref (X.2.1 144) :: rest)) :=
  xVi B hS (kX11_owedByAll l X t r hM) (tw_5 45 rfl rfl) (tw_5 47 rfl rfl) (tw_0 32 rfl rfl) (tw_1 12 rfl rfl) (tw_5 48 rfl rfl) mdX11_owedByAll (by decide) (ceX11 _) rfl rfl rfl hsz rfl hW hR hR2 hdg kk
theorem qX11_210 (B : Bx p s m args c cc nL X RX11) (hS : SS X t H0 H locs) {r : Int32} (hM : fX11_deafPlaces t = some r) (hsz : ls.size = nL) (hW : (rest.map fun v => v.category).sum ≤ 8) (hR : 1 + 1 ≤ R.frames ∧ 8 + (3 + 11) + 23 ≤ R.locals) (hR2 : cells ≤ R.cells ∧ slots ≤ R.slots) (hdg : decode cc pc = .ok (.invokevirtual 210, 3)) (kk : ∀ (H1 : Heap) (locs1 : List Loc), SS X t H0 H1 locs1 → W p l e R s m args below meth c H1 locs1 cells slots Q (F0 m (pc + 3) ls (.int r :: rest))) : W p l e R s m args below meth c H locs cells slots Q (F0 m pc ls (.ref (X.2.1 144) :: rest)) :=
  xVi B hS (kX11_deafPlaces l X t r hM) (tw_5 61 rfl rfl) (tw_5 63 rfl rfl) (tw_0 36 rfl rfl) (tw_1 12 rfl rfl) (tw_5 64 rfl rfl) mdX11_deafPlaces (by decide) (ceX11 _) rfl rfl rfl hsz rfl hW hR hR2 hdg kk
theorem qX11_213 (B : Bx p s m args c cc nL X RX11) (hS : SS X t H0 H locs) {r : Int32} (hM : fX11_richest t = some r) (hsz : ls.size = nL) (hW : (rest.map fun v => v.category).sum ≤ 8) (hR : 0 + 1 ≤ R.frames ∧ 8 + (3 + 11) + 0 ≤ R.locals) (hR2 : cells ≤ R.cells ∧ slots ≤ R.slots) (hdg : decode cc pc = .ok (.invokevirtual 213, 3)) (kk : ∀ (H1 : Heap) (locs1 : List Loc), SS X t H0 H1 locs1 → W p l e R s m args below meth c H1 locs1 cells slots Q (F0 m (pc + 3) ls (.int r :: rest))) : W p l e R s m args below meth c H locs cells slots Q (F0 m pc ls (.ref (X.2.1 144) :: rest)) :=
  xVi B hS (kX11_richest l X t r hM) (tw_5 65 rfl rfl) (tw_5 67 rfl rfl) (tw_0 37 rfl rfl) (tw_1 12 rfl rfl) (tw_5 68 rfl rfl) mdX11_richest (by decide) (ceX11 _) rfl rfl rfl hsz rfl hW hR hR2 hdg kk
theorem qX11_216 (B : Bx p s m args c cc nL X RX11) (hS : SS X t H0 H locs) {r : Int32} (hM : fX11_fewest t = some r) (hsz : ls.size = nL) (hW : (rest.map fun v => v.category).sum ≤ 8) (hR : 1 + 1 ≤ R.frames ∧ 8 + (5 + 11) + 22 ≤ R.locals) (hR2 : cells ≤ R.cells ∧ slots ≤ R.slots) (hdg : decode cc pc = .ok (.invokevirtual 216, 3)) (kk : ∀ (H1 : Heap) (locs1 : List Loc), SS X t H0 H1 locs1 → W p l e R s m args below meth c H1 locs1 cells slots Q (F0 m (pc + 3) ls (.int r :: rest))) : W p l e R s m args below meth c H locs cells slots Q (F0 m pc ls (.ref (X.2.1 144) :: rest)) :=
  xVi B hS (kX11_fewest l X t r hM) (tw_5 69 rfl rfl) (tw_5 71 rfl rfl) (tw_0 38 rfl rfl) (tw_1 12 rfl rfl) (tw_5 72 rfl rfl) mdX11_fewest (by decide) (ceX11 _) rfl rfl rfl hsz rfl hW hR hR2 hdg kk
theorem qX11_222 (B : Bx p s m args c cc nL X RX11) (hS : SS X t H0 H locs) {r : Int32} (hM : fX11_inEach t = some r) (hsz : ls.size = nL) (hW : (rest.map fun v => v.category).sum ≤ 8) (hR : 4 + 1 ≤ R.frames ∧ 8 + (3 + 11) + 96 ≤ R.locals) (hR2 : cells ≤ R.cells ∧ slots ≤ R.slots) (hdg : decode cc pc = .ok (.invokevirtual 222, 3)) (kk : ∀ (H1 : Heap) (locs1 : List Loc), SS X t H0 H1 locs1 → W p l e R s m args below meth c H1 locs1 cells slots Q (F0 m (pc + 3) ls (.int r :: rest))) : W p l e R s m args below meth c H locs cells slots Q (F0 m pc ls (.ref (X.2.1 144) :: rest)) :=
  xVi B hS (kX11_inEach l X t r hM) (tw_5 95 rfl rfl) (tw_5 97 rfl rfl) (tw_0 43 rfl rfl) (tw_1 12 rfl rfl) (tw_5 98 rfl rfl) mdX11_inEach (by decide) (ceX11 _) rfl rfl rfl hsz rfl hW hR hR2 hdg kk
theorem qX11_225 (B : Bx p s m args c cc nL X RX11) (hS : SS X t H0 H locs) {r : Int32} (hM : fX11_lip t = some r) (hsz : ls.size = nL) (hW : (rest.map fun v => v.category).sum ≤ 8) (hR : 6 + 1 ≤ R.frames ∧ 8 + (7 + 11) + 139 ≤ R.locals) (hR2 : cells ≤ R.cells ∧ slots ≤ R.slots) (hdg : decode cc pc = .ok (.invokevirtual 225, 3)) (kk : ∀ (H1 : Heap) (locs1 : List Loc), SS X t H0 H1 locs1 → W p l e R s m args below meth c H1 locs1 cells slots Q (F0 m (pc + 3) ls (.int r :: rest))) : W p l e R s m args below meth c H locs cells slots Q (F0 m pc ls (.ref (X.2.1 144) :: rest)) :=
  xVi B hS (kX11_lip l X t r hM) (tw_5 99 rfl rfl) (tw_5 101 rfl rfl) (tw_0 44 rfl rfl) (tw_1 12 rfl rfl) (tw_5 102 rfl rfl) mdX11_lip (by decide) (ceX11 _) rfl rfl rfl hsz rfl hW hR hR2 hdg kk
end QX11_told
set_option maxHeartbeats 4000000 in
set_option maxRecDepth 100000 in
theorem kX11_told (l : Launch) (X : Cx) (t : St) (x1 : Int32) (r : Int32) (hrun : fX11_told t x1 = some r) : Ci l X t yX11_told cX11_told 2 .int 7 165 [.ref (X.2.1 144), .int x1] r t := by
  refine Ci_of (by decide) (Nat.le_of_ble_eq_true rfl) ?_
  intro p e s m args below meth c Q B hret hS ls hl
  have hx := B.1
  have hb := B.2.1
  have hown := B.2.2.2.1
  have hts := B.2.2.2.2.1
  have hl : lv_has ls 2 [(0, .ref (X.2.1 144)), (1, .int x1)] := hl
  unfold fX11_told at hrun
  refine lv_iload_n hx hb dX11_told_0 rfl (lv_at hl 1 rfl) ?_
  by_cases hw_1 : x1 = (0 : Int32)
  · have hrun := ip hw_1 hrun
    refine lv_tableIn (off := 95) (tgt := 96) hx hb dX11_told_1 (by rw [hw_1]; decide) (by rw [hw_1]; decide) (by rw [hw_1]; rfl) (by decide) ?_
    refine lv_aload_n hx hb dX11_told_96 rfl (lv_at hl 0 rfl) ?_
    refine gX11_25 B hS dX11_told_97 ?_
    refine lv_bipush (v := 25) hx hb dX11_told_100 (by decide) ?_
    refine xa B hS ia_150 (by unfold vp_in; decide) dX11_told_102 ?_
    exact hret _ _ _ _ _ _ (congrArg (Option.map (fun w => (w, t))) hrun) rfl hS dX11_told_103
  have hrun := iq hw_1 hrun
  by_cases hw_2 : x1 = (1 : Int32)
  · have hrun := ip hw_2 hrun
    refine lv_tableIn (off := 103) (tgt := 104) hx hb dX11_told_1 (by rw [hw_2]; decide) (by rw [hw_2]; decide) (by rw [hw_2]; rfl) (by decide) ?_
    refine lv_aload_n hx hb dX11_told_104 rfl (lv_at hl 0 rfl) ?_
    refine gX11_88 B hS dX11_told_105 ?_
    exact hret _ _ _ _ _ _ (congrArg (Option.map (fun w => (w, t))) hrun) rfl hS dX11_told_108
  have hrun := iq hw_2 hrun
  by_cases hw_3 : x1 = (2 : Int32)
  · have hrun := ip hw_3 hrun
    refine lv_tableIn (off := 108) (tgt := 109) hx hb dX11_told_1 (by rw [hw_3]; decide) (by rw [hw_3]; decide) (by rw [hw_3]; rfl) (by decide) ?_
    refine lv_aload_n hx hb dX11_told_109 rfl (lv_at hl 0 rfl) ?_
    refine gX11_150 B hS dX11_told_110 ?_
    exact hret _ _ _ _ _ _ (congrArg (Option.map (fun w => (w, t))) hrun) rfl hS dX11_told_113
  have hrun := iq hw_3 hrun
  by_cases hw_4 : x1 = (3 : Int32)
  · have hrun := ip hw_4 hrun
    refine lv_tableIn (off := 113) (tgt := 114) hx hb dX11_told_1 (by rw [hw_4]; decide) (by rw [hw_4]; decide) (by rw [hw_4]; rfl) (by decide) ?_
    refine lv_aload_n hx hb dX11_told_114 rfl (lv_at hl 0 rfl) ?_
    refine gX11_81 B hS dX11_told_115 ?_
    exact hret _ _ _ _ _ _ (congrArg (Option.map (fun w => (w, t))) hrun) rfl hS dX11_told_118
  have hrun := iq hw_4 hrun
  by_cases hw_5 : x1 = (4 : Int32)
  · have hrun := ip hw_5 hrun
    refine lv_tableIn (off := 118) (tgt := 119) hx hb dX11_told_1 (by rw [hw_5]; decide) (by rw [hw_5]; decide) (by rw [hw_5]; rfl) (by decide) ?_
    refine lv_aload_n hx hb dX11_told_119 rfl (lv_at hl 0 rfl) ?_
    refine gX11_153 B hS dX11_told_120 ?_
    exact hret _ _ _ _ _ _ (congrArg (Option.map (fun w => (w, t))) hrun) rfl hS dX11_told_123
  have hrun := iq hw_5 hrun
  by_cases hw_6 : x1 = (5 : Int32)
  · have hrun := ip hw_6 hrun
    refine lv_tableIn (off := 123) (tgt := 124) hx hb dX11_told_1 (by rw [hw_6]; decide) (by rw [hw_6]; decide) (by rw [hw_6]; rfl) (by decide) ?_
    refine lv_aload_n hx hb dX11_told_124 rfl (lv_at hl 0 rfl) ?_
    refine gX11_94 B hS dX11_told_125 ?_
    exact hret _ _ _ _ _ _ (congrArg (Option.map (fun w => (w, t))) hrun) rfl hS dX11_told_128
  have hrun := iq hw_6 hrun
  by_cases hw_7 : x1 = (6 : Int32)
  · have hrun := ip hw_7 hrun
    refine lv_tableIn (off := 128) (tgt := 129) hx hb dX11_told_1 (by rw [hw_7]; decide) (by rw [hw_7]; decide) (by rw [hw_7]; rfl) (by decide) ?_
    refine lv_aload_n hx hb dX11_told_129 rfl (lv_at hl 0 rfl) ?_
    refine gX11_25 B hS dX11_told_130 ?_
    refine lv_bipush (v := 28) hx hb dX11_told_133 (by decide) ?_
    refine xa B hS ia_150 (by unfold vp_in; decide) dX11_told_135 ?_
    exact hret _ _ _ _ _ _ (congrArg (Option.map (fun w => (w, t))) hrun) rfl hS dX11_told_136
  have hrun := iq hw_7 hrun
  by_cases hw_8 : x1 = (7 : Int32)
  · have hrun := ip hw_8 hrun
    refine lv_tableIn (off := 136) (tgt := 137) hx hb dX11_told_1 (by rw [hw_8]; decide) (by rw [hw_8]; decide) (by rw [hw_8]; rfl) (by decide) ?_
    refine lv_aload_n hx hb dX11_told_137 rfl (lv_at hl 0 rfl) ?_
    obtain ⟨r_10, hc_9, hrun⟩ := bdE hrun
    refine qX11_194 B hS hc_9 hl.1 (Nat.le_of_ble_eq_true rfl) ⟨Nat.le_of_ble_eq_true rfl, Nat.le_of_ble_eq_true rfl⟩ ⟨Nat.zero_le _, Nat.zero_le _⟩ dX11_told_138 (fun H locs hS => ?_)
    exact hret _ _ _ _ _ _ (congrArg (Option.map (fun w => (w, t))) hrun) rfl hS dX11_told_141
  have hrun := iq hw_8 hrun
  by_cases hw_11 : x1 = (8 : Int32)
  · have hrun := ip hw_11 hrun
    refine lv_tableIn (off := 141) (tgt := 142) hx hb dX11_told_1 (by rw [hw_11]; decide) (by rw [hw_11]; decide) (by rw [hw_11]; rfl) (by decide) ?_
    refine lv_aload_n hx hb dX11_told_142 rfl (lv_at hl 0 rfl) ?_
    refine gX11_25 B hS dX11_told_143 ?_
    refine lv_bipush (v := 26) hx hb dX11_told_146 (by decide) ?_
    refine xa B hS ia_150 (by unfold vp_in; decide) dX11_told_148 ?_
    exact hret _ _ _ _ _ _ (congrArg (Option.map (fun w => (w, t))) hrun) rfl hS dX11_told_149
  have hrun := iq hw_11 hrun
  by_cases hw_12 : x1 = (9 : Int32)
  · have hrun := ip hw_12 hrun
    refine lv_tableIn (off := 149) (tgt := 150) hx hb dX11_told_1 (by rw [hw_12]; decide) (by rw [hw_12]; decide) (by rw [hw_12]; rfl) (by decide) ?_
    refine lv_aload_n hx hb dX11_told_150 rfl (lv_at hl 0 rfl) ?_
    refine gX11_25 B hS dX11_told_151 ?_
    refine lv_bipush (v := 27) hx hb dX11_told_154 (by decide) ?_
    refine xa B hS ia_150 (by unfold vp_in; decide) dX11_told_156 ?_
    exact hret _ _ _ _ _ _ (congrArg (Option.map (fun w => (w, t))) hrun) rfl hS dX11_told_157
  have hrun := iq hw_12 hrun
  by_cases hw_13 : x1 = (10 : Int32)
  · have hrun := ip hw_13 hrun
    refine lv_tableIn (off := 157) (tgt := 158) hx hb dX11_told_1 (by rw [hw_13]; decide) (by rw [hw_13]; decide) (by rw [hw_13]; rfl) (by decide) ?_
    refine lv_aload_n hx hb dX11_told_158 rfl (lv_at hl 0 rfl) ?_
    obtain ⟨r_15, hc_14, hrun⟩ := bdE hrun
    refine qX11_207 B hS hc_14 hl.1 (Nat.le_of_ble_eq_true rfl) ⟨Nat.le_of_ble_eq_true rfl, Nat.le_of_ble_eq_true rfl⟩ ⟨Nat.zero_le _, Nat.zero_le _⟩ dX11_told_159 (fun H locs hS => ?_)
    exact hret _ _ _ _ _ _ (congrArg (Option.map (fun w => (w, t))) hrun) rfl hS dX11_told_162
  have hrun := iq hw_13 hrun
  by_cases hw_16 : x1 = (11 : Int32)
  · have hrun := ip hw_16 hrun
    refine lv_tableIn (off := 162) (tgt := 163) hx hb dX11_told_1 (by rw [hw_16]; decide) (by rw [hw_16]; decide) (by rw [hw_16]; rfl) (by decide) ?_
    refine lv_aload_n hx hb dX11_told_163 rfl (lv_at hl 0 rfl) ?_
    obtain ⟨r_18, hc_17, hrun⟩ := bdE hrun
    refine qX11_210 B hS hc_17 hl.1 (Nat.le_of_ble_eq_true rfl) ⟨Nat.le_of_ble_eq_true rfl, Nat.le_of_ble_eq_true rfl⟩ ⟨Nat.zero_le _, Nat.zero_le _⟩ dX11_told_164 (fun H locs hS => ?_)
    exact hret _ _ _ _ _ _ (congrArg (Option.map (fun w => (w, t))) hrun) rfl hS dX11_told_167
  have hrun := iq hw_16 hrun
  by_cases hw_19 : x1 = (12 : Int32)
  · have hrun := ip hw_19 hrun
    refine lv_tableIn (off := 167) (tgt := 168) hx hb dX11_told_1 (by rw [hw_19]; decide) (by rw [hw_19]; decide) (by rw [hw_19]; rfl) (by decide) ?_
    refine lv_aload_n hx hb dX11_told_168 rfl (lv_at hl 0 rfl) ?_
    obtain ⟨r_21, hc_20, hrun⟩ := bdE hrun
    refine qX11_213 B hS hc_20 hl.1 (Nat.le_of_ble_eq_true rfl) ⟨Nat.le_of_ble_eq_true rfl, Nat.le_of_ble_eq_true rfl⟩ ⟨Nat.zero_le _, Nat.zero_le _⟩ dX11_told_169 (fun H locs hS => ?_)
    exact hret _ _ _ _ _ _ (congrArg (Option.map (fun w => (w, t))) hrun) rfl hS dX11_told_172
  have hrun := iq hw_19 hrun
  by_cases hw_22 : x1 = (13 : Int32)
  · have hrun := ip hw_22 hrun
    refine lv_tableIn (off := 172) (tgt := 173) hx hb dX11_told_1 (by rw [hw_22]; decide) (by rw [hw_22]; decide) (by rw [hw_22]; rfl) (by decide) ?_
    refine lv_aload_n hx hb dX11_told_173 rfl (lv_at hl 0 rfl) ?_
    obtain ⟨r_24, hc_23, hrun⟩ := bdE hrun
    refine qX11_216 B hS hc_23 hl.1 (Nat.le_of_ble_eq_true rfl) ⟨Nat.le_of_ble_eq_true rfl, Nat.le_of_ble_eq_true rfl⟩ ⟨Nat.zero_le _, Nat.zero_le _⟩ dX11_told_174 (fun H locs hS => ?_)
    exact hret _ _ _ _ _ _ (congrArg (Option.map (fun w => (w, t))) hrun) rfl hS dX11_told_177
  have hrun := iq hw_22 hrun
  by_cases hw_25 : x1 = (14 : Int32)
  · have hrun := ip hw_25 hrun
    refine lv_tableIn (off := 177) (tgt := 178) hx hb dX11_told_1 (by rw [hw_25]; decide) (by rw [hw_25]; decide) (by rw [hw_25]; rfl) (by decide) ?_
    refine lv_aload_n hx hb dX11_told_178 rfl (lv_at hl 0 rfl) ?_
    refine gX11_170 B hS dX11_told_179 ?_
    exact hret _ _ _ _ _ _ (congrArg (Option.map (fun w => (w, t))) hrun) rfl hS dX11_told_182
  have hrun := iq hw_25 hrun
  by_cases hw_26 : x1 = (15 : Int32)
  · have hrun := ip hw_26 hrun
    refine lv_tableIn (off := 182) (tgt := 183) hx hb dX11_told_1 (by rw [hw_26]; decide) (by rw [hw_26]; decide) (by rw [hw_26]; rfl) (by decide) ?_
    refine lv_aload_n hx hb dX11_told_183 rfl (lv_at hl 0 rfl) ?_
    obtain ⟨r_28, hc_27, hrun⟩ := bdE hrun
    refine qX11_219 B hS hc_27 hl.1 (Nat.le_of_ble_eq_true rfl) ⟨Nat.le_of_ble_eq_true rfl, Nat.le_of_ble_eq_true rfl⟩ ⟨Nat.zero_le _, Nat.zero_le _⟩ dX11_told_184 (fun H locs hS => ?_)
    exact hret _ _ _ _ _ _ (congrArg (Option.map (fun w => (w, t))) hrun) rfl hS dX11_told_187
  have hrun := iq hw_26 hrun
  by_cases hw_29 : x1 = (16 : Int32)
  · have hrun := ip hw_29 hrun
    refine lv_tableIn (off := 187) (tgt := 188) hx hb dX11_told_1 (by rw [hw_29]; decide) (by rw [hw_29]; decide) (by rw [hw_29]; rfl) (by decide) ?_
    refine lv_aload_n hx hb dX11_told_188 rfl (lv_at hl 0 rfl) ?_
    obtain ⟨r_31, hc_30, hrun⟩ := bdE hrun
    refine qX11_222 B hS hc_30 hl.1 (Nat.le_of_ble_eq_true rfl) ⟨Nat.le_of_ble_eq_true rfl, Nat.le_of_ble_eq_true rfl⟩ ⟨Nat.zero_le _, Nat.zero_le _⟩ dX11_told_189 (fun H locs hS => ?_)
    exact hret _ _ _ _ _ _ (congrArg (Option.map (fun w => (w, t))) hrun) rfl hS dX11_told_192
  have hrun := iq hw_29 hrun
  by_cases hw_32 : x1 = (17 : Int32)
  · have hrun := ip hw_32 hrun
    refine lv_tableIn (off := 192) (tgt := 193) hx hb dX11_told_1 (by rw [hw_32]; decide) (by rw [hw_32]; decide) (by rw [hw_32]; rfl) (by decide) ?_
    refine lv_aload_n hx hb dX11_told_193 rfl (lv_at hl 0 rfl) ?_
    obtain ⟨r_34, hc_33, hrun⟩ := bdE hrun
    refine qX11_225 B hS hc_33 hl.1 (Nat.le_of_ble_eq_true rfl) ⟨Nat.le_of_ble_eq_true rfl, Nat.le_of_ble_eq_true rfl⟩ ⟨Nat.zero_le _, Nat.zero_le _⟩ dX11_told_194 (fun H locs hS => ?_)
    exact hret _ _ _ _ _ _ (congrArg (Option.map (fun w => (w, t))) hrun) rfl hS dX11_told_197
  have hrun := iq hw_32 hrun
  by_cases hw_35 : x1 = (18 : Int32)
  · have hrun := ip hw_35 hrun
    refine lv_tableIn (off := 197) (tgt := 198) hx hb dX11_told_1 (by rw [hw_35]; decide) (by rw [hw_35]; decide) (by rw [hw_35]; rfl) (by decide) ?_
    refine lv_aload_n hx hb dX11_told_198 rfl (lv_at hl 0 rfl) ?_
    refine gX11_173 B hS dX11_told_199 ?_
    exact hret _ _ _ _ _ _ (congrArg (Option.map (fun w => (w, t))) hrun) rfl hS dX11_told_202
  have hrun := iq hw_35 hrun
  by_cases hw_36 : x1 = (19 : Int32)
  · have hrun := ip hw_36 hrun
    refine lv_tableIn (off := 202) (tgt := 203) hx hb dX11_told_1 (by rw [hw_36]; decide) (by rw [hw_36]; decide) (by rw [hw_36]; rfl) (by decide) ?_
    refine lv_aload_n hx hb dX11_told_203 rfl (lv_at hl 0 rfl) ?_
    refine gX11_176 B hS dX11_told_204 ?_
    exact hret _ _ _ _ _ _ (congrArg (Option.map (fun w => (w, t))) hrun) rfl hS dX11_told_207
  have hrun := iq hw_36 hrun
  have hw_1 := lv_neT (a := 0) hw_1 (by decide)
  have hw_2 := lv_neT (a := 1) hw_2 (by decide)
  have hw_3 := lv_neT (a := 2) hw_3 (by decide)
  have hw_4 := lv_neT (a := 3) hw_4 (by decide)
  have hw_5 := lv_neT (a := 4) hw_5 (by decide)
  have hw_6 := lv_neT (a := 5) hw_6 (by decide)
  have hw_7 := lv_neT (a := 6) hw_7 (by decide)
  have hw_8 := lv_neT (a := 7) hw_8 (by decide)
  have hw_11 := lv_neT (a := 8) hw_11 (by decide)
  have hw_12 := lv_neT (a := 9) hw_12 (by decide)
  have hw_13 := lv_neT (a := 10) hw_13 (by decide)
  have hw_16 := lv_neT (a := 11) hw_16 (by decide)
  have hw_19 := lv_neT (a := 12) hw_19 (by decide)
  have hw_22 := lv_neT (a := 13) hw_22 (by decide)
  have hw_25 := lv_neT (a := 14) hw_25 (by decide)
  have hw_26 := lv_neT (a := 15) hw_26 (by decide)
  have hw_29 := lv_neT (a := 16) hw_29 (by decide)
  have hw_32 := lv_neT (a := 17) hw_32 (by decide)
  have hw_35 := lv_neT (a := 18) hw_35 (by decide)
  have hw_36 := lv_neT (a := 19) hw_36 (by decide)
  refine lv_tableOut (tgt := 208) hx hb dX11_told_1 (by omega) (by decide) ?_
  refine lv_ldc (v := -1000000002) hx hb hown (hts _ (tw_4 220 rfl rfl)) dX11_told_208 ?_
  exact hret _ _ _ _ _ _ (congrArg (Option.map (fun w => (w, t))) hrun) rfl hS dX11_told_210
theorem mdX11_singer : MD yX11_singer 2 := ⟨by decide +kernel, by decide +kernel, by decide +kernel⟩
section QX11_singer
variable {p : Program} {l : Launch} {e : Env} {R : Room} {s : State} {m : MethodId} {args : Array Value} {below : List Frame} {meth : Method} {c : Code} {H : Heap} {locs : List Loc} {cells slots : Nat} {Q : State → Prop}
variable {cc : ByteArray} {pc : Nat} {ls : Array Slot} {rest : List Value} {X : Cx} {t : St} {H0 : Heap} {nL : Nat}
theorem qX11_228 (B : Bx p s m args c cc nL X RX11) (hS : SS X t H0 H locs) {x1 : Int32} {r : Int32} (hM : fX11_isSinger t x1 = some r) (hsz : ls.size = nL) (hW : (rest.map fun v => v.category).sum ≤ 8) (hR : 1 + 1 ≤ R.frames ∧ 8 + (2 + 11) + 25 ≤ R.locals) (hR2 : cells ≤ R.cells ∧ slots ≤ R.slots) (hdg : decode cc pc = .ok (.invokevirtual 228, 3)) (kk : ∀ (H1 : Heap) (locs1 : List Loc), SS X t H0 H1 locs1 → W p l e R s m args below meth c H1 locs1 cells slots Q (F0 m (pc + 3) ls (.int r :: rest))) : W p l e R s m args below meth c H locs cells slots Q (F0 m pc ls (.int x1 :: .ref (X.2.1 144) :: rest)) :=
  xVi B hS (kX11_isSinger l X t x1 r hM) (tw_5 107 rfl rfl) (tw_5 109 rfl rfl) (tw_0 45 rfl rfl) (tw_1 12 rfl rfl) (tw_5 110 rfl rfl) mdX11_isSinger (by decide) (ceX11 _) rfl rfl rfl hsz rfl hW hR hR2 hdg kk
end QX11_singer
set_option maxHeartbeats 4000000 in
set_option maxRecDepth 100000 in
theorem kX11_singer (l : Launch) (X : Cx) (t : St) (x1 : Int32) (x2 : Int32) (r : Int32) (hrun : fX11_singer t x1 x2 = some r) : Ci l X t yX11_singer cX11_singer 3 .int 3 69 [.ref (X.2.1 144), .int x1, .int x2] r t := by
  refine Ci_of (by decide) (Nat.le_of_ble_eq_true rfl) ?_
  intro p e s m args below meth c Q B hret hS ls hl
  have hx := B.1
  have hb := B.2.1
  have hown := B.2.2.2.1
  have hts := B.2.2.2.2.1
  have hl : lv_has ls 3 [(0, .ref (X.2.1 144)), (1, .int x1), (2, .int x2)] := hl
  unfold fX11_singer at hrun
  refine lv_aload_n hx hb dX11_singer_0 rfl (lv_at hl 0 rfl) ?_
  refine lv_iload_n hx hb dX11_singer_1 rfl (lv_at hl 1 rfl) ?_
  obtain ⟨r_2, hc_1, hrun⟩ := bdE hrun
  refine qX11_228 B hS hc_1 hl.1 (Nat.le_of_ble_eq_true rfl) ⟨Nat.le_of_ble_eq_true rfl, Nat.le_of_ble_eq_true rfl⟩ ⟨Nat.zero_le _, Nat.zero_le _⟩ dX11_singer_2 (fun H locs hS => ?_)
  refine lv_if_ne (tgt := 11) hx hb dX11_singer_5 (by decide) (fun hc => ?_) (fun hc => ?_)
  · have hrun := iq hc hrun
    refine lv_iload_n hx hb dX11_singer_11 rfl (lv_at hl 2 rfl) ?_
    by_cases hw_3 : x2 = (0 : Int32)
    · have hrun := ip hw_3 hrun
      refine lv_tableIn (off := 40) (tgt := 52) hx hb dX11_singer_12 (by rw [hw_3]; decide) (by rw [hw_3]; decide) (by rw [hw_3]; rfl) (by decide) ?_
      refine lv_aload_n hx hb dX11_singer_52 rfl (lv_at hl 0 rfl) ?_
      refine gX11_7 B hS dX11_singer_53 ?_
      refine lv_iload_n hx hb dX11_singer_56 rfl (lv_at hl 1 rfl) ?_
      obtain ⟨hi_4, hrun⟩ := gdE hrun
      refine xa B hS ia_145 hi_4 dX11_singer_57 ?_
      exact hret _ _ _ _ _ _ (congrArg (Option.map (fun w => (w, t))) hrun) rfl hS dX11_singer_58
    have hrun := iq hw_3 hrun
    by_cases hw_5 : x2 = (1 : Int32)
    · have hrun := ip hw_5 hrun
      refine lv_tableIn (off := 47) (tgt := 59) hx hb dX11_singer_12 (by rw [hw_5]; decide) (by rw [hw_5]; decide) (by rw [hw_5]; rfl) (by decide) ?_
      refine lv_aload_n hx hb dX11_singer_59 rfl (lv_at hl 0 rfl) ?_
      refine gX11_25 B hS dX11_singer_60 ?_
      refine lv_iload_n hx hb dX11_singer_63 rfl (lv_at hl 1 rfl) ?_
      obtain ⟨hi_6, hrun⟩ := gdE hrun
      refine xa B hS ia_150 hi_6 dX11_singer_64 ?_
      exact hret _ _ _ _ _ _ (congrArg (Option.map (fun w => (w, t))) hrun) rfl hS dX11_singer_65
    have hrun := iq hw_5 hrun
    by_cases hw_7 : x2 = (2 : Int32)
    · have hrun := ip hw_7 hrun
      refine lv_tableIn (off := 54) (tgt := 66) hx hb dX11_singer_12 (by rw [hw_7]; decide) (by rw [hw_7]; decide) (by rw [hw_7]; rfl) (by decide) ?_
      refine lv_aload_n hx hb dX11_singer_66 rfl (lv_at hl 0 rfl) ?_
      refine gX11_25 B hS dX11_singer_67 ?_
      refine lv_bipush (v := 7) hx hb dX11_singer_70 (by decide) ?_
      refine lv_iload_n hx hb dX11_singer_72 rfl (lv_at hl 1 rfl) ?_
      refine lv_iadd hx hb dX11_singer_73 ?_
      obtain ⟨hi_8, hrun⟩ := gdE hrun
      refine xa B hS ia_150 hi_8 dX11_singer_74 ?_
      exact hret _ _ _ _ _ _ (congrArg (Option.map (fun w => (w, t))) hrun) rfl hS dX11_singer_75
    have hrun := iq hw_7 hrun
    by_cases hw_9 : x2 = (3 : Int32)
    · have hrun := ip hw_9 hrun
      refine lv_tableIn (off := 64) (tgt := 76) hx hb dX11_singer_12 (by rw [hw_9]; decide) (by rw [hw_9]; decide) (by rw [hw_9]; rfl) (by decide) ?_
      refine lv_aload_n hx hb dX11_singer_76 rfl (lv_at hl 0 rfl) ?_
      refine gX11_19 B hS dX11_singer_77 ?_
      refine lv_iload_n hx hb dX11_singer_80 rfl (lv_at hl 1 rfl) ?_
      obtain ⟨hi_10, hrun⟩ := gdE hrun
      refine xa B hS ia_148 hi_10 dX11_singer_81 ?_
      exact hret _ _ _ _ _ _ (congrArg (Option.map (fun w => (w, t))) hrun) rfl hS dX11_singer_82
    have hrun := iq hw_9 hrun
    by_cases hw_11 : x2 = (4 : Int32)
    · have hrun := ip hw_11 hrun
      refine lv_tableIn (off := 71) (tgt := 83) hx hb dX11_singer_12 (by rw [hw_11]; decide) (by rw [hw_11]; decide) (by rw [hw_11]; rfl) (by decide) ?_
      refine lv_aload_n hx hb dX11_singer_83 rfl (lv_at hl 0 rfl) ?_
      refine gX11_25 B hS dX11_singer_84 ?_
      refine lv_bipush (v := 14) hx hb dX11_singer_87 (by decide) ?_
      refine lv_iload_n hx hb dX11_singer_89 rfl (lv_at hl 1 rfl) ?_
      refine lv_iadd hx hb dX11_singer_90 ?_
      obtain ⟨hi_12, hrun⟩ := gdE hrun
      refine xa B hS ia_150 hi_12 dX11_singer_91 ?_
      exact hret _ _ _ _ _ _ (congrArg (Option.map (fun w => (w, t))) hrun) rfl hS dX11_singer_92
    have hrun := iq hw_11 hrun
    by_cases hw_13 : x2 = (5 : Int32)
    · have hrun := ip hw_13 hrun
      refine lv_tableIn (off := 81) (tgt := 93) hx hb dX11_singer_12 (by rw [hw_13]; decide) (by rw [hw_13]; decide) (by rw [hw_13]; rfl) (by decide) ?_
      refine lv_aload_n hx hb dX11_singer_93 rfl (lv_at hl 0 rfl) ?_
      refine lv_iload_n hx hb dX11_singer_94 rfl (lv_at hl 1 rfl) ?_
      obtain ⟨r_15, hc_14, hrun⟩ := bdE hrun
      refine qX11_200 B hS hc_14 hl.1 (Nat.le_of_ble_eq_true rfl) ⟨Nat.le_of_ble_eq_true rfl, Nat.le_of_ble_eq_true rfl⟩ ⟨Nat.zero_le _, Nat.zero_le _⟩ dX11_singer_95 (fun H locs hS => ?_)
      exact hret _ _ _ _ _ _ (congrArg (Option.map (fun w => (w, t))) hrun) rfl hS dX11_singer_98
    have hrun := iq hw_13 hrun
    have hw_3 := lv_neT (a := 0) hw_3 (by decide)
    have hw_5 := lv_neT (a := 1) hw_5 (by decide)
    have hw_7 := lv_neT (a := 2) hw_7 (by decide)
    have hw_9 := lv_neT (a := 3) hw_9 (by decide)
    have hw_11 := lv_neT (a := 4) hw_11 (by decide)
    have hw_13 := lv_neT (a := 5) hw_13 (by decide)
    refine lv_tableOut (tgt := 99) hx hb dX11_singer_12 (by omega) (by decide) ?_
    refine lv_ldc (v := -1000000002) hx hb hown (hts _ (tw_4 220 rfl rfl)) dX11_singer_99 ?_
    exact hret _ _ _ _ _ _ (congrArg (Option.map (fun w => (w, t))) hrun) rfl hS dX11_singer_101
  · have hrun := ip hc hrun
    refine lv_ldc (v := -1000000001) hx hb hown (hts _ (tw_5 111 rfl rfl)) dX11_singer_8 ?_
    exact hret _ _ _ _ _ _ (congrArg (Option.map (fun w => (w, t))) hrun) rfl hS dX11_singer_10
