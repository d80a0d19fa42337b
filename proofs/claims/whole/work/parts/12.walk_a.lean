theorem nb {v : Int32} (h : v = 0 ∨ v = 1) : narrow .boolean (.int v) = .int v := by rcases h with rfl | rfl <;> rfl
theorem mdX8_everyone : MD yX8_everyone 0 := ⟨by decide +kernel, by decide +kernel, by decide +kernel⟩
set_option maxHeartbeats 4000000 in
set_option maxRecDepth 100000 in
theorem kX8_everyone (l : Launch) (X : Cx) (t : St) (h0 : Nat) (e0 : isReg h0) (r : Int32) (hrun : fX8_everyone h0 t = some r) : Ci l X t yX8_everyone cX8_everyone 1 .int 0 0 [.ref (X.2.1 h0)] r t := by
  refine Ci_of (by decide) (Nat.le_of_ble_eq_true rfl) ?_
  intro p e s m args below meth c Q B hret hS ls hl
  have hx := B.1
  have hb := B.2.1
  have hown := B.2.2.2.1
  have hts := B.2.2.2.2.1
  have hl : lv_has ls 1 [(0, .ref (X.2.1 h0))] := hl
  unfold fX8_everyone at hrun
  refine lv_iconst (v := 1) hx hb dX8_everyone_0 (by decide) ?_
  refine lv_aload_n hx hb dX8_everyone_1 rfl (lv_at hl 0 rfl) ?_
  refine gX8_37 B hS e0 dX8_everyone_2 ?_
  refine lv_ishl hx hb dX8_everyone_5 ?_
  refine lv_iconst (v := 1) hx hb dX8_everyone_6 (by decide) ?_
  refine lv_isub hx hb dX8_everyone_7 ?_
  exact hret _ _ _ _ _ _ (congrArg (Option.map (fun w => (w, t))) hrun) rfl hS dX8_everyone_8
theorem mdX10_isIn : MD yX10_isIn 2 := ⟨by decide +kernel, by decide +kernel, by decide +kernel⟩
set_option maxHeartbeats 4000000 in
set_option maxRecDepth 100000 in
theorem kX10_isIn (l : Launch) (X : Cx) (t : St) (x0 : Int32) (x1 : Int32) (r : Int32) (hrun : fX10_isIn t x0 x1 = some r) : Ci l X t yX10_isIn cX10_isIn 2 .boolean 0 0 [.int x0, .int x1] r t := by
  refine Ci_of (by decide) (Nat.le_of_ble_eq_true rfl) ?_
  intro p e s m args below meth c Q B hret hS ls hl
  have hx := B.1
  have hb := B.2.1
  have hown := B.2.2.2.1
  have hts := B.2.2.2.2.1
  have hl : lv_has ls 2 [(0, .int x0), (1, .int x1)] := hl
  unfold fX10_isIn at hrun
  refine lv_iload_n hx hb dX10_isIn_0 rfl (lv_at hl 1 rfl) ?_
  refine lv_iload_n hx hb dX10_isIn_1 rfl (lv_at hl 0 rfl) ?_
  refine lv_ishr hx hb dX10_isIn_2 ?_
  refine lv_iconst (v := 1) hx hb dX10_isIn_3 (by decide) ?_
  refine lv_iand hx hb dX10_isIn_4 ?_
  refine lv_iconst (v := 1) hx hb dX10_isIn_5 (by decide) ?_
  refine lv_icmp_ne (tgt := 13) hx hb dX10_isIn_6 (by decide) (fun hc => ?_) (fun hc => ?_)
  · have hrun := iq hc hrun
    refine lv_iconst (v := 0) hx hb dX10_isIn_13 (by decide) ?_
    exact hret _ _ _ _ _ _ (congrArg (Option.map (fun w => (w, t))) hrun) rfl hS dX10_isIn_14
  · have hrun := ip hc hrun
    refine lv_iconst (v := 1) hx hb dX10_isIn_9 (by decide) ?_
    refine lv_goto (tgt := 14) hx hb dX10_isIn_10 (by decide) ?_
    exact hret _ _ _ _ _ _ (congrArg (Option.map (fun w => (w, t))) hrun) rfl hS dX10_isIn_14
theorem mdX8_hasSinger : MD yX8_hasSinger 1 := ⟨by decide +kernel, by decide +kernel, by decide +kernel⟩
set_option maxHeartbeats 4000000 in
set_option maxRecDepth 100000 in
theorem kX8_hasSinger (l : Launch) (X : Cx) (t : St) (h0 : Nat) (e0 : isReg h0) (x1 : Int32) (r : Int32) (hrun : fX8_hasSinger h0 t x1 = some r) : Ci l X t yX8_hasSinger cX8_hasSinger 2 .boolean 0 0 [.ref (X.2.1 h0), .int x1] r t := by
  refine Ci_of (by decide) (Nat.le_of_ble_eq_true rfl) ?_
  intro p e s m args below meth c Q B hret hS ls hl
  have hx := B.1
  have hb := B.2.1
  have hown := B.2.2.2.1
  have hts := B.2.2.2.2.1
  have hl : lv_has ls 2 [(0, .ref (X.2.1 h0)), (1, .int x1)] := hl
  unfold fX8_hasSinger at hrun
  refine lv_iload_n hx hb dX8_hasSinger_0 rfl (lv_at hl 1 rfl) ?_
  refine lv_if_lt (tgt := 16) hx hb dX8_hasSinger_1 (by decide) (fun hc => ?_) (fun hc => ?_)
  · have hrun := ip hc hrun
    refine lv_iconst (v := 0) hx hb dX8_hasSinger_16 (by decide) ?_
    exact hret _ _ _ _ _ _ (congrArg (Option.map (fun w => (w, t))) hrun) rfl hS dX8_hasSinger_17
  · have hrun := iq hc hrun
    refine lv_iload_n hx hb dX8_hasSinger_4 rfl (lv_at hl 1 rfl) ?_
    refine lv_aload_n hx hb dX8_hasSinger_5 rfl (lv_at hl 0 rfl) ?_
    refine gX8_37 B hS e0 dX8_hasSinger_6 ?_
    refine lv_icmp_ge (tgt := 16) hx hb dX8_hasSinger_9 (by decide) (fun hc => ?_) (fun hc => ?_)
    · have hrun := ip hc hrun
      refine lv_iconst (v := 0) hx hb dX8_hasSinger_16 (by decide) ?_
      exact hret _ _ _ _ _ _ (congrArg (Option.map (fun w => (w, t))) hrun) rfl hS dX8_hasSinger_17
    · have hrun := iq hc hrun
      refine lv_iconst (v := 1) hx hb dX8_hasSinger_12 (by decide) ?_
      refine lv_goto (tgt := 17) hx hb dX8_hasSinger_13 (by decide) ?_
      exact hret _ _ _ _ _ _ (congrArg (Option.map (fun w => (w, t))) hrun) rfl hS dX8_hasSinger_17
theorem mdX3_inspectorsIn : MD yX3_inspectorsIn 1 := ⟨by decide +kernel, by decide +kernel, by decide +kernel⟩
set_option maxHeartbeats 4000000 in
set_option maxRecDepth 100000 in
theorem kX3_inspectorsIn (l : Launch) (X : Cx) (t : St) (h0 : Nat) (e0 : isHall h0) (x1 : Int32) (r : Int32) (hrun : fX3_inspectorsIn h0 t x1 = some r) : Ci l X t yX3_inspectorsIn cX3_inspectorsIn 4 .int 0 0 [.ref (X.2.1 h0), .int x1] r t := by
  refine Ci_of (by decide) (Nat.le_of_ble_eq_true rfl) ?_
  intro p e s m args below meth c Q B hret hS ls hl
  have hx := B.1
  have hb := B.2.1
  have hown := B.2.2.2.1
  have hts := B.2.2.2.2.1
  have hl : lv_has ls 4 [(0, .ref (X.2.1 h0)), (1, .int x1)] := hl
  have hB4 : ∀ (n4 : Nat) (x1 : Int32) (x2 : Int32) (x3 : Int32) (H : Heap) (locs : List Loc) (ls : Array Slot), SS X t s.heap H locs → lv_has ls 4 [(0, .ref (X.2.1 h0)), (1, .int x1), (2, .int x2), (3, .int x3)] → fX3_inspectorsIn_4 h0 t n4 x1 x2 x3 = some r → W p l e ({ frames := 0, cells := 0, slots := 0, locals := 0 } : Room) s m args below meth c H locs 0 0 Q (F0 m 4 ls []) := by
    intro n4
    induction n4 with
    | zero =>
      intro x1 x2 x3 H locs ls hS hl hrun
      cases (show (none : Option (Int32)) = some r from hrun)
    | succ n4 ih4 =>
      intro x1 x2 x3 H locs ls hS hl hrun
      rw [fX3_inspectorsIn_4_s] at hrun
      refine lv_iload_n hx hb dX3_inspectorsIn_4 rfl (lv_at hl 3 rfl) ?_
      refine lv_aload_n hx hb dX3_inspectorsIn_5 rfl (lv_at hl 0 rfl) ?_
      refine gX3_37 B hS e0 dX3_inspectorsIn_6 ?_
      refine gX3_79 B hS reg_3 dX3_inspectorsIn_9 ?_
      refine lv_icmp_ge (tgt := 34) hx hb dX3_inspectorsIn_12 (by decide) (fun hc => ?_) (fun hc => ?_)
      · have hrun := ip hc hrun
        refine lv_iload_n hx hb dX3_inspectorsIn_34 rfl (lv_at hl 2 rfl) ?_
        exact hret _ _ _ _ _ _ (congrArg (Option.map (fun w => (w, t))) hrun) rfl hS dX3_inspectorsIn_35
      · have hrun := iq hc hrun
        refine lv_aload_n hx hb dX3_inspectorsIn_15 rfl (lv_at hl 0 rfl) ?_
        refine gX3_34 B hS e0 dX3_inspectorsIn_16 ?_
        refine lv_iload_n hx hb dX3_inspectorsIn_19 rfl (lv_at hl 3 rfl) ?_
        obtain ⟨hi_1005, hrun⟩ := gdE hrun
        refine xa B hS (iaX3_4 e0) hi_1005 dX3_inspectorsIn_20 ?_
        refine lv_iload_n hx hb dX3_inspectorsIn_21 rfl (lv_at hl 1 rfl) ?_
        refine lv_icmp_ne (tgt := 28) hx hb dX3_inspectorsIn_22 (by decide) (fun hc => ?_) (fun hc => ?_)
        · have hrun := iq hc hrun
          refine lv_iinc (v := x3 + (1 : Int32)) (k := 3) (lv' := [(3, .int (x3 + (1 : Int32))), (0, .ref (X.2.1 h0)), (1, .int x1), (2, .int x2)]) hx hb dX3_inspectorsIn_28 hl rfl rfl (by decide) rfl (fun ls hl => ?_)
          refine lv_goto (tgt := 4) hx hb dX3_inspectorsIn_31 (by decide) ?_
          exact ih4 x1 x2 (x3 + (1 : Int32)) _ _ _ hS (lv_sub hl [1, 2, 3, 0] rfl) hrun
        · have hrun := ip hc hrun
          refine lv_iinc (v := x2 + (1 : Int32)) (k := 2) (lv' := [(2, .int (x2 + (1 : Int32))), (0, .ref (X.2.1 h0)), (1, .int x1), (3, .int x3)]) hx hb dX3_inspectorsIn_25 hl rfl rfl (by decide) rfl (fun ls hl => ?_)
          refine lv_iinc (v := x3 + (1 : Int32)) (k := 3) (lv' := [(3, .int (x3 + (1 : Int32))), (2, .int (x2 + (1 : Int32))), (0, .ref (X.2.1 h0)), (1, .int x1)]) hx hb dX3_inspectorsIn_28 hl rfl rfl (by decide) rfl (fun ls hl => ?_)
          refine lv_goto (tgt := 4) hx hb dX3_inspectorsIn_31 (by decide) ?_
          exact ih4 x1 (x2 + (1 : Int32)) (x3 + (1 : Int32)) _ _ _ hS (lv_sub hl [2, 3, 1, 0] rfl) hrun
  unfold fX3_inspectorsIn at hrun
  refine lv_iconst (v := 0) hx hb dX3_inspectorsIn_0 (by decide) ?_
  refine lv_istore_n (lv' := [(2, .int (0 : Int32)), (0, .ref (X.2.1 h0)), (1, .int x1)]) hx hb dX3_inspectorsIn_1 rfl hl (by decide) rfl (fun ls hl => ?_)
  refine lv_iconst (v := 0) hx hb dX3_inspectorsIn_2 (by decide) ?_
  refine lv_istore_n (lv' := [(3, .int (0 : Int32)), (2, .int (0 : Int32)), (0, .ref (X.2.1 h0)), (1, .int x1)]) hx hb dX3_inspectorsIn_3 rfl hl (by decide) rfl (fun ls hl => ?_)
  exact hB4 fuelN x1 (0 : Int32) (0 : Int32) _ _ _ hS (lv_sub hl [2, 3, 1, 0] rfl) hrun
theorem mdX3_priceBy : MD yX3_priceBy 4 := ⟨by decide +kernel, by decide +kernel, by decide +kernel⟩
section QX3_priceBy
variable {p : Program} {l : Launch} {e : Env} {R : Room} {s : State} {m : MethodId} {args : Array Value} {below : List Frame} {meth : Method} {c : Code} {H : Heap} {locs : List Loc} {cells slots : Nat} {Q : State → Prop}
variable {cc : ByteArray} {pc : Nat} {ls : Array Slot} {rest : List Value} {X : Cx} {t : St} {H0 : Heap} {nL : Nat}
theorem qX3_59 (B : Bx p s m args c cc nL X RX3) (hS : SS X t H0 H locs) {h0 : Nat} (e0 : isReg h0) {x1 : Int32} {r : Int32} (hM : fX8_hasSinger h0 t x1 = some r) (hsz : ls.size = nL) (hW : (rest.map fun v => v.category).sum ≤ 8) (hR : 0 + 1 ≤ R.frames ∧ 8 + (2 + 11) + 0 ≤ R.locals) (hR2 : cells ≤ R.cells ∧ slots ≤ R.slots) (hdg : decode cc pc = .ok (.invokevirtual 59, 3)) (kk : ∀ (H1 : Heap) (locs1 : List Loc), SS X t H0 H1 locs1 → W p l e R s m args below meth c H1 locs1 cells slots Q (F0 m (pc + 3) ls (.int r :: rest))) : W p l e R s m args below meth c H locs cells slots Q (F0 m pc ls (.int x1 :: .ref (X.2.1 h0) :: rest)) :=
  xVi B hS (kX8_hasSinger l X t h0 e0 x1 r hM) (tw_2 214 rfl rfl) (tw_2 215 rfl rfl) (tw_2 216 rfl rfl) (tw_1 2 rfl rfl) (tw_2 217 rfl rfl) mdX8_hasSinger (reg_lt e0) (ceX8 e0 _) rfl rfl rfl hsz rfl hW hR hR2 hdg kk
theorem qX3_85 (B : Bx p s m args c cc nL X RX3) (hS : SS X t H0 H locs) {h0 : Nat} (e0 : isHall h0) {x1 : Int32} {r : Int32} (hM : fX3_inspectorsIn h0 t x1 = some r) (hsz : ls.size = nL) (hW : (rest.map fun v => v.category).sum ≤ 8) (hR : 0 + 1 ≤ R.frames ∧ 8 + (4 + 11) + 0 ≤ R.locals) (hR2 : cells ≤ R.cells ∧ slots ≤ R.slots) (hdg : decode cc pc = .ok (.invokevirtual 85, 3)) (kk : ∀ (H1 : Heap) (locs1 : List Loc), SS X t H0 H1 locs1 → W p l e R s m args below meth c H1 locs1 cells slots Q (F0 m (pc + 3) ls (.int r :: rest))) : W p l e R s m args below meth c H locs cells slots Q (F0 m pc ls (.int x1 :: .ref (X.2.1 h0) :: rest)) :=
  xVi B hS (kX3_inspectorsIn l X t h0 e0 x1 r hM) (tw_2 222 rfl rfl) (tw_2 223 rfl rfl) (tw_2 224 rfl rfl) (tw_1 4 rfl rfl) (tw_2 225 rfl rfl) mdX3_inspectorsIn (hall_lt e0) (ceX3 e0 _) rfl rfl rfl hsz rfl hW hR hR2 hdg kk
end QX3_priceBy
set_option maxHeartbeats 4000000 in
set_option maxRecDepth 100000 in
theorem kX3_priceBy (l : Launch) (X : Cx) (t : St) (h0 : Nat) (e0 : isHall h0) (x1 : Int32) (x2 : Int32) (x3 : Int32) (x4 : Int32) (r : Int32) (hrun : fX3_priceBy h0 t x1 x2 x3 x4 = some r) : Ci l X t yX3_priceBy cX3_priceBy 6 .int 1 23 [.ref (X.2.1 h0), .int x1, .int x2, .int x3, .int x4] r t := by
  refine Ci_of (by decide) (Nat.le_of_ble_eq_true rfl) ?_
  intro p e s m args below meth c Q B hret hS ls hl
  have hx := B.1
  have hb := B.2.1
  have hown := B.2.2.2.1
  have hts := B.2.2.2.2.1
  have hl : lv_has ls 6 [(0, .ref (X.2.1 h0)), (1, .int x1), (2, .int x2), (3, .int x3), (4, .int x4)] := hl
  have hB31 : ∀ (x4 : Int32) (x5 : Int32) (y0 : Int32) (H : Heap) (locs : List Loc) (ls : Array Slot), SS X t s.heap H locs → lv_has ls 6 [(0, .ref (X.2.1 h0)), (4, .int x4), (5, .int x5)] → fX3_priceBy_31 h0 t x4 x5 y0 = some r → W p l e ({ frames := 1, cells := 0, slots := 0, locals := 23 } : Room) s m args below meth c H locs 0 0 Q (F0 m 31 ls [.int y0]) := by
    intro x4 x5 y0 H locs ls hS hl hrun
    unfold fX3_priceBy_31 at hrun
    by_cases hw_1032 : y0 = (1 : Int32)
    · have hrun := ip hw_1032 hrun
      refine lv_tableIn (off := 25) (tgt := 56) hx hb dX3_priceBy_31 (by rw [hw_1032]; decide) (by rw [hw_1032]; decide) (by rw [hw_1032]; rfl) (by decide) ?_
      refine lv_iconst (v := 2) hx hb dX3_priceBy_56 (by decide) ?_
      refine lv_iload hx hb dX3_priceBy_57 (lv_at hl 2 rfl) ?_
      refine lv_imul hx hb dX3_priceBy_59 ?_
      exact hret _ _ _ _ _ _ (congrArg (Option.map (fun w => (w, t))) hrun) rfl hS dX3_priceBy_60
    have hrun := iq hw_1032 hrun
    by_cases hw_1033 : y0 = (2 : Int32)
    · have hrun := ip hw_1033 hrun
      refine lv_tableIn (off := 30) (tgt := 61) hx hb dX3_priceBy_31 (by rw [hw_1033]; decide) (by rw [hw_1033]; decide) (by rw [hw_1033]; rfl) (by decide) ?_
      refine lv_iconst (v := 0) hx hb dX3_priceBy_61 (by decide) ?_
      exact hret _ _ _ _ _ _ (congrArg (Option.map (fun w => (w, t))) hrun) rfl hS dX3_priceBy_62
    have hrun := iq hw_1033 hrun
    by_cases hw_1034 : y0 = (3 : Int32)
    · have hrun := ip hw_1034 hrun
      refine lv_tableIn (off := 32) (tgt := 63) hx hb dX3_priceBy_31 (by rw [hw_1034]; decide) (by rw [hw_1034]; decide) (by rw [hw_1034]; rfl) (by decide) ?_
      refine lv_aload_n hx hb dX3_priceBy_63 rfl (lv_at hl 0 rfl) ?_
      refine lv_iload hx hb dX3_priceBy_64 (lv_at hl 1 rfl) ?_
      obtain ⟨r_1036, hc_1035, hrun⟩ := bdE hrun
      refine qX3_85 B hS e0 hc_1035 hl.1 (Nat.le_of_ble_eq_true rfl) ⟨Nat.le_of_ble_eq_true rfl, Nat.le_of_ble_eq_true rfl⟩ ⟨Nat.zero_le _, Nat.zero_le _⟩ dX3_priceBy_66 (fun H locs hS => ?_)
      refine lv_if_le (tgt := 77) hx hb dX3_priceBy_69 (by decide) (fun hc => ?_) (fun hc => ?_)
      · have hrun := ip hc hrun
        refine lv_iload hx hb dX3_priceBy_77 (lv_at hl 2 rfl) ?_
        refine lv_iconst (v := 2) hx hb dX3_priceBy_79 (by decide) ?_
        refine lv_idiv hx hb dX3_priceBy_80 (by decide) ?_
        exact hret _ _ _ _ _ _ (congrArg (Option.map (fun w => (w, t))) hrun) rfl hS dX3_priceBy_81
      · have hrun := iq hc hrun
        refine lv_iload hx hb dX3_priceBy_72 (lv_at hl 2 rfl) ?_
        refine lv_goto (tgt := 81) hx hb dX3_priceBy_74 (by decide) ?_
        exact hret _ _ _ _ _ _ (congrArg (Option.map (fun w => (w, t))) hrun) rfl hS dX3_priceBy_81
    have hrun := iq hw_1034 hrun
    have hw_1032 := lv_neT (a := 1) hw_1032 (by decide)
    have hw_1033 := lv_neT (a := 2) hw_1033 (by decide)
    have hw_1034 := lv_neT (a := 3) hw_1034 (by decide)
    refine lv_tableOut (tgt := 82) hx hb dX3_priceBy_31 (by omega) (by decide) ?_
    refine lv_iload hx hb dX3_priceBy_82 (lv_at hl 2 rfl) ?_
    exact hret _ _ _ _ _ _ (congrArg (Option.map (fun w => (w, t))) hrun) rfl hS dX3_priceBy_84
  unfold fX3_priceBy at hrun
  refine lv_iload_n hx hb dX3_priceBy_0 rfl (lv_at hl 1 rfl) ?_
  refine lv_iload_n hx hb dX3_priceBy_1 rfl (lv_at hl 3 rfl) ?_
  refine lv_imul hx hb dX3_priceBy_2 ?_
  refine lv_iload_n hx hb dX3_priceBy_3 rfl (lv_at hl 3 rfl) ?_
  refine lv_imul hx hb dX3_priceBy_4 ?_
  refine lv_topi (fun x5_1 ex => ?_)
  obtain ⟨z, ez, hrun⟩ := bsE hrun
  obtain rfl : x5_1 = z := ex.trans ez.symm
  clear ex ez
  refine lv_istore (lv' := [(5, .int x5_1), (0, .ref (X.2.1 h0)), (1, .int x1), (2, .int x2), (3, .int x3), (4, .int x4)]) hx hb dX3_priceBy_5 hl (by decide) rfl (fun ls hl => ?_)
  refine lv_aload_n hx hb dX3_priceBy_7 rfl (lv_at hl 1 rfl) ?_
  refine gX3_37 B hS e0 dX3_priceBy_8 ?_
  refine lv_iload_n hx hb dX3_priceBy_11 rfl (lv_at hl 3 rfl) ?_
  obtain ⟨r_3, hc_2, hrun⟩ := bdE hrun
  refine qX3_59 B hS reg_3 hc_2 hl.1 (Nat.le_of_ble_eq_true rfl) ⟨Nat.le_of_ble_eq_true rfl, Nat.le_of_ble_eq_true rfl⟩ ⟨Nat.zero_le _, Nat.zero_le _⟩ dX3_priceBy_12 (fun H locs hS => ?_)
  refine lv_if_eq (tgt := 30) hx hb dX3_priceBy_15 (by decide) (fun hc => ?_) (fun hc => ?_)
  · have hrun := ip hc hrun
    refine lv_iconst (v := 2) hx hb dX3_priceBy_30 (by decide) ?_
    exact hB31 x4 x5_1 (2 : Int32) _ _ _ hS (lv_sub hl [1, 5, 0] rfl) hrun
  · have hrun := iq hc hrun
    refine lv_aload_n hx hb dX3_priceBy_18 rfl (lv_at hl 1 rfl) ?_
    refine gX3_37 B hS e0 dX3_priceBy_19 ?_
    refine gX3_88 B hS reg_3 dX3_priceBy_22 ?_
    refine lv_iload_n hx hb dX3_priceBy_25 rfl (lv_at hl 3 rfl) ?_
    obtain ⟨hi_4, hrun⟩ := gdE hrun
    refine xa B hS (iaX8_1 reg_3) hi_4 dX3_priceBy_26 ?_
    refine lv_goto (tgt := 31) hx hb dX3_priceBy_27 (by decide) ?_
    exact hB31 x4 x5_1 (t 4 x2.toNatClampNeg) _ _ _ hS (lv_sub hl [1, 5, 0] rfl) hrun
theorem mdX3_owedBySet : MD yX3_owedBySet 2 := ⟨by decide +kernel, by decide +kernel, by decide +kernel⟩
section QX3_owedBySet
variable {p : Program} {l : Launch} {e : Env} {R : Room} {s : State} {m : MethodId} {args : Array Value} {below : List Frame} {meth : Method} {c : Code} {H : Heap} {locs : List Loc} {cells slots : Nat} {Q : State → Prop}
variable {cc : ByteArray} {pc : Nat} {ls : Array Slot} {rest : List Value} {X : Cx} {t : St} {H0 : Heap} {nL : Nat}
theorem qX3_94 (B : Bx p s m args c cc nL X RX3) (hS : SS X t H0 H locs) {h0 : Nat} (e0 : isHall h0) {x1 : Int32} {x2 : Int32} {x3 : Int32} {x4 : Int32} {r : Int32} (hM : fX3_priceBy h0 t x1 x2 x3 x4 = some r) (hsz : ls.size = nL) (hW : (rest.map fun v => v.category).sum ≤ 8) (hR : 1 + 1 ≤ R.frames ∧ 8 + (6 + 11) + 23 ≤ R.locals) (hR2 : cells ≤ R.cells ∧ slots ≤ R.slots) (hdg : decode cc pc = .ok (.invokevirtual 94, 3)) (kk : ∀ (H1 : Heap) (locs1 : List Loc), SS X t H0 H1 locs1 → W p l e R s m args below meth c H1 locs1 cells slots Q (F0 m (pc + 3) ls (.int r :: rest))) : W p l e R s m args below meth c H locs cells slots Q (F0 m pc ls (.int x4 :: .int x3 :: .int x2 :: .int x1 :: .ref (X.2.1 h0) :: rest)) :=
  xVi B hS (kX3_priceBy l X t h0 e0 x1 x2 x3 x4 r hM) (tw_2 218 rfl rfl) (tw_2 219 rfl rfl) (tw_2 220 rfl rfl) (tw_1 4 rfl rfl) (tw_2 221 rfl rfl) mdX3_priceBy (hall_lt e0) (ceX3 e0 _) rfl rfl rfl hsz rfl hW hR hR2 hdg kk
theorem qX3_107 (B : Bx p s m args c cc nL X RX3) (hS : SS X t H0 H locs) {x0 : Int32} {x1 : Int32} {r : Int32} (hM : fX10_isIn t x0 x1 = some r) (hsz : ls.size = nL) (hW : (rest.map fun v => v.category).sum ≤ 8) (hR : 0 + 1 ≤ R.frames ∧ 8 + (2 + 11) + 0 ≤ R.locals) (hR2 : cells ≤ R.cells ∧ slots ≤ R.slots) (hdg : decode cc pc = .ok (.invokestatic 107, 3)) (kk : ∀ (H1 : Heap) (locs1 : List Loc), SS X t H0 H1 locs1 → W p l e R s m args below meth c H1 locs1 cells slots Q (F0 m (pc + 3) ls (.int r :: rest))) : W p l e R s m args below meth c H locs cells slots Q (F0 m pc ls (.int x1 :: .int x0 :: rest)) :=
  xSNi B hS (kX10_isIn l X t x0 x1 r hM) (host := "SongSquares") (List.mem_of_getElem? (i := 57) rfl) (tw_3 14 rfl rfl) (tw_1 1 rfl rfl) (tw_3 15 rfl rfl) mdX10_isIn rfl hsz rfl hW hR hR2 hdg kk
end QX3_owedBySet
set_option maxHeartbeats 4000000 in
set_option maxRecDepth 100000 in
theorem kX3_owedBySet (l : Launch) (X : Cx) (t : St) (h0 : Nat) (e0 : isHall h0) (x1 : Int32) (x2 : Int32) (r : Int32) (hrun : fX3_owedBySet h0 t x1 x2 = some r) : Ci l X t yX3_owedBySet cX3_owedBySet 6 .int 2 48 [.ref (X.2.1 h0), .int x1, .int x2] r t := by
  refine Ci_of (by decide) (Nat.le_of_ble_eq_true rfl) ?_
  intro p e s m args below meth c Q B hret hS ls hl
  have hx := B.1
  have hb := B.2.1
  have hown := B.2.2.2.1
  have hts := B.2.2.2.2.1
  have hl : lv_has ls 6 [(0, .ref (X.2.1 h0)), (1, .int x1), (2, .int x2)] := hl
  have hB8 : ∀ (n8 : Nat) (x1 : Int32) (x2 : Int32) (x3 : Int32) (x4 : Int32) (x5 : Int32) (H : Heap) (locs : List Loc) (ls : Array Slot), SS X t s.heap H locs → lv_has ls 6 [(0, .ref (X.2.1 h0)), (1, .int x1), (2, .int x2), (3, .int x3), (4, .int x4), (5, .int x5)] → fX3_owedBySet_8 h0 t n8 x1 x2 x3 x4 x5 = some r → W p l e ({ frames := 2, cells := 0, slots := 0, locals := 48 } : Room) s m args below meth c H locs 0 0 Q (F0 m 8 ls []) := by
    intro n8
    induction n8 with
    | zero =>
      intro x1 x2 x3 x4 x5 H locs ls hS hl hrun
      cases (show (none : Option (Int32)) = some r from hrun)
    | succ n8 ih8 =>
      intro x1 x2 x3 x4 x5 H locs ls hS hl hrun
      rw [fX3_owedBySet_8_s] at hrun
      refine lv_iload hx hb dX3_owedBySet_8 (lv_at hl 5 rfl) ?_
      refine lv_aload_n hx hb dX3_owedBySet_10 rfl (lv_at hl 0 rfl) ?_
      refine gX3_37 B hS e0 dX3_owedBySet_11 ?_
      refine gX3_63 B hS reg_3 dX3_owedBySet_14 ?_
      refine lv_icmp_ge (tgt := 54) hx hb dX3_owedBySet_17 (by decide) (fun hc => ?_) (fun hc => ?_)
      · have hrun := ip hc hrun
        refine lv_iload_n hx hb dX3_owedBySet_54 rfl (lv_at hl 3 rfl) ?_
        exact hret _ _ _ _ _ _ (congrArg (Option.map (fun w => (w, t))) hrun) rfl hS dX3_owedBySet_55
      · have hrun := iq hc hrun
        refine lv_iload hx hb dX3_owedBySet_20 (lv_at hl 5 rfl) ?_
        refine lv_iload_n hx hb dX3_owedBySet_22 rfl (lv_at hl 1 rfl) ?_
        obtain ⟨r_1010, hc_1009, hrun⟩ := bdE hrun
        refine qX3_107 B hS hc_1009 hl.1 (Nat.le_of_ble_eq_true rfl) ⟨Nat.le_of_ble_eq_true rfl, Nat.le_of_ble_eq_true rfl⟩ ⟨Nat.zero_le _, Nat.zero_le _⟩ dX3_owedBySet_23 (fun H locs hS => ?_)
        refine lv_if_eq (tgt := 48) hx hb dX3_owedBySet_26 (by decide) (fun hc => ?_) (fun hc => ?_)
        · have hrun := ip hc hrun
          refine lv_iinc (v := x5 + (1 : Int32)) (k := 5) (lv' := [(5, .int (x5 + (1 : Int32))), (0, .ref (X.2.1 h0)), (1, .int x1), (2, .int x2), (3, .int x3), (4, .int x4)]) hx hb dX3_owedBySet_48 hl rfl rfl (by decide) rfl (fun ls hl => ?_)
          refine lv_goto (tgt := 8) hx hb dX3_owedBySet_51 (by decide) ?_
          exact ih8 x1 x2 x3 x4 (x5 + (1 : Int32)) _ _ _ hS (lv_sub hl [1, 2, 3, 4, 5, 0] rfl) hrun
        · have hrun := iq hc hrun
          refine lv_iload_n hx hb dX3_owedBySet_29 rfl (lv_at hl 3 rfl) ?_
          refine lv_aload_n hx hb dX3_owedBySet_30 rfl (lv_at hl 0 rfl) ?_
          refine lv_aload_n hx hb dX3_owedBySet_31 rfl (lv_at hl 0 rfl) ?_
          refine gX3_9 B hS e0 dX3_owedBySet_32 ?_
          refine lv_iload hx hb dX3_owedBySet_35 (lv_at hl 5 rfl) ?_
          refine lv_iload hx hb dX3_owedBySet_37 (lv_at hl 4 rfl) ?_
          refine lv_iload_n hx hb dX3_owedBySet_39 rfl (lv_at hl 2 rfl) ?_
          obtain ⟨r_1012, hc_1011, hrun⟩ := bdE hrun
          refine qX3_94 B hS e0 hc_1011 hl.1 (Nat.le_of_ble_eq_true rfl) ⟨Nat.le_of_ble_eq_true rfl, Nat.le_of_ble_eq_true rfl⟩ ⟨Nat.zero_le _, Nat.zero_le _⟩ dX3_owedBySet_40 (fun H locs hS => ?_)
          refine lv_iadd hx hb dX3_owedBySet_43 ?_
          refine lv_topi (fun x3_1013 ex => ?_)
          obtain ⟨z, ez, hrun⟩ := bsE hrun
          obtain rfl : x3_1013 = z := ex.trans ez.symm
          clear ex ez
          refine lv_istore_n (lv' := [(3, .int x3_1013), (0, .ref (X.2.1 h0)), (1, .int x1), (2, .int x2), (4, .int x4), (5, .int x5)]) hx hb dX3_owedBySet_44 rfl hl (by decide) rfl (fun ls hl => ?_)
          refine lv_iinc (v := x4 + (1 : Int32)) (k := 4) (lv' := [(4, .int (x4 + (1 : Int32))), (3, .int x3_1013), (0, .ref (X.2.1 h0)), (1, .int x1), (2, .int x2), (5, .int x5)]) hx hb dX3_owedBySet_45 hl rfl rfl (by decide) rfl (fun ls hl => ?_)
          refine lv_iinc (v := x5 + (1 : Int32)) (k := 5) (lv' := [(5, .int (x5 + (1 : Int32))), (4, .int (x4 + (1 : Int32))), (3, .int x3_1013), (0, .ref (X.2.1 h0)), (1, .int x1), (2, .int x2)]) hx hb dX3_owedBySet_48 hl rfl rfl (by decide) rfl (fun ls hl => ?_)
          refine lv_goto (tgt := 8) hx hb dX3_owedBySet_51 (by decide) ?_
          exact ih8 x1 x2 x3_1013 (x4 + (1 : Int32)) (x5 + (1 : Int32)) _ _ _ hS (lv_sub hl [3, 4, 5, 2, 1, 0] rfl) hrun
  unfold fX3_owedBySet at hrun
  refine lv_iconst (v := 0) hx hb dX3_owedBySet_0 (by decide) ?_
  refine lv_istore_n (lv' := [(3, .int (0 : Int32)), (0, .ref (X.2.1 h0)), (1, .int x1), (2, .int x2)]) hx hb dX3_owedBySet_1 rfl hl (by decide) rfl (fun ls hl => ?_)
  refine lv_iconst (v := 0) hx hb dX3_owedBySet_2 (by decide) ?_
  refine lv_istore (lv' := [(4, .int (0 : Int32)), (3, .int (0 : Int32)), (0, .ref (X.2.1 h0)), (1, .int x1), (2, .int x2)]) hx hb dX3_owedBySet_3 hl (by decide) rfl (fun ls hl => ?_)
  refine lv_iconst (v := 0) hx hb dX3_owedBySet_5 (by decide) ?_
  refine lv_istore (lv' := [(5, .int (0 : Int32)), (4, .int (0 : Int32)), (3, .int (0 : Int32)), (0, .ref (X.2.1 h0)), (1, .int x1), (2, .int x2)]) hx hb dX3_owedBySet_6 hl (by decide) rfl (fun ls hl => ?_)
  exact hB8 fuelN x1 x2 (0 : Int32) (0 : Int32) (0 : Int32) _ _ _ hS (lv_sub hl [3, 4, 5, 2, 1, 0] rfl) hrun
theorem mdX5_fits : MD yX5_fits 2 := ⟨by decide +kernel, by decide +kernel, by decide +kernel⟩
section QX5_fits
variable {p : Program} {l : Launch} {e : Env} {R : Room} {s : State} {m : MethodId} {args : Array Value} {below : List Frame} {meth : Method} {c : Code} {H : Heap} {locs : List Loc} {cells slots : Nat} {Q : State → Prop}
variable {cc : ByteArray} {pc : Nat} {ls : Array Slot} {rest : List Value} {X : Cx} {t : St} {H0 : Heap} {nL : Nat}
theorem qX5_46 (B : Bx p s m args c cc nL X RX5) (hS : SS X t H0 H locs) {h0 : Nat} (e0 : isHall h0) {x1 : Int32} {x2 : Int32} {r : Int32} (hM : fX3_owedBySet h0 t x1 x2 = some r) (hsz : ls.size = nL) (hW : (rest.map fun v => v.category).sum ≤ 8) (hR : 2 + 1 ≤ R.frames ∧ 8 + (6 + 11) + 48 ≤ R.locals) (hR2 : cells ≤ R.cells ∧ slots ≤ R.slots) (hdg : decode cc pc = .ok (.invokevirtual 46, 3)) (kk : ∀ (H1 : Heap) (locs1 : List Loc), SS X t H0 H1 locs1 → W p l e R s m args below meth c H1 locs1 cells slots Q (F0 m (pc + 3) ls (.int r :: rest))) : W p l e R s m args below meth c H locs cells slots Q (F0 m pc ls (.int x2 :: .int x1 :: .ref (X.2.1 h0) :: rest)) :=
  xVi B hS (kX3_owedBySet l X t h0 e0 x1 x2 r hM) (tw_3 30 rfl rfl) (tw_3 31 rfl rfl) (tw_3 32 rfl rfl) (tw_1 4 rfl rfl) (tw_3 33 rfl rfl) mdX3_owedBySet (hall_lt e0) (ceX3 e0 _) rfl rfl rfl hsz rfl hW hR hR2 hdg kk
end QX5_fits
set_option maxHeartbeats 4000000 in
set_option maxRecDepth 100000 in
theorem kX5_fits (l : Launch) (X : Cx) (t : St) (h2 : Nat) (e2 : isHall h2) (x1 : Int32) (r : Int32) (hrun : fX5_fits h2 t x1 = some r) : Ci l X t yX5_fits cX5_fits 4 .boolean 3 73 [.ref (X.2.1 20), .int x1, .ref (X.2.1 h2)] r t := by
  refine Ci_of (by decide) (Nat.le_of_ble_eq_true rfl) ?_
  intro p e s m args below meth c Q B hret hS ls hl
  have hx := B.1
  have hb := B.2.1
  have hown := B.2.2.2.1
  have hts := B.2.2.2.2.1
  have hl : lv_has ls 4 [(0, .ref (X.2.1 20)), (1, .int x1), (2, .ref (X.2.1 h2))] := hl
  have hB2 : ∀ (n2 : Nat) (x1 : Int32) (x3 : Int32) (H : Heap) (locs : List Loc) (ls : Array Slot), SS X t s.heap H locs → lv_has ls 4 [(0, .ref (X.2.1 20)), (1, .int x1), (2, .ref (X.2.1 h2)), (3, .int x3)] → fX5_fits_2 h2 t n2 x1 x3 = some r → W p l e ({ frames := 3, cells := 0, slots := 0, locals := 73 } : Room) s m args below meth c H locs 0 0 Q (F0 m 2 ls []) := by
    intro n2
    induction n2 with
    | zero =>
      intro x1 x3 H locs ls hS hl hrun
      cases (show (none : Option (Int32)) = some r from hrun)
    | succ n2 ih2 =>
      intro x1 x3 H locs ls hS hl hrun
      rw [fX5_fits_2_s] at hrun
      refine lv_iload_n hx hb dX5_fits_2 rfl (lv_at hl 3 rfl) ?_
      refine lv_aload_n hx hb dX5_fits_3 rfl (lv_at hl 0 rfl) ?_
      refine gX5_24 B hS dX5_fits_4 ?_
      refine lv_icmp_ge (tgt := 38) hx hb dX5_fits_7 (by decide) (fun hc => ?_) (fun hc => ?_)
      · have hrun := ip hc hrun
        refine lv_iconst (v := 1) hx hb dX5_fits_38 (by decide) ?_
        exact hret _ _ _ _ _ _ (congrArg (Option.map (fun w => (w, t))) hrun) rfl hS dX5_fits_39
      · have hrun := iq hc hrun
        refine lv_aload_n hx hb dX5_fits_10 rfl (lv_at hl 2 rfl) ?_
        refine lv_iload_n hx hb dX5_fits_11 rfl (lv_at hl 1 rfl) ?_
        refine lv_aload_n hx hb dX5_fits_12 rfl (lv_at hl 0 rfl) ?_
        refine gX5_9 B hS dX5_fits_13 ?_
        refine lv_iload_n hx hb dX5_fits_16 rfl (lv_at hl 3 rfl) ?_
        obtain ⟨hi_1003, hrun⟩ := gdE hrun
        refine xa B hS ia_21 hi_1003 dX5_fits_17 ?_
        obtain ⟨r_1005, hc_1004, hrun⟩ := bdE hrun
        refine qX5_46 B hS e2 hc_1004 hl.1 (Nat.le_of_ble_eq_true rfl) ⟨Nat.le_of_ble_eq_true rfl, Nat.le_of_ble_eq_true rfl⟩ ⟨Nat.zero_le _, Nat.zero_le _⟩ dX5_fits_18 (fun H locs hS => ?_)
        refine lv_aload_n hx hb dX5_fits_21 rfl (lv_at hl 0 rfl) ?_
        refine gX5_15 B hS dX5_fits_22 ?_
        refine lv_iload_n hx hb dX5_fits_25 rfl (lv_at hl 3 rfl) ?_
        obtain ⟨hi_1006, hrun⟩ := gdE hrun
        refine xa B hS ia_22 hi_1006 dX5_fits_26 ?_
        refine lv_icmp_eq (tgt := 32) hx hb dX5_fits_27 (by decide) (fun hc => ?_) (fun hc => ?_)
        · have hrun := ip hc hrun
          refine lv_iinc (v := x3 + (1 : Int32)) (k := 3) (lv' := [(3, .int (x3 + (1 : Int32))), (0, .ref (X.2.1 20)), (1, .int x1), (2, .ref (X.2.1 h2))]) hx hb dX5_fits_32 hl rfl rfl (by decide) rfl (fun ls hl => ?_)
          refine lv_goto (tgt := 2) hx hb dX5_fits_35 (by decide) ?_
          exact ih2 x1 (x3 + (1 : Int32)) _ _ _ hS (lv_sub hl [1, 2, 3, 0] rfl) hrun
        · have hrun := iq hc hrun
          refine lv_iconst (v := 0) hx hb dX5_fits_30 (by decide) ?_
          exact hret _ _ _ _ _ _ (congrArg (Option.map (fun w => (w, t))) hrun) rfl hS dX5_fits_31
  unfold fX5_fits at hrun
  refine lv_iconst (v := 0) hx hb dX5_fits_0 (by decide) ?_
  refine lv_istore_n (lv' := [(3, .int (0 : Int32)), (0, .ref (X.2.1 20)), (1, .int x1), (2, .ref (X.2.1 h2))]) hx hb dX5_fits_1 rfl hl (by decide) rfl (fun ls hl => ?_)
  exact hB2 fuelN x1 (0 : Int32) _ _ _ hS (lv_sub hl [1, 2, 3, 0] rfl) hrun
theorem mdX0_add : MD yX0_add 1 := ⟨by decide +kernel, by decide +kernel, by decide +kernel⟩
set_option maxHeartbeats 4000000 in
set_option maxRecDepth 100000 in
theorem kX0_add (l : Launch) (X : Cx) (t : St) (x1 : Int32) (t' : St) (hrun : fX0_add t x1 = some t') : Cv l X t yX0_add cX0_add 3 0 0 [.ref (X.2.1 25), .int x1] t' := by
  refine Cv_of (by decide) (Nat.le_of_ble_eq_true rfl) ?_
  intro p e s m args below meth c Q B hret hS ls hl
  have hx := B.1
  have hb := B.2.1
  have hown := B.2.2.2.1
  have hts := B.2.2.2.2.1
  have hl : lv_has ls 3 [(0, .ref (X.2.1 25)), (1, .int x1)] := hl
  have hB22 : ∀ (n22 : Nat) (t : St) (x1 : Int32) (x2 : Int32) (H : Heap) (locs : List Loc) (ls : Array Slot), SS X t s.heap H locs → lv_has ls 3 [(0, .ref (X.2.1 25)), (1, .int x1), (2, .int x2)] → fX0_add_22 n22 t x1 x2 = some t' → W p l e ({ frames := 0, cells := 0, slots := 0, locals := 0 } : Room) s m args below meth c H locs 0 0 Q (F0 m 22 ls []) := by
    intro n22
    induction n22 with
    | zero =>
      intro t x1 x2 H locs ls hS hl hrun
      cases (show (none : Option (St)) = some t' from hrun)
    | succ n22 ih22 =>
      intro t x1 x2 H locs ls hS hl hrun
      rw [fX0_add_22_s] at hrun
      refine lv_iload_n hx hb dX0_add_22 rfl (lv_at hl 2 rfl) ?_
      refine lv_bipush (v := 7) hx hb dX0_add_23 (by decide) ?_
      refine lv_icmp_ge (tgt := 48) hx hb dX0_add_25 (by decide) (fun hc => ?_) (fun hc => ?_)
      · have hrun := ip hc hrun
        exact hret _ _ _ _ _ hrun hS dX0_add_48
      · have hrun := iq hc hrun
        refine lv_aload_n hx hb dX0_add_28 rfl (lv_at hl 0 rfl) ?_
        refine gX0_18 B hS dX0_add_29 ?_
        refine lv_iload_n hx hb dX0_add_32 rfl (lv_at hl 2 rfl) ?_
        refine lv_dup2_11 hx hb dX0_add_33 rfl rfl ?_
        obtain ⟨hi_1023, hrun⟩ := gdE hrun
        refine xa B hS ia_26 hi_1023 dX0_add_34 ?_
        refine lv_iload_n hx hb dX0_add_35 rfl (lv_at hl 1 rfl) ?_
        refine lv_iload_n hx hb dX0_add_36 rfl (lv_at hl 2 rfl) ?_
        refine lv_ishr hx hb dX0_add_37 ?_
        refine lv_iconst (v := 1) hx hb dX0_add_38 (by decide) ?_
        refine lv_iand hx hb dX0_add_39 ?_
        refine lv_iadd hx hb dX0_add_40 ?_
        obtain ⟨hi_1024, hrun⟩ := gdE hrun
        refine xs B hS ia_26 hi_1024 dX0_add_41 (fun H locs hS => ?_)
        obtain ⟨t_1025, et, hrun⟩ := bsE hrun
        have hS : SS X t_1025 s.heap H locs := by rw [et]; exact hS
        clear et
        refine lv_iinc (v := x2 + (1 : Int32)) (k := 2) (lv' := [(2, .int (x2 + (1 : Int32))), (0, .ref (X.2.1 25)), (1, .int x1)]) hx hb dX0_add_42 hl rfl rfl (by decide) rfl (fun ls hl => ?_)
        refine lv_goto (tgt := 22) hx hb dX0_add_45 (by decide) ?_
        exact ih22 t_1025 x1 (x2 + (1 : Int32)) _ _ _ hS (lv_sub hl [1, 2, 0] rfl) hrun
  unfold fX0_add at hrun
  refine lv_aload_n hx hb dX0_add_0 rfl (lv_at hl 0 rfl) ?_
  refine lv_dup hx hb dX0_add_1 rfl ?_
  refine gX0_9 B hS dX0_add_2 ?_
  refine lv_iconst (v := 1) hx hb dX0_add_5 (by decide) ?_
  refine lv_iadd hx hb dX0_add_6 ?_
  refine pX0_9 B hS dX0_add_7 (fun H locs hS => ?_)
  obtain ⟨t_1, et, hrun⟩ := bsE hrun
  have hS : SS X t_1 s.heap H locs := by rw [et]; exact hS
  clear et
  refine lv_aload_n hx hb dX0_add_10 rfl (lv_at hl 0 rfl) ?_
  refine lv_dup hx hb dX0_add_11 rfl ?_
  refine gX0_15 B hS dX0_add_12 ?_
  refine lv_iload_n hx hb dX0_add_15 rfl (lv_at hl 1 rfl) ?_
  refine lv_iand hx hb dX0_add_16 ?_
  refine pX0_15 B hS dX0_add_17 (fun H locs hS => ?_)
  obtain ⟨t_2, et, hrun⟩ := bsE hrun
  have hS : SS X t_2 s.heap H locs := by rw [et]; exact hS
  clear et
  refine lv_iconst (v := 0) hx hb dX0_add_20 (by decide) ?_
  refine lv_istore_n (lv' := [(2, .int (0 : Int32)), (0, .ref (X.2.1 25)), (1, .int x1)]) hx hb dX0_add_21 rfl hl (by decide) rfl (fun ls hl => ?_)
  exact hB22 fuelN t_2 x1 (0 : Int32) _ _ _ hS (lv_sub hl [1, 2, 0] rfl) hrun
theorem mdX0_gather : MD yX0_gather 3 := ⟨by decide +kernel, by decide +kernel, by decide +kernel⟩
section QX0_gather
variable {p : Program} {l : Launch} {e : Env} {R : Room} {s : State} {m : MethodId} {args : Array Value} {below : List Frame} {meth : Method} {c : Code} {H : Heap} {locs : List Loc} {cells slots : Nat} {Q : State → Prop}
variable {cc : ByteArray} {pc : Nat} {ls : Array Slot} {rest : List Value} {X : Cx} {t : St} {H0 : Heap} {nL : Nat}
theorem qX0_22 (B : Bx p s m args c cc nL X RX0) (hS : SS X t H0 H locs) {h0 : Nat} (e0 : isReg h0) {r : Int32} (hM : fX8_everyone h0 t = some r) (hsz : ls.size = nL) (hW : (rest.map fun v => v.category).sum ≤ 8) (hR : 0 + 1 ≤ R.frames ∧ 8 + (1 + 11) + 0 ≤ R.locals) (hR2 : cells ≤ R.cells ∧ slots ≤ R.slots) (hdg : decode cc pc = .ok (.invokevirtual 22, 3)) (kk : ∀ (H1 : Heap) (locs1 : List Loc), SS X t H0 H1 locs1 → W p l e R s m args below meth c H1 locs1 cells slots Q (F0 m (pc + 3) ls (.int r :: rest))) : W p l e R s m args below meth c H locs cells slots Q (F0 m pc ls (.ref (X.2.1 h0) :: rest)) :=
  xVi B hS (kX8_everyone l X t h0 e0 r hM) (tw_3 25 rfl rfl) (tw_3 0 rfl rfl) (tw_3 1 rfl rfl) (tw_1 2 rfl rfl) (tw_3 2 rfl rfl) mdX8_everyone (reg_lt e0) (ceX8 e0 _) rfl rfl rfl hsz rfl hW hR hR2 hdg kk
theorem qX0_28 (B : Bx p s m args c cc nL X RX0) (hS : SS X t H0 H locs) {h2 : Nat} (e2 : isHall h2) {x1 : Int32} {r : Int32} (hM : fX5_fits h2 t x1 = some r) (hsz : ls.size = nL) (hW : (rest.map fun v => v.category).sum ≤ 8) (hR : 3 + 1 ≤ R.frames ∧ 8 + (4 + 11) + 73 ≤ R.locals) (hR2 : cells ≤ R.cells ∧ slots ≤ R.slots) (hdg : decode cc pc = .ok (.invokevirtual 28, 3)) (kk : ∀ (H1 : Heap) (locs1 : List Loc), SS X t H0 H1 locs1 → W p l e R s m args below meth c H1 locs1 cells slots Q (F0 m (pc + 3) ls (.int r :: rest))) : W p l e R s m args below meth c H locs cells slots Q (F0 m pc ls (.ref (X.2.1 h2) :: .int x1 :: .ref (X.2.1 20) :: rest)) :=
  xVi B hS (kX5_fits l X t h2 e2 x1 r hM) (tw_3 26 rfl rfl) (tw_3 27 rfl rfl) (tw_3 28 rfl rfl) (tw_1 7 rfl rfl) (tw_3 29 rfl rfl) mdX5_fits (by decide) (ceX5 _) rfl rfl rfl hsz rfl hW hR hR2 hdg kk
theorem qX0_34 (B : Bx p s m args c cc nL X RX0) (hS : SS X t H0 H locs) {x1 : Int32} {t' : St} (hM : fX0_add t x1 = some t') (hsz : ls.size = nL) (hW : (rest.map fun v => v.category).sum ≤ 8) (hR : 0 + 1 ≤ R.frames ∧ 8 + (3 + 11) + 0 ≤ R.locals) (hR2 : cells ≤ R.cells ∧ slots ≤ R.slots) (hdg : decode cc pc = .ok (.invokevirtual 34, 3)) (kk : ∀ (H1 : Heap) (locs1 : List Loc), SS X t' H0 H1 locs1 → W p l e R s m args below meth c H1 locs1 cells slots Q (F0 m (pc + 3) ls (rest))) : W p l e R s m args below meth c H locs cells slots Q (F0 m pc ls (.int x1 :: .ref (X.2.1 25) :: rest)) :=
  xVv B hS (kX0_add l X t x1 t' hM) (tw_3 35 rfl rfl) (tw_3 37 rfl rfl) (tw_0 9 rfl rfl) (tw_1 8 rfl rfl) (tw_3 38 rfl rfl) mdX0_add (by decide) (ceX0 _) rfl rfl rfl hsz rfl hW hR hR2 hdg kk
end QX0_gather
set_option maxHeartbeats 4000000 in
set_option maxRecDepth 100000 in
theorem kX0_gather (l : Launch) (X : Cx) (t : St) (h1 : Nat) (h2 : Nat) (e1 : isReg h1) (e2 : isHall h2) (t' : St) (hrun : fX0_gather h1 h2 t = some t') : Cv l X t yX0_gather cX0_gather 5 4 96 [.ref (X.2.1 25), .ref (X.2.1 h1), .ref (X.2.1 h2), .ref (X.2.1 20)] t' := by
  refine Cv_of (by decide) (Nat.le_of_ble_eq_true rfl) ?_
  intro p e s m args below meth c Q B hret hS ls hl
  have hx := B.1
  have hb := B.2.1
  have hown := B.2.2.2.1
  have hts := B.2.2.2.2.1
  have hl : lv_has ls 5 [(0, .ref (X.2.1 25)), (1, .ref (X.2.1 h1)), (2, .ref (X.2.1 h2)), (3, .ref (X.2.1 20))] := hl
  have hB37 : ∀ (n37 : Nat) (t : St) (x4 : Int32) (H : Heap) (locs : List Loc) (ls : Array Slot), SS X t s.heap H locs → lv_has ls 5 [(0, .ref (X.2.1 25)), (1, .ref (X.2.1 h1)), (2, .ref (X.2.1 h2)), (3, .ref (X.2.1 20)), (4, .int x4)] → fX0_gather_37 h1 h2 n37 t x4 = some t' → W p l e ({ frames := 4, cells := 0, slots := 0, locals := 96 } : Room) s m args below meth c H locs 0 0 Q (F0 m 37 ls []) := by
    intro n37
    induction n37 with
    | zero =>
      intro t x4 H locs ls hS hl hrun
      cases (show (none : Option (St)) = some t' from hrun)
    | succ n37 ih37 =>
      intro t x4 H locs ls hS hl hrun
      rw [fX0_gather_37_s] at hrun
      refine lv_iload hx hb dX0_gather_37 (lv_at hl 4 rfl) ?_
      refine lv_aload_n hx hb dX0_gather_39 rfl (lv_at hl 1 rfl) ?_
      obtain ⟨r_1039, hc_1038, hrun⟩ := bdE hrun
      refine qX0_22 B hS e1 hc_1038 hl.1 (Nat.le_of_ble_eq_true rfl) ⟨Nat.le_of_ble_eq_true rfl, Nat.le_of_ble_eq_true rfl⟩ ⟨Nat.zero_le _, Nat.zero_le _⟩ dX0_gather_40 (fun H locs hS => ?_)
      refine lv_icmp_gt (tgt := 68) hx hb dX0_gather_43 (by decide) (fun hc => ?_) (fun hc => ?_)
      · have hrun := ip hc hrun
        exact hret _ _ _ _ _ hrun hS dX0_gather_68
      · have hrun := iq hc hrun
        refine lv_aload_n hx hb dX0_gather_46 rfl (lv_at hl 3 rfl) ?_
        refine lv_iload hx hb dX0_gather_47 (lv_at hl 4 rfl) ?_
        refine lv_aload_n hx hb dX0_gather_49 rfl (lv_at hl 2 rfl) ?_
        obtain ⟨r_1041, hc_1040, hrun⟩ := bdE hrun
        refine qX0_28 B hS e2 hc_1040 hl.1 (Nat.le_of_ble_eq_true rfl) ⟨Nat.le_of_ble_eq_true rfl, Nat.le_of_ble_eq_true rfl⟩ ⟨Nat.zero_le _, Nat.zero_le _⟩ dX0_gather_50 (fun H locs hS => ?_)
        refine lv_if_eq (tgt := 62) hx hb dX0_gather_53 (by decide) (fun hc => ?_) (fun hc => ?_)
        · have hrun := ip hc hrun
          refine lv_iinc (v := x4 + (1 : Int32)) (k := 4) (lv' := [(4, .int (x4 + (1 : Int32))), (0, .ref (X.2.1 25)), (1, .ref (X.2.1 h1)), (2, .ref (X.2.1 h2)), (3, .ref (X.2.1 20))]) hx hb dX0_gather_62 hl rfl rfl (by decide) rfl (fun ls hl => ?_)
          refine lv_goto (tgt := 37) hx hb dX0_gather_65 (by decide) ?_
          exact ih37 t (x4 + (1 : Int32)) _ _ _ hS (lv_sub hl [1, 2, 3, 4, 0] rfl) hrun
        · have hrun := iq hc hrun
          refine lv_aload_n hx hb dX0_gather_56 rfl (lv_at hl 0 rfl) ?_
          refine lv_iload hx hb dX0_gather_57 (lv_at hl 4 rfl) ?_
          obtain ⟨t_1043, hc_1042, hrun⟩ := bdE hrun
          refine qX0_34 B hS hc_1042 hl.1 (Nat.le_of_ble_eq_true rfl) ⟨Nat.le_of_ble_eq_true rfl, Nat.le_of_ble_eq_true rfl⟩ ⟨Nat.zero_le _, Nat.zero_le _⟩ dX0_gather_59 (fun H locs hS => ?_)
          refine lv_iinc (v := x4 + (1 : Int32)) (k := 4) (lv' := [(4, .int (x4 + (1 : Int32))), (0, .ref (X.2.1 25)), (1, .ref (X.2.1 h1)), (2, .ref (X.2.1 h2)), (3, .ref (X.2.1 20))]) hx hb dX0_gather_62 hl rfl rfl (by decide) rfl (fun ls hl => ?_)
          refine lv_goto (tgt := 37) hx hb dX0_gather_65 (by decide) ?_
          exact ih37 t_1043 (x4 + (1 : Int32)) _ _ _ hS (lv_sub hl [1, 2, 3, 4, 0] rfl) hrun
  have hB13 : ∀ (n13 : Nat) (t : St) (x4 : Int32) (H : Heap) (locs : List Loc) (ls : Array Slot), SS X t s.heap H locs → lv_has ls 5 [(0, .ref (X.2.1 25)), (1, .ref (X.2.1 h1)), (2, .ref (X.2.1 h2)), (3, .ref (X.2.1 20)), (4, .int x4)] → fX0_gather_13 h1 h2 n13 t x4 = some t' → W p l e ({ frames := 4, cells := 0, slots := 0, locals := 96 } : Room) s m args below meth c H locs 0 0 Q (F0 m 13 ls []) := by
    intro n13
    induction n13 with
    | zero =>
      intro t x4 H locs ls hS hl hrun
      cases (show (none : Option (St)) = some t' from hrun)
    | succ n13 ih13 =>
      intro t x4 H locs ls hS hl hrun
      rw [fX0_gather_13_s] at hrun
      refine lv_iload hx hb dX0_gather_13 (lv_at hl 4 rfl) ?_
      refine lv_bipush (v := 7) hx hb dX0_gather_15 (by decide) ?_
      refine lv_icmp_ge (tgt := 34) hx hb dX0_gather_17 (by decide) (fun hc => ?_) (fun hc => ?_)
      · have hrun := ip hc hrun
        refine lv_iconst (v := 0) hx hb dX0_gather_34 (by decide) ?_
        refine lv_istore (lv' := [(4, .int (0 : Int32)), (0, .ref (X.2.1 25)), (1, .ref (X.2.1 h1)), (2, .ref (X.2.1 h2)), (3, .ref (X.2.1 20))]) hx hb dX0_gather_35 hl (by decide) rfl (fun ls hl => ?_)
        exact hB37 fuelN t (0 : Int32) _ _ _ hS (lv_sub hl [1, 2, 3, 4, 0] rfl) hrun
      · have hrun := iq hc hrun
        refine lv_aload_n hx hb dX0_gather_20 rfl (lv_at hl 0 rfl) ?_
        refine gX0_18 B hS dX0_gather_21 ?_
        refine lv_iload hx hb dX0_gather_24 (lv_at hl 4 rfl) ?_
        refine lv_iconst (v := 0) hx hb dX0_gather_26 (by decide) ?_
        obtain ⟨hi_1014, hrun⟩ := gdE hrun
        refine xs B hS ia_26 hi_1014 dX0_gather_27 (fun H locs hS => ?_)
        obtain ⟨t_1015, et, hrun⟩ := bsE hrun
        have hS : SS X t_1015 s.heap H locs := by rw [et]; exact hS
        clear et
        refine lv_iinc (v := x4 + (1 : Int32)) (k := 4) (lv' := [(4, .int (x4 + (1 : Int32))), (0, .ref (X.2.1 25)), (1, .ref (X.2.1 h1)), (2, .ref (X.2.1 h2)), (3, .ref (X.2.1 20))]) hx hb dX0_gather_28 hl rfl rfl (by decide) rfl (fun ls hl => ?_)
        refine lv_goto (tgt := 13) hx hb dX0_gather_31 (by decide) ?_
        exact ih13 t_1015 (x4 + (1 : Int32)) _ _ _ hS (lv_sub hl [1, 2, 3, 4, 0] rfl) hrun
  unfold fX0_gather at hrun
  refine lv_aload_n hx hb dX0_gather_0 rfl (lv_at hl 0 rfl) ?_
  refine lv_iconst (v := 0) hx hb dX0_gather_1 (by decide) ?_
  refine pX0_9 B hS dX0_gather_2 (fun H locs hS => ?_)
  obtain ⟨t_1, et, hrun⟩ := bsE hrun
  have hS : SS X t_1 s.heap H locs := by rw [et]; exact hS
  clear et
  refine lv_aload_n hx hb dX0_gather_5 rfl (lv_at hl 0 rfl) ?_
  refine lv_iconst (v := -1) hx hb dX0_gather_6 (by decide) ?_
  refine pX0_15 B hS dX0_gather_7 (fun H locs hS => ?_)
  obtain ⟨t_2, et, hrun⟩ := bsE hrun
  have hS : SS X t_2 s.heap H locs := by rw [et]; exact hS
  clear et
  refine lv_iconst (v := 0) hx hb dX0_gather_10 (by decide) ?_
  refine lv_istore (lv' := [(4, .int (0 : Int32)), (0, .ref (X.2.1 25)), (1, .ref (X.2.1 h1)), (2, .ref (X.2.1 h2)), (3, .ref (X.2.1 20))]) hx hb dX0_gather_11 hl (by decide) rfl (fun ls hl => ?_)
  exact hB13 fuelN t_2 (0 : Int32) _ _ _ hS (lv_sub hl [1, 2, 3, 4, 0] rfl) hrun
theorem mdX0_bestLip : MD yX0_bestLip 1 := ⟨by decide +kernel, by decide +kernel, by decide +kernel⟩
set_option maxHeartbeats 4000000 in
set_option maxRecDepth 100000 in
theorem kX0_bestLip (l : Launch) (X : Cx) (t : St) (h1 : Nat) (e1 : isReg h1) (r : Int32) (hrun : fX0_bestLip h1 t = some r) : Ci l X t yX0_bestLip cX0_bestLip 6 .int 1 24 [.ref (X.2.1 25), .ref (X.2.1 h1)] r t := by
  refine Ci_of (by decide) (Nat.le_of_ble_eq_true rfl) ?_
  intro p e s m args below meth c Q B hret hS ls hl
  have hx := B.1
  have hb := B.2.1
  have hown := B.2.2.2.1
  have hts := B.2.2.2.2.1
  have hl : lv_has ls 6 [(0, .ref (X.2.1 25)), (1, .ref (X.2.1 h1))] := hl
  have hB10 : ∀ (n10 : Nat) (x2 : Int32) (x3 : Int32) (x4 : Int32) (H : Heap) (locs : List Loc) (ls : Array Slot), SS X t s.heap H locs → lv_has ls 6 [(0, .ref (X.2.1 25)), (1, .ref (X.2.1 h1)), (2, .int x2), (3, .int x3), (4, .int x4)] → fX0_bestLip_10 h1 t n10 x2 x3 x4 = some r → W p l e ({ frames := 1, cells := 0, slots := 0, locals := 24 } : Room) s m args below meth c H locs 0 0 Q (F0 m 10 ls []) := by
    intro n10
    induction n10 with
    | zero =>
      intro x2 x3 x4 H locs ls hS hl hrun
      cases (show (none : Option (Int32)) = some r from hrun)
    | succ n10 ih10 =>
      intro x2 x3 x4 H locs ls hS hl hrun
      rw [fX0_bestLip_10_s] at hrun
      refine lv_iload hx hb dX0_bestLip_10 (lv_at hl 4 rfl) ?_
      refine lv_aload_n hx hb dX0_bestLip_12 rfl (lv_at hl 1 rfl) ?_
      refine gX0_38 B hS e1 dX0_bestLip_13 ?_
      refine lv_icmp_ge (tgt := 61) hx hb dX0_bestLip_16 (by decide) (fun hc => ?_) (fun hc => ?_)
      · have hrun := ip hc hrun
        refine lv_iload_n hx hb dX0_bestLip_61 rfl (lv_at hl 2 rfl) ?_
        exact hret _ _ _ _ _ _ (congrArg (Option.map (fun w => (w, t))) hrun) rfl hS dX0_bestLip_62
      · have hrun := iq hc hrun
        refine lv_aload_n hx hb dX0_bestLip_19 rfl (lv_at hl 0 rfl) ?_
        refine gX0_18 B hS dX0_bestLip_20 ?_
        refine lv_iload hx hb dX0_bestLip_23 (lv_at hl 4 rfl) ?_
        obtain ⟨hi_1011, hrun⟩ := gdE hrun
        refine xa B hS ia_26 hi_1011 dX0_bestLip_25 ?_
        refine lv_aload_n hx hb dX0_bestLip_26 rfl (lv_at hl 0 rfl) ?_
        refine gX0_9 B hS dX0_bestLip_27 ?_
        refine lv_aload_n hx hb dX0_bestLip_30 rfl (lv_at hl 0 rfl) ?_
        refine gX0_18 B hS dX0_bestLip_31 ?_
        refine lv_iload hx hb dX0_bestLip_34 (lv_at hl 4 rfl) ?_
        obtain ⟨hi_1012, hrun⟩ := gdE hrun
        refine xa B hS ia_26 hi_1012 dX0_bestLip_36 ?_
        refine lv_isub hx hb dX0_bestLip_37 ?_
        refine xmax B hl.1 (tw_3 43 rfl rfl) (tw_3 44 rfl rfl) (tw_1 15 rfl rfl) (tw_3 45 rfl rfl) (Nat.le_of_ble_eq_true rfl) (Nat.le_of_ble_eq_true rfl) (Nat.zero_le _) (Nat.zero_le _) dX0_bestLip_38 ?_
        refine lv_topi (fun x5_1013 ex => ?_)
        obtain ⟨z, ez, hrun⟩ := bsE hrun
        obtain rfl : x5_1013 = z := ex.trans ez.symm
        clear ex ez
        refine lv_istore (lv' := [(5, .int x5_1013), (0, .ref (X.2.1 25)), (1, .ref (X.2.1 h1)), (2, .int x2), (3, .int x3), (4, .int x4)]) hx hb dX0_bestLip_41 hl (by decide) rfl (fun ls hl => ?_)
        refine lv_iload hx hb dX0_bestLip_43 (lv_at hl 0 rfl) ?_
        refine lv_iload_n hx hb dX0_bestLip_45 rfl (lv_at hl 4 rfl) ?_
        refine lv_icmp_ge (tgt := 55) hx hb dX0_bestLip_46 (by decide) (fun hc => ?_) (fun hc => ?_)
        · have hrun := ip hc hrun
          refine lv_iinc (v := x4 + (1 : Int32)) (k := 5) (lv' := [(4, .int (x4 + (1 : Int32))), (5, .int x5_1013), (0, .ref (X.2.1 25)), (1, .ref (X.2.1 h1)), (2, .int x2), (3, .int x3)]) hx hb dX0_bestLip_55 hl rfl rfl (by decide) rfl (fun ls hl => ?_)
          refine lv_goto (tgt := 10) hx hb dX0_bestLip_58 (by decide) ?_
          exact ih10 x2 x3 (x4 + (1 : Int32)) _ _ _ hS (lv_sub hl [2, 3, 4, 5, 0] rfl) hrun
        · have hrun := iq hc hrun
          refine lv_iload hx hb dX0_bestLip_49 (lv_at hl 5 rfl) ?_
          refine lv_istore_n (lv' := [(2, .int x4), (5, .int x5_1013), (0, .ref (X.2.1 25)), (1, .ref (X.2.1 h1)), (3, .int x3), (4, .int x4)]) hx hb dX0_bestLip_51 rfl hl (by decide) rfl (fun ls hl => ?_)
          refine lv_iload hx hb dX0_bestLip_52 (lv_at hl 1 rfl) ?_
          refine lv_istore_n (lv' := [(3, .int x5_1013), (2, .int x4), (5, .int x5_1013), (0, .ref (X.2.1 25)), (1, .ref (X.2.1 h1)), (4, .int x4)]) hx hb dX0_bestLip_54 rfl hl (by decide) rfl (fun ls hl => ?_)
          refine lv_iinc (v := x4 + (1 : Int32)) (k := 5) (lv' := [(4, .int (x4 + (1 : Int32))), (3, .int x5_1013), (2, .int x4), (5, .int x5_1013), (0, .ref (X.2.1 25)), (1, .ref (X.2.1 h1))]) hx hb dX0_bestLip_55 hl rfl rfl (by decide) rfl (fun ls hl => ?_)
          refine lv_goto (tgt := 10) hx hb dX0_bestLip_58 (by decide) ?_
          exact ih10 x4 x5_1013 (x4 + (1 : Int32)) _ _ _ hS (lv_sub hl [4, 5, 2, 1, 0] rfl) hrun
  unfold fX0_bestLip at hrun
  refine lv_iconst (v := -1) hx hb dX0_bestLip_0 (by decide) ?_
  refine lv_istore_n (lv' := [(2, .int (-1 : Int32)), (0, .ref (X.2.1 25)), (1, .ref (X.2.1 h1))]) hx hb dX0_bestLip_1 rfl hl (by decide) rfl (fun ls hl => ?_)
  refine lv_aload_n hx hb dX0_bestLip_2 rfl (lv_at hl 1 rfl) ?_
  refine gX0_9 B hS dX0_bestLip_3 ?_
  refine lv_topi (fun x3_1 ex => ?_)
  obtain ⟨z, ez, hrun⟩ := bsE hrun
  obtain rfl : x3_1 = z := ex.trans ez.symm
  clear ex ez
  refine lv_istore_n (lv' := [(3, .int x3_1), (2, .int (-1 : Int32)), (0, .ref (X.2.1 25)), (1, .ref (X.2.1 h1))]) hx hb dX0_bestLip_6 rfl hl (by decide) rfl (fun ls hl => ?_)
  refine lv_iconst (v := 0) hx hb dX0_bestLip_7 (by decide) ?_
  refine lv_istore (lv' := [(4, .int (0 : Int32)), (3, .int x3_1), (2, .int (-1 : Int32)), (0, .ref (X.2.1 25)), (1, .ref (X.2.1 h1))]) hx hb dX0_bestLip_8 hl (by decide) rfl (fun ls hl => ?_)
  exact hB10 fuelN (-1 : Int32) x3_1 (0 : Int32) _ _ _ hS (lv_sub hl [3, 4, 2, 1, 0] rfl) hrun
theorem mdX1_draw : MD yX1_draw 1 := ⟨by decide +kernel, by decide +kernel, by decide +kernel⟩
set_option maxHeartbeats 4000000 in
set_option maxRecDepth 100000 in
theorem kX1_draw (l : Launch) (X : Cx) (t : St) (x1 : Int32) (r : Int32) (t' : St) (hrun : fX1_draw t x1 = some (r, t')) : Ci l X t yX1_draw cX1_draw 2 .int 0 0 [.ref (X.2.1 43), .int x1] r t' := by
  refine Ci_of (by decide) (Nat.le_of_ble_eq_true rfl) ?_
  intro p e s m args below meth c Q B hret hS ls hl
  have hx := B.1
  have hb := B.2.1
  have hown := B.2.2.2.1
  have hts := B.2.2.2.2.1
  have hl : lv_has ls 2 [(0, .ref (X.2.1 43)), (1, .int x1)] := hl
  unfold fX1_draw at hrun
  refine lv_aload_n hx hb dX1_draw_0 rfl (lv_at hl 0 rfl) ?_
  refine lv_aload_n hx hb dX1_draw_1 rfl (lv_at hl 0 rfl) ?_
  refine gX1_7 B hS dX1_draw_2 ?_
  refine lv_i2l hx hb dX1_draw_5 rfl ?_
  refine lv_ldc2 (v := 1103515245) hx hb hown (hts _ (tw_3 166 rfl rfl)) dX1_draw_6 ?_
  refine lv_lmul hx hb dX1_draw_9 ?_
  refine lv_ldc2 (v := 12345) hx hb hown (hts _ (tw_3 167 rfl rfl)) dX1_draw_10 ?_
  refine lv_ladd hx hb dX1_draw_13 ?_
  refine lv_ldc2 (v := 2147483647) hx hb hown (hts _ (tw_3 168 rfl rfl)) dX1_draw_14 ?_
  refine lv_land hx hb dX1_draw_17 ?_
  refine lv_l2i hx hb dX1_draw_18 rfl ?_
  refine pX1_7 B hS dX1_draw_19 (fun H locs hS => ?_)
  obtain ⟨t_1, et, hrun⟩ := bsE hrun
  have hS : SS X t_1 s.heap H locs := by rw [et]; exact hS
  clear et
  refine lv_iload_n hx hb dX1_draw_22 rfl (lv_at hl 1 rfl) ?_
  refine lv_if_le (tgt := 38) hx hb dX1_draw_23 (by decide) (fun hc => ?_) (fun hc => ?_)
  · have hrun := ip hc hrun
    refine lv_iconst (v := 0) hx hb dX1_draw_38 (by decide) ?_
    exact hret _ _ _ _ _ _ hrun rfl hS dX1_draw_39
  · have hrun := iq hc hrun
    refine lv_aload_n hx hb dX1_draw_26 rfl (lv_at hl 0 rfl) ?_
    refine gX1_7 B hS dX1_draw_27 ?_
    refine lv_ldc (v := 65536) hx hb hown (hts _ (tw_3 169 rfl rfl)) dX1_draw_30 ?_
    refine lv_idiv hx hb dX1_draw_32 (by decide) ?_
    refine lv_iload_n hx hb dX1_draw_33 rfl (lv_at hl 1 rfl) ?_
    obtain ⟨hz_2, hrun⟩ := gzE hrun
    refine lv_irem hx hb dX1_draw_34 hz_2 ?_
    refine lv_goto (tgt := 39) hx hb dX1_draw_35 (by decide) ?_
    exact hret _ _ _ _ _ _ hrun rfl hS dX1_draw_39
theorem mdX2_placedIn : MD yX2_placedIn 1 := ⟨by decide +kernel, by decide +kernel, by decide +kernel⟩
set_option maxHeartbeats 4000000 in
set_option maxRecDepth 100000 in
theorem kX2_placedIn (l : Launch) (X : Cx) (t : St) (x0 : Int32) (r : Int32) (hrun : fX2_placedIn t x0 = some r) : Ci l X t yX2_placedIn cX2_placedIn 3 .int 0 0 [.int x0] r t := by
  refine Ci_of (by decide) (Nat.le_of_ble_eq_true rfl) ?_
  intro p e s m args below meth c Q B hret hS ls hl
  have hx := B.1
  have hb := B.2.1
  have hown := B.2.2.2.1
  have hts := B.2.2.2.2.1
  have hl : lv_has ls 3 [(0, .int x0)] := hl
  have hB4 : ∀ (n4 : Nat) (x0 : Int32) (x1 : Int32) (x2 : Int32) (H : Heap) (locs : List Loc) (ls : Array Slot), SS X t s.heap H locs → lv_has ls 3 [(0, .int x0), (1, .int x1), (2, .int x2)] → fX2_placedIn_4 t n4 x0 x1 x2 = some r → W p l e ({ frames := 0, cells := 0, slots := 0, locals := 0 } : Room) s m args below meth c H locs 0 0 Q (F0 m 4 ls []) := by
    intro n4
    induction n4 with
    | zero =>
      intro x0 x1 x2 H locs ls hS hl hrun
      cases (show (none : Option (Int32)) = some r from hrun)
    | succ n4 ih4 =>
      intro x0 x1 x2 H locs ls hS hl hrun
      rw [fX2_placedIn_4_s] at hrun
      refine lv_iload_n hx hb dX2_placedIn_4 rfl (lv_at hl 2 rfl) ?_
      refine lv_iconst (v := 4) hx hb dX2_placedIn_5 (by decide) ?_
      refine lv_icmp_ge (tgt := 26) hx hb dX2_placedIn_6 (by decide) (fun hc => ?_) (fun hc => ?_)
      · have hrun := ip hc hrun
        refine lv_iload_n hx hb dX2_placedIn_26 rfl (lv_at hl 1 rfl) ?_
        exact hret _ _ _ _ _ _ (congrArg (Option.map (fun w => (w, t))) hrun) rfl hS dX2_placedIn_27
      · have hrun := iq hc hrun
        refine lv_iload_n hx hb dX2_placedIn_9 rfl (lv_at hl 1 rfl) ?_
        refine lv_iload_n hx hb dX2_placedIn_10 rfl (lv_at hl 0 rfl) ?_
        refine lv_iconst (v := 3) hx hb dX2_placedIn_11 (by decide) ?_
        refine lv_iload_n hx hb dX2_placedIn_12 rfl (lv_at hl 2 rfl) ?_
        refine lv_imul hx hb dX2_placedIn_13 ?_
        refine lv_ishr hx hb dX2_placedIn_14 ?_
        refine lv_bipush (v := 7) hx hb dX2_placedIn_15 (by decide) ?_
        refine lv_iand hx hb dX2_placedIn_17 ?_
        refine lv_iadd hx hb dX2_placedIn_18 ?_
        refine lv_topi (fun x1_1005 ex => ?_)
        obtain ⟨z, ez, hrun⟩ := bsE hrun
        obtain rfl : x1_1005 = z := ex.trans ez.symm
        clear ex ez
        refine lv_istore_n (lv' := [(1, .int x1_1005), (0, .int x0), (2, .int x2)]) hx hb dX2_placedIn_19 rfl hl (by decide) rfl (fun ls hl => ?_)
        refine lv_iinc (v := x2 + (1 : Int32)) (k := 2) (lv' := [(2, .int (x2 + (1 : Int32))), (1, .int x1_1005), (0, .int x0)]) hx hb dX2_placedIn_20 hl rfl rfl (by decide) rfl (fun ls hl => ?_)
        refine lv_goto (tgt := 4) hx hb dX2_placedIn_23 (by decide) ?_
        exact ih4 x0 x1_1005 (x2 + (1 : Int32)) _ _ _ hS (lv_sub hl [2, 1, 0] rfl) hrun
  unfold fX2_placedIn at hrun
  refine lv_iconst (v := 0) hx hb dX2_placedIn_0 (by decide) ?_
  refine lv_istore_n (lv' := [(1, .int (0 : Int32)), (0, .int x0)]) hx hb dX2_placedIn_1 rfl hl (by decide) rfl (fun ls hl => ?_)
  refine lv_iconst (v := 0) hx hb dX2_placedIn_2 (by decide) ?_
  refine lv_istore_n (lv' := [(2, .int (0 : Int32)), (1, .int (0 : Int32)), (0, .int x0)]) hx hb dX2_placedIn_3 rfl hl (by decide) rfl (fun ls hl => ?_)
  exact hB4 fuelN x0 (0 : Int32) (0 : Int32) _ _ _ hS (lv_sub hl [2, 1, 0] rfl) hrun
theorem mdX2_costOf : MD yX2_costOf 3 := ⟨by decide +kernel, by decide +kernel, by decide +kernel⟩
section QX2_costOf
variable {p : Program} {l : Launch} {e : Env} {R : Room} {s : State} {m : MethodId} {args : Array Value} {below : List Frame} {meth : Method} {c : Code} {H : Heap} {locs : List Loc} {cells slots : Nat} {Q : State → Prop}
variable {cc : ByteArray} {pc : Nat} {ls : Array Slot} {rest : List Value} {X : Cx} {t : St} {H0 : Heap} {nL : Nat}
theorem qX2_51 (B : Bx p s m args c cc nL X RX2) (hS : SS X t H0 H locs) {x0 : Int32} {r : Int32} (hM : fX2_placedIn t x0 = some r) (hsz : ls.size = nL) (hW : (rest.map fun v => v.category).sum ≤ 8) (hR : 0 + 1 ≤ R.frames ∧ 8 + (3 + 11) + 0 ≤ R.locals) (hR2 : cells ≤ R.cells ∧ slots ≤ R.slots) (hdg : decode cc pc = .ok (.invokestatic 51, 3)) (kk : ∀ (H1 : Heap) (locs1 : List Loc), SS X t H0 H1 locs1 → W p l e R s m args below meth c H1 locs1 cells slots Q (F0 m (pc + 3) ls (.int r :: rest))) : W p l e R s m args below meth c H locs cells slots Q (F0 m pc ls (.int x0 :: rest)) :=
  xSi B hS (kX2_placedIn l X t x0 r hM) (tw_4 15 rfl rfl) (tw_4 16 rfl rfl) (tw_1 10 rfl rfl) (tw_4 17 rfl rfl) mdX2_placedIn rfl hsz rfl hW hR hR2 hdg kk
theorem qX2_65 (B : Bx p s m args c cc nL X RX2) (hS : SS X t H0 H locs) {h0 : Nat} (e0 : isHall h0) {x1 : Int32} {x2 : Int32} {x3 : Int32} {x4 : Int32} {r : Int32} (hM : fX3_priceBy h0 t x1 x2 x3 x4 = some r) (hsz : ls.size = nL) (hW : (rest.map fun v => v.category).sum ≤ 8) (hR : 1 + 1 ≤ R.frames ∧ 8 + (6 + 11) + 23 ≤ R.locals) (hR2 : cells ≤ R.cells ∧ slots ≤ R.slots) (hdg : decode cc pc = .ok (.invokevirtual 65, 3)) (kk : ∀ (H1 : Heap) (locs1 : List Loc), SS X t H0 H1 locs1 → W p l e R s m args below meth c H1 locs1 cells slots Q (F0 m (pc + 3) ls (.int r :: rest))) : W p l e R s m args below meth c H locs cells slots Q (F0 m pc ls (.int x4 :: .int x3 :: .int x2 :: .int x1 :: .ref (X.2.1 h0) :: rest)) :=
  xVi B hS (kX3_priceBy l X t h0 e0 x1 x2 x3 x4 r hM) (tw_4 27 rfl rfl) (tw_2 219 rfl rfl) (tw_2 220 rfl rfl) (tw_1 4 rfl rfl) (tw_2 221 rfl rfl) mdX3_priceBy (hall_lt e0) (ceX3 e0 _) rfl rfl rfl hsz rfl hW hR hR2 hdg kk
end QX2_costOf
set_option maxHeartbeats 4000000 in
set_option maxRecDepth 100000 in
theorem kX2_costOf (l : Launch) (X : Cx) (t : St) (h3 : Nat) (e3 : isHall h3) (x1 : Int32) (x2 : Int32) (r : Int32) (hrun : fX2_costOf h3 t x1 x2 = some r) : Ci l X t yX2_costOf cX2_costOf 7 .int 2 48 [.ref (X.2.1 39), .int x1, .int x2, .ref (X.2.1 h3)] r t := by
  refine Ci_of (by decide) (Nat.le_of_ble_eq_true rfl) ?_
  intro p e s m args below meth c Q B hret hS ls hl
  have hx := B.1
  have hb := B.2.1
  have hown := B.2.2.2.1
  have hts := B.2.2.2.2.1
  have hl : lv_has ls 7 [(0, .ref (X.2.1 39)), (1, .int x1), (2, .int x2), (3, .ref (X.2.1 h3))] := hl
  unfold fX2_costOf at hrun
  refine lv_iload_n hx hb dX2_costOf_0 rfl (lv_at hl 1 rfl) ?_
  obtain ⟨r_2, hc_1, hrun⟩ := bdE hrun
  refine qX2_51 B hS hc_1 hl.1 (Nat.le_of_ble_eq_true rfl) ⟨Nat.le_of_ble_eq_true rfl, Nat.le_of_ble_eq_true rfl⟩ ⟨Nat.zero_le _, Nat.zero_le _⟩ dX2_costOf_1 (fun H locs hS => ?_)
  refine lv_istore (lv' := [(4, .int r_2), (0, .ref (X.2.1 39)), (1, .int x1), (2, .int x2), (3, .ref (X.2.1 h3))]) hx hb dX2_costOf_4 hl (by decide) rfl (fun ls hl => ?_)
  refine lv_iload_n hx hb dX2_costOf_6 rfl (lv_at hl 2 rfl) ?_
  refine lv_iconst (v := 1) hx hb dX2_costOf_7 (by decide) ?_
  refine lv_iconst (v := 3) hx hb dX2_costOf_8 (by decide) ?_
  refine lv_iload_n hx hb dX2_costOf_9 rfl (lv_at hl 3 rfl) ?_
  refine lv_imul hx hb dX2_costOf_10 ?_
  refine lv_ishl hx hb dX2_costOf_11 ?_
  refine lv_iadd hx hb dX2_costOf_12 ?_
  refine lv_topi (fun x5_3 ex => ?_)
  obtain ⟨z, ez, hrun⟩ := bsE hrun
  obtain rfl : x5_3 = z := ex.trans ez.symm
  clear ex ez
  refine lv_istore (lv' := [(5, .int x5_3), (4, .int r_2), (0, .ref (X.2.1 39)), (1, .int x1), (2, .int x2), (3, .ref (X.2.1 h3))]) hx hb dX2_costOf_13 hl (by decide) rfl (fun ls hl => ?_)
  refine lv_iload hx hb dX2_costOf_15 (lv_at hl 1 rfl) ?_
  refine lv_aload_n hx hb dX2_costOf_17 rfl (lv_at hl 2 rfl) ?_
  refine gX2_21 B hS dX2_costOf_18 ?_
  refine lv_icmp_ge (tgt := 32) hx hb dX2_costOf_21 (by decide) (fun hc => ?_) (fun hc => ?_)
  · have hrun := ip hc hrun
    refine lv_ldc (v := 1000000) hx hb hown (hts _ (tw_4 18 rfl rfl)) dX2_costOf_32 ?_
    exact hret _ _ _ _ _ _ (congrArg (Option.map (fun w => (w, t))) hrun) rfl hS dX2_costOf_34
  · have hrun := iq hc hrun
    refine lv_iload hx hb dX2_costOf_24 (lv_at hl 0 rfl) ?_
    refine lv_sipush (v := 4096) hx hb dX2_costOf_26 (by decide) ?_
    refine lv_icmp_lt (tgt := 35) hx hb dX2_costOf_29 (by decide) (fun hc => ?_) (fun hc => ?_)
    · have hrun := ip hc hrun
      refine lv_iload_n hx hb dX2_costOf_35 rfl (lv_at hl 3 rfl) ?_
      refine lv_iconst (v := 3) hx hb dX2_costOf_36 (by decide) ?_
      refine lv_iload_n hx hb dX2_costOf_37 rfl (lv_at hl 4 rfl) ?_
      refine lv_imul hx hb dX2_costOf_38 ?_
      refine lv_ishr hx hb dX2_costOf_39 ?_
      refine lv_bipush (v := 7) hx hb dX2_costOf_40 (by decide) ?_
      refine lv_iand hx hb dX2_costOf_42 ?_
      refine lv_topi (fun x6_4 ex => ?_)
      obtain ⟨z, ez, hrun⟩ := bsE hrun
      obtain rfl : x6_4 = z := ex.trans ez.symm
      clear ex ez
      refine lv_istore (lv' := [(6, .int x6_4), (5, .int x5_3), (4, .int r_2), (0, .ref (X.2.1 39)), (1, .int x1), (2, .int x2), (3, .ref (X.2.1 h3))]) hx hb dX2_costOf_43 hl (by decide) rfl (fun ls hl => ?_)
      refine lv_aload_n hx hb dX2_costOf_45 rfl (lv_at hl 6 rfl) ?_
      refine lv_aload_n hx hb dX2_costOf_46 rfl (lv_at hl 6 rfl) ?_
      refine gX2_60 B hS e3 dX2_costOf_47 ?_
      refine lv_aload_n hx hb dX2_costOf_50 rfl (lv_at hl 3 rfl) ?_
      refine gX2_9 B hS dX2_costOf_51 ?_
      refine lv_iload hx hb dX2_costOf_54 (lv_at hl 2 rfl) ?_
      obtain ⟨hi_5, hrun⟩ := gdE hrun
      refine xa B hS ia_40 hi_5 dX2_costOf_56 ?_
      refine lv_iload hx hb dX2_costOf_57 (lv_at hl 0 rfl) ?_
      refine lv_iload_n hx hb dX2_costOf_59 rfl (lv_at hl 5 rfl) ?_
      obtain ⟨r_7, hc_6, hrun⟩ := bdE hrun
      refine qX2_65 B hS e3 hc_6 hl.1 (Nat.le_of_ble_eq_true rfl) ⟨Nat.le_of_ble_eq_true rfl, Nat.le_of_ble_eq_true rfl⟩ ⟨Nat.zero_le _, Nat.zero_le _⟩ dX2_costOf_60 (fun H locs hS => ?_)
      refine lv_aload_n hx hb dX2_costOf_63 rfl (lv_at hl 3 rfl) ?_
      refine gX2_15 B hS dX2_costOf_64 ?_
      refine lv_iload hx hb dX2_costOf_67 (lv_at hl 1 rfl) ?_
      obtain ⟨hi_8, hrun⟩ := gdE hrun
      refine xa B hS ia_41 hi_8 dX2_costOf_69 ?_
      refine lv_iadd hx hb dX2_costOf_70 ?_
      exact hret _ _ _ _ _ _ (congrArg (Option.map (fun w => (w, t))) hrun) rfl hS dX2_costOf_71
    · have hrun := iq hc hrun
      refine lv_ldc (v := 1000000) hx hb hown (hts _ (tw_4 18 rfl rfl)) dX2_costOf_32 ?_
      exact hret _ _ _ _ _ _ (congrArg (Option.map (fun w => (w, t))) hrun) rfl hS dX2_costOf_34
theorem mdX2_bestPlace : MD yX2_bestPlace 2 := ⟨by decide +kernel, by decide +kernel, by decide +kernel⟩
section QX2_bestPlace
variable {p : Program} {l : Launch} {e : Env} {R : Room} {s : State} {m : MethodId} {args : Array Value} {below : List Frame} {meth : Method} {c : Code} {H : Heap} {locs : List Loc} {cells slots : Nat} {Q : State → Prop}
variable {cc : ByteArray} {pc : Nat} {ls : Array Slot} {rest : List Value} {X : Cx} {t : St} {H0 : Heap} {nL : Nat}
theorem qX2_56 (B : Bx p s m args c cc nL X RX2) (hS : SS X t H0 H locs) {h3 : Nat} (e3 : isHall h3) {x1 : Int32} {x2 : Int32} {r : Int32} (hM : fX2_costOf h3 t x1 x2 = some r) (hsz : ls.size = nL) (hW : (rest.map fun v => v.category).sum ≤ 8) (hR : 2 + 1 ≤ R.frames ∧ 8 + (7 + 11) + 48 ≤ R.locals) (hR2 : cells ≤ R.cells ∧ slots ≤ R.slots) (hdg : decode cc pc = .ok (.invokevirtual 56, 3)) (kk : ∀ (H1 : Heap) (locs1 : List Loc), SS X t H0 H1 locs1 → W p l e R s m args below meth c H1 locs1 cells slots Q (F0 m (pc + 3) ls (.int r :: rest))) : W p l e R s m args below meth c H locs cells slots Q (F0 m pc ls (.ref (X.2.1 h3) :: .int x2 :: .int x1 :: .ref (X.2.1 39) :: rest)) :=
  xVi B hS (kX2_costOf l X t h3 e3 x1 x2 r hM) (tw_4 23 rfl rfl) (tw_4 25 rfl rfl) (tw_0 20 rfl rfl) (tw_1 10 rfl rfl) (tw_4 26 rfl rfl) mdX2_costOf (by decide) (ceX2 _) rfl rfl rfl hsz rfl hW hR hR2 hdg kk
end QX2_bestPlace
set_option maxHeartbeats 4000000 in
set_option maxRecDepth 100000 in
theorem kX2_bestPlace (l : Launch) (X : Cx) (t : St) (h2 : Nat) (e2 : isHall h2) (x1 : Int32) (r : Int32) (hrun : fX2_bestPlace h2 t x1 = some r) : Ci l X t yX2_bestPlace cX2_bestPlace 7 .int 3 74 [.ref (X.2.1 39), .int x1, .ref (X.2.1 h2)] r t := by
  refine Ci_of (by decide) (Nat.le_of_ble_eq_true rfl) ?_
  intro p e s m args below meth c Q B hret hS ls hl
  have hx := B.1
  have hb := B.2.1
  have hown := B.2.2.2.1
  have hts := B.2.2.2.2.1
  have hl : lv_has ls 7 [(0, .ref (X.2.1 39)), (1, .int x1), (2, .ref (X.2.1 h2))] := hl
  have hB14 : ∀ (n14 : Nat) (x1 : Int32) (x3 : Int32) (x4 : Int32) (x5 : Int32) (H : Heap) (locs : List Loc) (ls : Array Slot), SS X t s.heap H locs → lv_has ls 7 [(0, .ref (X.2.1 39)), (1, .int x1), (2, .ref (X.2.1 h2)), (3, .int x3), (4, .int x4), (5, .int x5)] → fX2_bestPlace_14 h2 t n14 x1 x3 x4 x5 = some r → W p l e ({ frames := 3, cells := 0, slots := 0, locals := 74 } : Room) s m args below meth c H locs 0 0 Q (F0 m 14 ls []) := by
    intro n14
    induction n14 with
    | zero =>
      intro x1 x3 x4 x5 H locs ls hS hl hrun
      cases (show (none : Option (Int32)) = some r from hrun)
    | succ n14 ih14 =>
      intro x1 x3 x4 x5 H locs ls hS hl hrun
      rw [fX2_bestPlace_14_s] at hrun
      refine lv_iload hx hb dX2_bestPlace_14 (lv_at hl 5 rfl) ?_
      refine lv_aload_n hx hb dX2_bestPlace_16 rfl (lv_at hl 0 rfl) ?_
      refine gX2_28 B hS dX2_bestPlace_17 ?_
      refine gX2_41 B hS reg_3 dX2_bestPlace_20 ?_
      refine lv_icmp_ge (tgt := 56) hx hb dX2_bestPlace_23 (by decide) (fun hc => ?_) (fun hc => ?_)
      · have hrun := ip hc hrun
        refine lv_iload_n hx hb dX2_bestPlace_56 rfl (lv_at hl 3 rfl) ?_
        exact hret _ _ _ _ _ _ (congrArg (Option.map (fun w => (w, t))) hrun) rfl hS dX2_bestPlace_57
      · have hrun := iq hc hrun
        refine lv_aload_n hx hb dX2_bestPlace_26 rfl (lv_at hl 0 rfl) ?_
        refine lv_iload_n hx hb dX2_bestPlace_27 rfl (lv_at hl 1 rfl) ?_
        refine lv_iload hx hb dX2_bestPlace_28 (lv_at hl 5 rfl) ?_
        refine lv_aload_n hx hb dX2_bestPlace_30 rfl (lv_at hl 2 rfl) ?_
        obtain ⟨r_1016, hc_1015, hrun⟩ := bdE hrun
        refine qX2_56 B hS e2 hc_1015 hl.1 (Nat.le_of_ble_eq_true rfl) ⟨Nat.le_of_ble_eq_true rfl, Nat.le_of_ble_eq_true rfl⟩ ⟨Nat.zero_le _, Nat.zero_le _⟩ dX2_bestPlace_31 (fun H locs hS => ?_)
        refine lv_istore (lv' := [(6, .int r_1016), (0, .ref (X.2.1 39)), (1, .int x1), (2, .ref (X.2.1 h2)), (3, .int x3), (4, .int x4), (5, .int x5)]) hx hb dX2_bestPlace_34 hl (by decide) rfl (fun ls hl => ?_)
        refine lv_iload hx hb dX2_bestPlace_36 (lv_at hl 0 rfl) ?_
        refine lv_iload hx hb dX2_bestPlace_38 (lv_at hl 5 rfl) ?_
        refine lv_icmp_ge (tgt := 50) hx hb dX2_bestPlace_40 (by decide) (fun hc => ?_) (fun hc => ?_)
        · have hrun := ip hc hrun
          refine lv_iinc (v := x5 + (1 : Int32)) (k := 6) (lv' := [(5, .int (x5 + (1 : Int32))), (6, .int r_1016), (0, .ref (X.2.1 39)), (1, .int x1), (2, .ref (X.2.1 h2)), (3, .int x3), (4, .int x4)]) hx hb dX2_bestPlace_50 hl rfl rfl (by decide) rfl (fun ls hl => ?_)
          refine lv_goto (tgt := 14) hx hb dX2_bestPlace_53 (by decide) ?_
          exact ih14 x1 x3 x4 (x5 + (1 : Int32)) _ _ _ hS (lv_sub hl [2, 3, 4, 5, 6, 0] rfl) hrun
        · have hrun := iq hc hrun
          refine lv_iload hx hb dX2_bestPlace_43 (lv_at hl 6 rfl) ?_
          refine lv_istore_n (lv' := [(3, .int x5), (6, .int r_1016), (0, .ref (X.2.1 39)), (1, .int x1), (2, .ref (X.2.1 h2)), (4, .int x4), (5, .int x5)]) hx hb dX2_bestPlace_45 rfl hl (by decide) rfl (fun ls hl => ?_)
          refine lv_iload hx hb dX2_bestPlace_46 (lv_at hl 1 rfl) ?_
          refine lv_istore (lv' := [(4, .int r_1016), (3, .int x5), (6, .int r_1016), (0, .ref (X.2.1 39)), (1, .int x1), (2, .ref (X.2.1 h2)), (5, .int x5)]) hx hb dX2_bestPlace_48 hl (by decide) rfl (fun ls hl => ?_)
          refine lv_iinc (v := x5 + (1 : Int32)) (k := 6) (lv' := [(5, .int (x5 + (1 : Int32))), (4, .int r_1016), (3, .int x5), (6, .int r_1016), (0, .ref (X.2.1 39)), (1, .int x1), (2, .ref (X.2.1 h2))]) hx hb dX2_bestPlace_50 hl rfl rfl (by decide) rfl (fun ls hl => ?_)
          refine lv_goto (tgt := 14) hx hb dX2_bestPlace_53 (by decide) ?_
          exact ih14 x1 x5 r_1016 (x5 + (1 : Int32)) _ _ _ hS (lv_sub hl [4, 5, 6, 2, 1, 0] rfl) hrun
  unfold fX2_bestPlace at hrun
  refine lv_iconst (v := 0) hx hb dX2_bestPlace_0 (by decide) ?_
  refine lv_istore_n (lv' := [(3, .int (0 : Int32)), (0, .ref (X.2.1 39)), (1, .int x1), (2, .ref (X.2.1 h2))]) hx hb dX2_bestPlace_1 rfl hl (by decide) rfl (fun ls hl => ?_)
  refine lv_aload_n hx hb dX2_bestPlace_2 rfl (lv_at hl 1 rfl) ?_
  refine lv_iload_n hx hb dX2_bestPlace_3 rfl (lv_at hl 2 rfl) ?_
  refine lv_iconst (v := 0) hx hb dX2_bestPlace_4 (by decide) ?_
  refine lv_aload_n hx hb dX2_bestPlace_5 rfl (lv_at hl 3 rfl) ?_
  obtain ⟨r_2, hc_1, hrun⟩ := bdE hrun
  refine qX2_56 B hS e2 hc_1 hl.1 (Nat.le_of_ble_eq_true rfl) ⟨Nat.le_of_ble_eq_true rfl, Nat.le_of_ble_eq_true rfl⟩ ⟨Nat.zero_le _, Nat.zero_le _⟩ dX2_bestPlace_6 (fun H locs hS => ?_)
  refine lv_istore (lv' := [(4, .int r_2), (3, .int (0 : Int32)), (0, .ref (X.2.1 39)), (1, .int x1), (2, .ref (X.2.1 h2))]) hx hb dX2_bestPlace_9 hl (by decide) rfl (fun ls hl => ?_)
  refine lv_iconst (v := 1) hx hb dX2_bestPlace_11 (by decide) ?_
  refine lv_istore (lv' := [(5, .int (1 : Int32)), (4, .int r_2), (3, .int (0 : Int32)), (0, .ref (X.2.1 39)), (1, .int x1), (2, .ref (X.2.1 h2))]) hx hb dX2_bestPlace_12 hl (by decide) rfl (fun ls hl => ?_)
  exact hB14 fuelN x1 (0 : Int32) r_2 (1 : Int32) _ _ _ hS (lv_sub hl [3, 4, 5, 2, 1, 0] rfl) hrun
theorem mdX2_leastFrom : MD yX2_leastFrom 2 := ⟨by decide +kernel, by decide +kernel, by decide +kernel⟩
section QX2_leastFrom
variable {p : Program} {l : Launch} {e : Env} {R : Room} {s : State} {m : MethodId} {args : Array Value} {below : List Frame} {meth : Method} {c : Code} {H : Heap} {locs : List Loc} {cells slots : Nat} {Q : State → Prop}
variable {cc : ByteArray} {pc : Nat} {ls : Array Slot} {rest : List Value} {X : Cx} {t : St} {H0 : Heap} {nL : Nat}
theorem qX2_48 (B : Bx p s m args c cc nL X RX2) (hS : SS X t H0 H locs) {h2 : Nat} (e2 : isHall h2) {x1 : Int32} {r : Int32} (hM : fX2_bestPlace h2 t x1 = some r) (hsz : ls.size = nL) (hW : (rest.map fun v => v.category).sum ≤ 8) (hR : 3 + 1 ≤ R.frames ∧ 8 + (7 + 11) + 74 ≤ R.locals) (hR2 : cells ≤ R.cells ∧ slots ≤ R.slots) (hdg : decode cc pc = .ok (.invokevirtual 48, 3)) (kk : ∀ (H1 : Heap) (locs1 : List Loc), SS X t H0 H1 locs1 → W p l e R s m args below meth c H1 locs1 cells slots Q (F0 m (pc + 3) ls (.int r :: rest))) : W p l e R s m args below meth c H locs cells slots Q (F0 m pc ls (.ref (X.2.1 h2) :: .int x1 :: .ref (X.2.1 39) :: rest)) :=
  xVi B hS (kX2_bestPlace l X t h2 e2 x1 r hM) (tw_4 19 rfl rfl) (tw_4 21 rfl rfl) (tw_0 19 rfl rfl) (tw_1 10 rfl rfl) (tw_4 22 rfl rfl) mdX2_bestPlace (by decide) (ceX2 _) rfl rfl rfl hsz rfl hW hR hR2 hdg kk
end QX2_leastFrom
set_option maxHeartbeats 4000000 in
set_option maxRecDepth 100000 in
theorem kX2_leastFrom (l : Launch) (X : Cx) (t : St) (h2 : Nat) (e2 : isHall h2) (x1 : Int32) (r : Int32) (hrun : fX2_leastFrom h2 t x1 = some r) : Ci l X t yX2_leastFrom cX2_leastFrom 4 .int 4 100 [.ref (X.2.1 39), .int x1, .ref (X.2.1 h2)] r t := by
  refine Ci_of (by decide) (Nat.le_of_ble_eq_true rfl) ?_
  intro p e s m args below meth c Q B hret hS ls hl
  have hx := B.1
  have hb := B.2.1
  have hown := B.2.2.2.1
  have hts := B.2.2.2.2.1
  have hl : lv_has ls 4 [(0, .ref (X.2.1 39)), (1, .int x1), (2, .ref (X.2.1 h2))] := hl
  unfold fX2_leastFrom at hrun
  refine lv_iload_n hx hb dX2_leastFrom_0 rfl (lv_at hl 1 rfl) ?_
  obtain ⟨r_2, hc_1, hrun⟩ := bdE hrun
  refine qX2_51 B hS hc_1 hl.1 (Nat.le_of_ble_eq_true rfl) ⟨Nat.le_of_ble_eq_true rfl, Nat.le_of_ble_eq_true rfl⟩ ⟨Nat.zero_le _, Nat.zero_le _⟩ dX2_leastFrom_1 (fun H locs hS => ?_)
  refine lv_istore_n (lv' := [(3, .int r_2), (0, .ref (X.2.1 39)), (1, .int x1), (2, .ref (X.2.1 h2))]) hx hb dX2_leastFrom_4 rfl hl (by decide) rfl (fun ls hl => ?_)
  refine lv_iload_n hx hb dX2_leastFrom_5 rfl (lv_at hl 0 rfl) ?_
  refine lv_aload_n hx hb dX2_leastFrom_6 rfl (lv_at hl 1 rfl) ?_
  refine gX2_21 B hS dX2_leastFrom_7 ?_
  refine lv_icmp_lt (tgt := 28) hx hb dX2_leastFrom_10 (by decide) (fun hc => ?_) (fun hc => ?_)
  · have hrun := ip hc hrun
    refine lv_aload_n hx hb dX2_leastFrom_28 rfl (lv_at hl 1 rfl) ?_
    refine lv_iload_n hx hb dX2_leastFrom_29 rfl (lv_at hl 2 rfl) ?_
    refine lv_aload_n hx hb dX2_leastFrom_30 rfl (lv_at hl 1 rfl) ?_
    refine lv_iload_n hx hb dX2_leastFrom_31 rfl (lv_at hl 2 rfl) ?_
    refine lv_aload_n hx hb dX2_leastFrom_32 rfl (lv_at hl 3 rfl) ?_
    obtain ⟨r_4, hc_3, hrun⟩ := bdE hrun
    refine qX2_48 B hS e2 hc_3 hl.1 (Nat.le_of_ble_eq_true rfl) ⟨Nat.le_of_ble_eq_true rfl, Nat.le_of_ble_eq_true rfl⟩ ⟨Nat.zero_le _, Nat.zero_le _⟩ dX2_leastFrom_33 (fun H locs hS => ?_)
    refine lv_aload_n hx hb dX2_leastFrom_36 rfl (lv_at hl 3 rfl) ?_
    obtain ⟨r_6, hc_5, hrun⟩ := bdE hrun
    refine qX2_56 B hS e2 hc_5 hl.1 (Nat.le_of_ble_eq_true rfl) ⟨Nat.le_of_ble_eq_true rfl, Nat.le_of_ble_eq_true rfl⟩ ⟨Nat.zero_le _, Nat.zero_le _⟩ dX2_leastFrom_37 (fun H locs hS => ?_)
    exact hret _ _ _ _ _ _ (congrArg (Option.map (fun w => (w, t))) hrun) rfl hS dX2_leastFrom_40
  · have hrun := iq hc hrun
    refine lv_iload_n hx hb dX2_leastFrom_13 rfl (lv_at hl 0 rfl) ?_
    refine lv_aload_n hx hb dX2_leastFrom_14 rfl (lv_at hl 1 rfl) ?_
    refine gX2_21 B hS dX2_leastFrom_15 ?_
    refine lv_icmp_ne (tgt := 25) hx hb dX2_leastFrom_18 (by decide) (fun hc => ?_) (fun hc => ?_)
    · have hrun := iq hc hrun
      refine lv_ldc (v := 1000000) hx hb hown (hts _ (tw_4 18 rfl rfl)) dX2_leastFrom_25 ?_
      exact hret _ _ _ _ _ _ (congrArg (Option.map (fun w => (w, t))) hrun) rfl hS dX2_leastFrom_27
    · have hrun := ip hc hrun
      refine lv_iconst (v := 0) hx hb dX2_leastFrom_21 (by decide) ?_
      refine lv_goto (tgt := 27) hx hb dX2_leastFrom_22 (by decide) ?_
      exact hret _ _ _ _ _ _ (congrArg (Option.map (fun w => (w, t))) hrun) rfl hS dX2_leastFrom_27
theorem mdX2_group : MD yX2_group 2 := ⟨by decide +kernel, by decide +kernel, by decide +kernel⟩
section QX2_group
variable {p : Program} {l : Launch} {e : Env} {R : Room} {s : State} {m : MethodId} {args : Array Value} {below : List Frame} {meth : Method} {c : Code} {H : Heap} {locs : List Loc} {cells slots : Nat} {Q : State → Prop}
variable {cc : ByteArray} {pc : Nat} {ls : Array Slot} {rest : List Value} {X : Cx} {t : St} {H0 : Heap} {nL : Nat}
theorem qX2_37 (B : Bx p s m args c cc nL X RX2) (hS : SS X t H0 H locs) {x0 : Int32} {x1 : Int32} {r : Int32} (hM : fX10_isIn t x0 x1 = some r) (hsz : ls.size = nL) (hW : (rest.map fun v => v.category).sum ≤ 8) (hR : 0 + 1 ≤ R.frames ∧ 8 + (2 + 11) + 0 ≤ R.locals) (hR2 : cells ≤ R.cells ∧ slots ≤ R.slots) (hdg : decode cc pc = .ok (.invokestatic 37, 3)) (kk : ∀ (H1 : Heap) (locs1 : List Loc), SS X t H0 H1 locs1 → W p l e R s m args below meth c H1 locs1 cells slots Q (F0 m (pc + 3) ls (.int r :: rest))) : W p l e R s m args below meth c H locs cells slots Q (F0 m pc ls (.int x1 :: .int x0 :: rest)) :=
  xSNi B hS (kX10_isIn l X t x0 x1 r hM) (host := "SongSquares") (List.mem_of_getElem? (i := 59) rfl) (tw_3 14 rfl rfl) (tw_1 1 rfl rfl) (tw_3 15 rfl rfl) mdX10_isIn rfl hsz rfl hW hR hR2 hdg kk
theorem qX2_44 (B : Bx p s m args c cc nL X RX2) (hS : SS X t H0 H locs) {h2 : Nat} (e2 : isHall h2) {x1 : Int32} {r : Int32} (hM : fX2_leastFrom h2 t x1 = some r) (hsz : ls.size = nL) (hW : (rest.map fun v => v.category).sum ≤ 8) (hR : 4 + 1 ≤ R.frames ∧ 8 + (4 + 11) + 100 ≤ R.locals) (hR2 : cells ≤ R.cells ∧ slots ≤ R.slots) (hdg : decode cc pc = .ok (.invokevirtual 44, 3)) (kk : ∀ (H1 : Heap) (locs1 : List Loc), SS X t H0 H1 locs1 → W p l e R s m args below meth c H1 locs1 cells slots Q (F0 m (pc + 3) ls (.int r :: rest))) : W p l e R s m args below meth c H locs cells slots Q (F0 m pc ls (.ref (X.2.1 h2) :: .int x1 :: .ref (X.2.1 39) :: rest)) :=
  xVi B hS (kX2_leastFrom l X t h2 e2 x1 r hM) (tw_4 11 rfl rfl) (tw_4 13 rfl rfl) (tw_0 18 rfl rfl) (tw_1 10 rfl rfl) (tw_4 14 rfl rfl) mdX2_leastFrom (by decide) (ceX2 _) rfl rfl rfl hsz rfl hW hR hR2 hdg kk
end QX2_group
set_option maxHeartbeats 4000000 in
set_option maxRecDepth 100000 in
theorem kX2_group (l : Launch) (X : Cx) (t : St) (h2 : Nat) (e2 : isHall h2) (x1 : Int32) (t' : St) (hrun : fX2_group h2 t x1 = some t') : Cv l X t yX2_group cX2_group 6 5 123 [.ref (X.2.1 39), .int x1, .ref (X.2.1 h2)] t' := by
  refine Cv_of (by decide) (Nat.le_of_ble_eq_true rfl) ?_
  intro p e s m args below meth c Q B hret hS ls hl
  have hx := B.1
  have hb := B.2.1
  have hown := B.2.2.2.1
  have hts := B.2.2.2.2.1
  have hl : lv_has ls 6 [(0, .ref (X.2.1 39)), (1, .int x1), (2, .ref (X.2.1 h2))] := hl
  have hB110 : ∀ (n110 : Nat) (t : St) (x3 : Int32) (x4 : Int32) (H : Heap) (locs : List Loc) (ls : Array Slot), SS X t s.heap H locs → lv_has ls 6 [(0, .ref (X.2.1 39)), (2, .ref (X.2.1 h2)), (3, .int x3), (4, .int x4)] → fX2_group_110 h2 n110 t x3 x4 = some t' → W p l e ({ frames := 5, cells := 0, slots := 0, locals := 123 } : Room) s m args below meth c H locs 0 0 Q (F0 m 110 ls []) := by
    intro n110
    induction n110 with
    | zero =>
      intro t x3 x4 H locs ls hS hl hrun
      cases (show (none : Option (St)) = some t' from hrun)
    | succ n110 ih110 =>
      intro t x3 x4 H locs ls hS hl hrun
      rw [fX2_group_110_s] at hrun
      refine lv_iload hx hb dX2_group_110 (lv_at hl 3 rfl) ?_
      refine lv_aload_n hx hb dX2_group_112 rfl (lv_at hl 0 rfl) ?_
      refine gX2_21 B hS dX2_group_113 ?_
      refine lv_icmp_ge (tgt := 156) hx hb dX2_group_116 (by decide) (fun hc => ?_) (fun hc => ?_)
      · have hrun := ip hc hrun
        exact hret _ _ _ _ _ hrun hS dX2_group_156
      · have hrun := iq hc hrun
        refine lv_aload_n hx hb dX2_group_119 rfl (lv_at hl 0 rfl) ?_
        refine lv_iload_n hx hb dX2_group_120 rfl (lv_at hl 2 rfl) ?_
        refine lv_aload_n hx hb dX2_group_121 rfl (lv_at hl 1 rfl) ?_
        obtain ⟨r_1112, hc_1111, hrun⟩ := bdE hrun
        refine qX2_48 B hS e2 hc_1111 hl.1 (Nat.le_of_ble_eq_true rfl) ⟨Nat.le_of_ble_eq_true rfl, Nat.le_of_ble_eq_true rfl⟩ ⟨Nat.zero_le _, Nat.zero_le _⟩ dX2_group_122 (fun H locs hS => ?_)
        refine lv_istore (lv' := [(5, .int r_1112), (0, .ref (X.2.1 39)), (2, .ref (X.2.1 h2)), (3, .int x3), (4, .int x4)]) hx hb dX2_group_125 hl (by decide) rfl (fun ls hl => ?_)
        refine lv_aload_n hx hb dX2_group_127 rfl (lv_at hl 1 rfl) ?_
        refine gX2_18 B hS dX2_group_128 ?_
        refine lv_aload_n hx hb dX2_group_131 rfl (lv_at hl 1 rfl) ?_
        refine gX2_9 B hS dX2_group_132 ?_
        refine lv_iload hx hb dX2_group_135 (lv_at hl 4 rfl) ?_
        obtain ⟨hi_1113, hrun⟩ := gdE hrun
        refine xa B hS ia_40 hi_1113 dX2_group_137 ?_
        refine lv_iload hx hb dX2_group_138 (lv_at hl 0 rfl) ?_
        obtain ⟨hi_1114, hrun⟩ := gdE hrun
        refine xs B hS ia_42 hi_1114 dX2_group_140 (fun H locs hS => ?_)
        obtain ⟨t_1115, et, hrun⟩ := bsE hrun
        have hS : SS X t_1115 s.heap H locs := by rw [et]; exact hS
        clear et
        refine lv_iload_n hx hb dX2_group_141 rfl (lv_at hl 3 rfl) ?_
        refine lv_iconst (v := 1) hx hb dX2_group_142 (by decide) ?_
        refine lv_iconst (v := 3) hx hb dX2_group_143 (by decide) ?_
        refine lv_iload hx hb dX2_group_144 (lv_at hl 0 rfl) ?_
        refine lv_imul hx hb dX2_group_146 ?_
        refine lv_ishl hx hb dX2_group_147 ?_
        refine lv_iadd hx hb dX2_group_148 ?_
        refine lv_topi (fun x3_1116 ex => ?_)
        obtain ⟨z, ez, hrun⟩ := bsE hrun
        obtain rfl : x3_1116 = z := ex.trans ez.symm
        clear ex ez
        refine lv_istore_n (lv' := [(3, .int x3_1116), (5, .int r_1112), (0, .ref (X.2.1 39)), (2, .ref (X.2.1 h2)), (4, .int x4)]) hx hb dX2_group_149 rfl hl (by decide) rfl (fun ls hl => ?_)
        refine lv_iinc (v := x4 + (1 : Int32)) (k := 4) (lv' := [(4, .int (x4 + (1 : Int32))), (3, .int x3_1116), (5, .int r_1112), (0, .ref (X.2.1 39)), (2, .ref (X.2.1 h2))]) hx hb dX2_group_150 hl rfl rfl (by decide) rfl (fun ls hl => ?_)
        refine lv_goto (tgt := 110) hx hb dX2_group_153 (by decide) ?_
        exact ih110 t_1115 x3_1116 (x4 + (1 : Int32)) _ _ _ hS (lv_sub hl [3, 4, 1, 0] rfl) hrun
  have hB95 : ∀ (t : St) (H : Heap) (locs : List Loc) (ls : Array Slot), SS X t s.heap H locs → lv_has ls 6 [(0, .ref (X.2.1 39)), (2, .ref (X.2.1 h2))] → fX2_group_95 h2 t = some t' → W p l e ({ frames := 5, cells := 0, slots := 0, locals := 123 } : Room) s m args below meth c H locs 0 0 Q (F0 m 95 ls []) := by
    intro t H locs ls hS hl hrun
    unfold fX2_group_95 at hrun
    refine lv_aload_n hx hb dX2_group_95 rfl (lv_at hl 0 rfl) ?_
    refine lv_aload_n hx hb dX2_group_96 rfl (lv_at hl 0 rfl) ?_
    refine gX2_15 B hS dX2_group_97 ?_
    refine lv_iconst (v := 0) hx hb dX2_group_100 (by decide) ?_
    refine xa B hS ia_41 (by unfold vp_in; decide) dX2_group_101 ?_
    refine pX2_25 B hS dX2_group_102 (fun H locs hS => ?_)
    obtain ⟨t_1096, et, hrun⟩ := bsE hrun
    have hS : SS X t_1096 s.heap H locs := by rw [et]; exact hS
    clear et
    refine lv_iconst (v := 0) hx hb dX2_group_105 (by decide) ?_
    refine lv_istore_n (lv' := [(3, .int (0 : Int32)), (0, .ref (X.2.1 39)), (2, .ref (X.2.1 h2))]) hx hb dX2_group_106 rfl hl (by decide) rfl (fun ls hl => ?_)
    refine lv_iconst (v := 0) hx hb dX2_group_107 (by decide) ?_
    refine lv_istore (lv' := [(4, .int (0 : Int32)), (3, .int (0 : Int32)), (0, .ref (X.2.1 39)), (2, .ref (X.2.1 h2))]) hx hb dX2_group_108 hl (by decide) rfl (fun ls hl => ?_)
    exact hB110 fuelN t_1096 (0 : Int32) (0 : Int32) _ _ _ hS (lv_sub hl [2, 3, 1, 0] rfl) hrun
  have hB73 : ∀ (n73 : Nat) (t : St) (x3 : Int32) (H : Heap) (locs : List Loc) (ls : Array Slot), SS X t s.heap H locs → lv_has ls 6 [(0, .ref (X.2.1 39)), (2, .ref (X.2.1 h2)), (3, .int x3)] → fX2_group_73 h2 n73 t x3 = some t' → W p l e ({ frames := 5, cells := 0, slots := 0, locals := 123 } : Room) s m args below meth c H locs 0 0 Q (F0 m 73 ls []) := by
    intro n73
    induction n73 with
    | zero =>
      intro t x3 H locs ls hS hl hrun
      cases (show (none : Option (St)) = some t' from hrun)
    | succ n73 ih73 =>
      intro t x3 H locs ls hS hl hrun
      rw [fX2_group_73_s] at hrun
      refine lv_iload_n hx hb dX2_group_73 rfl (lv_at hl 2 rfl) ?_
      refine lv_if_lt (tgt := 95) hx hb dX2_group_74 (by decide) (fun hc => ?_) (fun hc => ?_)
      · have hrun := ip hc hrun
        exact hB95 t _ _ _ hS (lv_sub hl [0, 1] rfl) hrun
      · have hrun := iq hc hrun
        refine lv_aload_n hx hb dX2_group_77 rfl (lv_at hl 0 rfl) ?_
        refine gX2_15 B hS dX2_group_78 ?_
        refine lv_iload_n hx hb dX2_group_81 rfl (lv_at hl 2 rfl) ?_
        refine lv_aload_n hx hb dX2_group_82 rfl (lv_at hl 0 rfl) ?_
        refine lv_iload_n hx hb dX2_group_83 rfl (lv_at hl 2 rfl) ?_
        refine lv_aload_n hx hb dX2_group_84 rfl (lv_at hl 1 rfl) ?_
        obtain ⟨r_1075, hc_1074, hrun⟩ := bdE hrun
        refine qX2_44 B hS e2 hc_1074 hl.1 (Nat.le_of_ble_eq_true rfl) ⟨Nat.le_of_ble_eq_true rfl, Nat.le_of_ble_eq_true rfl⟩ ⟨Nat.zero_le _, Nat.zero_le _⟩ dX2_group_85 (fun H locs hS => ?_)
        obtain ⟨hi_1076, hrun⟩ := gdE hrun
        refine xs B hS ia_41 hi_1076 dX2_group_88 (fun H locs hS => ?_)
        obtain ⟨t_1077, et, hrun⟩ := bsE hrun
        have hS : SS X t_1077 s.heap H locs := by rw [et]; exact hS
        clear et
        refine lv_iinc (v := x3 + (-1 : Int32)) (k := 2) (lv' := [(3, .int (x3 + (-1 : Int32))), (0, .ref (X.2.1 39)), (2, .ref (X.2.1 h2))]) hx hb dX2_group_89 hl rfl rfl (by decide) rfl (fun ls hl => ?_)
        refine lv_goto (tgt := 73) hx hb dX2_group_92 (by decide) ?_
        exact ih73 t_1077 (x3 + (-1 : Int32)) _ _ _ hS (lv_sub hl [1, 2, 0] rfl) hrun
  have hB59 : ∀ (t : St) (H : Heap) (locs : List Loc) (ls : Array Slot), SS X t s.heap H locs → lv_has ls 6 [(0, .ref (X.2.1 39)), (2, .ref (X.2.1 h2))] → fX2_group_59 h2 t = some t' → W p l e ({ frames := 5, cells := 0, slots := 0, locals := 123 } : Room) s m args below meth c H locs 0 0 Q (F0 m 59 ls []) := by
    intro t H locs ls hS hl hrun
    unfold fX2_group_59 at hrun
    refine lv_iconst (v := 1) hx hb dX2_group_59 (by decide) ?_
    refine lv_iconst (v := 3) hx hb dX2_group_60 (by decide) ?_
    refine lv_aload_n hx hb dX2_group_61 rfl (lv_at hl 0 rfl) ?_
    refine gX2_28 B hS dX2_group_62 ?_
    refine gX2_41 B hS reg_3 dX2_group_65 ?_
    refine lv_imul hx hb dX2_group_68 ?_
    refine lv_ishl hx hb dX2_group_69 ?_
    refine lv_iconst (v := 1) hx hb dX2_group_70 (by decide) ?_
    refine lv_isub hx hb dX2_group_71 ?_
    refine lv_topi (fun x3_1060 ex => ?_)
    obtain ⟨z, ez, hrun⟩ := bsE hrun
    obtain rfl : x3_1060 = z := ex.trans ez.symm
    clear ex ez
    refine lv_istore_n (lv' := [(3, .int x3_1060), (0, .ref (X.2.1 39)), (2, .ref (X.2.1 h2))]) hx hb dX2_group_72 rfl hl (by decide) rfl (fun ls hl => ?_)
    exact hB73 fuelN t x3_1060 _ _ _ hS (lv_sub hl [1, 2, 0] rfl) hrun
  have hB7 : ∀ (n7 : Nat) (t : St) (x1 : Int32) (x3 : Int32) (H : Heap) (locs : List Loc) (ls : Array Slot), SS X t s.heap H locs → lv_has ls 6 [(0, .ref (X.2.1 39)), (1, .int x1), (2, .ref (X.2.1 h2)), (3, .int x3)] → fX2_group_7 h2 n7 t x1 x3 = some t' → W p l e ({ frames := 5, cells := 0, slots := 0, locals := 123 } : Room) s m args below meth c H locs 0 0 Q (F0 m 7 ls []) := by
    intro n7
    induction n7 with
    | zero =>
      intro t x1 x3 H locs ls hS hl hrun
      cases (show (none : Option (St)) = some t' from hrun)
    | succ n7 ih7 =>
      intro t x1 x3 H locs ls hS hl hrun
      rw [fX2_group_7_s] at hrun
      refine lv_iload_n hx hb dX2_group_7 rfl (lv_at hl 3 rfl) ?_
      refine lv_aload_n hx hb dX2_group_8 rfl (lv_at hl 0 rfl) ?_
      refine gX2_28 B hS dX2_group_9 ?_
      refine gX2_32 B hS reg_3 dX2_group_12 ?_
      refine lv_icmp_ge (tgt := 59) hx hb dX2_group_15 (by decide) (fun hc => ?_) (fun hc => ?_)
      · have hrun := ip hc hrun
        exact hB59 t _ _ _ hS (lv_sub hl [0, 2] rfl) hrun
      · have hrun := iq hc hrun
        refine lv_aload_n hx hb dX2_group_18 rfl (lv_at hl 0 rfl) ?_
        refine gX2_18 B hS dX2_group_19 ?_
        refine lv_iload_n hx hb dX2_group_22 rfl (lv_at hl 3 rfl) ?_
        refine lv_iconst (v := -1) hx hb dX2_group_23 (by decide) ?_
        obtain ⟨hi_1008, hrun⟩ := gdE hrun
        refine xs B hS ia_42 hi_1008 dX2_group_24 (fun H locs hS => ?_)
        obtain ⟨t_1009, et, hrun⟩ := bsE hrun
        have hS : SS X t_1009 s.heap H locs := by rw [et]; exact hS
        clear et
        refine lv_iload_n hx hb dX2_group_25 rfl (lv_at hl 3 rfl) ?_
        refine lv_iload_n hx hb dX2_group_26 rfl (lv_at hl 1 rfl) ?_
        obtain ⟨r_1011, hc_1010, hrun⟩ := bdE hrun
        refine qX2_37 B hS hc_1010 hl.1 (Nat.le_of_ble_eq_true rfl) ⟨Nat.le_of_ble_eq_true rfl, Nat.le_of_ble_eq_true rfl⟩ ⟨Nat.zero_le _, Nat.zero_le _⟩ dX2_group_27 (fun H locs hS => ?_)
        refine lv_if_eq (tgt := 53) hx hb dX2_group_30 (by decide) (fun hc => ?_) (fun hc => ?_)
        · have hrun := ip hc hrun
          refine lv_iinc (v := x3 + (1 : Int32)) (k := 3) (lv' := [(3, .int (x3 + (1 : Int32))), (0, .ref (X.2.1 39)), (1, .int x1), (2, .ref (X.2.1 h2))]) hx hb dX2_group_53 hl rfl rfl (by decide) rfl (fun ls hl => ?_)
          refine lv_goto (tgt := 7) hx hb dX2_group_56 (by decide) ?_
          exact ih7 t_1009 x1 (x3 + (1 : Int32)) _ _ _ hS (lv_sub hl [1, 2, 3, 0] rfl) hrun
        · have hrun := iq hc hrun
          refine lv_aload_n hx hb dX2_group_33 rfl (lv_at hl 0 rfl) ?_
          refine gX2_9 B hS dX2_group_34 ?_
          refine lv_aload_n hx hb dX2_group_37 rfl (lv_at hl 0 rfl) ?_
          refine gX2_21 B hS dX2_group_38 ?_
          refine lv_iload_n hx hb dX2_group_41 rfl (lv_at hl 3 rfl) ?_
          obtain ⟨hi_1012, hrun⟩ := gdE hrun
          refine xs B hS ia_40 hi_1012 dX2_group_42 (fun H locs hS => ?_)
          obtain ⟨t_1013, et, hrun⟩ := bsE hrun
          have hS : SS X t_1013 s.heap H locs := by rw [et]; exact hS
          clear et
          refine lv_aload_n hx hb dX2_group_43 rfl (lv_at hl 0 rfl) ?_
          refine lv_dup hx hb dX2_group_44 rfl ?_
          refine gX2_21 B hS dX2_group_45 ?_
          refine lv_iconst (v := 1) hx hb dX2_group_48 (by decide) ?_
          refine lv_iadd hx hb dX2_group_49 ?_
          refine pX2_21 B hS dX2_group_50 (fun H locs hS => ?_)
          obtain ⟨t_1014, et, hrun⟩ := bsE hrun
          have hS : SS X t_1014 s.heap H locs := by rw [et]; exact hS
          clear et
          refine lv_iinc (v := x3 + (1 : Int32)) (k := 3) (lv' := [(3, .int (x3 + (1 : Int32))), (0, .ref (X.2.1 39)), (1, .int x1), (2, .ref (X.2.1 h2))]) hx hb dX2_group_53 hl rfl rfl (by decide) rfl (fun ls hl => ?_)
          refine lv_goto (tgt := 7) hx hb dX2_group_56 (by decide) ?_
          exact ih7 t_1014 x1 (x3 + (1 : Int32)) _ _ _ hS (lv_sub hl [1, 2, 3, 0] rfl) hrun
  unfold fX2_group at hrun
  refine lv_aload_n hx hb dX2_group_0 rfl (lv_at hl 0 rfl) ?_
  refine lv_iconst (v := 0) hx hb dX2_group_1 (by decide) ?_
  refine pX2_21 B hS dX2_group_2 (fun H locs hS => ?_)
  obtain ⟨t_1, et, hrun⟩ := bsE hrun
  have hS : SS X t_1 s.heap H locs := by rw [et]; exact hS
  clear et
  refine lv_iconst (v := 0) hx hb dX2_group_5 (by decide) ?_
  refine lv_istore_n (lv' := [(3, .int (0 : Int32)), (0, .ref (X.2.1 39)), (1, .int x1), (2, .ref (X.2.1 h2))]) hx hb dX2_group_6 rfl hl (by decide) rfl (fun ls hl => ?_)
  exact hB7 fuelN t_1 x1 (0 : Int32) _ _ _ hS (lv_sub hl [1, 2, 3, 0] rfl) hrun
theorem mdX3_begin : MD yX3_begin 0 := ⟨by decide +kernel, by decide +kernel, by decide +kernel⟩
set_option maxHeartbeats 4000000 in
set_option maxRecDepth 100000 in
theorem kX3_begin (l : Launch) (X : Cx) (t : St) (h0 : Nat) (e0 : isHall h0) (t' : St) (hrun : fX3_begin h0 t = some t') : Cv l X t yX3_begin cX3_begin 2 1 60 [.ref (X.2.1 h0)] t' := by
  refine Cv_of (by decide) (Nat.le_of_ble_eq_true rfl) ?_
  intro p e s m args below meth c Q B hret hS ls hl
  have hx := B.1
  have hb := B.2.1
  have hown := B.2.2.2.1
  have hts := B.2.2.2.2.1
  have hl : lv_has ls 2 [(0, .ref (X.2.1 h0))] := hl
  have hB77 : ∀ (t : St) (H : Heap) (locs : List Loc) (ls : Array Slot), SS X t s.heap H locs → lv_has ls 2 [(0, .ref (X.2.1 h0))] → fX3_begin_77 h0 t = some t' → W p l e ({ frames := 1, cells := 0, slots := 0, locals := 60 } : Room) s m args below meth c H locs 0 0 Q (F0 m 77 ls []) := by
    intro t H locs ls hS hl hrun
    unfold fX3_begin_77 at hrun
    refine lv_aload_n hx hb dX3_begin_77 rfl (lv_at hl 0 rfl) ?_
    refine gX3_37 B hS e0 dX3_begin_78 ?_
    refine gX3_50 B hS reg_3 dX3_begin_81 ?_
    refine lv_iconst (v := 0) hx hb dX3_begin_84 (by decide) ?_
    refine lv_aload_n hx hb dX3_begin_85 rfl (lv_at hl 0 rfl) ?_
    refine gX3_34 B hS e0 dX3_begin_86 ?_
    refine lv_iconst (v := 0) hx hb dX3_begin_89 (by decide) ?_
    refine lv_iconst (v := 4) hx hb dX3_begin_90 (by decide) ?_
    refine xcp B hS hl.1 (tw_2 181 rfl rfl) (tw_2 176 rfl rfl) (tw_2 175 rfl rfl) (tw_1 13 rfl rfl) (iaX8_5 reg_3) (iaX3_4 e0) (N' := 4) rfl (by decide) (by decide) (by decide) (Nat.le_of_ble_eq_true rfl) (Nat.le_of_ble_eq_true rfl) dX3_begin_91 (fun H locs hS => ?_)
    obtain ⟨t_1078, et, hrun⟩ := bsE hrun
    have hS : SS X t_1078 s.heap H locs := by rw [et]; exact hS
    clear et
    exact hret _ _ _ _ _ hrun hS dX3_begin_94
  have hB28 : ∀ (n28 : Nat) (t : St) (x1 : Int32) (H : Heap) (locs : List Loc) (ls : Array Slot), SS X t s.heap H locs → lv_has ls 2 [(0, .ref (X.2.1 h0)), (1, .int x1)] → fX3_begin_28 h0 n28 t x1 = some t' → W p l e ({ frames := 1, cells := 0, slots := 0, locals := 60 } : Room) s m args below meth c H locs 0 0 Q (F0 m 28 ls []) := by
    intro n28
    induction n28 with
    | zero =>
      intro t x1 H locs ls hS hl hrun
      cases (show (none : Option (St)) = some t' from hrun)
    | succ n28 ih28 =>
      intro t x1 H locs ls hS hl hrun
      rw [fX3_begin_28_s] at hrun
      refine lv_iload_n hx hb dX3_begin_28 rfl (lv_at hl 1 rfl) ?_
      refine lv_bipush (v := 7) hx hb dX3_begin_29 (by decide) ?_
      refine lv_icmp_ge (tgt := 77) hx hb dX3_begin_31 (by decide) (fun hc => ?_) (fun hc => ?_)
      · have hrun := ip hc hrun
        exact hB77 t _ _ _ hS (lv_sub hl [0] rfl) hrun
      · have hrun := iq hc hrun
        refine lv_aload_n hx hb dX3_begin_34 rfl (lv_at hl 0 rfl) ?_
        refine gX3_24 B hS e0 dX3_begin_35 ?_
        refine lv_iload_n hx hb dX3_begin_38 rfl (lv_at hl 1 rfl) ?_
        refine lv_aload_n hx hb dX3_begin_39 rfl (lv_at hl 0 rfl) ?_
        refine gX3_37 B hS e0 dX3_begin_40 ?_
        refine gX3_44 B hS reg_3 dX3_begin_43 ?_
        refine lv_iload_n hx hb dX3_begin_46 rfl (lv_at hl 1 rfl) ?_
        obtain ⟨hi_1029, hrun⟩ := gdE hrun
        refine xa B hS (iaX8_2 reg_3) hi_1029 dX3_begin_47 ?_
        obtain ⟨hi_1030, hrun⟩ := gdE hrun
        refine xs B hS (iaX3_1 e0) hi_1030 dX3_begin_48 (fun H locs hS => ?_)
        obtain ⟨t_1031, et, hrun⟩ := bsE hrun
        have hS : SS X t_1031 s.heap H locs := by rw [et]; exact hS
        clear et
        refine lv_aload_n hx hb dX3_begin_49 rfl (lv_at hl 0 rfl) ?_
        refine gX3_28 B hS e0 dX3_begin_50 ?_
        refine lv_iload_n hx hb dX3_begin_53 rfl (lv_at hl 1 rfl) ?_
        refine lv_aload_n hx hb dX3_begin_54 rfl (lv_at hl 0 rfl) ?_
        refine gX3_37 B hS e0 dX3_begin_55 ?_
        refine gX3_47 B hS reg_3 dX3_begin_58 ?_
        refine lv_iload_n hx hb dX3_begin_61 rfl (lv_at hl 1 rfl) ?_
        obtain ⟨hi_1032, hrun⟩ := gdE hrun
        refine xa B hS (iaX8_3 reg_3) hi_1032 dX3_begin_62 ?_
        obtain ⟨hi_1033, hrun⟩ := gdE hrun
        refine xs B hS (iaX3_2 e0) hi_1033 dX3_begin_63 (fun H locs hS => ?_)
        obtain ⟨t_1034, et, hrun⟩ := bsE hrun
        have hS : SS X t_1034 s.heap H locs := by rw [et]; exact hS
        clear et
        refine lv_aload_n hx hb dX3_begin_64 rfl (lv_at hl 0 rfl) ?_
        refine gX3_31 B hS e0 dX3_begin_65 ?_
        refine lv_iload_n hx hb dX3_begin_68 rfl (lv_at hl 1 rfl) ?_
        refine lv_iconst (v := -1) hx hb dX3_begin_69 (by decide) ?_
        obtain ⟨hi_1035, hrun⟩ := gdE hrun
        refine xs B hS (iaX3_3 e0) hi_1035 dX3_begin_70 (fun H locs hS => ?_)
        obtain ⟨t_1036, et, hrun⟩ := bsE hrun
        have hS : SS X t_1036 s.heap H locs := by rw [et]; exact hS
        clear et
        refine lv_iinc (v := x1 + (1 : Int32)) (k := 1) (lv' := [(1, .int (x1 + (1 : Int32))), (0, .ref (X.2.1 h0))]) hx hb dX3_begin_71 hl rfl rfl (by decide) rfl (fun ls hl => ?_)
        refine lv_goto (tgt := 28) hx hb dX3_begin_74 (by decide) ?_
        exact ih28 t_1036 (x1 + (1 : Int32)) _ _ _ hS (lv_sub hl [1, 0] rfl) hrun
  unfold fX3_begin at hrun
  refine lv_aload_n hx hb dX3_begin_0 rfl (lv_at hl 0 rfl) ?_
  refine lv_aload_n hx hb dX3_begin_1 rfl (lv_at hl 0 rfl) ?_
  refine gX3_37 B hS e0 dX3_begin_2 ?_
  refine gX3_41 B hS reg_3 dX3_begin_5 ?_
  refine pX3_9 B hS e0 dX3_begin_8 (fun H locs hS => ?_)
  obtain ⟨t_1, et, hrun⟩ := bsE hrun
  have hS : SS X t_1 s.heap H locs := by rw [et]; exact hS
  clear et
  refine lv_aload_n hx hb dX3_begin_11 rfl (lv_at hl 0 rfl) ?_
  refine lv_iconst (v := 0) hx hb dX3_begin_12 (by decide) ?_
  refine pX3_15 B hS e0 dX3_begin_13 (fun H locs hS => ?_)
  obtain ⟨t_2, et, hrun⟩ := bsE hrun
  have hS : SS X t_2 s.heap H locs := by rw [et]; exact hS
  clear et
  refine lv_aload_n hx hb dX3_begin_16 rfl (lv_at hl 0 rfl) ?_
  refine lv_iconst (v := 0) hx hb dX3_begin_17 (by decide) ?_
  refine pX3_18 B hS e0 dX3_begin_18 (fun H locs hS => ?_)
  obtain ⟨t_3, et, hrun⟩ := bsE hrun
  have hS : SS X t_3 s.heap H locs := by rw [et]; exact hS
  clear et
  refine lv_aload_n hx hb dX3_begin_21 rfl (lv_at hl 0 rfl) ?_
  refine lv_iconst (v := 0) hx hb dX3_begin_22 (by decide) ?_
  refine pX3_21 B hS e0 dX3_begin_23 (fun H locs hS => ?_)
  obtain ⟨t_4, et, hrun⟩ := bsE hrun
  have hS : SS X t_4 s.heap H locs := by rw [et]; exact hS
  clear et
  refine lv_iconst (v := 0) hx hb dX3_begin_26 (by decide) ?_
  refine lv_istore_n (lv' := [(1, .int (0 : Int32)), (0, .ref (X.2.1 h0))]) hx hb dX3_begin_27 rfl hl (by decide) rfl (fun ls hl => ?_)
  exact hB28 fuelN t_4 (0 : Int32) _ _ _ hS (lv_sub hl [1, 0] rfl) hrun
theorem mdX3_takeFrom : MD yX3_takeFrom 1 := ⟨by decide +kernel, by decide +kernel, by decide +kernel⟩
set_option maxHeartbeats 4000000 in
set_option maxRecDepth 100000 in
theorem kX3_takeFrom (l : Launch) (X : Cx) (t : St) (h0 : Nat) (h1 : Nat) (e0 : isHall h0) (e1 : isHall h1) (t' : St) (hrun : fX3_takeFrom h0 h1 t = some t') : Cv l X t yX3_takeFrom cX3_takeFrom 2 1 60 [.ref (X.2.1 h0), .ref (X.2.1 h1)] t' := by
  refine Cv_of (by decide) (Nat.le_of_ble_eq_true rfl) ?_
  intro p e s m args below meth c Q B hret hS ls hl
  have hx := B.1
  have hb := B.2.1
  have hown := B.2.2.2.1
  have hts := B.2.2.2.2.1
  have hl : lv_has ls 2 [(0, .ref (X.2.1 h0)), (1, .ref (X.2.1 h1))] := hl
  unfold fX3_takeFrom at hrun
  refine lv_aload_n hx hb dX3_takeFrom_0 rfl (lv_at hl 0 rfl) ?_
  refine lv_aload_n hx hb dX3_takeFrom_1 rfl (lv_at hl 1 rfl) ?_
  refine gX3_9 B hS e1 dX3_takeFrom_2 ?_
  refine pX3_9 B hS e0 dX3_takeFrom_5 (fun H locs hS => ?_)
  obtain ⟨t_1, et, hrun⟩ := bsE hrun
  have hS : SS X t_1 s.heap H locs := by rw [et]; exact hS
  clear et
  refine lv_aload_n hx hb dX3_takeFrom_8 rfl (lv_at hl 0 rfl) ?_
  refine lv_aload_n hx hb dX3_takeFrom_9 rfl (lv_at hl 1 rfl) ?_
  refine gX3_15 B hS e1 dX3_takeFrom_10 ?_
  refine pX3_15 B hS e0 dX3_takeFrom_13 (fun H locs hS => ?_)
  obtain ⟨t_2, et, hrun⟩ := bsE hrun
  have hS : SS X t_2 s.heap H locs := by rw [et]; exact hS
  clear et
  refine lv_aload_n hx hb dX3_takeFrom_16 rfl (lv_at hl 0 rfl) ?_
  refine lv_aload_n hx hb dX3_takeFrom_17 rfl (lv_at hl 1 rfl) ?_
  refine gX3_18 B hS e1 dX3_takeFrom_18 ?_
  refine pX3_18 B hS e0 dX3_takeFrom_21 (fun H locs hS => ?_)
  obtain ⟨t_3, et, hrun⟩ := bsE hrun
  have hS : SS X t_3 s.heap H locs := by rw [et]; exact hS
  clear et
  refine lv_aload_n hx hb dX3_takeFrom_24 rfl (lv_at hl 0 rfl) ?_
  refine lv_aload_n hx hb dX3_takeFrom_25 rfl (lv_at hl 1 rfl) ?_
  refine gX3_21 B hS e1 dX3_takeFrom_26 ?_
  refine pX3_21 B hS e0 dX3_takeFrom_29 (fun H locs hS => ?_)
  obtain ⟨t_4, et, hrun⟩ := bsE hrun
  have hS : SS X t_4 s.heap H locs := by rw [et]; exact hS
  clear et
  refine lv_aload_n hx hb dX3_takeFrom_32 rfl (lv_at hl 1 rfl) ?_
  refine gX3_24 B hS e1 dX3_takeFrom_33 ?_
  refine lv_iconst (v := 0) hx hb dX3_takeFrom_36 (by decide) ?_
  refine lv_aload_n hx hb dX3_takeFrom_37 rfl (lv_at hl 0 rfl) ?_
  refine gX3_24 B hS e0 dX3_takeFrom_38 ?_
  refine lv_iconst (v := 0) hx hb dX3_takeFrom_41 (by decide) ?_
  refine lv_bipush (v := 7) hx hb dX3_takeFrom_42 (by decide) ?_
  refine xcp B hS hl.1 (tw_2 181 rfl rfl) (tw_2 176 rfl rfl) (tw_2 175 rfl rfl) (tw_1 13 rfl rfl) (iaX3_1 e1) (iaX3_1 e0) (N' := 7) rfl (by decide) (by decide) (by decide) (Nat.le_of_ble_eq_true rfl) (Nat.le_of_ble_eq_true rfl) dX3_takeFrom_44 (fun H locs hS => ?_)
  obtain ⟨t_5, et, hrun⟩ := bsE hrun
  have hS : SS X t_5 s.heap H locs := by rw [et]; exact hS
  clear et
  refine lv_aload_n hx hb dX3_takeFrom_47 rfl (lv_at hl 1 rfl) ?_
  refine gX3_28 B hS e1 dX3_takeFrom_48 ?_
  refine lv_iconst (v := 0) hx hb dX3_takeFrom_51 (by decide) ?_
  refine lv_aload_n hx hb dX3_takeFrom_52 rfl (lv_at hl 0 rfl) ?_
  refine gX3_28 B hS e0 dX3_takeFrom_53 ?_
  refine lv_iconst (v := 0) hx hb dX3_takeFrom_56 (by decide) ?_
  refine lv_bipush (v := 7) hx hb dX3_takeFrom_57 (by decide) ?_
  refine xcp B hS hl.1 (tw_2 181 rfl rfl) (tw_2 176 rfl rfl) (tw_2 175 rfl rfl) (tw_1 13 rfl rfl) (iaX3_2 e1) (iaX3_2 e0) (N' := 7) rfl (by decide) (by decide) (by decide) (Nat.le_of_ble_eq_true rfl) (Nat.le_of_ble_eq_true rfl) dX3_takeFrom_59 (fun H locs hS => ?_)
  obtain ⟨t_6, et, hrun⟩ := bsE hrun
  have hS : SS X t_6 s.heap H locs := by rw [et]; exact hS
  clear et
  refine lv_aload_n hx hb dX3_takeFrom_62 rfl (lv_at hl 1 rfl) ?_
  refine gX3_31 B hS e1 dX3_takeFrom_63 ?_
  refine lv_iconst (v := 0) hx hb dX3_takeFrom_66 (by decide) ?_
  refine lv_aload_n hx hb dX3_takeFrom_67 rfl (lv_at hl 0 rfl) ?_
  refine gX3_31 B hS e0 dX3_takeFrom_68 ?_
  refine lv_iconst (v := 0) hx hb dX3_takeFrom_71 (by decide) ?_
  refine lv_bipush (v := 7) hx hb dX3_takeFrom_72 (by decide) ?_
  refine xcp B hS hl.1 (tw_2 181 rfl rfl) (tw_2 176 rfl rfl) (tw_2 175 rfl rfl) (tw_1 13 rfl rfl) (iaX3_3 e1) (iaX3_3 e0) (N' := 7) rfl (by decide) (by decide) (by decide) (Nat.le_of_ble_eq_true rfl) (Nat.le_of_ble_eq_true rfl) dX3_takeFrom_74 (fun H locs hS => ?_)
  obtain ⟨t_7, et, hrun⟩ := bsE hrun
  have hS : SS X t_7 s.heap H locs := by rw [et]; exact hS
  clear et
  refine lv_aload_n hx hb dX3_takeFrom_77 rfl (lv_at hl 1 rfl) ?_
  refine gX3_34 B hS e1 dX3_takeFrom_78 ?_
  refine lv_iconst (v := 0) hx hb dX3_takeFrom_81 (by decide) ?_
  refine lv_aload_n hx hb dX3_takeFrom_82 rfl (lv_at hl 0 rfl) ?_
  refine gX3_34 B hS e0 dX3_takeFrom_83 ?_
  refine lv_iconst (v := 0) hx hb dX3_takeFrom_86 (by decide) ?_
  refine lv_iconst (v := 4) hx hb dX3_takeFrom_87 (by decide) ?_
  refine xcp B hS hl.1 (tw_2 181 rfl rfl) (tw_2 176 rfl rfl) (tw_2 175 rfl rfl) (tw_1 13 rfl rfl) (iaX3_4 e1) (iaX3_4 e0) (N' := 4) rfl (by decide) (by decide) (by decide) (Nat.le_of_ble_eq_true rfl) (Nat.le_of_ble_eq_true rfl) dX3_takeFrom_88 (fun H locs hS => ?_)
  obtain ⟨t_8, et, hrun⟩ := bsE hrun
  have hS : SS X t_8 s.heap H locs := by rw [et]; exact hS
  clear et
  exact hret _ _ _ _ _ hrun hS dX3_takeFrom_91
theorem mdX3_sings : MD yX3_sings 1 := ⟨by decide +kernel, by decide +kernel, by decide +kernel⟩
set_option maxHeartbeats 4000000 in
set_option maxRecDepth 100000 in
theorem kX3_sings (l : Launch) (X : Cx) (t : St) (h0 : Nat) (e0 : isHall h0) (x1 : Int32) (r : Int32) (hrun : fX3_sings h0 t x1 = some r) : Ci l X t yX3_sings cX3_sings 2 .boolean 1 21 [.ref (X.2.1 h0), .int x1] r t := by
  refine Ci_of (by decide) (Nat.le_of_ble_eq_true rfl) ?_
  intro p e s m args below meth c Q B hret hS ls hl
  have hx := B.1
  have hb := B.2.1
  have hown := B.2.2.2.1
  have hts := B.2.2.2.2.1
  have hl : lv_has ls 2 [(0, .ref (X.2.1 h0)), (1, .int x1)] := hl
  unfold fX3_sings at hrun
  refine lv_aload_n hx hb dX3_sings_0 rfl (lv_at hl 0 rfl) ?_
  refine gX3_37 B hS e0 dX3_sings_1 ?_
  refine lv_iload_n hx hb dX3_sings_4 rfl (lv_at hl 1 rfl) ?_
  obtain ⟨r_2, hc_1, hrun⟩ := bdE hrun
  refine qX3_59 B hS reg_3 hc_1 hl.1 (Nat.le_of_ble_eq_true rfl) ⟨Nat.le_of_ble_eq_true rfl, Nat.le_of_ble_eq_true rfl⟩ ⟨Nat.zero_le _, Nat.zero_le _⟩ dX3_sings_5 (fun H locs hS => ?_)
  refine lv_if_eq (tgt := 25) hx hb dX3_sings_8 (by decide) (fun hc => ?_) (fun hc => ?_)
  · have hrun := ip hc hrun
    refine lv_iconst (v := 0) hx hb dX3_sings_25 (by decide) ?_
    exact hret _ _ _ _ _ _ (congrArg (Option.map (fun w => (w, t))) hrun) rfl hS dX3_sings_26
  · have hrun := iq hc hrun
    refine lv_aload_n hx hb dX3_sings_11 rfl (lv_at hl 0 rfl) ?_
    refine gX3_31 B hS e0 dX3_sings_12 ?_
    refine lv_iload_n hx hb dX3_sings_15 rfl (lv_at hl 1 rfl) ?_
    obtain ⟨hi_3, hrun⟩ := gdE hrun
    refine xa B hS (iaX3_3 e0) hi_3 dX3_sings_16 ?_
    refine lv_iconst (v := -1) hx hb dX3_sings_17 (by decide) ?_
    refine lv_icmp_eq (tgt := 25) hx hb dX3_sings_18 (by decide) (fun hc => ?_) (fun hc => ?_)
    · have hrun := ip hc hrun
      refine lv_iconst (v := 0) hx hb dX3_sings_25 (by decide) ?_
      exact hret _ _ _ _ _ _ (congrArg (Option.map (fun w => (w, t))) hrun) rfl hS dX3_sings_26
    · have hrun := iq hc hrun
      refine lv_iconst (v := 1) hx hb dX3_sings_21 (by decide) ?_
      refine lv_goto (tgt := 26) hx hb dX3_sings_22 (by decide) ?_
      exact hret _ _ _ _ _ _ (congrArg (Option.map (fun w => (w, t))) hrun) rfl hS dX3_sings_26
theorem mdX3_whoSings : MD yX3_whoSings 0 := ⟨by decide +kernel, by decide +kernel, by decide +kernel⟩
set_option maxHeartbeats 4000000 in
set_option maxRecDepth 100000 in
theorem kX3_whoSings (l : Launch) (X : Cx) (t : St) (h0 : Nat) (e0 : isHall h0) (r : Int32) (hrun : fX3_whoSings h0 t = some r) : Ci l X t yX3_whoSings cX3_whoSings 3 .int 0 0 [.ref (X.2.1 h0)] r t := by
  refine Ci_of (by decide) (Nat.le_of_ble_eq_true rfl) ?_
  intro p e s m args below meth c Q B hret hS ls hl
  have hx := B.1
  have hb := B.2.1
  have hown := B.2.2.2.1
  have hts := B.2.2.2.2.1
  have hl : lv_has ls 3 [(0, .ref (X.2.1 h0))] := hl
  have hB4 : ∀ (n4 : Nat) (x1 : Int32) (x2 : Int32) (H : Heap) (locs : List Loc) (ls : Array Slot), SS X t s.heap H locs → lv_has ls 3 [(0, .ref (X.2.1 h0)), (1, .int x1), (2, .int x2)] → fX3_whoSings_4 h0 t n4 x1 x2 = some r → W p l e ({ frames := 0, cells := 0, slots := 0, locals := 0 } : Room) s m args below meth c H locs 0 0 Q (F0 m 4 ls []) := by
    intro n4
    induction n4 with
    | zero =>
      intro x1 x2 H locs ls hS hl hrun
      cases (show (none : Option (Int32)) = some r from hrun)
    | succ n4 ih4 =>
      intro x1 x2 H locs ls hS hl hrun
      rw [fX3_whoSings_4_s] at hrun
      refine lv_iload_n hx hb dX3_whoSings_4 rfl (lv_at hl 2 rfl) ?_
      refine lv_aload_n hx hb dX3_whoSings_5 rfl (lv_at hl 0 rfl) ?_
      refine gX3_37 B hS e0 dX3_whoSings_6 ?_
      refine gX3_63 B hS reg_3 dX3_whoSings_9 ?_
      refine lv_icmp_ge (tgt := 37) hx hb dX3_whoSings_12 (by decide) (fun hc => ?_) (fun hc => ?_)
      · have hrun := ip hc hrun
        refine lv_iload_n hx hb dX3_whoSings_37 rfl (lv_at hl 1 rfl) ?_
        exact hret _ _ _ _ _ _ (congrArg (Option.map (fun w => (w, t))) hrun) rfl hS dX3_whoSings_38
      · have hrun := iq hc hrun
        refine lv_aload_n hx hb dX3_whoSings_15 rfl (lv_at hl 0 rfl) ?_
        refine gX3_31 B hS e0 dX3_whoSings_16 ?_
        refine lv_iload_n hx hb dX3_whoSings_19 rfl (lv_at hl 2 rfl) ?_
        obtain ⟨hi_1005, hrun⟩ := gdE hrun
        refine xa B hS (iaX3_3 e0) hi_1005 dX3_whoSings_20 ?_
        refine lv_iconst (v := -1) hx hb dX3_whoSings_21 (by decide) ?_
        refine lv_icmp_eq (tgt := 31) hx hb dX3_whoSings_22 (by decide) (fun hc => ?_) (fun hc => ?_)
        · have hrun := ip hc hrun
          refine lv_iinc (v := x2 + (1 : Int32)) (k := 2) (lv' := [(2, .int (x2 + (1 : Int32))), (0, .ref (X.2.1 h0)), (1, .int x1)]) hx hb dX3_whoSings_31 hl rfl rfl (by decide) rfl (fun ls hl => ?_)
          refine lv_goto (tgt := 4) hx hb dX3_whoSings_34 (by decide) ?_
          exact ih4 x1 (x2 + (1 : Int32)) _ _ _ hS (lv_sub hl [1, 2, 0] rfl) hrun
        · have hrun := iq hc hrun
          refine lv_iload_n hx hb dX3_whoSings_25 rfl (lv_at hl 1 rfl) ?_
          refine lv_iconst (v := 1) hx hb dX3_whoSings_26 (by decide) ?_
          refine lv_iload_n hx hb dX3_whoSings_27 rfl (lv_at hl 2 rfl) ?_
          refine lv_ishl hx hb dX3_whoSings_28 ?_
          refine lv_ior hx hb dX3_whoSings_29 ?_
          refine lv_topi (fun x1_1006 ex => ?_)
          obtain ⟨z, ez, hrun⟩ := bsE hrun
          obtain rfl : x1_1006 = z := ex.trans ez.symm
          clear ex ez
          refine lv_istore_n (lv' := [(1, .int x1_1006), (0, .ref (X.2.1 h0)), (2, .int x2)]) hx hb dX3_whoSings_30 rfl hl (by decide) rfl (fun ls hl => ?_)
          refine lv_iinc (v := x2 + (1 : Int32)) (k := 2) (lv' := [(2, .int (x2 + (1 : Int32))), (1, .int x1_1006), (0, .ref (X.2.1 h0))]) hx hb dX3_whoSings_31 hl rfl rfl (by decide) rfl (fun ls hl => ?_)
          refine lv_goto (tgt := 4) hx hb dX3_whoSings_34 (by decide) ?_
          exact ih4 x1_1006 (x2 + (1 : Int32)) _ _ _ hS (lv_sub hl [2, 1, 0] rfl) hrun
  unfold fX3_whoSings at hrun
  refine lv_iconst (v := 0) hx hb dX3_whoSings_0 (by decide) ?_
  refine lv_istore_n (lv' := [(1, .int (0 : Int32)), (0, .ref (X.2.1 h0))]) hx hb dX3_whoSings_1 rfl hl (by decide) rfl (fun ls hl => ?_)
  refine lv_iconst (v := 0) hx hb dX3_whoSings_2 (by decide) ?_
  refine lv_istore_n (lv' := [(2, .int (0 : Int32)), (1, .int (0 : Int32)), (0, .ref (X.2.1 h0))]) hx hb dX3_whoSings_3 rfl hl (by decide) rfl (fun ls hl => ?_)
  exact hB4 fuelN (0 : Int32) (0 : Int32) _ _ _ hS (lv_sub hl [2, 1, 0] rfl) hrun
theorem mdX3_whoIsIn : MD yX3_whoIsIn 1 := ⟨by decide +kernel, by decide +kernel, by decide +kernel⟩
set_option maxHeartbeats 4000000 in
set_option maxRecDepth 100000 in
theorem kX3_whoIsIn (l : Launch) (X : Cx) (t : St) (h0 : Nat) (e0 : isHall h0) (x1 : Int32) (r : Int32) (hrun : fX3_whoIsIn h0 t x1 = some r) : Ci l X t yX3_whoIsIn cX3_whoIsIn 4 .int 0 0 [.ref (X.2.1 h0), .int x1] r t := by
  refine Ci_of (by decide) (Nat.le_of_ble_eq_true rfl) ?_
  intro p e s m args below meth c Q B hret hS ls hl
  have hx := B.1
  have hb := B.2.1
  have hown := B.2.2.2.1
  have hts := B.2.2.2.2.1
  have hl : lv_has ls 4 [(0, .ref (X.2.1 h0)), (1, .int x1)] := hl
  have hB4 : ∀ (n4 : Nat) (x1 : Int32) (x2 : Int32) (x3 : Int32) (H : Heap) (locs : List Loc) (ls : Array Slot), SS X t s.heap H locs → lv_has ls 4 [(0, .ref (X.2.1 h0)), (1, .int x1), (2, .int x2), (3, .int x3)] → fX3_whoIsIn_4 h0 t n4 x1 x2 x3 = some r → W p l e ({ frames := 0, cells := 0, slots := 0, locals := 0 } : Room) s m args below meth c H locs 0 0 Q (F0 m 4 ls []) := by
    intro n4
    induction n4 with
    | zero =>
      intro x1 x2 x3 H locs ls hS hl hrun
      cases (show (none : Option (Int32)) = some r from hrun)
    | succ n4 ih4 =>
      intro x1 x2 x3 H locs ls hS hl hrun
      rw [fX3_whoIsIn_4_s] at hrun
      refine lv_iload_n hx hb dX3_whoIsIn_4 rfl (lv_at hl 3 rfl) ?_
      refine lv_aload_n hx hb dX3_whoIsIn_5 rfl (lv_at hl 0 rfl) ?_
      refine gX3_37 B hS e0 dX3_whoIsIn_6 ?_
      refine gX3_63 B hS reg_3 dX3_whoIsIn_9 ?_
      refine lv_icmp_ge (tgt := 37) hx hb dX3_whoIsIn_12 (by decide) (fun hc => ?_) (fun hc => ?_)
      · have hrun := ip hc hrun
        refine lv_iload_n hx hb dX3_whoIsIn_37 rfl (lv_at hl 2 rfl) ?_
        exact hret _ _ _ _ _ _ (congrArg (Option.map (fun w => (w, t))) hrun) rfl hS dX3_whoIsIn_38
      · have hrun := iq hc hrun
        refine lv_aload_n hx hb dX3_whoIsIn_15 rfl (lv_at hl 0 rfl) ?_
        refine gX3_24 B hS e0 dX3_whoIsIn_16 ?_
        refine lv_iload_n hx hb dX3_whoIsIn_19 rfl (lv_at hl 3 rfl) ?_
        obtain ⟨hi_1005, hrun⟩ := gdE hrun
        refine xa B hS (iaX3_1 e0) hi_1005 dX3_whoIsIn_20 ?_
        refine lv_iload_n hx hb dX3_whoIsIn_21 rfl (lv_at hl 1 rfl) ?_
        refine lv_icmp_ne (tgt := 31) hx hb dX3_whoIsIn_22 (by decide) (fun hc => ?_) (fun hc => ?_)
        · have hrun := iq hc hrun
          refine lv_iinc (v := x3 + (1 : Int32)) (k := 3) (lv' := [(3, .int (x3 + (1 : Int32))), (0, .ref (X.2.1 h0)), (1, .int x1), (2, .int x2)]) hx hb dX3_whoIsIn_31 hl rfl rfl (by decide) rfl (fun ls hl => ?_)
          refine lv_goto (tgt := 4) hx hb dX3_whoIsIn_34 (by decide) ?_
          exact ih4 x1 x2 (x3 + (1 : Int32)) _ _ _ hS (lv_sub hl [1, 2, 3, 0] rfl) hrun
        · have hrun := ip hc hrun
          refine lv_iload_n hx hb dX3_whoIsIn_25 rfl (lv_at hl 2 rfl) ?_
          refine lv_iconst (v := 1) hx hb dX3_whoIsIn_26 (by decide) ?_
          refine lv_iload_n hx hb dX3_whoIsIn_27 rfl (lv_at hl 3 rfl) ?_
          refine lv_ishl hx hb dX3_whoIsIn_28 ?_
          refine lv_ior hx hb dX3_whoIsIn_29 ?_
          refine lv_topi (fun x2_1006 ex => ?_)
          obtain ⟨z, ez, hrun⟩ := bsE hrun
          obtain rfl : x2_1006 = z := ex.trans ez.symm
          clear ex ez
          refine lv_istore_n (lv' := [(2, .int x2_1006), (0, .ref (X.2.1 h0)), (1, .int x1), (3, .int x3)]) hx hb dX3_whoIsIn_30 rfl hl (by decide) rfl (fun ls hl => ?_)
          refine lv_iinc (v := x3 + (1 : Int32)) (k := 3) (lv' := [(3, .int (x3 + (1 : Int32))), (2, .int x2_1006), (0, .ref (X.2.1 h0)), (1, .int x1)]) hx hb dX3_whoIsIn_31 hl rfl rfl (by decide) rfl (fun ls hl => ?_)
          refine lv_goto (tgt := 4) hx hb dX3_whoIsIn_34 (by decide) ?_
          exact ih4 x1 x2_1006 (x3 + (1 : Int32)) _ _ _ hS (lv_sub hl [2, 3, 1, 0] rfl) hrun
  unfold fX3_whoIsIn at hrun
  refine lv_iconst (v := 0) hx hb dX3_whoIsIn_0 (by decide) ?_
  refine lv_istore_n (lv' := [(2, .int (0 : Int32)), (0, .ref (X.2.1 h0)), (1, .int x1)]) hx hb dX3_whoIsIn_1 rfl hl (by decide) rfl (fun ls hl => ?_)
  refine lv_iconst (v := 0) hx hb dX3_whoIsIn_2 (by decide) ?_
  refine lv_istore_n (lv' := [(3, .int (0 : Int32)), (2, .int (0 : Int32)), (0, .ref (X.2.1 h0)), (1, .int x1)]) hx hb dX3_whoIsIn_3 rfl hl (by decide) rfl (fun ls hl => ?_)
  exact hB4 fuelN x1 (0 : Int32) (0 : Int32) _ _ _ hS (lv_sub hl [2, 3, 1, 0] rfl) hrun
theorem mdJ6_bitCount_0f7a4 : MD yJ6_bitCount_0f7a4 1 := ⟨by decide +kernel, by decide +kernel, by decide +kernel⟩
set_option maxHeartbeats 4000000 in
set_option maxRecDepth 100000 in
theorem kJ6_bitCount_0f7a4 (l : Launch) (X : Cx) (t : St) (x0 : Int32) (r : Int32) (hrun : fJ6_bitCount_0f7a4 t x0 = some r) : Ci l X t yJ6_bitCount_0f7a4 cJ6_bitCount_0f7a4 1 .int 0 0 [.int x0] r t := by
  refine Ci_of (by decide) (Nat.le_of_ble_eq_true rfl) ?_
  intro p e s m args below meth c Q B hret hS ls hl
  have hx := B.1
  have hb := B.2.1
  have hown := B.2.2.2.1
  have hts := B.2.2.2.2.1
  have hl : lv_has ls 1 [(0, .int x0)] := hl
  unfold fJ6_bitCount_0f7a4 at hrun
  refine lv_iload_n hx hb dJ6_bitCount_0f7a4_0 rfl (lv_at hl 0 rfl) ?_
  refine lv_iload_n hx hb dJ6_bitCount_0f7a4_1 rfl (lv_at hl 0 rfl) ?_
  refine lv_iconst (v := 1) hx hb dJ6_bitCount_0f7a4_2 (by decide) ?_
  refine lv_iushr hx hb dJ6_bitCount_0f7a4_3 rfl ?_
  refine lv_ldcw (v := 1431655765) hx hb hown (hts _ (tw_3 6 rfl rfl)) dJ6_bitCount_0f7a4_4 ?_
  refine lv_iand hx hb dJ6_bitCount_0f7a4_7 ?_
  refine lv_isub hx hb dJ6_bitCount_0f7a4_8 ?_
  refine lv_topi (fun x0_1 ex => ?_)
  obtain ⟨z, ez, hrun⟩ := bsE hrun
  obtain rfl : x0_1 = z := ex.trans ez.symm
  clear ex ez
  refine lv_istore_n (lv' := [(0, .int x0_1)]) hx hb dJ6_bitCount_0f7a4_9 rfl hl (by decide) rfl (fun ls hl => ?_)
  refine lv_iload_n hx hb dJ6_bitCount_0f7a4_10 rfl (lv_at hl 0 rfl) ?_
  refine lv_ldcw (v := 858993459) hx hb hown (hts _ (tw_3 7 rfl rfl)) dJ6_bitCount_0f7a4_11 ?_
  refine lv_iand hx hb dJ6_bitCount_0f7a4_14 ?_
  refine lv_iload_n hx hb dJ6_bitCount_0f7a4_15 rfl (lv_at hl 0 rfl) ?_
  refine lv_iconst (v := 2) hx hb dJ6_bitCount_0f7a4_16 (by decide) ?_
  refine lv_iushr hx hb dJ6_bitCount_0f7a4_17 rfl ?_
  refine lv_ldcw (v := 858993459) hx hb hown (hts _ (tw_3 7 rfl rfl)) dJ6_bitCount_0f7a4_18 ?_
  refine lv_iand hx hb dJ6_bitCount_0f7a4_21 ?_
  refine lv_iadd hx hb dJ6_bitCount_0f7a4_22 ?_
  refine lv_topi (fun x0_2 ex => ?_)
  obtain ⟨z, ez, hrun⟩ := bsE hrun
  obtain rfl : x0_2 = z := ex.trans ez.symm
  clear ex ez
  refine lv_istore_n (lv' := [(0, .int x0_2)]) hx hb dJ6_bitCount_0f7a4_23 rfl hl (by decide) rfl (fun ls hl => ?_)
  refine lv_iload_n hx hb dJ6_bitCount_0f7a4_24 rfl (lv_at hl 0 rfl) ?_
  refine lv_iload_n hx hb dJ6_bitCount_0f7a4_25 rfl (lv_at hl 0 rfl) ?_
  refine lv_iconst (v := 4) hx hb dJ6_bitCount_0f7a4_26 (by decide) ?_
  refine lv_iushr hx hb dJ6_bitCount_0f7a4_27 rfl ?_
  refine lv_iadd hx hb dJ6_bitCount_0f7a4_28 ?_
  refine lv_ldcw (v := 252645135) hx hb hown (hts _ (tw_3 8 rfl rfl)) dJ6_bitCount_0f7a4_29 ?_
  refine lv_iand hx hb dJ6_bitCount_0f7a4_32 ?_
  refine lv_topi (fun x0_3 ex => ?_)
  obtain ⟨z, ez, hrun⟩ := bsE hrun
  obtain rfl : x0_3 = z := ex.trans ez.symm
  clear ex ez
  refine lv_istore_n (lv' := [(0, .int x0_3)]) hx hb dJ6_bitCount_0f7a4_33 rfl hl (by decide) rfl (fun ls hl => ?_)
  refine lv_iload_n hx hb dJ6_bitCount_0f7a4_34 rfl (lv_at hl 0 rfl) ?_
  refine lv_iload_n hx hb dJ6_bitCount_0f7a4_35 rfl (lv_at hl 0 rfl) ?_
  refine lv_bipush (v := 8) hx hb dJ6_bitCount_0f7a4_36 (by decide) ?_
  refine lv_iushr hx hb dJ6_bitCount_0f7a4_38 rfl ?_
  refine lv_iadd hx hb dJ6_bitCount_0f7a4_39 ?_
  refine lv_topi (fun x0_4 ex => ?_)
  obtain ⟨z, ez, hrun⟩ := bsE hrun
  obtain rfl : x0_4 = z := ex.trans ez.symm
  clear ex ez
  refine lv_istore_n (lv' := [(0, .int x0_4)]) hx hb dJ6_bitCount_0f7a4_40 rfl hl (by decide) rfl (fun ls hl => ?_)
  refine lv_iload_n hx hb dJ6_bitCount_0f7a4_41 rfl (lv_at hl 0 rfl) ?_
  refine lv_iload_n hx hb dJ6_bitCount_0f7a4_42 rfl (lv_at hl 0 rfl) ?_
  refine lv_bipush (v := 16) hx hb dJ6_bitCount_0f7a4_43 (by decide) ?_
  refine lv_iushr hx hb dJ6_bitCount_0f7a4_45 rfl ?_
  refine lv_iadd hx hb dJ6_bitCount_0f7a4_46 ?_
  refine lv_topi (fun x0_5 ex => ?_)
  obtain ⟨z, ez, hrun⟩ := bsE hrun
  obtain rfl : x0_5 = z := ex.trans ez.symm
  clear ex ez
  refine lv_istore_n (lv' := [(0, .int x0_5)]) hx hb dJ6_bitCount_0f7a4_47 rfl hl (by decide) rfl (fun ls hl => ?_)
  refine lv_iload_n hx hb dJ6_bitCount_0f7a4_48 rfl (lv_at hl 0 rfl) ?_
  refine lv_bipush (v := 63) hx hb dJ6_bitCount_0f7a4_49 (by decide) ?_
  refine lv_iand hx hb dJ6_bitCount_0f7a4_51 ?_
  exact hret _ _ _ _ _ _ (congrArg (Option.map (fun w => (w, t))) hrun) rfl hS dJ6_bitCount_0f7a4_52
theorem mdX3_voicesIn : MD yX3_voicesIn 1 := ⟨by decide +kernel, by decide +kernel, by decide +kernel⟩
section QX3_voicesIn
variable {p : Program} {l : Launch} {e : Env} {R : Room} {s : State} {m : MethodId} {args : Array Value} {below : List Frame} {meth : Method} {c : Code} {H : Heap} {locs : List Loc} {cells slots : Nat} {Q : State → Prop}
variable {cc : ByteArray} {pc : Nat} {ls : Array Slot} {rest : List Value} {X : Cx} {t : St} {H0 : Heap} {nL : Nat}
theorem qX3_66 (B : Bx p s m args c cc nL X RX3) (hS : SS X t H0 H locs) {h0 : Nat} (e0 : isHall h0) {x1 : Int32} {r : Int32} (hM : fX3_whoIsIn h0 t x1 = some r) (hsz : ls.size = nL) (hW : (rest.map fun v => v.category).sum ≤ 8) (hR : 0 + 1 ≤ R.frames ∧ 8 + (4 + 11) + 0 ≤ R.locals) (hR2 : cells ≤ R.cells ∧ slots ≤ R.slots) (hdg : decode cc pc = .ok (.invokevirtual 66, 3)) (kk : ∀ (H1 : Heap) (locs1 : List Loc), SS X t H0 H1 locs1 → W p l e R s m args below meth c H1 locs1 cells slots Q (F0 m (pc + 3) ls (.int r :: rest))) : W p l e R s m args below meth c H locs cells slots Q (F0 m pc ls (.int x1 :: .ref (X.2.1 h0) :: rest)) :=
  xVi B hS (kX3_whoIsIn l X t h0 e0 x1 r hM) (tw_3 117 rfl rfl) (tw_3 62 rfl rfl) (tw_3 63 rfl rfl) (tw_1 4 rfl rfl) (tw_3 64 rfl rfl) mdX3_whoIsIn (hall_lt e0) (ceX3 e0 _) rfl rfl rfl hsz rfl hW hR hR2 hdg kk
theorem qX3_70 (B : Bx p s m args c cc nL X RX3) (hS : SS X t H0 H locs) {h0 : Nat} (e0 : isHall h0) {r : Int32} (hM : fX3_whoSings h0 t = some r) (hsz : ls.size = nL) (hW : (rest.map fun v => v.category).sum ≤ 8) (hR : 0 + 1 ≤ R.frames ∧ 8 + (3 + 11) + 0 ≤ R.locals) (hR2 : cells ≤ R.cells ∧ slots ≤ R.slots) (hdg : decode cc pc = .ok (.invokevirtual 70, 3)) (kk : ∀ (H1 : Heap) (locs1 : List Loc), SS X t H0 H1 locs1 → W p l e R s m args below meth c H1 locs1 cells slots Q (F0 m (pc + 3) ls (.int r :: rest))) : W p l e R s m args below meth c H locs cells slots Q (F0 m pc ls (.ref (X.2.1 h0) :: rest)) :=
  xVi B hS (kX3_whoSings l X t h0 e0 r hM) (tw_3 118 rfl rfl) (tw_2 199 rfl rfl) (tw_2 200 rfl rfl) (tw_1 4 rfl rfl) (tw_2 201 rfl rfl) mdX3_whoSings (hall_lt e0) (ceX3 e0 _) rfl rfl rfl hsz rfl hW hR hR2 hdg kk
theorem qX3_74 (B : Bx p s m args c cc nL X RX3) (hS : SS X t H0 H locs) {x0 : Int32} {r : Int32} (hM : fJ6_bitCount_0f7a4 t x0 = some r) (hsz : ls.size = nL) (hW : (rest.map fun v => v.category).sum ≤ 8) (hR : 0 + 1 ≤ R.frames ∧ 8 + (1 + 11) + 0 ≤ R.locals) (hR2 : cells ≤ R.cells ∧ slots ≤ R.slots) (hdg : decode cc pc = .ok (.invokestatic 74, 3)) (kk : ∀ (H1 : Heap) (locs1 : List Loc), SS X t H0 H1 locs1 → W p l e R s m args below meth c H1 locs1 cells slots Q (F0 m (pc + 3) ls (.int r :: rest))) : W p l e R s m args below meth c H locs cells slots Q (F0 m pc ls (.int x0 :: rest)) :=
  xSi B hS (kJ6_bitCount_0f7a4 l X t x0 r hM) (tw_3 119 rfl rfl) (tw_3 4 rfl rfl) (tw_1 14 rfl rfl) (tw_3 5 rfl rfl) mdJ6_bitCount_0f7a4 rfl hsz rfl hW hR hR2 hdg kk
end QX3_voicesIn
set_option maxHeartbeats 4000000 in
set_option maxRecDepth 100000 in
theorem kX3_voicesIn (l : Launch) (X : Cx) (t : St) (h0 : Nat) (e0 : isHall h0) (x1 : Int32) (r : Int32) (hrun : fX3_voicesIn h0 t x1 = some r) : Ci l X t yX3_voicesIn cX3_voicesIn 2 .int 1 23 [.ref (X.2.1 h0), .int x1] r t := by
  refine Ci_of (by decide) (Nat.le_of_ble_eq_true rfl) ?_
  intro p e s m args below meth c Q B hret hS ls hl
  have hx := B.1
  have hb := B.2.1
  have hown := B.2.2.2.1
  have hts := B.2.2.2.2.1
  have hl : lv_has ls 2 [(0, .ref (X.2.1 h0)), (1, .int x1)] := hl
  unfold fX3_voicesIn at hrun
  refine lv_aload_n hx hb dX3_voicesIn_0 rfl (lv_at hl 0 rfl) ?_
  refine lv_iload_n hx hb dX3_voicesIn_1 rfl (lv_at hl 1 rfl) ?_
  obtain ⟨r_2, hc_1, hrun⟩ := bdE hrun
  refine qX3_66 B hS e0 hc_1 hl.1 (Nat.le_of_ble_eq_true rfl) ⟨Nat.le_of_ble_eq_true rfl, Nat.le_of_ble_eq_true rfl⟩ ⟨Nat.zero_le _, Nat.zero_le _⟩ dX3_voicesIn_2 (fun H locs hS => ?_)
  refine lv_aload_n hx hb dX3_voicesIn_5 rfl (lv_at hl 0 rfl) ?_
  obtain ⟨r_4, hc_3, hrun⟩ := bdE hrun
  refine qX3_70 B hS e0 hc_3 hl.1 (Nat.le_of_ble_eq_true rfl) ⟨Nat.le_of_ble_eq_true rfl, Nat.le_of_ble_eq_true rfl⟩ ⟨Nat.zero_le _, Nat.zero_le _⟩ dX3_voicesIn_6 (fun H locs hS => ?_)
  refine lv_iand hx hb dX3_voicesIn_9 ?_
  obtain ⟨r_6, hc_5, hrun⟩ := bdE hrun
  refine qX3_74 B hS hc_5 hl.1 (Nat.le_of_ble_eq_true rfl) ⟨Nat.le_of_ble_eq_true rfl, Nat.le_of_ble_eq_true rfl⟩ ⟨Nat.zero_le _, Nat.zero_le _⟩ dX3_voicesIn_10 (fun H locs hS => ?_)
  exact hret _ _ _ _ _ _ (congrArg (Option.map (fun w => (w, t))) hrun) rfl hS dX3_voicesIn_13
theorem mdX3_deafPlaces : MD yX3_deafPlaces 0 := ⟨by decide +kernel, by decide +kernel, by decide +kernel⟩
set_option maxHeartbeats 4000000 in
set_option maxRecDepth 100000 in
theorem kX3_deafPlaces (l : Launch) (X : Cx) (t : St) (h0 : Nat) (e0 : isHall h0) (r : Int32) (hrun : fX3_deafPlaces h0 t = some r) : Ci l X t yX3_deafPlaces cX3_deafPlaces 3 .int 1 23 [.ref (X.2.1 h0)] r t := by
  refine Ci_of (by decide) (Nat.le_of_ble_eq_true rfl) ?_
  intro p e s m args below meth c Q B hret hS ls hl
  have hx := B.1
  have hb := B.2.1
  have hown := B.2.2.2.1
  have hts := B.2.2.2.2.1
  have hl : lv_has ls 3 [(0, .ref (X.2.1 h0))] := hl
  have hB4 : ∀ (n4 : Nat) (x1 : Int32) (x2 : Int32) (H : Heap) (locs : List Loc) (ls : Array Slot), SS X t s.heap H locs → lv_has ls 3 [(0, .ref (X.2.1 h0)), (1, .int x1), (2, .int x2)] → fX3_deafPlaces_4 h0 t n4 x1 x2 = some r → W p l e ({ frames := 1, cells := 0, slots := 0, locals := 23 } : Room) s m args below meth c H locs 0 0 Q (F0 m 4 ls []) := by
    intro n4
    induction n4 with
    | zero =>
      intro x1 x2 H locs ls hS hl hrun
      cases (show (none : Option (Int32)) = some r from hrun)
    | succ n4 ih4 =>
      intro x1 x2 H locs ls hS hl hrun
      rw [fX3_deafPlaces_4_s] at hrun
      refine lv_iload_n hx hb dX3_deafPlaces_4 rfl (lv_at hl 2 rfl) ?_
      refine lv_aload_n hx hb dX3_deafPlaces_5 rfl (lv_at hl 0 rfl) ?_
      refine gX3_37 B hS e0 dX3_deafPlaces_6 ?_
      refine gX3_82 B hS reg_3 dX3_deafPlaces_9 ?_
      refine lv_icmp_ge (tgt := 35) hx hb dX3_deafPlaces_12 (by decide) (fun hc => ?_) (fun hc => ?_)
      · have hrun := ip hc hrun
        refine lv_iload_n hx hb dX3_deafPlaces_35 rfl (lv_at hl 1 rfl) ?_
        exact hret _ _ _ _ _ _ (congrArg (Option.map (fun w => (w, t))) hrun) rfl hS dX3_deafPlaces_36
      · have hrun := iq hc hrun
        refine lv_aload_n hx hb dX3_deafPlaces_15 rfl (lv_at hl 0 rfl) ?_
        refine lv_iload_n hx hb dX3_deafPlaces_16 rfl (lv_at hl 2 rfl) ?_
        obtain ⟨r_1006, hc_1005, hrun⟩ := bdE hrun
        refine qX3_85 B hS e0 hc_1005 hl.1 (Nat.le_of_ble_eq_true rfl) ⟨Nat.le_of_ble_eq_true rfl, Nat.le_of_ble_eq_true rfl⟩ ⟨Nat.zero_le _, Nat.zero_le _⟩ dX3_deafPlaces_17 (fun H locs hS => ?_)
        refine lv_if_ne (tgt := 29) hx hb dX3_deafPlaces_20 (by decide) (fun hc => ?_) (fun hc => ?_)
        · have hrun := iq hc hrun
          refine lv_iinc (v := x2 + (1 : Int32)) (k := 2) (lv' := [(2, .int (x2 + (1 : Int32))), (0, .ref (X.2.1 h0)), (1, .int x1)]) hx hb dX3_deafPlaces_29 hl rfl rfl (by decide) rfl (fun ls hl => ?_)
          refine lv_goto (tgt := 4) hx hb dX3_deafPlaces_32 (by decide) ?_
          exact ih4 x1 (x2 + (1 : Int32)) _ _ _ hS (lv_sub hl [1, 2, 0] rfl) hrun
        · have hrun := ip hc hrun
          refine lv_iload_n hx hb dX3_deafPlaces_23 rfl (lv_at hl 1 rfl) ?_
          refine lv_iconst (v := 1) hx hb dX3_deafPlaces_24 (by decide) ?_
          refine lv_iload_n hx hb dX3_deafPlaces_25 rfl (lv_at hl 2 rfl) ?_
          refine lv_ishl hx hb dX3_deafPlaces_26 ?_
          refine lv_ior hx hb dX3_deafPlaces_27 ?_
          refine lv_topi (fun x1_1007 ex => ?_)
          obtain ⟨z, ez, hrun⟩ := bsE hrun
          obtain rfl : x1_1007 = z := ex.trans ez.symm
          clear ex ez
          refine lv_istore_n (lv' := [(1, .int x1_1007), (0, .ref (X.2.1 h0)), (2, .int x2)]) hx hb dX3_deafPlaces_28 rfl hl (by decide) rfl (fun ls hl => ?_)
          refine lv_iinc (v := x2 + (1 : Int32)) (k := 2) (lv' := [(2, .int (x2 + (1 : Int32))), (1, .int x1_1007), (0, .ref (X.2.1 h0))]) hx hb dX3_deafPlaces_29 hl rfl rfl (by decide) rfl (fun ls hl => ?_)
          refine lv_goto (tgt := 4) hx hb dX3_deafPlaces_32 (by decide) ?_
          exact ih4 x1_1007 (x2 + (1 : Int32)) _ _ _ hS (lv_sub hl [2, 1, 0] rfl) hrun
  unfold fX3_deafPlaces at hrun
  refine lv_iconst (v := 0) hx hb dX3_deafPlaces_0 (by decide) ?_
  refine lv_istore_n (lv' := [(1, .int (0 : Int32)), (0, .ref (X.2.1 h0))]) hx hb dX3_deafPlaces_1 rfl hl (by decide) rfl (fun ls hl => ?_)
  refine lv_iconst (v := 0) hx hb dX3_deafPlaces_2 (by decide) ?_
  refine lv_istore_n (lv' := [(2, .int (0 : Int32)), (1, .int (0 : Int32)), (0, .ref (X.2.1 h0))]) hx hb dX3_deafPlaces_3 rfl hl (by decide) rfl (fun ls hl => ?_)
  exact hB4 fuelN (0 : Int32) (0 : Int32) _ _ _ hS (lv_sub hl [2, 1, 0] rfl) hrun
theorem mdX3_richest : MD yX3_richest 0 := ⟨by decide +kernel, by decide +kernel, by decide +kernel⟩
set_option maxHeartbeats 4000000 in
set_option maxRecDepth 100000 in
theorem kX3_richest (l : Launch) (X : Cx) (t : St) (h0 : Nat) (e0 : isHall h0) (r : Int32) (hrun : fX3_richest h0 t = some r) : Ci l X t yX3_richest cX3_richest 4 .int 0 0 [.ref (X.2.1 h0)] r t := by
  refine Ci_of (by decide) (Nat.le_of_ble_eq_true rfl) ?_
  intro p e s m args below meth c Q B hret hS ls hl
  have hx := B.1
  have hb := B.2.1
  have hown := B.2.2.2.1
  have hts := B.2.2.2.2.1
  have hl : lv_has ls 4 [(0, .ref (X.2.1 h0))] := hl
  have hB6 : ∀ (n6 : Nat) (x1 : Int32) (x2 : Int32) (x3 : Int32) (H : Heap) (locs : List Loc) (ls : Array Slot), SS X t s.heap H locs → lv_has ls 4 [(0, .ref (X.2.1 h0)), (1, .int x1), (2, .int x2), (3, .int x3)] → fX3_richest_6 h0 t n6 x1 x2 x3 = some r → W p l e ({ frames := 0, cells := 0, slots := 0, locals := 0 } : Room) s m args below meth c H locs 0 0 Q (F0 m 6 ls []) := by
    intro n6
    induction n6 with
    | zero =>
      intro x1 x2 x3 H locs ls hS hl hrun
      cases (show (none : Option (Int32)) = some r from hrun)
    | succ n6 ih6 =>
      intro x1 x2 x3 H locs ls hS hl hrun
      rw [fX3_richest_6_s] at hrun
      refine lv_iload_n hx hb dX3_richest_6 rfl (lv_at hl 3 rfl) ?_
      refine lv_aload_n hx hb dX3_richest_7 rfl (lv_at hl 0 rfl) ?_
      refine gX3_37 B hS e0 dX3_richest_8 ?_
      refine gX3_63 B hS reg_3 dX3_richest_11 ?_
      refine lv_icmp_ge (tgt := 42) hx hb dX3_richest_14 (by decide) (fun hc => ?_) (fun hc => ?_)
      · have hrun := ip hc hrun
        refine lv_iload_n hx hb dX3_richest_42 rfl (lv_at hl 1 rfl) ?_
        exact hret _ _ _ _ _ _ (congrArg (Option.map (fun w => (w, t))) hrun) rfl hS dX3_richest_43
      · have hrun := iq hc hrun
        refine lv_aload_n hx hb dX3_richest_17 rfl (lv_at hl 0 rfl) ?_
        refine gX3_28 B hS e0 dX3_richest_18 ?_
        refine lv_iload_n hx hb dX3_richest_21 rfl (lv_at hl 3 rfl) ?_
        obtain ⟨hi_1007, hrun⟩ := gdE hrun
        refine xa B hS (iaX3_2 e0) hi_1007 dX3_richest_22 ?_
        refine lv_iload_n hx hb dX3_richest_23 rfl (lv_at hl 2 rfl) ?_
        refine lv_icmp_le (tgt := 36) hx hb dX3_richest_24 (by decide) (fun hc => ?_) (fun hc => ?_)
        · have hrun := ip hc hrun
          refine lv_iinc (v := x3 + (1 : Int32)) (k := 3) (lv' := [(3, .int (x3 + (1 : Int32))), (0, .ref (X.2.1 h0)), (1, .int x1), (2, .int x2)]) hx hb dX3_richest_36 hl rfl rfl (by decide) rfl (fun ls hl => ?_)
          refine lv_goto (tgt := 6) hx hb dX3_richest_39 (by decide) ?_
          exact ih6 x1 x2 (x3 + (1 : Int32)) _ _ _ hS (lv_sub hl [1, 2, 3, 0] rfl) hrun
        · have hrun := iq hc hrun
          refine lv_iload_n hx hb dX3_richest_27 rfl (lv_at hl 3 rfl) ?_
          refine lv_istore_n (lv' := [(1, .int x3), (0, .ref (X.2.1 h0)), (2, .int x2), (3, .int x3)]) hx hb dX3_richest_28 rfl hl (by decide) rfl (fun ls hl => ?_)
          refine lv_aload_n hx hb dX3_richest_29 rfl (lv_at hl 1 rfl) ?_
          refine gX3_28 B hS e0 dX3_richest_30 ?_
          refine lv_iload_n hx hb dX3_richest_33 rfl (lv_at hl 3 rfl) ?_
          obtain ⟨hi_1008, hrun⟩ := gdE hrun
          refine xa B hS (iaX3_2 e0) hi_1008 dX3_richest_34 ?_
          refine lv_topi (fun x2_1009 ex => ?_)
          obtain ⟨z, ez, hrun⟩ := bsE hrun
          obtain rfl : x2_1009 = z := ex.trans ez.symm
          clear ex ez
          refine lv_istore_n (lv' := [(2, .int x2_1009), (1, .int x3), (0, .ref (X.2.1 h0)), (3, .int x3)]) hx hb dX3_richest_35 rfl hl (by decide) rfl (fun ls hl => ?_)
          refine lv_iinc (v := x3 + (1 : Int32)) (k := 3) (lv' := [(3, .int (x3 + (1 : Int32))), (2, .int x2_1009), (1, .int x3), (0, .ref (X.2.1 h0))]) hx hb dX3_richest_36 hl rfl rfl (by decide) rfl (fun ls hl => ?_)
          refine lv_goto (tgt := 6) hx hb dX3_richest_39 (by decide) ?_
          exact ih6 x3 x2_1009 (x3 + (1 : Int32)) _ _ _ hS (lv_sub hl [3, 2, 1, 0] rfl) hrun
  unfold fX3_richest at hrun
  refine lv_iconst (v := -1) hx hb dX3_richest_0 (by decide) ?_
  refine lv_istore_n (lv' := [(1, .int (-1 : Int32)), (0, .ref (X.2.1 h0))]) hx hb dX3_richest_1 rfl hl (by decide) rfl (fun ls hl => ?_)
  refine lv_iconst (v := -1) hx hb dX3_richest_2 (by decide) ?_
  refine lv_istore_n (lv' := [(2, .int (-1 : Int32)), (1, .int (-1 : Int32)), (0, .ref (X.2.1 h0))]) hx hb dX3_richest_3 rfl hl (by decide) rfl (fun ls hl => ?_)
  refine lv_iconst (v := 0) hx hb dX3_richest_4 (by decide) ?_
  refine lv_istore_n (lv' := [(3, .int (0 : Int32)), (2, .int (-1 : Int32)), (1, .int (-1 : Int32)), (0, .ref (X.2.1 h0))]) hx hb dX3_richest_5 rfl hl (by decide) rfl (fun ls hl => ?_)
  exact hB6 fuelN (-1 : Int32) (-1 : Int32) (0 : Int32) _ _ _ hS (lv_sub hl [3, 2, 1, 0] rfl) hrun
theorem mdX3_owedBy : MD yX3_owedBy 2 := ⟨by decide +kernel, by decide +kernel, by decide +kernel⟩
section QX3_owedBy
variable {p : Program} {l : Launch} {e : Env} {R : Room} {s : State} {m : MethodId} {args : Array Value} {below : List Frame} {meth : Method} {c : Code} {H : Heap} {locs : List Loc} {cells slots : Nat} {Q : State → Prop}
variable {cc : ByteArray} {pc : Nat} {ls : Array Slot} {rest : List Value} {X : Cx} {t : St} {H0 : Heap} {nL : Nat}
theorem qX3_91 (B : Bx p s m args c cc nL X RX3) (hS : SS X t H0 H locs) {h0 : Nat} (e0 : isHall h0) {x1 : Int32} {r : Int32} (hM : fX3_sings h0 t x1 = some r) (hsz : ls.size = nL) (hW : (rest.map fun v => v.category).sum ≤ 8) (hR : 1 + 1 ≤ R.frames ∧ 8 + (2 + 11) + 21 ≤ R.locals) (hR2 : cells ≤ R.cells ∧ slots ≤ R.slots) (hdg : decode cc pc = .ok (.invokevirtual 91, 3)) (kk : ∀ (H1 : Heap) (locs1 : List Loc), SS X t H0 H1 locs1 → W p l e R s m args below meth c H1 locs1 cells slots Q (F0 m (pc + 3) ls (.int r :: rest))) : W p l e R s m args below meth c H locs cells slots Q (F0 m pc ls (.int x1 :: .ref (X.2.1 h0) :: rest)) :=
  xVi B hS (kX3_sings l X t h0 e0 x1 r hM) (tw_2 210 rfl rfl) (tw_2 211 rfl rfl) (tw_2 212 rfl rfl) (tw_1 4 rfl rfl) (tw_2 213 rfl rfl) mdX3_sings (hall_lt e0) (ceX3 e0 _) rfl rfl rfl hsz rfl hW hR hR2 hdg kk
end QX3_owedBy
set_option maxHeartbeats 4000000 in
set_option maxRecDepth 100000 in
theorem kX3_owedBy (l : Launch) (X : Cx) (t : St) (h0 : Nat) (e0 : isHall h0) (x1 : Int32) (x2 : Int32) (r : Int32) (hrun : fX3_owedBy h0 t x1 x2 = some r) : Ci l X t yX3_owedBy cX3_owedBy 3 .int 2 48 [.ref (X.2.1 h0), .int x1, .int x2] r t := by
  refine Ci_of (by decide) (Nat.le_of_ble_eq_true rfl) ?_
  intro p e s m args below meth c Q B hret hS ls hl
  have hx := B.1
  have hb := B.2.1
  have hown := B.2.2.2.1
  have hts := B.2.2.2.2.1
  have hl : lv_has ls 3 [(0, .ref (X.2.1 h0)), (1, .int x1), (2, .int x2)] := hl
  unfold fX3_owedBy at hrun
  refine lv_aload_n hx hb dX3_owedBy_0 rfl (lv_at hl 0 rfl) ?_
  refine lv_iload_n hx hb dX3_owedBy_1 rfl (lv_at hl 1 rfl) ?_
  obtain ⟨r_2, hc_1, hrun⟩ := bdE hrun
  refine qX3_91 B hS e0 hc_1 hl.1 (Nat.le_of_ble_eq_true rfl) ⟨Nat.le_of_ble_eq_true rfl, Nat.le_of_ble_eq_true rfl⟩ ⟨Nat.zero_le _, Nat.zero_le _⟩ dX3_owedBy_2 (fun H locs hS => ?_)
  refine lv_if_eq (tgt := 29) hx hb dX3_owedBy_5 (by decide) (fun hc => ?_) (fun hc => ?_)
  · have hrun := ip hc hrun
    refine lv_iconst (v := 0) hx hb dX3_owedBy_29 (by decide) ?_
    exact hret _ _ _ _ _ _ (congrArg (Option.map (fun w => (w, t))) hrun) rfl hS dX3_owedBy_30
  · have hrun := iq hc hrun
    refine lv_aload_n hx hb dX3_owedBy_8 rfl (lv_at hl 0 rfl) ?_
    refine lv_iload_n hx hb dX3_owedBy_9 rfl (lv_at hl 2 rfl) ?_
    refine lv_iload_n hx hb dX3_owedBy_10 rfl (lv_at hl 1 rfl) ?_
    refine lv_aload_n hx hb dX3_owedBy_11 rfl (lv_at hl 0 rfl) ?_
    refine gX3_31 B hS e0 dX3_owedBy_12 ?_
    refine lv_iload_n hx hb dX3_owedBy_15 rfl (lv_at hl 1 rfl) ?_
    obtain ⟨hi_3, hrun⟩ := gdE hrun
    refine xa B hS (iaX3_3 e0) hi_3 dX3_owedBy_16 ?_
    refine lv_aload_n hx hb dX3_owedBy_17 rfl (lv_at hl 0 rfl) ?_
    refine gX3_24 B hS e0 dX3_owedBy_18 ?_
    refine lv_iload_n hx hb dX3_owedBy_21 rfl (lv_at hl 1 rfl) ?_
    obtain ⟨hi_4, hrun⟩ := gdE hrun
    refine xa B hS (iaX3_1 e0) hi_4 dX3_owedBy_22 ?_
    obtain ⟨r_6, hc_5, hrun⟩ := bdE hrun
    refine qX3_94 B hS e0 hc_5 hl.1 (Nat.le_of_ble_eq_true rfl) ⟨Nat.le_of_ble_eq_true rfl, Nat.le_of_ble_eq_true rfl⟩ ⟨Nat.zero_le _, Nat.zero_le _⟩ dX3_owedBy_23 (fun H locs hS => ?_)
    refine lv_goto (tgt := 30) hx hb dX3_owedBy_26 (by decide) ?_
    exact hret _ _ _ _ _ _ (congrArg (Option.map (fun w => (w, t))) hrun) rfl hS dX3_owedBy_30
theorem mdX3_owedIn : MD yX3_owedIn 1 := ⟨by decide +kernel, by decide +kernel, by decide +kernel⟩
section QX3_owedIn
variable {p : Program} {l : Launch} {e : Env} {R : Room} {s : State} {m : MethodId} {args : Array Value} {below : List Frame} {meth : Method} {c : Code} {H : Heap} {locs : List Loc} {cells slots : Nat} {Q : State → Prop}
variable {cc : ByteArray} {pc : Nat} {ls : Array Slot} {rest : List Value} {X : Cx} {t : St} {H0 : Heap} {nL : Nat}
theorem qX3_98 (B : Bx p s m args c cc nL X RX3) (hS : SS X t H0 H locs) {h0 : Nat} (e0 : isHall h0) {x1 : Int32} {x2 : Int32} {r : Int32} (hM : fX3_owedBy h0 t x1 x2 = some r) (hsz : ls.size = nL) (hW : (rest.map fun v => v.category).sum ≤ 8) (hR : 2 + 1 ≤ R.frames ∧ 8 + (3 + 11) + 48 ≤ R.locals) (hR2 : cells ≤ R.cells ∧ slots ≤ R.slots) (hdg : decode cc pc = .ok (.invokevirtual 98, 3)) (kk : ∀ (H1 : Heap) (locs1 : List Loc), SS X t H0 H1 locs1 → W p l e R s m args below meth c H1 locs1 cells slots Q (F0 m (pc + 3) ls (.int r :: rest))) : W p l e R s m args below meth c H locs cells slots Q (F0 m pc ls (.int x2 :: .int x1 :: .ref (X.2.1 h0) :: rest)) :=
  xVi B hS (kX3_owedBy l X t h0 e0 x1 x2 r hM) (tw_2 206 rfl rfl) (tw_2 207 rfl rfl) (tw_2 208 rfl rfl) (tw_1 4 rfl rfl) (tw_2 209 rfl rfl) mdX3_owedBy (hall_lt e0) (ceX3 e0 _) rfl rfl rfl hsz rfl hW hR hR2 hdg kk
end QX3_owedIn
set_option maxHeartbeats 4000000 in
set_option maxRecDepth 100000 in
theorem kX3_owedIn (l : Launch) (X : Cx) (t : St) (h0 : Nat) (e0 : isHall h0) (x1 : Int32) (r : Int32) (hrun : fX3_owedIn h0 t x1 = some r) : Ci l X t yX3_owedIn cX3_owedIn 4 .int 3 70 [.ref (X.2.1 h0), .int x1] r t := by
  refine Ci_of (by decide) (Nat.le_of_ble_eq_true rfl) ?_
  intro p e s m args below meth c Q B hret hS ls hl
  have hx := B.1
  have hb := B.2.1
  have hown := B.2.2.2.1
  have hts := B.2.2.2.2.1
  have hl : lv_has ls 4 [(0, .ref (X.2.1 h0)), (1, .int x1)] := hl
  have hB4 : ∀ (n4 : Nat) (x1 : Int32) (x2 : Int32) (x3 : Int32) (H : Heap) (locs : List Loc) (ls : Array Slot), SS X t s.heap H locs → lv_has ls 4 [(0, .ref (X.2.1 h0)), (1, .int x1), (2, .int x2), (3, .int x3)] → fX3_owedIn_4 h0 t n4 x1 x2 x3 = some r → W p l e ({ frames := 3, cells := 0, slots := 0, locals := 70 } : Room) s m args below meth c H locs 0 0 Q (F0 m 4 ls []) := by
    intro n4
    induction n4 with
    | zero =>
      intro x1 x2 x3 H locs ls hS hl hrun
      cases (show (none : Option (Int32)) = some r from hrun)
    | succ n4 ih4 =>
      intro x1 x2 x3 H locs ls hS hl hrun
      rw [fX3_owedIn_4_s] at hrun
      refine lv_iload_n hx hb dX3_owedIn_4 rfl (lv_at hl 3 rfl) ?_
      refine lv_aload_n hx hb dX3_owedIn_5 rfl (lv_at hl 0 rfl) ?_
      refine gX3_37 B hS e0 dX3_owedIn_6 ?_
      refine gX3_63 B hS reg_3 dX3_owedIn_9 ?_
      refine lv_icmp_ge (tgt := 43) hx hb dX3_owedIn_12 (by decide) (fun hc => ?_) (fun hc => ?_)
      · have hrun := ip hc hrun
        refine lv_iload_n hx hb dX3_owedIn_43 rfl (lv_at hl 2 rfl) ?_
        exact hret _ _ _ _ _ _ (congrArg (Option.map (fun w => (w, t))) hrun) rfl hS dX3_owedIn_44
      · have hrun := iq hc hrun
        refine lv_aload_n hx hb dX3_owedIn_15 rfl (lv_at hl 0 rfl) ?_
        refine gX3_24 B hS e0 dX3_owedIn_16 ?_
        refine lv_iload_n hx hb dX3_owedIn_19 rfl (lv_at hl 3 rfl) ?_
        obtain ⟨hi_1005, hrun⟩ := gdE hrun
        refine xa B hS (iaX3_1 e0) hi_1005 dX3_owedIn_20 ?_
        refine lv_iload_n hx hb dX3_owedIn_21 rfl (lv_at hl 1 rfl) ?_
        refine lv_icmp_ne (tgt := 37) hx hb dX3_owedIn_22 (by decide) (fun hc => ?_) (fun hc => ?_)
        · have hrun := iq hc hrun
          refine lv_iinc (v := x3 + (1 : Int32)) (k := 3) (lv' := [(3, .int (x3 + (1 : Int32))), (0, .ref (X.2.1 h0)), (1, .int x1), (2, .int x2)]) hx hb dX3_owedIn_37 hl rfl rfl (by decide) rfl (fun ls hl => ?_)
          refine lv_goto (tgt := 4) hx hb dX3_owedIn_40 (by decide) ?_
          exact ih4 x1 x2 (x3 + (1 : Int32)) _ _ _ hS (lv_sub hl [1, 2, 3, 0] rfl) hrun
        · have hrun := ip hc hrun
          refine lv_iload_n hx hb dX3_owedIn_25 rfl (lv_at hl 2 rfl) ?_
          refine lv_aload_n hx hb dX3_owedIn_26 rfl (lv_at hl 0 rfl) ?_
          refine lv_iload_n hx hb dX3_owedIn_27 rfl (lv_at hl 3 rfl) ?_
          refine lv_aload_n hx hb dX3_owedIn_28 rfl (lv_at hl 0 rfl) ?_
          refine gX3_9 B hS e0 dX3_owedIn_29 ?_
          obtain ⟨r_1007, hc_1006, hrun⟩ := bdE hrun
          refine qX3_98 B hS e0 hc_1006 hl.1 (Nat.le_of_ble_eq_true rfl) ⟨Nat.le_of_ble_eq_true rfl, Nat.le_of_ble_eq_true rfl⟩ ⟨Nat.zero_le _, Nat.zero_le _⟩ dX3_owedIn_32 (fun H locs hS => ?_)
          refine lv_iadd hx hb dX3_owedIn_35 ?_
          refine lv_topi (fun x2_1008 ex => ?_)
          obtain ⟨z, ez, hrun⟩ := bsE hrun
          obtain rfl : x2_1008 = z := ex.trans ez.symm
          clear ex ez
          refine lv_istore_n (lv' := [(2, .int x2_1008), (0, .ref (X.2.1 h0)), (1, .int x1), (3, .int x3)]) hx hb dX3_owedIn_36 rfl hl (by decide) rfl (fun ls hl => ?_)
          refine lv_iinc (v := x3 + (1 : Int32)) (k := 3) (lv' := [(3, .int (x3 + (1 : Int32))), (2, .int x2_1008), (0, .ref (X.2.1 h0)), (1, .int x1)]) hx hb dX3_owedIn_37 hl rfl rfl (by decide) rfl (fun ls hl => ?_)
          refine lv_goto (tgt := 4) hx hb dX3_owedIn_40 (by decide) ?_
          exact ih4 x1 x2_1008 (x3 + (1 : Int32)) _ _ _ hS (lv_sub hl [2, 3, 1, 0] rfl) hrun
  unfold fX3_owedIn at hrun
  refine lv_iconst (v := 0) hx hb dX3_owedIn_0 (by decide) ?_
  refine lv_istore_n (lv' := [(2, .int (0 : Int32)), (0, .ref (X.2.1 h0)), (1, .int x1)]) hx hb dX3_owedIn_1 rfl hl (by decide) rfl (fun ls hl => ?_)
  refine lv_iconst (v := 0) hx hb dX3_owedIn_2 (by decide) ?_
  refine lv_istore_n (lv' := [(3, .int (0 : Int32)), (2, .int (0 : Int32)), (0, .ref (X.2.1 h0)), (1, .int x1)]) hx hb dX3_owedIn_3 rfl hl (by decide) rfl (fun ls hl => ?_)
  exact hB4 fuelN x1 (0 : Int32) (0 : Int32) _ _ _ hS (lv_sub hl [2, 3, 1, 0] rfl) hrun
theorem mdX3_owedByAll : MD yX3_owedByAll 0 := ⟨by decide +kernel, by decide +kernel, by decide +kernel⟩
set_option maxHeartbeats 4000000 in
set_option maxRecDepth 100000 in
theorem kX3_owedByAll (l : Launch) (X : Cx) (t : St) (h0 : Nat) (e0 : isHall h0) (r : Int32) (hrun : fX3_owedByAll h0 t = some r) : Ci l X t yX3_owedByAll cX3_owedByAll 3 .int 3 70 [.ref (X.2.1 h0)] r t := by
  refine Ci_of (by decide) (Nat.le_of_ble_eq_true rfl) ?_
  intro p e s m args below meth c Q B hret hS ls hl
  have hx := B.1
  have hb := B.2.1
  have hown := B.2.2.2.1
  have hts := B.2.2.2.2.1
  have hl : lv_has ls 3 [(0, .ref (X.2.1 h0))] := hl
  have hB4 : ∀ (n4 : Nat) (x1 : Int32) (x2 : Int32) (H : Heap) (locs : List Loc) (ls : Array Slot), SS X t s.heap H locs → lv_has ls 3 [(0, .ref (X.2.1 h0)), (1, .int x1), (2, .int x2)] → fX3_owedByAll_4 h0 t n4 x1 x2 = some r → W p l e ({ frames := 3, cells := 0, slots := 0, locals := 70 } : Room) s m args below meth c H locs 0 0 Q (F0 m 4 ls []) := by
    intro n4
    induction n4 with
    | zero =>
      intro x1 x2 H locs ls hS hl hrun
      cases (show (none : Option (Int32)) = some r from hrun)
    | succ n4 ih4 =>
      intro x1 x2 H locs ls hS hl hrun
      rw [fX3_owedByAll_4_s] at hrun
      refine lv_iload_n hx hb dX3_owedByAll_4 rfl (lv_at hl 2 rfl) ?_
      refine lv_aload_n hx hb dX3_owedByAll_5 rfl (lv_at hl 0 rfl) ?_
      refine gX3_37 B hS e0 dX3_owedByAll_6 ?_
      refine gX3_63 B hS reg_3 dX3_owedByAll_9 ?_
      refine lv_icmp_ge (tgt := 33) hx hb dX3_owedByAll_12 (by decide) (fun hc => ?_) (fun hc => ?_)
      · have hrun := ip hc hrun
        refine lv_iload_n hx hb dX3_owedByAll_33 rfl (lv_at hl 1 rfl) ?_
        exact hret _ _ _ _ _ _ (congrArg (Option.map (fun w => (w, t))) hrun) rfl hS dX3_owedByAll_34
      · have hrun := iq hc hrun
        refine lv_iload_n hx hb dX3_owedByAll_15 rfl (lv_at hl 1 rfl) ?_
        refine lv_aload_n hx hb dX3_owedByAll_16 rfl (lv_at hl 0 rfl) ?_
        refine lv_iload_n hx hb dX3_owedByAll_17 rfl (lv_at hl 2 rfl) ?_
        refine lv_aload_n hx hb dX3_owedByAll_18 rfl (lv_at hl 0 rfl) ?_
        refine gX3_9 B hS e0 dX3_owedByAll_19 ?_
        obtain ⟨r_1006, hc_1005, hrun⟩ := bdE hrun
        refine qX3_98 B hS e0 hc_1005 hl.1 (Nat.le_of_ble_eq_true rfl) ⟨Nat.le_of_ble_eq_true rfl, Nat.le_of_ble_eq_true rfl⟩ ⟨Nat.zero_le _, Nat.zero_le _⟩ dX3_owedByAll_22 (fun H locs hS => ?_)
        refine lv_iadd hx hb dX3_owedByAll_25 ?_
        refine lv_topi (fun x1_1007 ex => ?_)
        obtain ⟨z, ez, hrun⟩ := bsE hrun
        obtain rfl : x1_1007 = z := ex.trans ez.symm
        clear ex ez
        refine lv_istore_n (lv' := [(1, .int x1_1007), (0, .ref (X.2.1 h0)), (2, .int x2)]) hx hb dX3_owedByAll_26 rfl hl (by decide) rfl (fun ls hl => ?_)
        refine lv_iinc (v := x2 + (1 : Int32)) (k := 2) (lv' := [(2, .int (x2 + (1 : Int32))), (1, .int x1_1007), (0, .ref (X.2.1 h0))]) hx hb dX3_owedByAll_27 hl rfl rfl (by decide) rfl (fun ls hl => ?_)
        refine lv_goto (tgt := 4) hx hb dX3_owedByAll_30 (by decide) ?_
        exact ih4 x1_1007 (x2 + (1 : Int32)) _ _ _ hS (lv_sub hl [2, 1, 0] rfl) hrun
  unfold fX3_owedByAll at hrun
  refine lv_iconst (v := 0) hx hb dX3_owedByAll_0 (by decide) ?_
  refine lv_istore_n (lv' := [(1, .int (0 : Int32)), (0, .ref (X.2.1 h0))]) hx hb dX3_owedByAll_1 rfl hl (by decide) rfl (fun ls hl => ?_)
  refine lv_iconst (v := 0) hx hb dX3_owedByAll_2 (by decide) ?_
  refine lv_istore_n (lv' := [(2, .int (0 : Int32)), (1, .int (0 : Int32)), (0, .ref (X.2.1 h0))]) hx hb dX3_owedByAll_3 rfl hl (by decide) rfl (fun ls hl => ?_)
  exact hB4 fuelN (0 : Int32) (0 : Int32) _ _ _ hS (lv_sub hl [2, 1, 0] rfl) hrun
theorem mdX3_paidByAll : MD yX3_paidByAll 1 := ⟨by decide +kernel, by decide +kernel, by decide +kernel⟩
set_option maxHeartbeats 4000000 in
set_option maxRecDepth 100000 in
theorem kX3_paidByAll (l : Launch) (X : Cx) (t : St) (h0 : Nat) (e0 : isHall h0) (x1 : Int32) (r : Int32) (hrun : fX3_paidByAll h0 t x1 = some r) : Ci l X t yX3_paidByAll cX3_paidByAll 4 .int 3 70 [.ref (X.2.1 h0), .int x1] r t := by
  refine Ci_of (by decide) (Nat.le_of_ble_eq_true rfl) ?_
  intro p e s m args below meth c Q B hret hS ls hl
  have hx := B.1
  have hb := B.2.1
  have hown := B.2.2.2.1
  have hts := B.2.2.2.2.1
  have hl : lv_has ls 4 [(0, .ref (X.2.1 h0)), (1, .int x1)] := hl
  have hB4 : ∀ (n4 : Nat) (x1 : Int32) (x2 : Int32) (x3 : Int32) (H : Heap) (locs : List Loc) (ls : Array Slot), SS X t s.heap H locs → lv_has ls 4 [(0, .ref (X.2.1 h0)), (1, .int x1), (2, .int x2), (3, .int x3)] → fX3_paidByAll_4 h0 t n4 x1 x2 x3 = some r → W p l e ({ frames := 3, cells := 0, slots := 0, locals := 70 } : Room) s m args below meth c H locs 0 0 Q (F0 m 4 ls []) := by
    intro n4
    induction n4 with
    | zero =>
      intro x1 x2 x3 H locs ls hS hl hrun
      cases (show (none : Option (Int32)) = some r from hrun)
    | succ n4 ih4 =>
      intro x1 x2 x3 H locs ls hS hl hrun
      rw [fX3_paidByAll_4_s] at hrun
      refine lv_iload_n hx hb dX3_paidByAll_4 rfl (lv_at hl 3 rfl) ?_
      refine lv_aload_n hx hb dX3_paidByAll_5 rfl (lv_at hl 0 rfl) ?_
      refine gX3_37 B hS e0 dX3_paidByAll_6 ?_
      refine gX3_63 B hS reg_3 dX3_paidByAll_9 ?_
      refine lv_icmp_ge (tgt := 39) hx hb dX3_paidByAll_12 (by decide) (fun hc => ?_) (fun hc => ?_)
      · have hrun := ip hc hrun
        refine lv_iload_n hx hb dX3_paidByAll_39 rfl (lv_at hl 2 rfl) ?_
        exact hret _ _ _ _ _ _ (congrArg (Option.map (fun w => (w, t))) hrun) rfl hS dX3_paidByAll_40
      · have hrun := iq hc hrun
        refine lv_iload_n hx hb dX3_paidByAll_15 rfl (lv_at hl 2 rfl) ?_
        refine lv_aload_n hx hb dX3_paidByAll_16 rfl (lv_at hl 0 rfl) ?_
        refine gX3_28 B hS e0 dX3_paidByAll_17 ?_
        refine lv_iload_n hx hb dX3_paidByAll_20 rfl (lv_at hl 3 rfl) ?_
        obtain ⟨hi_1005, hrun⟩ := gdE hrun
        refine xa B hS (iaX3_2 e0) hi_1005 dX3_paidByAll_21 ?_
        refine lv_aload_n hx hb dX3_paidByAll_22 rfl (lv_at hl 0 rfl) ?_
        refine lv_iload_n hx hb dX3_paidByAll_23 rfl (lv_at hl 3 rfl) ?_
        refine lv_iload_n hx hb dX3_paidByAll_24 rfl (lv_at hl 1 rfl) ?_
        obtain ⟨r_1007, hc_1006, hrun⟩ := bdE hrun
        refine qX3_98 B hS e0 hc_1006 hl.1 (Nat.le_of_ble_eq_true rfl) ⟨Nat.le_of_ble_eq_true rfl, Nat.le_of_ble_eq_true rfl⟩ ⟨Nat.zero_le _, Nat.zero_le _⟩ dX3_paidByAll_25 (fun H locs hS => ?_)
        refine xmin B hl.1 (tw_3 94 rfl rfl) (tw_3 88 rfl rfl) (tw_1 15 rfl rfl) (tw_3 89 rfl rfl) (Nat.le_of_ble_eq_true rfl) (Nat.le_of_ble_eq_true rfl) (Nat.zero_le _) (Nat.zero_le _) dX3_paidByAll_28 ?_
        refine lv_iadd hx hb dX3_paidByAll_31 ?_
        refine lv_topi (fun x2_1008 ex => ?_)
        obtain ⟨z, ez, hrun⟩ := bsE hrun
        obtain rfl : x2_1008 = z := ex.trans ez.symm
        clear ex ez
        refine lv_istore_n (lv' := [(2, .int x2_1008), (0, .ref (X.2.1 h0)), (1, .int x1), (3, .int x3)]) hx hb dX3_paidByAll_32 rfl hl (by decide) rfl (fun ls hl => ?_)
        refine lv_iinc (v := x3 + (1 : Int32)) (k := 3) (lv' := [(3, .int (x3 + (1 : Int32))), (2, .int x2_1008), (0, .ref (X.2.1 h0)), (1, .int x1)]) hx hb dX3_paidByAll_33 hl rfl rfl (by decide) rfl (fun ls hl => ?_)
        refine lv_goto (tgt := 4) hx hb dX3_paidByAll_36 (by decide) ?_
        exact ih4 x1 x2_1008 (x3 + (1 : Int32)) _ _ _ hS (lv_sub hl [2, 3, 1, 0] rfl) hrun
  unfold fX3_paidByAll at hrun
  refine lv_iconst (v := 0) hx hb dX3_paidByAll_0 (by decide) ?_
  refine lv_istore_n (lv' := [(2, .int (0 : Int32)), (0, .ref (X.2.1 h0)), (1, .int x1)]) hx hb dX3_paidByAll_1 rfl hl (by decide) rfl (fun ls hl => ?_)
  refine lv_iconst (v := 0) hx hb dX3_paidByAll_2 (by decide) ?_
  refine lv_istore_n (lv' := [(3, .int (0 : Int32)), (2, .int (0 : Int32)), (0, .ref (X.2.1 h0)), (1, .int x1)]) hx hb dX3_paidByAll_3 rfl hl (by decide) rfl (fun ls hl => ?_)
  exact hB4 fuelN x1 (0 : Int32) (0 : Int32) _ _ _ hS (lv_sub hl [2, 3, 1, 0] rfl) hrun
theorem mdX3_canPay : MD yX3_canPay 2 := ⟨by decide +kernel, by decide +kernel, by decide +kernel⟩
set_option maxHeartbeats 4000000 in
set_option maxRecDepth 100000 in
theorem kX3_canPay (l : Launch) (X : Cx) (t : St) (h0 : Nat) (e0 : isHall h0) (x1 : Int32) (x2 : Int32) (r : Int32) (hrun : fX3_canPay h0 t x1 x2 = some r) : Ci l X t yX3_canPay cX3_canPay 5 .boolean 2 48 [.ref (X.2.1 h0), .int x1, .int x2] r t := by
  refine Ci_of (by decide) (Nat.le_of_ble_eq_true rfl) ?_
  intro p e s m args below meth c Q B hret hS ls hl
  have hx := B.1
  have hb := B.2.1
  have hown := B.2.2.2.1
  have hts := B.2.2.2.2.1
  have hl : lv_has ls 5 [(0, .ref (X.2.1 h0)), (1, .int x1), (2, .int x2)] := hl
  have hB5 : ∀ (n5 : Nat) (x1 : Int32) (x2 : Int32) (x3 : Int32) (x4 : Int32) (H : Heap) (locs : List Loc) (ls : Array Slot), SS X t s.heap H locs → lv_has ls 5 [(0, .ref (X.2.1 h0)), (1, .int x1), (2, .int x2), (3, .int x3), (4, .int x4)] → fX3_canPay_5 h0 t n5 x1 x2 x3 x4 = some r → W p l e ({ frames := 2, cells := 0, slots := 0, locals := 48 } : Room) s m args below meth c H locs 0 0 Q (F0 m 5 ls []) := by
    intro n5
    induction n5 with
    | zero =>
      intro x1 x2 x3 x4 H locs ls hS hl hrun
      cases (show (none : Option (Int32)) = some r from hrun)
    | succ n5 ih5 =>
      intro x1 x2 x3 x4 H locs ls hS hl hrun
      rw [fX3_canPay_5_s] at hrun
      refine lv_iload hx hb dX3_canPay_5 (lv_at hl 4 rfl) ?_
      refine lv_aload_n hx hb dX3_canPay_7 rfl (lv_at hl 0 rfl) ?_
      refine gX3_37 B hS e0 dX3_canPay_8 ?_
      refine gX3_63 B hS reg_3 dX3_canPay_11 ?_
      refine lv_icmp_ge (tgt := 59) hx hb dX3_canPay_14 (by decide) (fun hc => ?_) (fun hc => ?_)
      · have hrun := ip hc hrun
        refine lv_iconst (v := 1) hx hb dX3_canPay_59 (by decide) ?_
        exact hret _ _ _ _ _ _ (congrArg (Option.map (fun w => (w, t))) hrun) rfl hS dX3_canPay_60
      · have hrun := iq hc hrun
        refine lv_iload hx hb dX3_canPay_17 (lv_at hl 4 rfl) ?_
        refine lv_iload_n hx hb dX3_canPay_19 rfl (lv_at hl 1 rfl) ?_
        obtain ⟨r_1007, hc_1006, hrun⟩ := bdE hrun
        refine qX3_107 B hS hc_1006 hl.1 (Nat.le_of_ble_eq_true rfl) ⟨Nat.le_of_ble_eq_true rfl, Nat.le_of_ble_eq_true rfl⟩ ⟨Nat.zero_le _, Nat.zero_le _⟩ dX3_canPay_20 (fun H locs hS => ?_)
        refine lv_if_eq (tgt := 53) hx hb dX3_canPay_23 (by decide) (fun hc => ?_) (fun hc => ?_)
        · have hrun := ip hc hrun
          refine lv_iinc (v := x4 + (1 : Int32)) (k := 4) (lv' := [(4, .int (x4 + (1 : Int32))), (0, .ref (X.2.1 h0)), (1, .int x1), (2, .int x2), (3, .int x3)]) hx hb dX3_canPay_53 hl rfl rfl (by decide) rfl (fun ls hl => ?_)
          refine lv_goto (tgt := 5) hx hb dX3_canPay_56 (by decide) ?_
          exact ih5 x1 x2 x3 (x4 + (1 : Int32)) _ _ _ hS (lv_sub hl [1, 2, 3, 4, 0] rfl) hrun
        · have hrun := iq hc hrun
          refine lv_aload_n hx hb dX3_canPay_26 rfl (lv_at hl 0 rfl) ?_
          refine gX3_28 B hS e0 dX3_canPay_27 ?_
          refine lv_iload hx hb dX3_canPay_30 (lv_at hl 4 rfl) ?_
          obtain ⟨hi_1008, hrun⟩ := gdE hrun
          refine xa B hS (iaX3_2 e0) hi_1008 dX3_canPay_32 ?_
          refine lv_aload_n hx hb dX3_canPay_33 rfl (lv_at hl 0 rfl) ?_
          refine lv_aload_n hx hb dX3_canPay_34 rfl (lv_at hl 0 rfl) ?_
          refine gX3_9 B hS e0 dX3_canPay_35 ?_
          refine lv_iload hx hb dX3_canPay_38 (lv_at hl 4 rfl) ?_
          refine lv_iload_n hx hb dX3_canPay_40 rfl (lv_at hl 3 rfl) ?_
          refine lv_iload_n hx hb dX3_canPay_41 rfl (lv_at hl 2 rfl) ?_
          obtain ⟨r_1010, hc_1009, hrun⟩ := bdE hrun
          refine qX3_94 B hS e0 hc_1009 hl.1 (Nat.le_of_ble_eq_true rfl) ⟨Nat.le_of_ble_eq_true rfl, Nat.le_of_ble_eq_true rfl⟩ ⟨Nat.zero_le _, Nat.zero_le _⟩ dX3_canPay_42 (fun H locs hS => ?_)
          refine lv_icmp_ge (tgt := 50) hx hb dX3_canPay_45 (by decide) (fun hc => ?_) (fun hc => ?_)
          · have hrun := ip hc hrun
            refine lv_iinc (v := x3 + (1 : Int32)) (k := 3) (lv' := [(3, .int (x3 + (1 : Int32))), (0, .ref (X.2.1 h0)), (1, .int x1), (2, .int x2), (4, .int x4)]) hx hb dX3_canPay_50 hl rfl rfl (by decide) rfl (fun ls hl => ?_)
            refine lv_iinc (v := x4 + (1 : Int32)) (k := 4) (lv' := [(4, .int (x4 + (1 : Int32))), (3, .int (x3 + (1 : Int32))), (0, .ref (X.2.1 h0)), (1, .int x1), (2, .int x2)]) hx hb dX3_canPay_53 hl rfl rfl (by decide) rfl (fun ls hl => ?_)
            refine lv_goto (tgt := 5) hx hb dX3_canPay_56 (by decide) ?_
            exact ih5 x1 x2 (x3 + (1 : Int32)) (x4 + (1 : Int32)) _ _ _ hS (lv_sub hl [2, 3, 4, 1, 0] rfl) hrun
          · have hrun := iq hc hrun
            refine lv_iconst (v := 0) hx hb dX3_canPay_48 (by decide) ?_
            exact hret _ _ _ _ _ _ (congrArg (Option.map (fun w => (w, t))) hrun) rfl hS dX3_canPay_49
  unfold fX3_canPay at hrun
  refine lv_iconst (v := 0) hx hb dX3_canPay_0 (by decide) ?_
  refine lv_istore_n (lv' := [(3, .int (0 : Int32)), (0, .ref (X.2.1 h0)), (1, .int x1), (2, .int x2)]) hx hb dX3_canPay_1 rfl hl (by decide) rfl (fun ls hl => ?_)
  refine lv_iconst (v := 0) hx hb dX3_canPay_2 (by decide) ?_
  refine lv_istore (lv' := [(4, .int (0 : Int32)), (3, .int (0 : Int32)), (0, .ref (X.2.1 h0)), (1, .int x1), (2, .int x2)]) hx hb dX3_canPay_3 hl (by decide) rfl (fun ls hl => ?_)
  exact hB5 fuelN x1 x2 (0 : Int32) (0 : Int32) _ _ _ hS (lv_sub hl [2, 3, 4, 1, 0] rfl) hrun
theorem mdX3_mostBorne : MD yX3_mostBorne 2 := ⟨by decide +kernel, by decide +kernel, by decide +kernel⟩
section QX3_mostBorne
variable {p : Program} {l : Launch} {e : Env} {R : Room} {s : State} {m : MethodId} {args : Array Value} {below : List Frame} {meth : Method} {c : Code} {H : Heap} {locs : List Loc} {cells slots : Nat} {Q : State → Prop}
variable {cc : ByteArray} {pc : Nat} {ls : Array Slot} {rest : List Value} {X : Cx} {t : St} {H0 : Heap} {nL : Nat}
theorem qX3_111 (B : Bx p s m args c cc nL X RX3) (hS : SS X t H0 H locs) {h0 : Nat} (e0 : isReg h0) {r : Int32} (hM : fX8_everyone h0 t = some r) (hsz : ls.size = nL) (hW : (rest.map fun v => v.category).sum ≤ 8) (hR : 0 + 1 ≤ R.frames ∧ 8 + (1 + 11) + 0 ≤ R.locals) (hR2 : cells ≤ R.cells ∧ slots ≤ R.slots) (hdg : decode cc pc = .ok (.invokevirtual 111, 3)) (kk : ∀ (H1 : Heap) (locs1 : List Loc), SS X t H0 H1 locs1 → W p l e R s m args below meth c H1 locs1 cells slots Q (F0 m (pc + 3) ls (.int r :: rest))) : W p l e R s m args below meth c H locs cells slots Q (F0 m pc ls (.ref (X.2.1 h0) :: rest)) :=
  xVi B hS (kX8_everyone l X t h0 e0 r hM) (tw_3 209 rfl rfl) (tw_3 0 rfl rfl) (tw_3 1 rfl rfl) (tw_1 2 rfl rfl) (tw_3 2 rfl rfl) mdX8_everyone (reg_lt e0) (ceX8 e0 _) rfl rfl rfl hsz rfl hW hR hR2 hdg kk
theorem qX3_114 (B : Bx p s m args c cc nL X RX3) (hS : SS X t H0 H locs) {h0 : Nat} (e0 : isHall h0) {x1 : Int32} {x2 : Int32} {r : Int32} (hM : fX3_canPay h0 t x1 x2 = some r) (hsz : ls.size = nL) (hW : (rest.map fun v => v.category).sum ≤ 8) (hR : 2 + 1 ≤ R.frames ∧ 8 + (5 + 11) + 48 ≤ R.locals) (hR2 : cells ≤ R.cells ∧ slots ≤ R.slots) (hdg : decode cc pc = .ok (.invokevirtual 114, 3)) (kk : ∀ (H1 : Heap) (locs1 : List Loc), SS X t H0 H1 locs1 → W p l e R s m args below meth c H1 locs1 cells slots Q (F0 m (pc + 3) ls (.int r :: rest))) : W p l e R s m args below meth c H locs cells slots Q (F0 m pc ls (.int x2 :: .int x1 :: .ref (X.2.1 h0) :: rest)) :=
  xVi B hS (kX3_canPay l X t h0 e0 x1 x2 r hM) (tw_3 210 rfl rfl) (tw_3 212 rfl rfl) (tw_0 14 rfl rfl) (tw_1 4 rfl rfl) (tw_3 213 rfl rfl) mdX3_canPay (hall_lt e0) (ceX3 e0 _) rfl rfl rfl hsz rfl hW hR hR2 hdg kk
end QX3_mostBorne
set_option maxHeartbeats 4000000 in
set_option maxRecDepth 100000 in
theorem kX3_mostBorne (l : Launch) (X : Cx) (t : St) (h0 : Nat) (e0 : isHall h0) (x1 : Int32) (x2 : Int32) (r : Int32) (hrun : fX3_mostBorne h0 t x1 x2 = some r) : Ci l X t yX3_mostBorne cX3_mostBorne 5 .int 3 72 [.ref (X.2.1 h0), .int x1, .int x2] r t := by
  refine Ci_of (by decide) (Nat.le_of_ble_eq_true rfl) ?_
  intro p e s m args below meth c Q B hret hS ls hl
  have hx := B.1
  have hb := B.2.1
  have hown := B.2.2.2.1
  have hts := B.2.2.2.2.1
  have hl : lv_has ls 5 [(0, .ref (X.2.1 h0)), (1, .int x1), (2, .int x2)] := hl
  have hB5 : ∀ (n5 : Nat) (x1 : Int32) (x2 : Int32) (x3 : Int32) (x4 : Int32) (H : Heap) (locs : List Loc) (ls : Array Slot), SS X t s.heap H locs → lv_has ls 5 [(0, .ref (X.2.1 h0)), (1, .int x1), (2, .int x2), (3, .int x3), (4, .int x4)] → fX3_mostBorne_5 h0 t n5 x1 x2 x3 x4 = some r → W p l e ({ frames := 3, cells := 0, slots := 0, locals := 72 } : Room) s m args below meth c H locs 0 0 Q (F0 m 5 ls []) := by
    intro n5
    induction n5 with
    | zero =>
      intro x1 x2 x3 x4 H locs ls hS hl hrun
      cases (show (none : Option (Int32)) = some r from hrun)
    | succ n5 ih5 =>
      intro x1 x2 x3 x4 H locs ls hS hl hrun
      rw [fX3_mostBorne_5_s] at hrun
      refine lv_iload hx hb dX3_mostBorne_5 (lv_at hl 4 rfl) ?_
      refine lv_aload_n hx hb dX3_mostBorne_7 rfl (lv_at hl 0 rfl) ?_
      refine gX3_37 B hS e0 dX3_mostBorne_8 ?_
      obtain ⟨r_1007, hc_1006, hrun⟩ := bdE hrun
      refine qX3_111 B hS reg_3 hc_1006 hl.1 (Nat.le_of_ble_eq_true rfl) ⟨Nat.le_of_ble_eq_true rfl, Nat.le_of_ble_eq_true rfl⟩ ⟨Nat.zero_le _, Nat.zero_le _⟩ dX3_mostBorne_11 (fun H locs hS => ?_)
      refine lv_icmp_gt (tgt := 57) hx hb dX3_mostBorne_14 (by decide) (fun hc => ?_) (fun hc => ?_)
      · have hrun := ip hc hrun
        refine lv_iload_n hx hb dX3_mostBorne_57 rfl (lv_at hl 3 rfl) ?_
        exact hret _ _ _ _ _ _ (congrArg (Option.map (fun w => (w, t))) hrun) rfl hS dX3_mostBorne_58
      · have hrun := iq hc hrun
        refine lv_iload hx hb dX3_mostBorne_17 (lv_at hl 4 rfl) ?_
        refine lv_iload_n hx hb dX3_mostBorne_19 rfl (lv_at hl 1 rfl) ?_
        refine lv_iconst (v := -1) hx hb dX3_mostBorne_20 (by decide) ?_
        refine lv_ixor hx hb dX3_mostBorne_21 ?_
        refine lv_iand hx hb dX3_mostBorne_22 ?_
        refine lv_if_ne (tgt := 51) hx hb dX3_mostBorne_23 (by decide) (fun hc => ?_) (fun hc => ?_)
        · have hrun := iq hc hrun
          refine lv_iinc (v := x4 + (1 : Int32)) (k := 4) (lv' := [(4, .int (x4 + (1 : Int32))), (0, .ref (X.2.1 h0)), (1, .int x1), (2, .int x2), (3, .int x3)]) hx hb dX3_mostBorne_51 hl rfl rfl (by decide) rfl (fun ls hl => ?_)
          refine lv_goto (tgt := 5) hx hb dX3_mostBorne_54 (by decide) ?_
          exact ih5 x1 x2 x3 (x4 + (1 : Int32)) _ _ _ hS (lv_sub hl [1, 2, 3, 4, 0] rfl) hrun
        · have hrun := ip hc hrun
          refine lv_iload hx hb dX3_mostBorne_26 (lv_at hl 4 rfl) ?_
          obtain ⟨r_1009, hc_1008, hrun⟩ := bdE hrun
          refine qX3_74 B hS hc_1008 hl.1 (Nat.le_of_ble_eq_true rfl) ⟨Nat.le_of_ble_eq_true rfl, Nat.le_of_ble_eq_true rfl⟩ ⟨Nat.zero_le _, Nat.zero_le _⟩ dX3_mostBorne_28 (fun H locs hS => ?_)
          refine lv_iload_n hx hb dX3_mostBorne_31 rfl (lv_at hl 3 rfl) ?_
          obtain ⟨r_1011, hc_1010, hrun⟩ := bdE hrun
          refine qX3_74 B hS hc_1010 hl.1 (Nat.le_of_ble_eq_true rfl) ⟨Nat.le_of_ble_eq_true rfl, Nat.le_of_ble_eq_true rfl⟩ ⟨Nat.zero_le _, Nat.zero_le _⟩ dX3_mostBorne_32 (fun H locs hS => ?_)
          refine lv_icmp_le (tgt := 51) hx hb dX3_mostBorne_35 (by decide) (fun hc => ?_) (fun hc => ?_)
          · have hrun := ip hc hrun
            refine lv_iinc (v := x4 + (1 : Int32)) (k := 4) (lv' := [(4, .int (x4 + (1 : Int32))), (0, .ref (X.2.1 h0)), (1, .int x1), (2, .int x2), (3, .int x3)]) hx hb dX3_mostBorne_51 hl rfl rfl (by decide) rfl (fun ls hl => ?_)
            refine lv_goto (tgt := 5) hx hb dX3_mostBorne_54 (by decide) ?_
            exact ih5 x1 x2 x3 (x4 + (1 : Int32)) _ _ _ hS (lv_sub hl [1, 2, 3, 4, 0] rfl) hrun
          · have hrun := iq hc hrun
            refine lv_aload_n hx hb dX3_mostBorne_38 rfl (lv_at hl 0 rfl) ?_
            refine lv_iload hx hb dX3_mostBorne_39 (lv_at hl 4 rfl) ?_
            refine lv_iload_n hx hb dX3_mostBorne_41 rfl (lv_at hl 2 rfl) ?_
            obtain ⟨r_1013, hc_1012, hrun⟩ := bdE hrun
            refine qX3_114 B hS e0 hc_1012 hl.1 (Nat.le_of_ble_eq_true rfl) ⟨Nat.le_of_ble_eq_true rfl, Nat.le_of_ble_eq_true rfl⟩ ⟨Nat.zero_le _, Nat.zero_le _⟩ dX3_mostBorne_42 (fun H locs hS => ?_)
            refine lv_if_eq (tgt := 51) hx hb dX3_mostBorne_45 (by decide) (fun hc => ?_) (fun hc => ?_)
            · have hrun := ip hc hrun
              refine lv_iinc (v := x4 + (1 : Int32)) (k := 4) (lv' := [(4, .int (x4 + (1 : Int32))), (0, .ref (X.2.1 h0)), (1, .int x1), (2, .int x2), (3, .int x3)]) hx hb dX3_mostBorne_51 hl rfl rfl (by decide) rfl (fun ls hl => ?_)
              refine lv_goto (tgt := 5) hx hb dX3_mostBorne_54 (by decide) ?_
              exact ih5 x1 x2 x3 (x4 + (1 : Int32)) _ _ _ hS (lv_sub hl [1, 2, 3, 4, 0] rfl) hrun
            · have hrun := iq hc hrun
              refine lv_iload hx hb dX3_mostBorne_48 (lv_at hl 4 rfl) ?_
              refine lv_istore_n (lv' := [(3, .int x4), (0, .ref (X.2.1 h0)), (1, .int x1), (2, .int x2), (4, .int x4)]) hx hb dX3_mostBorne_50 rfl hl (by decide) rfl (fun ls hl => ?_)
              refine lv_iinc (v := x4 + (1 : Int32)) (k := 4) (lv' := [(4, .int (x4 + (1 : Int32))), (3, .int x4), (0, .ref (X.2.1 h0)), (1, .int x1), (2, .int x2)]) hx hb dX3_mostBorne_51 hl rfl rfl (by decide) rfl (fun ls hl => ?_)
              refine lv_goto (tgt := 5) hx hb dX3_mostBorne_54 (by decide) ?_
              exact ih5 x1 x2 x4 (x4 + (1 : Int32)) _ _ _ hS (lv_sub hl [2, 3, 4, 1, 0] rfl) hrun
  unfold fX3_mostBorne at hrun
  refine lv_iconst (v := 0) hx hb dX3_mostBorne_0 (by decide) ?_
  refine lv_istore_n (lv' := [(3, .int (0 : Int32)), (0, .ref (X.2.1 h0)), (1, .int x1), (2, .int x2)]) hx hb dX3_mostBorne_1 rfl hl (by decide) rfl (fun ls hl => ?_)
  refine lv_iconst (v := 0) hx hb dX3_mostBorne_2 (by decide) ?_
  refine lv_istore (lv' := [(4, .int (0 : Int32)), (3, .int (0 : Int32)), (0, .ref (X.2.1 h0)), (1, .int x1), (2, .int x2)]) hx hb dX3_mostBorne_3 hl (by decide) rfl (fun ls hl => ?_)
  exact hB5 fuelN x1 x2 (0 : Int32) (0 : Int32) _ _ _ hS (lv_sub hl [2, 3, 4, 1, 0] rfl) hrun
theorem mdX3_letIn : MD yX3_letIn 1 := ⟨by decide +kernel, by decide +kernel, by decide +kernel⟩
section QX3_letIn
variable {p : Program} {l : Launch} {e : Env} {R : Room} {s : State} {m : MethodId} {args : Array Value} {below : List Frame} {meth : Method} {c : Code} {H : Heap} {locs : List Loc} {cells slots : Nat} {Q : State → Prop}
variable {cc : ByteArray} {pc : Nat} {ls : Array Slot} {rest : List Value} {X : Cx} {t : St} {H0 : Heap} {nL : Nat}
theorem qX3_117 (B : Bx p s m args c cc nL X RX3) (hS : SS X t H0 H locs) {h0 : Nat} (e0 : isHall h0) {x1 : Int32} {r : Int32} (hM : fX3_voicesIn h0 t x1 = some r) (hsz : ls.size = nL) (hW : (rest.map fun v => v.category).sum ≤ 8) (hR : 1 + 1 ≤ R.frames ∧ 8 + (2 + 11) + 23 ≤ R.locals) (hR2 : cells ≤ R.cells ∧ slots ≤ R.slots) (hdg : decode cc pc = .ok (.invokevirtual 117, 3)) (kk : ∀ (H1 : Heap) (locs1 : List Loc), SS X t H0 H1 locs1 → W p l e R s m args below meth c H1 locs1 cells slots Q (F0 m (pc + 3) ls (.int r :: rest))) : W p l e R s m args below meth c H locs cells slots Q (F0 m pc ls (.int x1 :: .ref (X.2.1 h0) :: rest)) :=
  xVi B hS (kX3_voicesIn l X t h0 e0 x1 r hM) (tw_3 113 rfl rfl) (tw_3 114 rfl rfl) (tw_3 115 rfl rfl) (tw_1 4 rfl rfl) (tw_3 116 rfl rfl) mdX3_voicesIn (hall_lt e0) (ceX3 e0 _) rfl rfl rfl hsz rfl hW hR hR2 hdg kk
end QX3_letIn
set_option maxHeartbeats 4000000 in
set_option maxRecDepth 100000 in
theorem kX3_letIn (l : Launch) (X : Cx) (t : St) (h0 : Nat) (e0 : isHall h0) (x1 : Int32) (t' : St) (hrun : fX3_letIn h0 t x1 = some t') : Cv l X t yX3_letIn cX3_letIn 2 2 44 [.ref (X.2.1 h0), .int x1] t' := by
  refine Cv_of (by decide) (Nat.le_of_ble_eq_true rfl) ?_
  intro p e s m args below meth c Q B hret hS ls hl
  have hx := B.1
  have hb := B.2.1
  have hown := B.2.2.2.1
  have hts := B.2.2.2.2.1
  have hl : lv_has ls 2 [(0, .ref (X.2.1 h0)), (1, .int x1)] := hl
  unfold fX3_letIn at hrun
  refine lv_aload_n hx hb dX3_letIn_0 rfl (lv_at hl 0 rfl) ?_
  refine gX3_37 B hS e0 dX3_letIn_1 ?_
  refine lv_iload_n hx hb dX3_letIn_4 rfl (lv_at hl 1 rfl) ?_
  obtain ⟨r_2, hc_1, hrun⟩ := bdE hrun
  refine qX3_59 B hS reg_3 hc_1 hl.1 (Nat.le_of_ble_eq_true rfl) ⟨Nat.le_of_ble_eq_true rfl, Nat.le_of_ble_eq_true rfl⟩ ⟨Nat.zero_le _, Nat.zero_le _⟩ dX3_letIn_5 (fun H locs hS => ?_)
  refine lv_if_eq (tgt := 37) hx hb dX3_letIn_8 (by decide) (fun hc => ?_) (fun hc => ?_)
  · have hrun := ip hc hrun
    exact hret _ _ _ _ _ hrun hS dX3_letIn_37
  · have hrun := iq hc hrun
    refine lv_aload_n hx hb dX3_letIn_11 rfl (lv_at hl 0 rfl) ?_
    refine gX3_31 B hS e0 dX3_letIn_12 ?_
    refine lv_iload_n hx hb dX3_letIn_15 rfl (lv_at hl 1 rfl) ?_
    obtain ⟨hi_3, hrun⟩ := gdE hrun
    refine xa B hS (iaX3_3 e0) hi_3 dX3_letIn_16 ?_
    refine lv_iconst (v := -1) hx hb dX3_letIn_17 (by decide) ?_
    refine lv_icmp_ne (tgt := 37) hx hb dX3_letIn_18 (by decide) (fun hc => ?_) (fun hc => ?_)
    · have hrun := iq hc hrun
      exact hret _ _ _ _ _ hrun hS dX3_letIn_37
    · have hrun := ip hc hrun
      refine lv_aload_n hx hb dX3_letIn_21 rfl (lv_at hl 0 rfl) ?_
      refine gX3_31 B hS e0 dX3_letIn_22 ?_
      refine lv_iload_n hx hb dX3_letIn_25 rfl (lv_at hl 1 rfl) ?_
      refine lv_aload_n hx hb dX3_letIn_26 rfl (lv_at hl 0 rfl) ?_
      refine lv_aload_n hx hb dX3_letIn_27 rfl (lv_at hl 0 rfl) ?_
      refine gX3_24 B hS e0 dX3_letIn_28 ?_
      refine lv_iload_n hx hb dX3_letIn_31 rfl (lv_at hl 1 rfl) ?_
      obtain ⟨hi_4, hrun⟩ := gdE hrun
      refine xa B hS (iaX3_1 e0) hi_4 dX3_letIn_32 ?_
      obtain ⟨r_6, hc_5, hrun⟩ := bdE hrun
      refine qX3_117 B hS e0 hc_5 hl.1 (Nat.le_of_ble_eq_true rfl) ⟨Nat.le_of_ble_eq_true rfl, Nat.le_of_ble_eq_true rfl⟩ ⟨Nat.zero_le _, Nat.zero_le _⟩ dX3_letIn_33 (fun H locs hS => ?_)
      obtain ⟨hi_7, hrun⟩ := gdE hrun
      refine xs B hS (iaX3_3 e0) hi_7 dX3_letIn_36 (fun H locs hS => ?_)
      obtain ⟨t_8, et, hrun⟩ := bsE hrun
      have hS : SS X t_8 s.heap H locs := by rw [et]; exact hS
      clear et
      exact hret _ _ _ _ _ hrun hS dX3_letIn_37
theorem mdX3_silence : MD yX3_silence 1 := ⟨by decide +kernel, by decide +kernel, by decide +kernel⟩
set_option maxHeartbeats 4000000 in
set_option maxRecDepth 100000 in
theorem kX3_silence (l : Launch) (X : Cx) (t : St) (h0 : Nat) (e0 : isHall h0) (x1 : Int32) (t' : St) (hrun : fX3_silence h0 t x1 = some t') : Cv l X t yX3_silence cX3_silence 3 2 42 [.ref (X.2.1 h0), .int x1] t' := by
  refine Cv_of (by decide) (Nat.le_of_ble_eq_true rfl) ?_
  intro p e s m args below meth c Q B hret hS ls hl
  have hx := B.1
  have hb := B.2.1
  have hown := B.2.2.2.1
  have hts := B.2.2.2.2.1
  have hl : lv_has ls 3 [(0, .ref (X.2.1 h0)), (1, .int x1)] := hl
  have hB68 : ∀ (t : St) (x1 : Int32) (H : Heap) (locs : List Loc) (ls : Array Slot), SS X t s.heap H locs → lv_has ls 3 [(0, .ref (X.2.1 h0)), (1, .int x1)] → fX3_silence_68 h0 t x1 = some t' → W p l e ({ frames := 2, cells := 0, slots := 0, locals := 42 } : Room) s m args below meth c H locs 0 0 Q (F0 m 68 ls []) := by
    intro t x1 H locs ls hS hl hrun
    unfold fX3_silence_68 at hrun
    refine lv_aload_n hx hb dX3_silence_68 rfl (lv_at hl 0 rfl) ?_
    refine gX3_31 B hS e0 dX3_silence_69 ?_
    refine lv_iload_n hx hb dX3_silence_72 rfl (lv_at hl 1 rfl) ?_
    refine lv_iconst (v := -1) hx hb dX3_silence_73 (by decide) ?_
    obtain ⟨hi_1069, hrun⟩ := gdE hrun
    refine xs B hS (iaX3_3 e0) hi_1069 dX3_silence_74 (fun H locs hS => ?_)
    obtain ⟨t_1070, et, hrun⟩ := bsE hrun
    have hS : SS X t_1070 s.heap H locs := by rw [et]; exact hS
    clear et
    exact hret _ _ _ _ _ hrun hS dX3_silence_75
  have hB11 : ∀ (n11 : Nat) (t : St) (x1 : Int32) (x2 : Int32) (H : Heap) (locs : List Loc) (ls : Array Slot), SS X t s.heap H locs → lv_has ls 3 [(0, .ref (X.2.1 h0)), (1, .int x1), (2, .int x2)] → fX3_silence_11 h0 n11 t x1 x2 = some t' → W p l e ({ frames := 2, cells := 0, slots := 0, locals := 42 } : Room) s m args below meth c H locs 0 0 Q (F0 m 11 ls []) := by
    intro n11
    induction n11 with
    | zero =>
      intro t x1 x2 H locs ls hS hl hrun
      cases (show (none : Option (St)) = some t' from hrun)
    | succ n11 ih11 =>
      intro t x1 x2 H locs ls hS hl hrun
      rw [fX3_silence_11_s] at hrun
      refine lv_iload_n hx hb dX3_silence_11 rfl (lv_at hl 2 rfl) ?_
      refine lv_aload_n hx hb dX3_silence_12 rfl (lv_at hl 0 rfl) ?_
      refine gX3_37 B hS e0 dX3_silence_13 ?_
      refine gX3_63 B hS reg_3 dX3_silence_16 ?_
      refine lv_icmp_ge (tgt := 68) hx hb dX3_silence_19 (by decide) (fun hc => ?_) (fun hc => ?_)
      · have hrun := ip hc hrun
        exact hB68 t x1 _ _ _ hS (lv_sub hl [0, 1] rfl) hrun
      · have hrun := iq hc hrun
        refine lv_aload_n hx hb dX3_silence_22 rfl (lv_at hl 0 rfl) ?_
        refine gX3_24 B hS e0 dX3_silence_23 ?_
        refine lv_iload_n hx hb dX3_silence_26 rfl (lv_at hl 2 rfl) ?_
        obtain ⟨hi_1012, hrun⟩ := gdE hrun
        refine xa B hS (iaX3_1 e0) hi_1012 dX3_silence_27 ?_
        refine lv_aload_n hx hb dX3_silence_28 rfl (lv_at hl 0 rfl) ?_
        refine gX3_24 B hS e0 dX3_silence_29 ?_
        refine lv_iload_n hx hb dX3_silence_32 rfl (lv_at hl 1 rfl) ?_
        obtain ⟨hi_1013, hrun⟩ := gdE hrun
        refine xa B hS (iaX3_1 e0) hi_1013 dX3_silence_33 ?_
        refine lv_icmp_ne (tgt := 62) hx hb dX3_silence_34 (by decide) (fun hc => ?_) (fun hc => ?_)
        · have hrun := iq hc hrun
          refine lv_iinc (v := x2 + (1 : Int32)) (k := 2) (lv' := [(2, .int (x2 + (1 : Int32))), (0, .ref (X.2.1 h0)), (1, .int x1)]) hx hb dX3_silence_62 hl rfl rfl (by decide) rfl (fun ls hl => ?_)
          refine lv_goto (tgt := 11) hx hb dX3_silence_65 (by decide) ?_
          exact ih11 t x1 (x2 + (1 : Int32)) _ _ _ hS (lv_sub hl [1, 2, 0] rfl) hrun
        · have hrun := ip hc hrun
          refine lv_aload_n hx hb dX3_silence_37 rfl (lv_at hl 0 rfl) ?_
          refine gX3_31 B hS e0 dX3_silence_38 ?_
          refine lv_iload_n hx hb dX3_silence_41 rfl (lv_at hl 2 rfl) ?_
          obtain ⟨hi_1014, hrun⟩ := gdE hrun
          refine xa B hS (iaX3_3 e0) hi_1014 dX3_silence_42 ?_
          refine lv_aload_n hx hb dX3_silence_43 rfl (lv_at hl 0 rfl) ?_
          refine gX3_31 B hS e0 dX3_silence_44 ?_
          refine lv_iload_n hx hb dX3_silence_47 rfl (lv_at hl 1 rfl) ?_
          obtain ⟨hi_1015, hrun⟩ := gdE hrun
          refine xa B hS (iaX3_3 e0) hi_1015 dX3_silence_48 ?_
          refine lv_icmp_le (tgt := 62) hx hb dX3_silence_49 (by decide) (fun hc => ?_) (fun hc => ?_)
          · have hrun := ip hc hrun
            refine lv_iinc (v := x2 + (1 : Int32)) (k := 2) (lv' := [(2, .int (x2 + (1 : Int32))), (0, .ref (X.2.1 h0)), (1, .int x1)]) hx hb dX3_silence_62 hl rfl rfl (by decide) rfl (fun ls hl => ?_)
            refine lv_goto (tgt := 11) hx hb dX3_silence_65 (by decide) ?_
            exact ih11 t x1 (x2 + (1 : Int32)) _ _ _ hS (lv_sub hl [1, 2, 0] rfl) hrun
          · have hrun := iq hc hrun
            refine lv_aload_n hx hb dX3_silence_52 rfl (lv_at hl 0 rfl) ?_
            refine gX3_31 B hS e0 dX3_silence_53 ?_
            refine lv_iload_n hx hb dX3_silence_56 rfl (lv_at hl 2 rfl) ?_
            refine lv_dup2_11 hx hb dX3_silence_57 rfl rfl ?_
            obtain ⟨hi_1016, hrun⟩ := gdE hrun
            refine xa B hS (iaX3_3 e0) hi_1016 dX3_silence_58 ?_
            refine lv_iconst (v := 1) hx hb dX3_silence_59 (by decide) ?_
            refine lv_isub hx hb dX3_silence_60 ?_
            obtain ⟨hi_1017, hrun⟩ := gdE hrun
            refine xs B hS (iaX3_3 e0) hi_1017 dX3_silence_61 (fun H locs hS => ?_)
            obtain ⟨t_1018, et, hrun⟩ := bsE hrun
            have hS : SS X t_1018 s.heap H locs := by rw [et]; exact hS
            clear et
            refine lv_iinc (v := x2 + (1 : Int32)) (k := 2) (lv' := [(2, .int (x2 + (1 : Int32))), (0, .ref (X.2.1 h0)), (1, .int x1)]) hx hb dX3_silence_62 hl rfl rfl (by decide) rfl (fun ls hl => ?_)
            refine lv_goto (tgt := 11) hx hb dX3_silence_65 (by decide) ?_
            exact ih11 t_1018 x1 (x2 + (1 : Int32)) _ _ _ hS (lv_sub hl [1, 2, 0] rfl) hrun
  unfold fX3_silence at hrun
  refine lv_aload_n hx hb dX3_silence_0 rfl (lv_at hl 0 rfl) ?_
  refine lv_iload_n hx hb dX3_silence_1 rfl (lv_at hl 1 rfl) ?_
  obtain ⟨r_2, hc_1, hrun⟩ := bdE hrun
  refine qX3_91 B hS e0 hc_1 hl.1 (Nat.le_of_ble_eq_true rfl) ⟨Nat.le_of_ble_eq_true rfl, Nat.le_of_ble_eq_true rfl⟩ ⟨Nat.zero_le _, Nat.zero_le _⟩ dX3_silence_2 (fun H locs hS => ?_)
  refine lv_if_ne (tgt := 9) hx hb dX3_silence_5 (by decide) (fun hc => ?_) (fun hc => ?_)
  · have hrun := iq hc hrun
    refine lv_iconst (v := 0) hx hb dX3_silence_9 (by decide) ?_
    refine lv_istore_n (lv' := [(2, .int (0 : Int32)), (0, .ref (X.2.1 h0)), (1, .int x1)]) hx hb dX3_silence_10 rfl hl (by decide) rfl (fun ls hl => ?_)
    exact hB11 fuelN t x1 (0 : Int32) _ _ _ hS (lv_sub hl [1, 2, 0] rfl) hrun
  · have hrun := ip hc hrun
    exact hret _ _ _ _ _ hrun hS dX3_silence_8
theorem mdX3_move : MD yX3_move 2 := ⟨by decide +kernel, by decide +kernel, by decide +kernel⟩
section QX3_move
variable {p : Program} {l : Launch} {e : Env} {R : Room} {s : State} {m : MethodId} {args : Array Value} {below : List Frame} {meth : Method} {c : Code} {H : Heap} {locs : List Loc} {cells slots : Nat} {Q : State → Prop}
variable {cc : ByteArray} {pc : Nat} {ls : Array Slot} {rest : List Value} {X : Cx} {t : St} {H0 : Heap} {nL : Nat}
theorem qX3_120 (B : Bx p s m args c cc nL X RX3) (hS : SS X t H0 H locs) {h0 : Nat} (e0 : isHall h0) {x1 : Int32} {t' : St} (hM : fX3_silence h0 t x1 = some t') (hsz : ls.size = nL) (hW : (rest.map fun v => v.category).sum ≤ 8) (hR : 2 + 1 ≤ R.frames ∧ 8 + (3 + 11) + 42 ≤ R.locals) (hR2 : cells ≤ R.cells ∧ slots ≤ R.slots) (hdg : decode cc pc = .ok (.invokevirtual 120, 3)) (kk : ∀ (H1 : Heap) (locs1 : List Loc), SS X t' H0 H1 locs1 → W p l e R s m args below meth c H1 locs1 cells slots Q (F0 m (pc + 3) ls (rest))) : W p l e R s m args below meth c H locs cells slots Q (F0 m pc ls (.int x1 :: .ref (X.2.1 h0) :: rest)) :=
  xVv B hS (kX3_silence l X t h0 e0 x1 t' hM) (tw_3 100 rfl rfl) (tw_3 101 rfl rfl) (tw_3 102 rfl rfl) (tw_1 4 rfl rfl) (tw_3 103 rfl rfl) mdX3_silence (hall_lt e0) (ceX3 e0 _) rfl rfl rfl hsz rfl hW hR hR2 hdg kk
end QX3_move
set_option maxHeartbeats 4000000 in
set_option maxRecDepth 100000 in
theorem kX3_move (l : Launch) (X : Cx) (t : St) (h0 : Nat) (e0 : isHall h0) (x1 : Int32) (x2 : Int32) (t' : St) (hrun : fX3_move h0 t x1 x2 = some t') : Cv l X t yX3_move cX3_move 3 3 64 [.ref (X.2.1 h0), .int x1, .int x2] t' := by
  refine Cv_of (by decide) (Nat.le_of_ble_eq_true rfl) ?_
  intro p e s m args below meth c Q B hret hS ls hl
  have hx := B.1
  have hb := B.2.1
  have hown := B.2.2.2.1
  have hts := B.2.2.2.2.1
  have hl : lv_has ls 3 [(0, .ref (X.2.1 h0)), (1, .int x1), (2, .int x2)] := hl
  unfold fX3_move at hrun
  refine lv_aload_n hx hb dX3_move_0 rfl (lv_at hl 0 rfl) ?_
  refine gX3_37 B hS e0 dX3_move_1 ?_
  refine lv_iload_n hx hb dX3_move_4 rfl (lv_at hl 1 rfl) ?_
  obtain ⟨r_2, hc_1, hrun⟩ := bdE hrun
  refine qX3_59 B hS reg_3 hc_1 hl.1 (Nat.le_of_ble_eq_true rfl) ⟨Nat.le_of_ble_eq_true rfl, Nat.le_of_ble_eq_true rfl⟩ ⟨Nat.zero_le _, Nat.zero_le _⟩ dX3_move_5 (fun H locs hS => ?_)
  refine lv_if_eq (tgt := 33) hx hb dX3_move_8 (by decide) (fun hc => ?_) (fun hc => ?_)
  · have hrun := ip hc hrun
    exact hret _ _ _ _ _ hrun hS dX3_move_33
  · have hrun := iq hc hrun
    refine lv_aload_n hx hb dX3_move_11 rfl (lv_at hl 0 rfl) ?_
    refine gX3_24 B hS e0 dX3_move_12 ?_
    refine lv_iload_n hx hb dX3_move_15 rfl (lv_at hl 1 rfl) ?_
    obtain ⟨hi_3, hrun⟩ := gdE hrun
    refine xa B hS (iaX3_1 e0) hi_3 dX3_move_16 ?_
    refine lv_iload_n hx hb dX3_move_17 rfl (lv_at hl 2 rfl) ?_
    refine lv_icmp_eq (tgt := 33) hx hb dX3_move_18 (by decide) (fun hc => ?_) (fun hc => ?_)
    · have hrun := ip hc hrun
      exact hret _ _ _ _ _ hrun hS dX3_move_33
    · have hrun := iq hc hrun
      refine lv_aload_n hx hb dX3_move_21 rfl (lv_at hl 0 rfl) ?_
      refine lv_iload_n hx hb dX3_move_22 rfl (lv_at hl 1 rfl) ?_
      obtain ⟨t_5, hc_4, hrun⟩ := bdE hrun
      refine qX3_120 B hS e0 hc_4 hl.1 (Nat.le_of_ble_eq_true rfl) ⟨Nat.le_of_ble_eq_true rfl, Nat.le_of_ble_eq_true rfl⟩ ⟨Nat.zero_le _, Nat.zero_le _⟩ dX3_move_23 (fun H locs hS => ?_)
      refine lv_aload_n hx hb dX3_move_26 rfl (lv_at hl 0 rfl) ?_
      refine gX3_24 B hS e0 dX3_move_27 ?_
      refine lv_iload_n hx hb dX3_move_30 rfl (lv_at hl 1 rfl) ?_
      refine lv_iload_n hx hb dX3_move_31 rfl (lv_at hl 2 rfl) ?_
      obtain ⟨hi_6, hrun⟩ := gdE hrun
      refine xs B hS (iaX3_1 e0) hi_6 dX3_move_32 (fun H locs hS => ?_)
      obtain ⟨t_7, et, hrun⟩ := bsE hrun
      have hS : SS X t_7 s.heap H locs := by rw [et]; exact hS
      clear et
      exact hret _ _ _ _ _ hrun hS dX3_move_33
theorem mdX3_fill : MD yX3_fill 2 := ⟨by decide +kernel, by decide +kernel, by decide +kernel⟩
set_option maxHeartbeats 4000000 in
set_option maxRecDepth 100000 in
theorem kX3_fill (l : Launch) (X : Cx) (t : St) (h0 : Nat) (e0 : isHall h0) (x1 : Int32) (x2 : Int32) (t' : St) (hrun : fX3_fill h0 t x1 x2 = some t') : Cv l X t yX3_fill cX3_fill 3 1 24 [.ref (X.2.1 h0), .int x1, .int x2] t' := by
  refine Cv_of (by decide) (Nat.le_of_ble_eq_true rfl) ?_
  intro p e s m args below meth c Q B hret hS ls hl
  have hx := B.1
  have hb := B.2.1
  have hown := B.2.2.2.1
  have hts := B.2.2.2.2.1
  have hl : lv_has ls 3 [(0, .ref (X.2.1 h0)), (1, .int x1), (2, .int x2)] := hl
  unfold fX3_fill at hrun
  refine lv_aload_n hx hb dX3_fill_0 rfl (lv_at hl 0 rfl) ?_
  refine gX3_37 B hS e0 dX3_fill_1 ?_
  refine lv_iload_n hx hb dX3_fill_4 rfl (lv_at hl 1 rfl) ?_
  obtain ⟨r_2, hc_1, hrun⟩ := bdE hrun
  refine qX3_59 B hS reg_3 hc_1 hl.1 (Nat.le_of_ble_eq_true rfl) ⟨Nat.le_of_ble_eq_true rfl, Nat.le_of_ble_eq_true rfl⟩ ⟨Nat.zero_le _, Nat.zero_le _⟩ dX3_fill_5 (fun H locs hS => ?_)
  refine lv_if_eq (tgt := 31) hx hb dX3_fill_8 (by decide) (fun hc => ?_) (fun hc => ?_)
  · have hrun := ip hc hrun
    exact hret _ _ _ _ _ hrun hS dX3_fill_31
  · have hrun := iq hc hrun
    refine lv_aload_n hx hb dX3_fill_11 rfl (lv_at hl 0 rfl) ?_
    refine gX3_28 B hS e0 dX3_fill_12 ?_
    refine lv_iload_n hx hb dX3_fill_15 rfl (lv_at hl 1 rfl) ?_
    refine lv_sipush (v := 9999) hx hb dX3_fill_16 (by decide) ?_
    refine lv_aload_n hx hb dX3_fill_19 rfl (lv_at hl 0 rfl) ?_
    refine gX3_28 B hS e0 dX3_fill_20 ?_
    refine lv_iload_n hx hb dX3_fill_23 rfl (lv_at hl 1 rfl) ?_
    obtain ⟨hi_3, hrun⟩ := gdE hrun
    refine xa B hS (iaX3_2 e0) hi_3 dX3_fill_24 ?_
    refine lv_iload_n hx hb dX3_fill_25 rfl (lv_at hl 2 rfl) ?_
    refine lv_iadd hx hb dX3_fill_26 ?_
    refine xmin B hl.1 (tw_3 94 rfl rfl) (tw_3 88 rfl rfl) (tw_1 15 rfl rfl) (tw_3 89 rfl rfl) (Nat.le_of_ble_eq_true rfl) (Nat.le_of_ble_eq_true rfl) (Nat.zero_le _) (Nat.zero_le _) dX3_fill_27 ?_
    obtain ⟨hi_4, hrun⟩ := gdE hrun
    refine xs B hS (iaX3_2 e0) hi_4 dX3_fill_30 (fun H locs hS => ?_)
    obtain ⟨t_5, et, hrun⟩ := bsE hrun
    have hS : SS X t_5 s.heap H locs := by rw [et]; exact hS
    clear et
    exact hret _ _ _ _ _ hrun hS dX3_fill_31
theorem mdX3_takePence : MD yX3_takePence 2 := ⟨by decide +kernel, by decide +kernel, by decide +kernel⟩
set_option maxHeartbeats 4000000 in
set_option maxRecDepth 100000 in
theorem kX3_takePence (l : Launch) (X : Cx) (t : St) (h0 : Nat) (e0 : isHall h0) (x1 : Int32) (x2 : Int32) (t' : St) (hrun : fX3_takePence h0 t x1 x2 = some t') : Cv l X t yX3_takePence cX3_takePence 3 1 24 [.ref (X.2.1 h0), .int x1, .int x2] t' := by
  refine Cv_of (by decide) (Nat.le_of_ble_eq_true rfl) ?_
  intro p e s m args below meth c Q B hret hS ls hl
  have hx := B.1
  have hb := B.2.1
  have hown := B.2.2.2.1
  have hts := B.2.2.2.2.1
  have hl : lv_has ls 3 [(0, .ref (X.2.1 h0)), (1, .int x1), (2, .int x2)] := hl
  unfold fX3_takePence at hrun
  refine lv_aload_n hx hb dX3_takePence_0 rfl (lv_at hl 0 rfl) ?_
  refine gX3_28 B hS e0 dX3_takePence_1 ?_
  refine lv_iload_n hx hb dX3_takePence_4 rfl (lv_at hl 1 rfl) ?_
  refine lv_dup2_11 hx hb dX3_takePence_5 rfl rfl ?_
  obtain ⟨hi_1, hrun⟩ := gdE hrun
  refine xa B hS (iaX3_2 e0) hi_1 dX3_takePence_6 ?_
  refine lv_iload_n hx hb dX3_takePence_7 rfl (lv_at hl 2 rfl) ?_
  refine lv_isub hx hb dX3_takePence_8 ?_
  obtain ⟨hi_2, hrun⟩ := gdE hrun
  refine xs B hS (iaX3_2 e0) hi_2 dX3_takePence_9 (fun H locs hS => ?_)
  obtain ⟨t_3, et, hrun⟩ := bsE hrun
  have hS : SS X t_3 s.heap H locs := by rw [et]; exact hS
  clear et
  refine lv_aload_n hx hb dX3_takePence_10 rfl (lv_at hl 0 rfl) ?_
  refine lv_ldc (v := 999999) hx hb hown (hts _ (tw_3 99 rfl rfl)) dX3_takePence_11 ?_
  refine lv_aload_n hx hb dX3_takePence_13 rfl (lv_at hl 0 rfl) ?_
  refine gX3_18 B hS e0 dX3_takePence_14 ?_
  refine lv_iload_n hx hb dX3_takePence_17 rfl (lv_at hl 2 rfl) ?_
  refine lv_iadd hx hb dX3_takePence_18 ?_
  refine xmin B hl.1 (tw_3 94 rfl rfl) (tw_3 88 rfl rfl) (tw_1 15 rfl rfl) (tw_3 89 rfl rfl) (Nat.le_of_ble_eq_true rfl) (Nat.le_of_ble_eq_true rfl) (Nat.zero_le _) (Nat.zero_le _) dX3_takePence_19 ?_
  refine pX3_18 B hS e0 dX3_takePence_22 (fun H locs hS => ?_)
  obtain ⟨t_4, et, hrun⟩ := bsE hrun
  have hS : SS X t_4 s.heap H locs := by rw [et]; exact hS
  clear et
  refine lv_iload_n hx hb dX3_takePence_25 rfl (lv_at hl 2 rfl) ?_
  refine lv_if_le (tgt := 71) hx hb dX3_takePence_26 (by decide) (fun hc => ?_) (fun hc => ?_)
  · have hrun := ip hc hrun
    exact hret _ _ _ _ _ hrun hS dX3_takePence_71
  · have hrun := iq hc hrun
    refine lv_aload_n hx hb dX3_takePence_29 rfl (lv_at hl 0 rfl) ?_
    refine gX3_37 B hS e0 dX3_takePence_30 ?_
    refine gX3_88 B hS reg_3 dX3_takePence_33 ?_
    refine lv_iload_n hx hb dX3_takePence_36 rfl (lv_at hl 1 rfl) ?_
    obtain ⟨hi_5, hrun⟩ := gdE hrun
    refine xa B hS (iaX8_1 reg_3) hi_5 dX3_takePence_37 ?_
    refine lv_iconst (v := 3) hx hb dX3_takePence_38 (by decide) ?_
    refine lv_icmp_ne (tgt := 71) hx hb dX3_takePence_39 (by decide) (fun hc => ?_) (fun hc => ?_)
    · have hrun := iq hc hrun
      exact hret _ _ _ _ _ hrun hS dX3_takePence_71
    · have hrun := ip hc hrun
      refine lv_aload_n hx hb dX3_takePence_42 rfl (lv_at hl 0 rfl) ?_
      refine lv_aload_n hx hb dX3_takePence_43 rfl (lv_at hl 0 rfl) ?_
      refine gX3_24 B hS e0 dX3_takePence_44 ?_
      refine lv_iload_n hx hb dX3_takePence_47 rfl (lv_at hl 1 rfl) ?_
      obtain ⟨hi_6, hrun⟩ := gdE hrun
      refine xa B hS (iaX3_1 e0) hi_6 dX3_takePence_48 ?_
      obtain ⟨r_8, hc_7, hrun⟩ := bdE hrun
      refine qX3_85 B hS e0 hc_7 hl.1 (Nat.le_of_ble_eq_true rfl) ⟨Nat.le_of_ble_eq_true rfl, Nat.le_of_ble_eq_true rfl⟩ ⟨Nat.zero_le _, Nat.zero_le _⟩ dX3_takePence_49 (fun H locs hS => ?_)
      refine lv_if_le (tgt := 71) hx hb dX3_takePence_52 (by decide) (fun hc => ?_) (fun hc => ?_)
      · have hrun := ip hc hrun
        exact hret _ _ _ _ _ hrun hS dX3_takePence_71
      · have hrun := iq hc hrun
        refine lv_aload_n hx hb dX3_takePence_55 rfl (lv_at hl 0 rfl) ?_
        refine lv_sipush (v := 9999) hx hb dX3_takePence_56 (by decide) ?_
        refine lv_aload_n hx hb dX3_takePence_59 rfl (lv_at hl 0 rfl) ?_
        refine gX3_21 B hS e0 dX3_takePence_60 ?_
        refine lv_iconst (v := 1) hx hb dX3_takePence_63 (by decide) ?_
        refine lv_iadd hx hb dX3_takePence_64 ?_
        refine xmin B hl.1 (tw_3 94 rfl rfl) (tw_3 88 rfl rfl) (tw_1 15 rfl rfl) (tw_3 89 rfl rfl) (Nat.le_of_ble_eq_true rfl) (Nat.le_of_ble_eq_true rfl) (Nat.zero_le _) (Nat.zero_le _) dX3_takePence_65 ?_
        refine pX3_21 B hS e0 dX3_takePence_68 (fun H locs hS => ?_)
        obtain ⟨t_9, et, hrun⟩ := bsE hrun
        have hS : SS X t_9 s.heap H locs := by rw [et]; exact hS
        clear et
        exact hret _ _ _ _ _ hrun hS dX3_takePence_71
theorem mdX3_singVerse : MD yX3_singVerse 0 := ⟨by decide +kernel, by decide +kernel, by decide +kernel⟩
section QX3_singVerse
variable {p : Program} {l : Launch} {e : Env} {R : Room} {s : State} {m : MethodId} {args : Array Value} {below : List Frame} {meth : Method} {c : Code} {H : Heap} {locs : List Loc} {cells slots : Nat} {Q : State → Prop}
variable {cc : ByteArray} {pc : Nat} {ls : Array Slot} {rest : List Value} {X : Cx} {t : St} {H0 : Heap} {nL : Nat}
theorem qX3_124 (B : Bx p s m args c cc nL X RX3) (hS : SS X t H0 H locs) {h0 : Nat} (e0 : isHall h0) {x1 : Int32} {x2 : Int32} {t' : St} (hM : fX3_takePence h0 t x1 x2 = some t') (hsz : ls.size = nL) (hW : (rest.map fun v => v.category).sum ≤ 8) (hR : 1 + 1 ≤ R.frames ∧ 8 + (3 + 11) + 24 ≤ R.locals) (hR2 : cells ≤ R.cells ∧ slots ≤ R.slots) (hdg : decode cc pc = .ok (.invokevirtual 124, 3)) (kk : ∀ (H1 : Heap) (locs1 : List Loc), SS X t' H0 H1 locs1 → W p l e R s m args below meth c H1 locs1 cells slots Q (F0 m (pc + 3) ls (rest))) : W p l e R s m args below meth c H locs cells slots Q (F0 m pc ls (.int x2 :: .int x1 :: .ref (X.2.1 h0) :: rest)) :=
  xVv B hS (kX3_takePence l X t h0 e0 x1 x2 t' hM) (tw_3 95 rfl rfl) (tw_3 97 rfl rfl) (tw_0 11 rfl rfl) (tw_1 4 rfl rfl) (tw_3 98 rfl rfl) mdX3_takePence (hall_lt e0) (ceX3 e0 _) rfl rfl rfl hsz rfl hW hR hR2 hdg kk
end QX3_singVerse
set_option maxHeartbeats 4000000 in
set_option maxRecDepth 100000 in
theorem kX3_singVerse (l : Launch) (X : Cx) (t : St) (h0 : Nat) (e0 : isHall h0) (t' : St) (hrun : fX3_singVerse h0 t = some t') : Cv l X t yX3_singVerse cX3_singVerse 4 3 70 [.ref (X.2.1 h0)] t' := by
  refine Cv_of (by decide) (Nat.le_of_ble_eq_true rfl) ?_
  intro p e s m args below meth c Q B hret hS ls hl
  have hx := B.1
  have hb := B.2.1
  have hown := B.2.2.2.1
  have hts := B.2.2.2.2.1
  have hl : lv_has ls 4 [(0, .ref (X.2.1 h0))] := hl
  have hB94 : ∀ (t : St) (H : Heap) (locs : List Loc) (ls : Array Slot), SS X t s.heap H locs → lv_has ls 4 [(0, .ref (X.2.1 h0))] → fX3_singVerse_94 h0 t = some t' → W p l e ({ frames := 3, cells := 0, slots := 0, locals := 70 } : Room) s m args below meth c H locs 0 0 Q (F0 m 94 ls []) := by
    intro t H locs ls hS hl hrun
    unfold fX3_singVerse_94 at hrun
    refine lv_aload_n hx hb dX3_singVerse_94 rfl (lv_at hl 0 rfl) ?_
    refine lv_dup hx hb dX3_singVerse_95 rfl ?_
    refine gX3_15 B hS e0 dX3_singVerse_96 ?_
    refine lv_iconst (v := 1) hx hb dX3_singVerse_99 (by decide) ?_
    refine lv_iadd hx hb dX3_singVerse_100 ?_
    refine pX3_15 B hS e0 dX3_singVerse_101 (fun H locs hS => ?_)
    obtain ⟨t_1095, et, hrun⟩ := bsE hrun
    have hS : SS X t_1095 s.heap H locs := by rw [et]; exact hS
    clear et
    exact hret _ _ _ _ _ hrun hS dX3_singVerse_104
  have hB64 : ∀ (n64 : Nat) (t : St) (x1 : Int32) (x2 : Int32) (H : Heap) (locs : List Loc) (ls : Array Slot), SS X t s.heap H locs → lv_has ls 4 [(0, .ref (X.2.1 h0)), (1, .int x1), (2, .int x2)] → fX3_singVerse_64 h0 n64 t x1 x2 = some t' → W p l e ({ frames := 3, cells := 0, slots := 0, locals := 70 } : Room) s m args below meth c H locs 0 0 Q (F0 m 64 ls []) := by
    intro n64
    induction n64 with
    | zero =>
      intro t x1 x2 H locs ls hS hl hrun
      cases (show (none : Option (St)) = some t' from hrun)
    | succ n64 ih64 =>
      intro t x1 x2 H locs ls hS hl hrun
      rw [fX3_singVerse_64_s] at hrun
      refine lv_iload_n hx hb dX3_singVerse_64 rfl (lv_at hl 2 rfl) ?_
      refine lv_aload_n hx hb dX3_singVerse_65 rfl (lv_at hl 0 rfl) ?_
      refine gX3_37 B hS e0 dX3_singVerse_66 ?_
      refine gX3_63 B hS reg_3 dX3_singVerse_69 ?_
      refine lv_icmp_ge (tgt := 94) hx hb dX3_singVerse_72 (by decide) (fun hc => ?_) (fun hc => ?_)
      · have hrun := ip hc hrun
        exact hB94 t _ _ _ hS (lv_sub hl [0] rfl) hrun
      · have hrun := iq hc hrun
        refine lv_iload_n hx hb dX3_singVerse_75 rfl (lv_at hl 2 rfl) ?_
        refine lv_iload_n hx hb dX3_singVerse_76 rfl (lv_at hl 1 rfl) ?_
        obtain ⟨r_1066, hc_1065, hrun⟩ := bdE hrun
        refine qX3_107 B hS hc_1065 hl.1 (Nat.le_of_ble_eq_true rfl) ⟨Nat.le_of_ble_eq_true rfl, Nat.le_of_ble_eq_true rfl⟩ ⟨Nat.zero_le _, Nat.zero_le _⟩ dX3_singVerse_77 (fun H locs hS => ?_)
        refine lv_if_eq (tgt := 88) hx hb dX3_singVerse_80 (by decide) (fun hc => ?_) (fun hc => ?_)
        · have hrun := ip hc hrun
          refine lv_iinc (v := x2 + (1 : Int32)) (k := 2) (lv' := [(2, .int (x2 + (1 : Int32))), (0, .ref (X.2.1 h0)), (1, .int x1)]) hx hb dX3_singVerse_88 hl rfl rfl (by decide) rfl (fun ls hl => ?_)
          refine lv_goto (tgt := 64) hx hb dX3_singVerse_91 (by decide) ?_
          exact ih64 t x1 (x2 + (1 : Int32)) _ _ _ hS (lv_sub hl [1, 2, 0] rfl) hrun
        · have hrun := iq hc hrun
          refine lv_aload_n hx hb dX3_singVerse_83 rfl (lv_at hl 0 rfl) ?_
          refine lv_iload_n hx hb dX3_singVerse_84 rfl (lv_at hl 2 rfl) ?_
          obtain ⟨t_1068, hc_1067, hrun⟩ := bdE hrun
          refine qX3_120 B hS e0 hc_1067 hl.1 (Nat.le_of_ble_eq_true rfl) ⟨Nat.le_of_ble_eq_true rfl, Nat.le_of_ble_eq_true rfl⟩ ⟨Nat.zero_le _, Nat.zero_le _⟩ dX3_singVerse_85 (fun H locs hS => ?_)
          refine lv_iinc (v := x2 + (1 : Int32)) (k := 2) (lv' := [(2, .int (x2 + (1 : Int32))), (0, .ref (X.2.1 h0)), (1, .int x1)]) hx hb dX3_singVerse_88 hl rfl rfl (by decide) rfl (fun ls hl => ?_)
          refine lv_goto (tgt := 64) hx hb dX3_singVerse_91 (by decide) ?_
          exact ih64 t_1068 x1 (x2 + (1 : Int32)) _ _ _ hS (lv_sub hl [1, 2, 0] rfl) hrun
  have hB4 : ∀ (n4 : Nat) (t : St) (x1 : Int32) (x2 : Int32) (H : Heap) (locs : List Loc) (ls : Array Slot), SS X t s.heap H locs → lv_has ls 4 [(0, .ref (X.2.1 h0)), (1, .int x1), (2, .int x2)] → fX3_singVerse_4 h0 n4 t x1 x2 = some t' → W p l e ({ frames := 3, cells := 0, slots := 0, locals := 70 } : Room) s m args below meth c H locs 0 0 Q (F0 m 4 ls []) := by
    intro n4
    induction n4 with
    | zero =>
      intro t x1 x2 H locs ls hS hl hrun
      cases (show (none : Option (St)) = some t' from hrun)
    | succ n4 ih4 =>
      have hB41 : ∀ (t : St) (x1 : Int32) (x2 : Int32) (x3 : Int32) (H : Heap) (locs : List Loc) (ls : Array Slot), SS X t s.heap H locs → lv_has ls 4 [(0, .ref (X.2.1 h0)), (1, .int x1), (2, .int x2), (3, .int x3)] → fX3_singVerse_41 h0 (fX3_singVerse_4 h0 n4) t x1 x2 x3 = some t' → W p l e ({ frames := 3, cells := 0, slots := 0, locals := 70 } : Room) s m args below meth c H locs 0 0 Q (F0 m 41 ls []) := by
        intro t x1 x2 x3 H locs ls hS hl hrun
        unfold fX3_singVerse_41 at hrun
        refine lv_aload_n hx hb dX3_singVerse_41 rfl (lv_at hl 0 rfl) ?_
        refine lv_iload_n hx hb dX3_singVerse_42 rfl (lv_at hl 2 rfl) ?_
        refine lv_aload_n hx hb dX3_singVerse_43 rfl (lv_at hl 0 rfl) ?_
        refine gX3_28 B hS e0 dX3_singVerse_44 ?_
        refine lv_iload_n hx hb dX3_singVerse_47 rfl (lv_at hl 2 rfl) ?_
        obtain ⟨hi_1042, hrun⟩ := gdE hrun
        refine xa B hS (iaX3_2 e0) hi_1042 dX3_singVerse_48 ?_
        refine lv_iload_n hx hb dX3_singVerse_49 rfl (lv_at hl 3 rfl) ?_
        refine xmin B hl.1 (tw_3 94 rfl rfl) (tw_3 88 rfl rfl) (tw_1 15 rfl rfl) (tw_3 89 rfl rfl) (Nat.le_of_ble_eq_true rfl) (Nat.le_of_ble_eq_true rfl) (Nat.zero_le _) (Nat.zero_le _) dX3_singVerse_50 ?_
        obtain ⟨t_1044, hc_1043, hrun⟩ := bdE hrun
        refine qX3_124 B hS e0 hc_1043 hl.1 (Nat.le_of_ble_eq_true rfl) ⟨Nat.le_of_ble_eq_true rfl, Nat.le_of_ble_eq_true rfl⟩ ⟨Nat.zero_le _, Nat.zero_le _⟩ dX3_singVerse_53 (fun H locs hS => ?_)
        refine lv_iinc (v := x2 + (1 : Int32)) (k := 2) (lv' := [(2, .int (x2 + (1 : Int32))), (0, .ref (X.2.1 h0)), (1, .int x1), (3, .int x3)]) hx hb dX3_singVerse_56 hl rfl rfl (by decide) rfl (fun ls hl => ?_)
        refine lv_goto (tgt := 4) hx hb dX3_singVerse_59 (by decide) ?_
        exact ih4 t_1044 x1 (x2 + (1 : Int32)) _ _ _ hS (lv_sub hl [1, 2, 0] rfl) hrun
      intro t x1 x2 H locs ls hS hl hrun
      rw [fX3_singVerse_4_s] at hrun
      refine lv_iload_n hx hb dX3_singVerse_4 rfl (lv_at hl 2 rfl) ?_
      refine lv_aload_n hx hb dX3_singVerse_5 rfl (lv_at hl 0 rfl) ?_
      refine gX3_37 B hS e0 dX3_singVerse_6 ?_
      refine gX3_63 B hS reg_3 dX3_singVerse_9 ?_
      refine lv_icmp_ge (tgt := 62) hx hb dX3_singVerse_12 (by decide) (fun hc => ?_) (fun hc => ?_)
      · have hrun := ip hc hrun
        refine lv_iconst (v := 0) hx hb dX3_singVerse_62 (by decide) ?_
        refine lv_istore_n (lv' := [(2, .int (0 : Int32)), (0, .ref (X.2.1 h0)), (1, .int x1)]) hx hb dX3_singVerse_63 rfl hl (by decide) rfl (fun ls hl => ?_)
        exact hB64 fuelN t x1 (0 : Int32) _ _ _ hS (lv_sub hl [1, 2, 0] rfl) hrun
      · have hrun := iq hc hrun
        refine lv_aload_n hx hb dX3_singVerse_15 rfl (lv_at hl 0 rfl) ?_
        refine lv_iload_n hx hb dX3_singVerse_16 rfl (lv_at hl 2 rfl) ?_
        refine lv_aload_n hx hb dX3_singVerse_17 rfl (lv_at hl 0 rfl) ?_
        refine gX3_9 B hS e0 dX3_singVerse_18 ?_
        obtain ⟨r_1006, hc_1005, hrun⟩ := bdE hrun
        refine qX3_98 B hS e0 hc_1005 hl.1 (Nat.le_of_ble_eq_true rfl) ⟨Nat.le_of_ble_eq_true rfl, Nat.le_of_ble_eq_true rfl⟩ ⟨Nat.zero_le _, Nat.zero_le _⟩ dX3_singVerse_21 (fun H locs hS => ?_)
        refine lv_istore_n (lv' := [(3, .int r_1006), (0, .ref (X.2.1 h0)), (1, .int x1), (2, .int x2)]) hx hb dX3_singVerse_24 rfl hl (by decide) rfl (fun ls hl => ?_)
        refine lv_aload_n hx hb dX3_singVerse_25 rfl (lv_at hl 1 rfl) ?_
        refine gX3_28 B hS e0 dX3_singVerse_26 ?_
        refine lv_iload_n hx hb dX3_singVerse_29 rfl (lv_at hl 3 rfl) ?_
        obtain ⟨hi_1007, hrun⟩ := gdE hrun
        refine xa B hS (iaX3_2 e0) hi_1007 dX3_singVerse_30 ?_
        refine lv_iload_n hx hb dX3_singVerse_31 rfl (lv_at hl 0 rfl) ?_
        refine lv_icmp_ge (tgt := 41) hx hb dX3_singVerse_32 (by decide) (fun hc => ?_) (fun hc => ?_)
        · have hrun := ip hc hrun
          exact hB41 t x1 x2 r_1006 _ _ _ hS (lv_sub hl [1, 2, 3, 0] rfl) hrun
        · have hrun := iq hc hrun
          refine lv_iload_n hx hb dX3_singVerse_35 rfl (lv_at hl 2 rfl) ?_
          refine lv_iconst (v := 1) hx hb dX3_singVerse_36 (by decide) ?_
          refine lv_iload_n hx hb dX3_singVerse_37 rfl (lv_at hl 3 rfl) ?_
          refine lv_ishl hx hb dX3_singVerse_38 ?_
          refine lv_ior hx hb dX3_singVerse_39 ?_
          refine lv_topi (fun x1_1008 ex => ?_)
          obtain ⟨z, ez, hrun⟩ := bsE hrun
          obtain rfl : x1_1008 = z := ex.trans ez.symm
          clear ex ez
          refine lv_istore_n (lv' := [(1, .int x1_1008), (3, .int r_1006), (0, .ref (X.2.1 h0)), (2, .int x2)]) hx hb dX3_singVerse_40 rfl hl (by decide) rfl (fun ls hl => ?_)
          exact hB41 t x1_1008 x2 r_1006 _ _ _ hS (lv_sub hl [2, 0, 3, 1] rfl) hrun
  unfold fX3_singVerse at hrun
  refine lv_iconst (v := 0) hx hb dX3_singVerse_0 (by decide) ?_
  refine lv_istore_n (lv' := [(1, .int (0 : Int32)), (0, .ref (X.2.1 h0))]) hx hb dX3_singVerse_1 rfl hl (by decide) rfl (fun ls hl => ?_)
  refine lv_iconst (v := 0) hx hb dX3_singVerse_2 (by decide) ?_
  refine lv_istore_n (lv' := [(2, .int (0 : Int32)), (1, .int (0 : Int32)), (0, .ref (X.2.1 h0))]) hx hb dX3_singVerse_3 rfl hl (by decide) rfl (fun ls hl => ?_)
  exact hB4 fuelN t (0 : Int32) (0 : Int32) _ _ _ hS (lv_sub hl [2, 1, 0] rfl) hrun
theorem mdX5_clear : MD yX5_clear 0 := ⟨by decide +kernel, by decide +kernel, by decide +kernel⟩
set_option maxHeartbeats 4000000 in
set_option maxRecDepth 100000 in
theorem kX5_clear (l : Launch) (X : Cx) (t : St) (t' : St) (hrun : fX5_clear t = some t') : Cv l X t yX5_clear cX5_clear 1 0 0 [.ref (X.2.1 20)] t' := by
  refine Cv_of (by decide) (Nat.le_of_ble_eq_true rfl) ?_
  intro p e s m args below meth c Q B hret hS ls hl
  have hx := B.1
  have hb := B.2.1
  have hown := B.2.2.2.1
  have hts := B.2.2.2.2.1
  have hl : lv_has ls 1 [(0, .ref (X.2.1 20))] := hl
  unfold fX5_clear at hrun
  refine lv_aload_n hx hb dX5_clear_0 rfl (lv_at hl 0 rfl) ?_
  refine lv_iconst (v := 0) hx hb dX5_clear_1 (by decide) ?_
  refine pX5_24 B hS dX5_clear_2 (fun H locs hS => ?_)
  obtain ⟨t_1, et, hrun⟩ := bsE hrun
  have hS : SS X t_1 s.heap H locs := by rw [et]; exact hS
  clear et
  refine lv_aload_n hx hb dX5_clear_5 rfl (lv_at hl 0 rfl) ?_
  refine lv_iconst (v := 0) hx hb dX5_clear_6 (by decide) ?_
  refine pX5_28 B hS dX5_clear_7 (fun H locs hS => ?_)
  obtain ⟨t_2, et, hrun⟩ := bsE hrun
  have hS : SS X t_2 s.heap H locs := by rw [et]; exact hS
  clear et
  exact hret _ _ _ _ _ hrun hS dX5_clear_10
theorem mdX5_addPayment : MD yX5_addPayment 2 := ⟨by decide +kernel, by decide +kernel, by decide +kernel⟩
set_option maxHeartbeats 4000000 in
set_option maxRecDepth 100000 in
theorem kX5_addPayment (l : Launch) (X : Cx) (t : St) (x1 : Int32) (x2 : Int32) (r : Int32) (t' : St) (hrun : fX5_addPayment t x1 x2 = some (r, t')) : Ci l X t yX5_addPayment cX5_addPayment 3 .boolean 0 0 [.ref (X.2.1 20), .int x1, .int x2] r t' := by
  refine Ci_of (by decide) (Nat.le_of_ble_eq_true rfl) ?_
  intro p e s m args below meth c Q B hret hS ls hl
  have hx := B.1
  have hb := B.2.1
  have hown := B.2.2.2.1
  have hts := B.2.2.2.2.1
  have hl : lv_has ls 3 [(0, .ref (X.2.1 20)), (1, .int x1), (2, .int x2)] := hl
  unfold fX5_addPayment at hrun
  refine lv_aload_n hx hb dX5_addPayment_0 rfl (lv_at hl 0 rfl) ?_
  refine gX5_24 B hS dX5_addPayment_1 ?_
  refine lv_bipush (v := 6) hx hb dX5_addPayment_4 (by decide) ?_
  refine lv_icmp_lt (tgt := 11) hx hb dX5_addPayment_6 (by decide) (fun hc => ?_) (fun hc => ?_)
  · have hrun := ip hc hrun
    refine lv_aload_n hx hb dX5_addPayment_11 rfl (lv_at hl 0 rfl) ?_
    refine gX5_9 B hS dX5_addPayment_12 ?_
    refine lv_aload_n hx hb dX5_addPayment_15 rfl (lv_at hl 0 rfl) ?_
    refine gX5_24 B hS dX5_addPayment_16 ?_
    refine lv_iload_n hx hb dX5_addPayment_19 rfl (lv_at hl 1 rfl) ?_
    obtain ⟨hi_1, hrun⟩ := gdE hrun
    refine xs B hS ia_21 hi_1 dX5_addPayment_20 (fun H locs hS => ?_)
    obtain ⟨t_2, et, hrun⟩ := bsE hrun
    have hS : SS X t_2 s.heap H locs := by rw [et]; exact hS
    clear et
    refine lv_aload_n hx hb dX5_addPayment_21 rfl (lv_at hl 0 rfl) ?_
    refine gX5_15 B hS dX5_addPayment_22 ?_
    refine lv_aload_n hx hb dX5_addPayment_25 rfl (lv_at hl 0 rfl) ?_
    refine gX5_24 B hS dX5_addPayment_26 ?_
    refine lv_iload_n hx hb dX5_addPayment_29 rfl (lv_at hl 2 rfl) ?_
    obtain ⟨hi_3, hrun⟩ := gdE hrun
    refine xs B hS ia_22 hi_3 dX5_addPayment_30 (fun H locs hS => ?_)
    obtain ⟨t_4, et, hrun⟩ := bsE hrun
    have hS : SS X t_4 s.heap H locs := by rw [et]; exact hS
    clear et
    refine lv_aload_n hx hb dX5_addPayment_31 rfl (lv_at hl 0 rfl) ?_
    refine lv_dup hx hb dX5_addPayment_32 rfl ?_
    refine gX5_24 B hS dX5_addPayment_33 ?_
    refine lv_iconst (v := 1) hx hb dX5_addPayment_36 (by decide) ?_
    refine lv_iadd hx hb dX5_addPayment_37 ?_
    refine pX5_24 B hS dX5_addPayment_38 (fun H locs hS => ?_)
    obtain ⟨t_5, et, hrun⟩ := bsE hrun
    have hS : SS X t_5 s.heap H locs := by rw [et]; exact hS
    clear et
    refine lv_iconst (v := 1) hx hb dX5_addPayment_41 (by decide) ?_
    exact hret _ _ _ _ _ _ hrun rfl hS dX5_addPayment_42
  · have hrun := iq hc hrun
    refine lv_iconst (v := 0) hx hb dX5_addPayment_9 (by decide) ?_
    exact hret _ _ _ _ _ _ hrun rfl hS dX5_addPayment_10
theorem mdX5_addEntry : MD yX5_addEntry 2 := ⟨by decide +kernel, by decide +kernel, by decide +kernel⟩
set_option maxHeartbeats 4000000 in
set_option maxRecDepth 100000 in
theorem kX5_addEntry (l : Launch) (X : Cx) (t : St) (x1 : Int32) (x2 : Int32) (r : Int32) (t' : St) (hrun : fX5_addEntry t x1 x2 = some (r, t')) : Ci l X t yX5_addEntry cX5_addEntry 3 .boolean 0 0 [.ref (X.2.1 20), .int x1, .int x2] r t' := by
  refine Ci_of (by decide) (Nat.le_of_ble_eq_true rfl) ?_
  intro p e s m args below meth c Q B hret hS ls hl
  have hx := B.1
  have hb := B.2.1
  have hown := B.2.2.2.1
  have hts := B.2.2.2.2.1
  have hl : lv_has ls 3 [(0, .ref (X.2.1 20)), (1, .int x1), (2, .int x2)] := hl
  unfold fX5_addEntry at hrun
  refine lv_aload_n hx hb dX5_addEntry_0 rfl (lv_at hl 0 rfl) ?_
  refine gX5_28 B hS dX5_addEntry_1 ?_
  refine lv_bipush (v := 15) hx hb dX5_addEntry_4 (by decide) ?_
  refine lv_icmp_lt (tgt := 11) hx hb dX5_addEntry_6 (by decide) (fun hc => ?_) (fun hc => ?_)
  · have hrun := ip hc hrun
    refine lv_aload_n hx hb dX5_addEntry_11 rfl (lv_at hl 0 rfl) ?_
    refine gX5_18 B hS dX5_addEntry_12 ?_
    refine lv_aload_n hx hb dX5_addEntry_15 rfl (lv_at hl 0 rfl) ?_
    refine gX5_28 B hS dX5_addEntry_16 ?_
    refine lv_iload_n hx hb dX5_addEntry_19 rfl (lv_at hl 1 rfl) ?_
    obtain ⟨hi_1, hrun⟩ := gdE hrun
    refine xs B hS ia_23 hi_1 dX5_addEntry_20 (fun H locs hS => ?_)
    obtain ⟨t_2, et, hrun⟩ := bsE hrun
    have hS : SS X t_2 s.heap H locs := by rw [et]; exact hS
    clear et
    refine lv_aload_n hx hb dX5_addEntry_21 rfl (lv_at hl 0 rfl) ?_
    refine gX5_21 B hS dX5_addEntry_22 ?_
    refine lv_aload_n hx hb dX5_addEntry_25 rfl (lv_at hl 0 rfl) ?_
    refine gX5_28 B hS dX5_addEntry_26 ?_
    refine lv_iload_n hx hb dX5_addEntry_29 rfl (lv_at hl 2 rfl) ?_
    obtain ⟨hi_3, hrun⟩ := gdE hrun
    refine xs B hS ia_24 hi_3 dX5_addEntry_30 (fun H locs hS => ?_)
    obtain ⟨t_4, et, hrun⟩ := bsE hrun
    have hS : SS X t_4 s.heap H locs := by rw [et]; exact hS
    clear et
    refine lv_aload_n hx hb dX5_addEntry_31 rfl (lv_at hl 0 rfl) ?_
    refine lv_dup hx hb dX5_addEntry_32 rfl ?_
    refine gX5_28 B hS dX5_addEntry_33 ?_
    refine lv_iconst (v := 1) hx hb dX5_addEntry_36 (by decide) ?_
    refine lv_iadd hx hb dX5_addEntry_37 ?_
    refine pX5_28 B hS dX5_addEntry_38 (fun H locs hS => ?_)
    obtain ⟨t_5, et, hrun⟩ := bsE hrun
    have hS : SS X t_5 s.heap H locs := by rw [et]; exact hS
    clear et
    refine lv_iconst (v := 1) hx hb dX5_addEntry_41 (by decide) ?_
    exact hret _ _ _ _ _ _ hrun rfl hS dX5_addEntry_42
  · have hrun := iq hc hrun
    refine lv_iconst (v := 0) hx hb dX5_addEntry_9 (by decide) ?_
    exact hret _ _ _ _ _ _ hrun rfl hS dX5_addEntry_10
theorem mdX5_firstWrong : MD yX5_firstWrong 1 := ⟨by decide +kernel, by decide +kernel, by decide +kernel⟩
section QX5_firstWrong
variable {p : Program} {l : Launch} {e : Env} {R : Room} {s : State} {m : MethodId} {args : Array Value} {below : List Frame} {meth : Method} {c : Code} {H : Heap} {locs : List Loc} {cells slots : Nat} {Q : State → Prop}
variable {cc : ByteArray} {pc : Nat} {ls : Array Slot} {rest : List Value} {X : Cx} {t : St} {H0 : Heap} {nL : Nat}
theorem qX5_37 (B : Bx p s m args c cc nL X RX5) (hS : SS X t H0 H locs) {h0 : Nat} (e0 : isReg h0) {x1 : Int32} {r : Int32} (hM : fX8_hasSinger h0 t x1 = some r) (hsz : ls.size = nL) (hW : (rest.map fun v => v.category).sum ≤ 8) (hR : 0 + 1 ≤ R.frames ∧ 8 + (2 + 11) + 0 ≤ R.locals) (hR2 : cells ≤ R.cells ∧ slots ≤ R.slots) (hdg : decode cc pc = .ok (.invokevirtual 37, 3)) (kk : ∀ (H1 : Heap) (locs1 : List Loc), SS X t H0 H1 locs1 → W p l e R s m args below meth c H1 locs1 cells slots Q (F0 m (pc + 3) ls (.int r :: rest))) : W p l e R s m args below meth c H locs cells slots Q (F0 m pc ls (.int x1 :: .ref (X.2.1 h0) :: rest)) :=
  xVi B hS (kX8_hasSinger l X t h0 e0 x1 r hM) (tw_4 71 rfl rfl) (tw_2 215 rfl rfl) (tw_2 216 rfl rfl) (tw_1 2 rfl rfl) (tw_2 217 rfl rfl) mdX8_hasSinger (reg_lt e0) (ceX8 e0 _) rfl rfl rfl hsz rfl hW hR hR2 hdg kk
end QX5_firstWrong
set_option maxHeartbeats 4000000 in
set_option maxRecDepth 100000 in
theorem kX5_firstWrong (l : Launch) (X : Cx) (t : St) (h1 : Nat) (e1 : isHall h1) (r : Int32) (hrun : fX5_firstWrong h1 t = some r) : Ci l X t yX5_firstWrong cX5_firstWrong 4 .int 1 21 [.ref (X.2.1 20), .ref (X.2.1 h1)] r t := by
  refine Ci_of (by decide) (Nat.le_of_ble_eq_true rfl) ?_
  intro p e s m args below meth c Q B hret hS ls hl
  have hx := B.1
  have hb := B.2.1
  have hown := B.2.2.2.1
  have hts := B.2.2.2.2.1
  have hl : lv_has ls 4 [(0, .ref (X.2.1 20)), (1, .ref (X.2.1 h1))] := hl
  have hB2 : ∀ (n2 : Nat) (x2 : Int32) (H : Heap) (locs : List Loc) (ls : Array Slot), SS X t s.heap H locs → lv_has ls 4 [(0, .ref (X.2.1 20)), (1, .ref (X.2.1 h1)), (2, .int x2)] → fX5_firstWrong_2 h1 t n2 x2 = some r → W p l e ({ frames := 1, cells := 0, slots := 0, locals := 21 } : Room) s m args below meth c H locs 0 0 Q (F0 m 2 ls []) := by
    intro n2
    induction n2 with
    | zero =>
      intro x2 H locs ls hS hl hrun
      cases (show (none : Option (Int32)) = some r from hrun)
    | succ n2 ih2 =>
      intro x2 H locs ls hS hl hrun
      rw [fX5_firstWrong_2_s] at hrun
      refine lv_iload_n hx hb dX5_firstWrong_2 rfl (lv_at hl 2 rfl) ?_
      refine lv_aload_n hx hb dX5_firstWrong_3 rfl (lv_at hl 0 rfl) ?_
      refine gX5_28 B hS dX5_firstWrong_4 ?_
      refine lv_icmp_ge (tgt := 51) hx hb dX5_firstWrong_7 (by decide) (fun hc => ?_) (fun hc => ?_)
      · have hrun := ip hc hrun
        refine lv_iconst (v := -1) hx hb dX5_firstWrong_51 (by decide) ?_
        exact hret _ _ _ _ _ _ (congrArg (Option.map (fun w => (w, t))) hrun) rfl hS dX5_firstWrong_52
      · have hrun := iq hc hrun
        refine lv_aload_n hx hb dX5_firstWrong_10 rfl (lv_at hl 0 rfl) ?_
        refine gX5_18 B hS dX5_firstWrong_11 ?_
        refine lv_iload_n hx hb dX5_firstWrong_14 rfl (lv_at hl 2 rfl) ?_
        obtain ⟨hi_1003, hrun⟩ := gdE hrun
        refine xa B hS ia_23 hi_1003 dX5_firstWrong_15 ?_
        refine lv_topi (fun x3_1004 ex => ?_)
        obtain ⟨z, ez, hrun⟩ := bsE hrun
        obtain rfl : x3_1004 = z := ex.trans ez.symm
        clear ex ez
        refine lv_istore_n (lv' := [(3, .int x3_1004), (0, .ref (X.2.1 20)), (1, .ref (X.2.1 h1)), (2, .int x2)]) hx hb dX5_firstWrong_16 rfl hl (by decide) rfl (fun ls hl => ?_)
        refine lv_aload_n hx hb dX5_firstWrong_17 rfl (lv_at hl 2 rfl) ?_
        refine gX5_31 B hS e1 dX5_firstWrong_18 ?_
        refine lv_iload_n hx hb dX5_firstWrong_21 rfl (lv_at hl 0 rfl) ?_
        obtain ⟨r_1006, hc_1005, hrun⟩ := bdE hrun
        refine qX5_37 B hS reg_3 hc_1005 hl.1 (Nat.le_of_ble_eq_true rfl) ⟨Nat.le_of_ble_eq_true rfl, Nat.le_of_ble_eq_true rfl⟩ ⟨Nat.zero_le _, Nat.zero_le _⟩ dX5_firstWrong_22 (fun H locs hS => ?_)
        refine lv_if_eq (tgt := 45) hx hb dX5_firstWrong_25 (by decide) (fun hc => ?_) (fun hc => ?_)
        · have hrun := ip hc hrun
          refine lv_iinc (v := x2 + (1 : Int32)) (k := 3) (lv' := [(2, .int (x2 + (1 : Int32))), (3, .int x3_1004), (0, .ref (X.2.1 20)), (1, .ref (X.2.1 h1))]) hx hb dX5_firstWrong_45 hl rfl rfl (by decide) rfl (fun ls hl => ?_)
          refine lv_goto (tgt := 2) hx hb dX5_firstWrong_48 (by decide) ?_
          exact ih2 (x2 + (1 : Int32)) _ _ _ hS (lv_sub hl [2, 3, 0] rfl) hrun
        · have hrun := iq hc hrun
          refine lv_aload_n hx hb dX5_firstWrong_28 rfl (lv_at hl 2 rfl) ?_
          refine gX5_43 B hS e1 dX5_firstWrong_29 ?_
          refine lv_iload_n hx hb dX5_firstWrong_32 rfl (lv_at hl 0 rfl) ?_
          obtain ⟨hi_1007, hrun⟩ := gdE hrun
          refine xa B hS (iaX3_2 e1) hi_1007 dX5_firstWrong_33 ?_
          refine lv_aload_n hx hb dX5_firstWrong_34 rfl (lv_at hl 1 rfl) ?_
          refine gX5_21 B hS dX5_firstWrong_35 ?_
          refine lv_iload_n hx hb dX5_firstWrong_38 rfl (lv_at hl 3 rfl) ?_
          obtain ⟨hi_1008, hrun⟩ := gdE hrun
          refine xa B hS ia_24 hi_1008 dX5_firstWrong_39 ?_
          refine lv_icmp_eq (tgt := 45) hx hb dX5_firstWrong_40 (by decide) (fun hc => ?_) (fun hc => ?_)
          · have hrun := ip hc hrun
            refine lv_iinc (v := x2 + (1 : Int32)) (k := 3) (lv' := [(2, .int (x2 + (1 : Int32))), (3, .int x3_1004), (0, .ref (X.2.1 20)), (1, .ref (X.2.1 h1))]) hx hb dX5_firstWrong_45 hl rfl rfl (by decide) rfl (fun ls hl => ?_)
            refine lv_goto (tgt := 2) hx hb dX5_firstWrong_48 (by decide) ?_
            exact ih2 (x2 + (1 : Int32)) _ _ _ hS (lv_sub hl [2, 3, 0] rfl) hrun
          · have hrun := iq hc hrun
            refine lv_iload_n hx hb dX5_firstWrong_43 rfl (lv_at hl 3 rfl) ?_
            exact hret _ _ _ _ _ _ (congrArg (Option.map (fun w => (w, t))) hrun) rfl hS dX5_firstWrong_44
  unfold fX5_firstWrong at hrun
  refine lv_iconst (v := 0) hx hb dX5_firstWrong_0 (by decide) ?_
  refine lv_istore_n (lv' := [(2, .int (0 : Int32)), (0, .ref (X.2.1 20)), (1, .ref (X.2.1 h1))]) hx hb dX5_firstWrong_1 rfl hl (by decide) rfl (fun ls hl => ?_)
  exact hB2 fuelN (0 : Int32) _ _ _ hS (lv_sub hl [1, 2, 0] rfl) hrun
theorem mdX6_forget : MD yX6_forget 0 := ⟨by decide +kernel, by decide +kernel, by decide +kernel⟩
set_option maxHeartbeats 4000000 in
set_option maxRecDepth 100000 in
theorem kX6_forget (l : Launch) (X : Cx) (t : St) (t' : St) (hrun : fX6_forget t = some t') : Cv l X t yX6_forget cX6_forget 1 0 0 [.ref (X.2.1 15)] t' := by
  refine Cv_of (by decide) (Nat.le_of_ble_eq_true rfl) ?_
  intro p e s m args below meth c Q B hret hS ls hl
  have hx := B.1
  have hb := B.2.1
  have hown := B.2.2.2.1
  have hts := B.2.2.2.2.1
  have hl : lv_has ls 1 [(0, .ref (X.2.1 15))] := hl
  unfold fX6_forget at hrun
  refine lv_aload_n hx hb dX6_forget_0 rfl (lv_at hl 0 rfl) ?_
  refine lv_iconst (v := 0) hx hb dX6_forget_1 (by decide) ?_
  refine pX6_21 B hS dX6_forget_2 (fun H locs hS => ?_)
  obtain ⟨t_1, et, hrun⟩ := bsE hrun
  have hS : SS X t_1 s.heap H locs := by rw [et]; exact hS
  clear et
  exact hret _ _ _ _ _ hrun hS dX6_forget_5
theorem mdX6_mark : MD yX6_mark 1 := ⟨by decide +kernel, by decide +kernel, by decide +kernel⟩
section QX6_mark
variable {p : Program} {l : Launch} {e : Env} {R : Room} {s : State} {m : MethodId} {args : Array Value} {below : List Frame} {meth : Method} {c : Code} {H : Heap} {locs : List Loc} {cells slots : Nat} {Q : State → Prop}
variable {cc : ByteArray} {pc : Nat} {ls : Array Slot} {rest : List Value} {X : Cx} {t : St} {H0 : Heap} {nL : Nat}
theorem qX6_27 (B : Bx p s m args c cc nL X RX6) (hS : SS X t H0 H locs) {h0 : Nat} {h1 : Nat} (e0 : isHall h0) (e1 : isHall h1) {t' : St} (hM : fX3_takeFrom h0 h1 t = some t') (hsz : ls.size = nL) (hW : (rest.map fun v => v.category).sum ≤ 8) (hR : 1 + 1 ≤ R.frames ∧ 8 + (2 + 11) + 60 ≤ R.locals) (hR2 : cells ≤ R.cells ∧ slots ≤ R.slots) (hdg : decode cc pc = .ok (.invokevirtual 27, 3)) (kk : ∀ (H1 : Heap) (locs1 : List Loc), SS X t' H0 H1 locs1 → W p l e R s m args below meth c H1 locs1 cells slots Q (F0 m (pc + 3) ls (rest))) : W p l e R s m args below meth c H locs cells slots Q (F0 m pc ls (.ref (X.2.1 h1) :: .ref (X.2.1 h0) :: rest)) :=
  xVv B hS (kX3_takeFrom l X t h0 h1 e0 e1 t' hM) (tw_3 83 rfl rfl) (tw_3 84 rfl rfl) (tw_3 85 rfl rfl) (tw_1 4 rfl rfl) (tw_3 86 rfl rfl) mdX3_takeFrom (hall_lt e0) (ceX3 e0 _) rfl rfl rfl hsz rfl hW hR hR2 hdg kk
end QX6_mark
set_option maxHeartbeats 4000000 in
set_option maxRecDepth 100000 in
theorem kX6_mark (l : Launch) (X : Cx) (t : St) (h1 : Nat) (e1 : isHall h1) (t' : St) (hrun : fX6_mark h1 t = some t') : Cv l X t yX6_mark cX6_mark 2 2 81 [.ref (X.2.1 15), .ref (X.2.1 h1)] t' := by
  refine Cv_of (by decide) (Nat.le_of_ble_eq_true rfl) ?_
  intro p e s m args below meth c Q B hret hS ls hl
  have hx := B.1
  have hb := B.2.1
  have hown := B.2.2.2.1
  have hts := B.2.2.2.2.1
  have hl : lv_has ls 2 [(0, .ref (X.2.1 15)), (1, .ref (X.2.1 h1))] := hl
  unfold fX6_mark at hrun
  refine lv_aload_n hx hb dX6_mark_0 rfl (lv_at hl 0 rfl) ?_
  refine gX6_11 B hS dX6_mark_1 ?_
  refine lv_aload_n hx hb dX6_mark_4 rfl (lv_at hl 0 rfl) ?_
  refine gX6_17 B hS dX6_mark_5 ?_
  obtain ⟨hi_1, hrun⟩ := gdE hrun
  refine xq B hS qa_16 rfl hi_1 dX6_mark_8 ?_
  refine lv_aload_n hx hb dX6_mark_9 rfl (lv_at hl 1 rfl) ?_
  obtain ⟨t_3, hc_2, hrun⟩ := bdE hrun
  refine qX6_27 B hS (hall_ring hi_1) e1 hc_2 hl.1 (Nat.le_of_ble_eq_true rfl) ⟨Nat.le_of_ble_eq_true rfl, Nat.le_of_ble_eq_true rfl⟩ ⟨Nat.zero_le _, Nat.zero_le _⟩ dX6_mark_10 (fun H locs hS => ?_)
  refine lv_aload_n hx hb dX6_mark_13 rfl (lv_at hl 0 rfl) ?_
  refine lv_aload_n hx hb dX6_mark_14 rfl (lv_at hl 0 rfl) ?_
  refine gX6_17 B hS dX6_mark_15 ?_
  refine lv_iconst (v := 1) hx hb dX6_mark_18 (by decide) ?_
  refine lv_iadd hx hb dX6_mark_19 ?_
  refine lv_bipush (v := 16) hx hb dX6_mark_20 (by decide) ?_
  refine lv_irem hx hb dX6_mark_22 (by decide) ?_
  refine pX6_17 B hS dX6_mark_23 (fun H locs hS => ?_)
  obtain ⟨t_4, et, hrun⟩ := bsE hrun
  have hS : SS X t_4 s.heap H locs := by rw [et]; exact hS
  clear et
  refine lv_aload_n hx hb dX6_mark_26 rfl (lv_at hl 0 rfl) ?_
  refine lv_bipush (v := 16) hx hb dX6_mark_27 (by decide) ?_
  refine lv_aload_n hx hb dX6_mark_29 rfl (lv_at hl 0 rfl) ?_
  refine gX6_21 B hS dX6_mark_30 ?_
  refine lv_iconst (v := 1) hx hb dX6_mark_33 (by decide) ?_
  refine lv_iadd hx hb dX6_mark_34 ?_
  refine xmin B hl.1 (tw_3 87 rfl rfl) (tw_3 88 rfl rfl) (tw_1 15 rfl rfl) (tw_3 89 rfl rfl) (Nat.le_of_ble_eq_true rfl) (Nat.le_of_ble_eq_true rfl) (Nat.zero_le _) (Nat.zero_le _) dX6_mark_35 ?_
  refine pX6_21 B hS dX6_mark_38 (fun H locs hS => ?_)
  obtain ⟨t_5, et, hrun⟩ := bsE hrun
  have hS : SS X t_5 s.heap H locs := by rw [et]; exact hS
  clear et
  exact hret _ _ _ _ _ hrun hS dX6_mark_41
theorem mdX6_restore : MD yX6_restore 1 := ⟨by decide +kernel, by decide +kernel, by decide +kernel⟩
set_option maxHeartbeats 4000000 in
set_option maxRecDepth 100000 in
theorem kX6_restore (l : Launch) (X : Cx) (t : St) (h1 : Nat) (e1 : isHall h1) (r : Int32) (t' : St) (hrun : fX6_restore h1 t = some (r, t')) : Ci l X t yX6_restore cX6_restore 2 .boolean 2 81 [.ref (X.2.1 15), .ref (X.2.1 h1)] r t' := by
  refine Ci_of (by decide) (Nat.le_of_ble_eq_true rfl) ?_
  intro p e s m args below meth c Q B hret hS ls hl
  have hx := B.1
  have hb := B.2.1
  have hown := B.2.2.2.1
  have hts := B.2.2.2.2.1
  have hl : lv_has ls 2 [(0, .ref (X.2.1 15)), (1, .ref (X.2.1 h1))] := hl
  unfold fX6_restore at hrun
  refine lv_aload_n hx hb dX6_restore_0 rfl (lv_at hl 0 rfl) ?_
  refine gX6_21 B hS dX6_restore_1 ?_
  refine lv_if_ne (tgt := 9) hx hb dX6_restore_4 (by decide) (fun hc => ?_) (fun hc => ?_)
  · have hrun := iq hc hrun
    refine lv_aload_n hx hb dX6_restore_9 rfl (lv_at hl 0 rfl) ?_
    refine lv_aload_n hx hb dX6_restore_10 rfl (lv_at hl 0 rfl) ?_
    refine gX6_17 B hS dX6_restore_11 ?_
    refine lv_bipush (v := 16) hx hb dX6_restore_14 (by decide) ?_
    refine lv_iadd hx hb dX6_restore_16 ?_
    refine lv_iconst (v := 1) hx hb dX6_restore_17 (by decide) ?_
    refine lv_isub hx hb dX6_restore_18 ?_
    refine lv_bipush (v := 16) hx hb dX6_restore_19 (by decide) ?_
    refine lv_irem hx hb dX6_restore_21 (by decide) ?_
    refine pX6_17 B hS dX6_restore_22 (fun H locs hS => ?_)
    obtain ⟨t_1, et, hrun⟩ := bsE hrun
    have hS : SS X t_1 s.heap H locs := by rw [et]; exact hS
    clear et
    refine lv_aload_n hx hb dX6_restore_25 rfl (lv_at hl 0 rfl) ?_
    refine lv_dup hx hb dX6_restore_26 rfl ?_
    refine gX6_21 B hS dX6_restore_27 ?_
    refine lv_iconst (v := 1) hx hb dX6_restore_30 (by decide) ?_
    refine lv_isub hx hb dX6_restore_31 ?_
    refine pX6_21 B hS dX6_restore_32 (fun H locs hS => ?_)
    obtain ⟨t_2, et, hrun⟩ := bsE hrun
    have hS : SS X t_2 s.heap H locs := by rw [et]; exact hS
    clear et
    refine lv_aload_n hx hb dX6_restore_35 rfl (lv_at hl 1 rfl) ?_
    refine lv_aload_n hx hb dX6_restore_36 rfl (lv_at hl 0 rfl) ?_
    refine gX6_11 B hS dX6_restore_37 ?_
    refine lv_aload_n hx hb dX6_restore_40 rfl (lv_at hl 0 rfl) ?_
    refine gX6_17 B hS dX6_restore_41 ?_
    obtain ⟨hi_3, hrun⟩ := gdE hrun
    refine xq B hS qa_16 rfl hi_3 dX6_restore_44 ?_
    obtain ⟨t_5, hc_4, hrun⟩ := bdE hrun
    refine qX6_27 B hS e1 (hall_ring hi_3) hc_4 hl.1 (Nat.le_of_ble_eq_true rfl) ⟨Nat.le_of_ble_eq_true rfl, Nat.le_of_ble_eq_true rfl⟩ ⟨Nat.zero_le _, Nat.zero_le _⟩ dX6_restore_45 (fun H locs hS => ?_)
    refine lv_iconst (v := 1) hx hb dX6_restore_48 (by decide) ?_
    exact hret _ _ _ _ _ _ hrun rfl hS dX6_restore_49
  · have hrun := ip hc hrun
    refine lv_iconst (v := 0) hx hb dX6_restore_7 (by decide) ?_
    exact hret _ _ _ _ _ _ hrun rfl hS dX6_restore_8
theorem mdX7_append : MD yX7_append 1 := ⟨by decide +kernel, by decide +kernel, by decide +kernel⟩
set_option maxHeartbeats 4000000 in
set_option maxRecDepth 100000 in
theorem kX7_append (l : Launch) (X : Cx) (t : St) (x1 : Int32) (r : Int32) (t' : St) (hrun : fX7_append t x1 = some (r, t')) : Ci l X t yX7_append cX7_append 2 .boolean 0 0 [.ref (X.2.1 1), .int x1] r t' := by
  refine Ci_of (by decide) (Nat.le_of_ble_eq_true rfl) ?_
  intro p e s m args below meth c Q B hret hS ls hl
  have hx := B.1
  have hb := B.2.1
  have hown := B.2.2.2.1
  have hts := B.2.2.2.2.1
  have hl : lv_has ls 2 [(0, .ref (X.2.1 1)), (1, .int x1)] := hl
  unfold fX7_append at hrun
  refine lv_aload_n hx hb dX7_append_0 rfl (lv_at hl 0 rfl) ?_
  refine gX7_15 B hS dX7_append_1 ?_
  refine lv_sipush (v := 240) hx hb dX7_append_4 (by decide) ?_
  refine lv_icmp_lt (tgt := 12) hx hb dX7_append_7 (by decide) (fun hc => ?_) (fun hc => ?_)
  · have hrun := ip hc hrun
    refine lv_aload_n hx hb dX7_append_12 rfl (lv_at hl 0 rfl) ?_
    refine gX7_9 B hS dX7_append_13 ?_
    refine lv_aload_n hx hb dX7_append_16 rfl (lv_at hl 0 rfl) ?_
    refine gX7_15 B hS dX7_append_17 ?_
    refine lv_iload_n hx hb dX7_append_20 rfl (lv_at hl 1 rfl) ?_
    obtain ⟨hi_1, hrun⟩ := gdE hrun
    refine xs B hS ia_2 hi_1 dX7_append_21 (fun H locs hS => ?_)
    obtain ⟨t_2, et, hrun⟩ := bsE hrun
    have hS : SS X t_2 s.heap H locs := by rw [et]; exact hS
    clear et
    refine lv_aload_n hx hb dX7_append_22 rfl (lv_at hl 0 rfl) ?_
    refine lv_dup hx hb dX7_append_23 rfl ?_
    refine gX7_15 B hS dX7_append_24 ?_
    refine lv_iconst (v := 1) hx hb dX7_append_27 (by decide) ?_
    refine lv_iadd hx hb dX7_append_28 ?_
    refine pX7_15 B hS dX7_append_29 (fun H locs hS => ?_)
    obtain ⟨t_3, et, hrun⟩ := bsE hrun
    have hS : SS X t_3 s.heap H locs := by rw [et]; exact hS
    clear et
    refine lv_iconst (v := 1) hx hb dX7_append_32 (by decide) ?_
    exact hret _ _ _ _ _ _ hrun rfl hS dX7_append_33
  · have hrun := iq hc hrun
    refine lv_iconst (v := 0) hx hb dX7_append_10 (by decide) ?_
    exact hret _ _ _ _ _ _ hrun rfl hS dX7_append_11
theorem mdX8_clear : MD yX8_clear 0 := ⟨by decide +kernel, by decide +kernel, by decide +kernel⟩
set_option maxHeartbeats 4000000 in
set_option maxRecDepth 100000 in
theorem kX8_clear (l : Launch) (X : Cx) (t : St) (h0 : Nat) (e0 : isReg h0) (t' : St) (hrun : fX8_clear h0 t = some t') : Cv l X t yX8_clear cX8_clear 1 0 0 [.ref (X.2.1 h0)] t' := by
  refine Cv_of (by decide) (Nat.le_of_ble_eq_true rfl) ?_
  intro p e s m args below meth c Q B hret hS ls hl
  have hx := B.1
  have hb := B.2.1
  have hown := B.2.2.2.1
  have hts := B.2.2.2.2.1
  have hl : lv_has ls 1 [(0, .ref (X.2.1 h0))] := hl
  unfold fX8_clear at hrun
  refine lv_aload_n hx hb dX8_clear_0 rfl (lv_at hl 0 rfl) ?_
  refine lv_iconst (v := 0) hx hb dX8_clear_1 (by decide) ?_
  refine pX8_27 B hS e0 dX8_clear_2 (fun H locs hS => ?_)
  obtain ⟨t_1, et, hrun⟩ := bsE hrun
  have hS : SS X t_1 s.heap H locs := by rw [et]; exact hS
  clear et
  refine lv_aload_n hx hb dX8_clear_5 rfl (lv_at hl 0 rfl) ?_
  refine lv_iconst (v := 0) hx hb dX8_clear_6 (by decide) ?_
  refine pX8_31 B hS e0 dX8_clear_7 (fun H locs hS => ?_)
  obtain ⟨t_2, et, hrun⟩ := bsE hrun
  have hS : SS X t_2 s.heap H locs := by rw [et]; exact hS
  clear et
  refine lv_aload_n hx hb dX8_clear_10 rfl (lv_at hl 0 rfl) ?_
  refine lv_iconst (v := 0) hx hb dX8_clear_11 (by decide) ?_
  refine pX8_34 B hS e0 dX8_clear_12 (fun H locs hS => ?_)
  obtain ⟨t_3, et, hrun⟩ := bsE hrun
  have hS : SS X t_3 s.heap H locs := by rw [et]; exact hS
  clear et
  refine lv_aload_n hx hb dX8_clear_15 rfl (lv_at hl 0 rfl) ?_
  refine lv_iconst (v := 0) hx hb dX8_clear_16 (by decide) ?_
  refine pX8_37 B hS e0 dX8_clear_17 (fun H locs hS => ?_)
  obtain ⟨t_4, et, hrun⟩ := bsE hrun
  have hS : SS X t_4 s.heap H locs := by rw [et]; exact hS
  clear et
  refine lv_aload_n hx hb dX8_clear_20 rfl (lv_at hl 0 rfl) ?_
  refine lv_iconst (v := 0) hx hb dX8_clear_21 (by decide) ?_
  refine pX8_40 B hS e0 dX8_clear_22 (fun H locs hS => ?_)
  obtain ⟨t_5, et, hrun⟩ := bsE hrun
  have hS : SS X t_5 s.heap H locs := by rw [et]; exact hS
  clear et
  exact hret _ _ _ _ _ hrun hS dX8_clear_25
theorem mdX7_letterHere : MD yX7_letterHere 0 := ⟨by decide +kernel, by decide +kernel, by decide +kernel⟩
set_option maxHeartbeats 4000000 in
set_option maxRecDepth 100000 in
theorem kX7_letterHere (l : Launch) (X : Cx) (t : St) (r : Int32) (hrun : fX7_letterHere t = some r) : Ci l X t yX7_letterHere cX7_letterHere 1 .int 0 0 [.ref (X.2.1 1)] r t := by
  refine Ci_of (by decide) (Nat.le_of_ble_eq_true rfl) ?_
  intro p e s m args below meth c Q B hret hS ls hl
  have hx := B.1
  have hb := B.2.1
  have hown := B.2.2.2.1
  have hts := B.2.2.2.2.1
  have hl : lv_has ls 1 [(0, .ref (X.2.1 1))] := hl
  unfold fX7_letterHere at hrun
  refine lv_aload_n hx hb dX7_letterHere_0 rfl (lv_at hl 0 rfl) ?_
  refine gX7_19 B hS dX7_letterHere_1 ?_
  refine lv_if_lt (tgt := 40) hx hb dX7_letterHere_4 (by decide) (fun hc => ?_) (fun hc => ?_)
  · have hrun := ip hc hrun
    refine lv_iconst (v := -1) hx hb dX7_letterHere_40 (by decide) ?_
    exact hret _ _ _ _ _ _ (congrArg (Option.map (fun w => (w, t))) hrun) rfl hS dX7_letterHere_41
  · have hrun := iq hc hrun
    refine lv_aload_n hx hb dX7_letterHere_7 rfl (lv_at hl 0 rfl) ?_
    refine gX7_19 B hS dX7_letterHere_8 ?_
    refine lv_aload_n hx hb dX7_letterHere_11 rfl (lv_at hl 0 rfl) ?_
    refine gX7_15 B hS dX7_letterHere_12 ?_
    refine lv_icmp_ge (tgt := 40) hx hb dX7_letterHere_15 (by decide) (fun hc => ?_) (fun hc => ?_)
    · have hrun := ip hc hrun
      refine lv_iconst (v := -1) hx hb dX7_letterHere_40 (by decide) ?_
      exact hret _ _ _ _ _ _ (congrArg (Option.map (fun w => (w, t))) hrun) rfl hS dX7_letterHere_41
    · have hrun := iq hc hrun
      refine lv_aload_n hx hb dX7_letterHere_18 rfl (lv_at hl 0 rfl) ?_
      refine gX7_19 B hS dX7_letterHere_19 ?_
      refine lv_sipush (v := 240) hx hb dX7_letterHere_22 (by decide) ?_
      refine lv_icmp_ge (tgt := 40) hx hb dX7_letterHere_25 (by decide) (fun hc => ?_) (fun hc => ?_)
      · have hrun := ip hc hrun
        refine lv_iconst (v := -1) hx hb dX7_letterHere_40 (by decide) ?_
        exact hret _ _ _ _ _ _ (congrArg (Option.map (fun w => (w, t))) hrun) rfl hS dX7_letterHere_41
      · have hrun := iq hc hrun
        refine lv_aload_n hx hb dX7_letterHere_28 rfl (lv_at hl 0 rfl) ?_
        refine gX7_9 B hS dX7_letterHere_29 ?_
        refine lv_aload_n hx hb dX7_letterHere_32 rfl (lv_at hl 0 rfl) ?_
        refine gX7_19 B hS dX7_letterHere_33 ?_
        obtain ⟨hi_1, hrun⟩ := gdE hrun
        refine xa B hS ia_2 hi_1 dX7_letterHere_36 ?_
        refine lv_goto (tgt := 41) hx hb dX7_letterHere_37 (by decide) ?_
        exact hret _ _ _ _ _ _ (congrArg (Option.map (fun w => (w, t))) hrun) rfl hS dX7_letterHere_41
theorem mdX7_skipBlanks : MD yX7_skipBlanks 0 := ⟨by decide +kernel, by decide +kernel, by decide +kernel⟩
section QX7_skipBlanks
variable {p : Program} {l : Launch} {e : Env} {R : Room} {s : State} {m : MethodId} {args : Array Value} {below : List Frame} {meth : Method} {c : Code} {H : Heap} {locs : List Loc} {cells slots : Nat} {Q : State → Prop}
variable {cc : ByteArray} {pc : Nat} {ls : Array Slot} {rest : List Value} {X : Cx} {t : St} {H0 : Heap} {nL : Nat}
theorem qX7_40 (B : Bx p s m args c cc nL X RX7) (hS : SS X t H0 H locs) {r : Int32} (hM : fX7_letterHere t = some r) (hsz : ls.size = nL) (hW : (rest.map fun v => v.category).sum ≤ 8) (hR : 0 + 1 ≤ R.frames ∧ 8 + (1 + 11) + 0 ≤ R.locals) (hR2 : cells ≤ R.cells ∧ slots ≤ R.slots) (hdg : decode cc pc = .ok (.invokevirtual 40, 3)) (kk : ∀ (H1 : Heap) (locs1 : List Loc), SS X t H0 H1 locs1 → W p l e R s m args below meth c H1 locs1 cells slots Q (F0 m (pc + 3) ls (.int r :: rest))) : W p l e R s m args below meth c H locs cells slots Q (F0 m pc ls (.ref (X.2.1 1) :: rest)) :=
  xVi B hS (kX7_letterHere l X t r hM) (tw_2 127 rfl rfl) (tw_2 129 rfl rfl) (tw_0 1 rfl rfl) (tw_1 5 rfl rfl) (tw_2 130 rfl rfl) mdX7_letterHere (by decide) (ceX7 _) rfl rfl rfl hsz rfl hW hR hR2 hdg kk
end QX7_skipBlanks
set_option maxHeartbeats 4000000 in
set_option maxRecDepth 100000 in
theorem kX7_skipBlanks (l : Launch) (X : Cx) (t : St) (t' : St) (hrun : fX7_skipBlanks t = some t') : Cv l X t yX7_skipBlanks cX7_skipBlanks 1 1 20 [.ref (X.2.1 1)] t' := by
  refine Cv_of (by decide) (Nat.le_of_ble_eq_true rfl) ?_
  intro p e s m args below meth c Q B hret hS ls hl
  have hx := B.1
  have hb := B.2.1
  have hown := B.2.2.2.1
  have hts := B.2.2.2.2.1
  have hl : lv_has ls 1 [(0, .ref (X.2.1 1))] := hl
  have hB0 : ∀ (n0 : Nat) (t : St) (H : Heap) (locs : List Loc) (ls : Array Slot), SS X t s.heap H locs → lv_has ls 1 [(0, .ref (X.2.1 1))] → fX7_skipBlanks_0 n0 t = some t' → W p l e ({ frames := 1, cells := 0, slots := 0, locals := 20 } : Room) s m args below meth c H locs 0 0 Q (F0 m 0 ls []) := by
    intro n0
    induction n0 with
    | zero =>
      intro t H locs ls hS hl hrun
      cases (show (none : Option (St)) = some t' from hrun)
    | succ n0 ih0 =>
      intro t H locs ls hS hl hrun
      rw [fX7_skipBlanks_0_s] at hrun
      refine lv_aload_n hx hb dX7_skipBlanks_0 rfl (lv_at hl 0 rfl) ?_
      refine gX7_19 B hS dX7_skipBlanks_1 ?_
      refine lv_aload_n hx hb dX7_skipBlanks_4 rfl (lv_at hl 0 rfl) ?_
      refine gX7_15 B hS dX7_skipBlanks_5 ?_
      refine lv_icmp_ge (tgt := 33) hx hb dX7_skipBlanks_8 (by decide) (fun hc => ?_) (fun hc => ?_)
      · have hrun := ip hc hrun
        exact hret _ _ _ _ _ hrun hS dX7_skipBlanks_33
      · have hrun := iq hc hrun
        refine lv_aload_n hx hb dX7_skipBlanks_11 rfl (lv_at hl 0 rfl) ?_
        obtain ⟨r_1002, hc_1001, hrun⟩ := bdE hrun
        refine qX7_40 B hS hc_1001 hl.1 (Nat.le_of_ble_eq_true rfl) ⟨Nat.le_of_ble_eq_true rfl, Nat.le_of_ble_eq_true rfl⟩ ⟨Nat.zero_le _, Nat.zero_le _⟩ dX7_skipBlanks_12 (fun H locs hS => ?_)
        refine lv_bipush (v := 32) hx hb dX7_skipBlanks_15 (by decide) ?_
        refine lv_icmp_ne (tgt := 33) hx hb dX7_skipBlanks_17 (by decide) (fun hc => ?_) (fun hc => ?_)
        · have hrun := iq hc hrun
          exact hret _ _ _ _ _ hrun hS dX7_skipBlanks_33
        · have hrun := ip hc hrun
          refine lv_aload_n hx hb dX7_skipBlanks_20 rfl (lv_at hl 0 rfl) ?_
          refine lv_dup hx hb dX7_skipBlanks_21 rfl ?_
          refine gX7_19 B hS dX7_skipBlanks_22 ?_
          refine lv_iconst (v := 1) hx hb dX7_skipBlanks_25 (by decide) ?_
          refine lv_iadd hx hb dX7_skipBlanks_26 ?_
          refine pX7_19 B hS dX7_skipBlanks_27 (fun H locs hS => ?_)
          obtain ⟨t_1003, et, hrun⟩ := bsE hrun
          have hS : SS X t_1003 s.heap H locs := by rw [et]; exact hS
          clear et
          refine lv_goto (tgt := 0) hx hb dX7_skipBlanks_30 (by decide) ?_
          exact ih0 t_1003 _ _ _ hS (lv_sub hl [0] rfl) hrun
  unfold fX7_skipBlanks at hrun
  exact hB0 fuelN t _ _ _ hS (lv_sub hl [0] rfl) hrun
theorem mdX8_isEmpty : MD yX8_isEmpty 0 := ⟨by decide +kernel, by decide +kernel, by decide +kernel⟩
set_option maxHeartbeats 4000000 in
set_option maxRecDepth 100000 in
theorem kX8_isEmpty (l : Launch) (X : Cx) (t : St) (h0 : Nat) (e0 : isReg h0) (r : Int32) (hrun : fX8_isEmpty h0 t = some r) : Ci l X t yX8_isEmpty cX8_isEmpty 1 .boolean 0 0 [.ref (X.2.1 h0)] r t := by
  refine Ci_of (by decide) (Nat.le_of_ble_eq_true rfl) ?_
  intro p e s m args below meth c Q B hret hS ls hl
  have hx := B.1
  have hb := B.2.1
  have hown := B.2.2.2.1
  have hts := B.2.2.2.2.1
  have hl : lv_has ls 1 [(0, .ref (X.2.1 h0))] := hl
  unfold fX8_isEmpty at hrun
  refine lv_aload_n hx hb dX8_isEmpty_0 rfl (lv_at hl 0 rfl) ?_
  refine gX8_31 B hS e0 dX8_isEmpty_1 ?_
  refine lv_if_ne (tgt := 11) hx hb dX8_isEmpty_4 (by decide) (fun hc => ?_) (fun hc => ?_)
  · have hrun := iq hc hrun
    refine lv_iconst (v := 0) hx hb dX8_isEmpty_11 (by decide) ?_
    exact hret _ _ _ _ _ _ (congrArg (Option.map (fun w => (w, t))) hrun) rfl hS dX8_isEmpty_12
  · have hrun := ip hc hrun
    refine lv_iconst (v := 1) hx hb dX8_isEmpty_7 (by decide) ?_
    refine lv_goto (tgt := 12) hx hb dX8_isEmpty_8 (by decide) ?_
    exact hret _ _ _ _ _ _ (congrArg (Option.map (fun w => (w, t))) hrun) rfl hS dX8_isEmpty_12
theorem mdX7_fail : MD yX7_fail 2 := ⟨by decide +kernel, by decide +kernel, by decide +kernel⟩
set_option maxHeartbeats 4000000 in
set_option maxRecDepth 100000 in
theorem kX7_fail (l : Launch) (X : Cx) (t : St) (x1 : Int32) (x2 : Int32) (t' : St) (hrun : fX7_fail t x1 x2 = some t') : Cv l X t yX7_fail cX7_fail 3 0 0 [.ref (X.2.1 1), .int x1, .int x2] t' := by
  refine Cv_of (by decide) (Nat.le_of_ble_eq_true rfl) ?_
  intro p e s m args below meth c Q B hret hS ls hl
  have hx := B.1
  have hb := B.2.1
  have hown := B.2.2.2.1
  have hts := B.2.2.2.2.1
  have hl : lv_has ls 3 [(0, .ref (X.2.1 1)), (1, .int x1), (2, .int x2)] := hl
  unfold fX7_fail at hrun
  refine lv_aload_n hx hb dX7_fail_0 rfl (lv_at hl 0 rfl) ?_
  refine lv_iload_n hx hb dX7_fail_1 rfl (lv_at hl 1 rfl) ?_
  refine pX7_22 B hS dX7_fail_2 (fun H locs hS => ?_)
  obtain ⟨t_1, et, hrun⟩ := bsE hrun
  have hS : SS X t_1 s.heap H locs := by rw [et]; exact hS
  clear et
  refine lv_aload_n hx hb dX7_fail_5 rfl (lv_at hl 0 rfl) ?_
  refine lv_iload_n hx hb dX7_fail_6 rfl (lv_at hl 2 rfl) ?_
  refine pX7_25 B hS dX7_fail_7 (fun H locs hS => ?_)
  obtain ⟨t_2, et, hrun⟩ := bsE hrun
  have hS : SS X t_2 s.heap H locs := by rw [et]; exact hS
  clear et
  exact hret _ _ _ _ _ hrun hS dX7_fail_10
theorem mdX7_isFigure : MD yX7_isFigure 1 := ⟨by decide +kernel, by decide +kernel, by decide +kernel⟩
set_option maxHeartbeats 4000000 in
set_option maxRecDepth 100000 in
theorem kX7_isFigure (l : Launch) (X : Cx) (t : St) (x0 : Int32) (r : Int32) (hrun : fX7_isFigure t x0 = some r) : Ci l X t yX7_isFigure cX7_isFigure 1 .boolean 0 0 [.int x0] r t := by
  refine Ci_of (by decide) (Nat.le_of_ble_eq_true rfl) ?_
  intro p e s m args below meth c Q B hret hS ls hl
  have hx := B.1
  have hb := B.2.1
  have hown := B.2.2.2.1
  have hts := B.2.2.2.2.1
  have hl : lv_has ls 1 [(0, .int x0)] := hl
  unfold fX7_isFigure at hrun
  refine lv_iload_n hx hb dX7_isFigure_0 rfl (lv_at hl 0 rfl) ?_
  refine lv_bipush (v := 48) hx hb dX7_isFigure_1 (by decide) ?_
  refine lv_icmp_lt (tgt := 16) hx hb dX7_isFigure_3 (by decide) (fun hc => ?_) (fun hc => ?_)
  · have hrun := ip hc hrun
    refine lv_iconst (v := 0) hx hb dX7_isFigure_16 (by decide) ?_
    exact hret _ _ _ _ _ _ (congrArg (Option.map (fun w => (w, t))) hrun) rfl hS dX7_isFigure_17
  · have hrun := iq hc hrun
    refine lv_iload_n hx hb dX7_isFigure_6 rfl (lv_at hl 0 rfl) ?_
    refine lv_bipush (v := 57) hx hb dX7_isFigure_7 (by decide) ?_
    refine lv_icmp_gt (tgt := 16) hx hb dX7_isFigure_9 (by decide) (fun hc => ?_) (fun hc => ?_)
    · have hrun := ip hc hrun
      refine lv_iconst (v := 0) hx hb dX7_isFigure_16 (by decide) ?_
      exact hret _ _ _ _ _ _ (congrArg (Option.map (fun w => (w, t))) hrun) rfl hS dX7_isFigure_17
    · have hrun := iq hc hrun
      refine lv_iconst (v := 1) hx hb dX7_isFigure_12 (by decide) ?_
      refine lv_goto (tgt := 17) hx hb dX7_isFigure_13 (by decide) ?_
      exact hret _ _ _ _ _ _ (congrArg (Option.map (fun w => (w, t))) hrun) rfl hS dX7_isFigure_17
theorem mdX7_readNumber : MD yX7_readNumber 2 := ⟨by decide +kernel, by decide +kernel, by decide +kernel⟩
section QX7_readNumber
variable {p : Program} {l : Launch} {e : Env} {R : Room} {s : State} {m : MethodId} {args : Array Value} {below : List Frame} {meth : Method} {c : Code} {H : Heap} {locs : List Loc} {cells slots : Nat} {Q : State → Prop}
variable {cc : ByteArray} {pc : Nat} {ls : Array Slot} {rest : List Value} {X : Cx} {t : St} {H0 : Heap} {nL : Nat}
theorem qX7_33 (B : Bx p s m args c cc nL X RX7) (hS : SS X t H0 H locs) {t' : St} (hM : fX7_skipBlanks t = some t') (hsz : ls.size = nL) (hW : (rest.map fun v => v.category).sum ≤ 8) (hR : 1 + 1 ≤ R.frames ∧ 8 + (1 + 11) + 20 ≤ R.locals) (hR2 : cells ≤ R.cells ∧ slots ≤ R.slots) (hdg : decode cc pc = .ok (.invokevirtual 33, 3)) (kk : ∀ (H1 : Heap) (locs1 : List Loc), SS X t' H0 H1 locs1 → W p l e R s m args below meth c H1 locs1 cells slots Q (F0 m (pc + 3) ls (rest))) : W p l e R s m args below meth c H locs cells slots Q (F0 m pc ls (.ref (X.2.1 1) :: rest)) :=
  xVv B hS (kX7_skipBlanks l X t t' hM) (tw_2 123 rfl rfl) (tw_2 125 rfl rfl) (tw_0 0 rfl rfl) (tw_1 5 rfl rfl) (tw_2 126 rfl rfl) mdX7_skipBlanks (by decide) (ceX7 _) rfl rfl rfl hsz rfl hW hR hR2 hdg kk
theorem qX7_48 (B : Bx p s m args c cc nL X RX7) (hS : SS X t H0 H locs) {x1 : Int32} {x2 : Int32} {t' : St} (hM : fX7_fail t x1 x2 = some t') (hsz : ls.size = nL) (hW : (rest.map fun v => v.category).sum ≤ 8) (hR : 0 + 1 ≤ R.frames ∧ 8 + (3 + 11) + 0 ≤ R.locals) (hR2 : cells ≤ R.cells ∧ slots ≤ R.slots) (hdg : decode cc pc = .ok (.invokevirtual 48, 3)) (kk : ∀ (H1 : Heap) (locs1 : List Loc), SS X t' H0 H1 locs1 → W p l e R s m args below meth c H1 locs1 cells slots Q (F0 m (pc + 3) ls (rest))) : W p l e R s m args below meth c H locs cells slots Q (F0 m pc ls (.int x2 :: .int x1 :: .ref (X.2.1 1) :: rest)) :=
  xVv B hS (kX7_fail l X t x1 x2 t' hM) (tw_2 139 rfl rfl) (tw_2 141 rfl rfl) (tw_0 3 rfl rfl) (tw_1 5 rfl rfl) (tw_2 142 rfl rfl) mdX7_fail (by decide) (ceX7 _) rfl rfl rfl hsz rfl hW hR hR2 hdg kk
theorem qX7_89 (B : Bx p s m args c cc nL X RX7) (hS : SS X t H0 H locs) {x0 : Int32} {r : Int32} (hM : fX7_isFigure t x0 = some r) (hsz : ls.size = nL) (hW : (rest.map fun v => v.category).sum ≤ 8) (hR : 0 + 1 ≤ R.frames ∧ 8 + (1 + 11) + 0 ≤ R.locals) (hR2 : cells ≤ R.cells ∧ slots ≤ R.slots) (hdg : decode cc pc = .ok (.invokestatic 89, 3)) (kk : ∀ (H1 : Heap) (locs1 : List Loc), SS X t H0 H1 locs1 → W p l e R s m args below meth c H1 locs1 cells slots Q (F0 m (pc + 3) ls (.int r :: rest))) : W p l e R s m args below meth c H locs cells slots Q (F0 m pc ls (.int x0 :: rest)) :=
  xSi B hS (kX7_isFigure l X t x0 r hM) (tw_2 151 rfl rfl) (tw_2 152 rfl rfl) (tw_1 5 rfl rfl) (tw_2 153 rfl rfl) mdX7_isFigure rfl hsz rfl hW hR hR2 hdg kk
end QX7_readNumber
set_option maxHeartbeats 4000000 in
set_option maxRecDepth 100000 in
theorem kX7_readNumber (l : Launch) (X : Cx) (t : St) (x1 : Int32) (x2 : Int32) (r : Int32) (t' : St) (hrun : fX7_readNumber t x1 x2 = some (r, t')) : Ci l X t yX7_readNumber cX7_readNumber 5 .int 2 40 [.ref (X.2.1 1), .int x1, .int x2] r t' := by
  refine Ci_of (by decide) (Nat.le_of_ble_eq_true rfl) ?_
  intro p e s m args below meth c Q B hret hS ls hl
  have hx := B.1
  have hb := B.2.1
  have hown := B.2.2.2.1
  have hts := B.2.2.2.2.1
  have hl : lv_has ls 5 [(0, .ref (X.2.1 1)), (1, .int x1), (2, .int x2)] := hl
  have hB130 : ∀ (t : St) (x1 : Int32) (x4 : Int32) (H : Heap) (locs : List Loc) (ls : Array Slot), SS X t s.heap H locs → lv_has ls 5 [(0, .ref (X.2.1 1)), (1, .int x1), (4, .int x4)] → fX7_readNumber_130 t x1 x4 = some (r, t') → W p l e ({ frames := 2, cells := 0, slots := 0, locals := 40 } : Room) s m args below meth c H locs 0 0 Q (F0 m 130 ls []) := by
    intro t x1 x4 H locs ls hS hl hrun
    unfold fX7_readNumber_130 at hrun
    refine lv_aload_n hx hb dX7_readNumber_130 rfl (lv_at hl 0 rfl) ?_
    refine gX7_22 B hS dX7_readNumber_131 ?_
    refine lv_if_eq (tgt := 141) hx hb dX7_readNumber_134 (by decide) (fun hc => ?_) (fun hc => ?_)
    · have hrun := ip hc hrun
      refine lv_iload hx hb dX7_readNumber_141 (lv_at hl 2 rfl) ?_
      exact hret _ _ _ _ _ _ hrun rfl hS dX7_readNumber_143
    · have hrun := iq hc hrun
      refine lv_iload_n hx hb dX7_readNumber_137 rfl (lv_at hl 1 rfl) ?_
      refine lv_goto (tgt := 143) hx hb dX7_readNumber_138 (by decide) ?_
      exact hret _ _ _ _ _ _ hrun rfl hS dX7_readNumber_143
  have hB124 : ∀ (t : St) (x1 : Int32) (x3 : Int32) (x4 : Int32) (H : Heap) (locs : List Loc) (ls : Array Slot), SS X t s.heap H locs → lv_has ls 5 [(0, .ref (X.2.1 1)), (1, .int x1), (3, .int x3), (4, .int x4)] → fX7_readNumber_124 t x1 x3 x4 = some (r, t') → W p l e ({ frames := 2, cells := 0, slots := 0, locals := 40 } : Room) s m args below meth c H locs 0 0 Q (F0 m 124 ls []) := by
    intro t x1 x3 x4 H locs ls hS hl hrun
    unfold fX7_readNumber_124 at hrun
    refine lv_aload_n hx hb dX7_readNumber_124 rfl (lv_at hl 0 rfl) ?_
    refine lv_iconst (v := 2) hx hb dX7_readNumber_125 (by decide) ?_
    refine lv_iload_n hx hb dX7_readNumber_126 rfl (lv_at hl 2 rfl) ?_
    obtain ⟨t_1126, hc_1125, hrun⟩ := bdE hrun
    refine qX7_48 B hS hc_1125 hl.1 (Nat.le_of_ble_eq_true rfl) ⟨Nat.le_of_ble_eq_true rfl, Nat.le_of_ble_eq_true rfl⟩ ⟨Nat.zero_le _, Nat.zero_le _⟩ dX7_readNumber_127 (fun H locs hS => ?_)
    exact hB130 t_1126 x1 x4 _ _ _ hS (lv_sub hl [0, 1, 3] rfl) hrun
  have hB85 : ∀ (t : St) (x1 : Int32) (x2 : Int32) (x3 : Int32) (x4 : Int32) (H : Heap) (locs : List Loc) (ls : Array Slot), SS X t s.heap H locs → lv_has ls 5 [(0, .ref (X.2.1 1)), (1, .int x1), (2, .int x2), (3, .int x3), (4, .int x4)] → fX7_readNumber_85 t x1 x2 x3 x4 = some (r, t') → W p l e ({ frames := 2, cells := 0, slots := 0, locals := 40 } : Room) s m args below meth c H locs 0 0 Q (F0 m 85 ls []) := by
    intro t x1 x2 x3 x4 H locs ls hS hl hrun
    unfold fX7_readNumber_85 at hrun
    refine lv_aload_n hx hb dX7_readNumber_85 rfl (lv_at hl 0 rfl) ?_
    refine gX7_19 B hS dX7_readNumber_86 ?_
    refine lv_iload_n hx hb dX7_readNumber_89 rfl (lv_at hl 3 rfl) ?_
    refine lv_icmp_ne (tgt := 102) hx hb dX7_readNumber_90 (by decide) (fun hc => ?_) (fun hc => ?_)
    · have hrun := iq hc hrun
      refine lv_aload_n hx hb dX7_readNumber_102 rfl (lv_at hl 0 rfl) ?_
      refine gX7_19 B hS dX7_readNumber_103 ?_
      refine lv_iload_n hx hb dX7_readNumber_106 rfl (lv_at hl 3 rfl) ?_
      refine lv_isub hx hb dX7_readNumber_107 ?_
      refine lv_iconst (v := 3) hx hb dX7_readNumber_108 (by decide) ?_
      refine lv_icmp_gt (tgt := 124) hx hb dX7_readNumber_109 (by decide) (fun hc => ?_) (fun hc => ?_)
      · have hrun := ip hc hrun
        exact hB124 t x1 x3 x4 _ _ _ hS (lv_sub hl [0, 1, 3, 4] rfl) hrun
      · have hrun := iq hc hrun
        refine lv_iload hx hb dX7_readNumber_112 (lv_at hl 4 rfl) ?_
        refine lv_iload_n hx hb dX7_readNumber_114 rfl (lv_at hl 1 rfl) ?_
        refine lv_icmp_lt (tgt := 124) hx hb dX7_readNumber_115 (by decide) (fun hc => ?_) (fun hc => ?_)
        · have hrun := ip hc hrun
          exact hB124 t x1 x3 x4 _ _ _ hS (lv_sub hl [0, 1, 3, 4] rfl) hrun
        · have hrun := iq hc hrun
          refine lv_iload hx hb dX7_readNumber_118 (lv_at hl 4 rfl) ?_
          refine lv_iload_n hx hb dX7_readNumber_120 rfl (lv_at hl 2 rfl) ?_
          refine lv_icmp_le (tgt := 130) hx hb dX7_readNumber_121 (by decide) (fun hc => ?_) (fun hc => ?_)
          · have hrun := ip hc hrun
            exact hB130 t x1 x4 _ _ _ hS (lv_sub hl [0, 1, 4] rfl) hrun
          · have hrun := iq hc hrun
            exact hB124 t x1 x3 x4 _ _ _ hS (lv_sub hl [0, 1, 3, 4] rfl) hrun
    · have hrun := ip hc hrun
      refine lv_aload_n hx hb dX7_readNumber_93 rfl (lv_at hl 0 rfl) ?_
      refine lv_iconst (v := 1) hx hb dX7_readNumber_94 (by decide) ?_
      refine lv_iload_n hx hb dX7_readNumber_95 rfl (lv_at hl 3 rfl) ?_
      obtain ⟨t_1087, hc_1086, hrun⟩ := bdE hrun
      refine qX7_48 B hS hc_1086 hl.1 (Nat.le_of_ble_eq_true rfl) ⟨Nat.le_of_ble_eq_true rfl, Nat.le_of_ble_eq_true rfl⟩ ⟨Nat.zero_le _, Nat.zero_le _⟩ dX7_readNumber_96 (fun H locs hS => ?_)
      refine lv_goto (tgt := 130) hx hb dX7_readNumber_99 (by decide) ?_
      exact hB130 t_1087 x1 x4 _ _ _ hS (lv_sub hl [0, 1, 4] rfl) hrun
  have hB21 : ∀ (n21 : Nat) (t : St) (x1 : Int32) (x2 : Int32) (x3 : Int32) (x4 : Int32) (H : Heap) (locs : List Loc) (ls : Array Slot), SS X t s.heap H locs → lv_has ls 5 [(0, .ref (X.2.1 1)), (1, .int x1), (2, .int x2), (3, .int x3), (4, .int x4)] → fX7_readNumber_21 n21 t x1 x2 x3 x4 = some (r, t') → W p l e ({ frames := 2, cells := 0, slots := 0, locals := 40 } : Room) s m args below meth c H locs 0 0 Q (F0 m 21 ls []) := by
    intro n21
    induction n21 with
    | zero =>
      intro t x1 x2 x3 x4 H locs ls hS hl hrun
      cases (show (none : Option (Int32 × St)) = some (r, t') from hrun)
    | succ n21 ih21 =>
      have hB70 : ∀ (t : St) (x1 : Int32) (x2 : Int32) (x3 : Int32) (y0 : Int32) (H : Heap) (locs : List Loc) (ls : Array Slot), SS X t s.heap H locs → lv_has ls 5 [(0, .ref (X.2.1 1)), (1, .int x1), (2, .int x2), (3, .int x3)] → fX7_readNumber_70 (fX7_readNumber_21 n21) t x1 x2 x3 y0 = some (r, t') → W p l e ({ frames := 2, cells := 0, slots := 0, locals := 40 } : Room) s m args below meth c H locs 0 0 Q (F0 m 70 ls [.int y0]) := by
        intro t x1 x2 x3 y0 H locs ls hS hl hrun
        unfold fX7_readNumber_70 at hrun
        refine lv_istore (lv' := [(4, .int y0), (0, .ref (X.2.1 1)), (1, .int x1), (2, .int x2), (3, .int x3)]) hx hb dX7_readNumber_70 hl (by decide) rfl (fun ls hl => ?_)
        refine lv_aload_n hx hb dX7_readNumber_72 rfl (lv_at hl 1 rfl) ?_
        refine lv_dup hx hb dX7_readNumber_73 rfl ?_
        refine gX7_19 B hS dX7_readNumber_74 ?_
        refine lv_iconst (v := 1) hx hb dX7_readNumber_77 (by decide) ?_
        refine lv_iadd hx hb dX7_readNumber_78 ?_
        refine pX7_19 B hS dX7_readNumber_79 (fun H locs hS => ?_)
        obtain ⟨t_1071, et, hrun⟩ := bsE hrun
        have hS : SS X t_1071 s.heap H locs := by rw [et]; exact hS
        clear et
        refine lv_goto (tgt := 21) hx hb dX7_readNumber_82 (by decide) ?_
        exact ih21 t_1071 x1 x2 x3 y0 _ _ _ hS (lv_sub hl [1, 2, 3, 4, 0] rfl) hrun
      intro t x1 x2 x3 x4 H locs ls hS hl hrun
      rw [fX7_readNumber_21_s] at hrun
      refine lv_aload_n hx hb dX7_readNumber_21 rfl (lv_at hl 0 rfl) ?_
      refine gX7_19 B hS dX7_readNumber_22 ?_
      refine lv_aload_n hx hb dX7_readNumber_25 rfl (lv_at hl 0 rfl) ?_
      refine gX7_15 B hS dX7_readNumber_26 ?_
      refine lv_icmp_ge (tgt := 85) hx hb dX7_readNumber_29 (by decide) (fun hc => ?_) (fun hc => ?_)
      · have hrun := ip hc hrun
        exact hB85 t x1 x2 x3 x4 _ _ _ hS (lv_sub hl [0, 1, 2, 3, 4] rfl) hrun
      · have hrun := iq hc hrun
        refine lv_aload_n hx hb dX7_readNumber_32 rfl (lv_at hl 0 rfl) ?_
        obtain ⟨r_1023, hc_1022, hrun⟩ := bdE hrun
        refine qX7_40 B hS hc_1022 hl.1 (Nat.le_of_ble_eq_true rfl) ⟨Nat.le_of_ble_eq_true rfl, Nat.le_of_ble_eq_true rfl⟩ ⟨Nat.zero_le _, Nat.zero_le _⟩ dX7_readNumber_33 (fun H locs hS => ?_)
        obtain ⟨r_1025, hc_1024, hrun⟩ := bdE hrun
        refine qX7_89 B hS hc_1024 hl.1 (Nat.le_of_ble_eq_true rfl) ⟨Nat.le_of_ble_eq_true rfl, Nat.le_of_ble_eq_true rfl⟩ ⟨Nat.zero_le _, Nat.zero_le _⟩ dX7_readNumber_36 (fun H locs hS => ?_)
        refine lv_if_eq (tgt := 85) hx hb dX7_readNumber_39 (by decide) (fun hc => ?_) (fun hc => ?_)
        · have hrun := ip hc hrun
          exact hB85 t x1 x2 x3 x4 _ _ _ hS (lv_sub hl [0, 1, 2, 3, 4] rfl) hrun
        · have hrun := iq hc hrun
          refine lv_aload_n hx hb dX7_readNumber_42 rfl (lv_at hl 0 rfl) ?_
          refine gX7_19 B hS dX7_readNumber_43 ?_
          refine lv_iload_n hx hb dX7_readNumber_46 rfl (lv_at hl 3 rfl) ?_
          refine lv_isub hx hb dX7_readNumber_47 ?_
          refine lv_iconst (v := 3) hx hb dX7_readNumber_48 (by decide) ?_
          refine lv_icmp_ge (tgt := 68) hx hb dX7_readNumber_49 (by decide) (fun hc => ?_) (fun hc => ?_)
          · have hrun := ip hc hrun
            refine lv_iload hx hb dX7_readNumber_68 (lv_at hl 4 rfl) ?_
            exact hB70 t x1 x2 x3 x4 _ _ _ hS (lv_sub hl [0, 1, 2, 3] rfl) hrun
          · have hrun := iq hc hrun
            refine lv_iload hx hb dX7_readNumber_52 (lv_at hl 4 rfl) ?_
            refine lv_bipush (v := 10) hx hb dX7_readNumber_54 (by decide) ?_
            refine lv_imul hx hb dX7_readNumber_56 ?_
            refine lv_aload_n hx hb dX7_readNumber_57 rfl (lv_at hl 0 rfl) ?_
            obtain ⟨r_1027, hc_1026, hrun⟩ := bdE hrun
            refine qX7_40 B hS hc_1026 hl.1 (Nat.le_of_ble_eq_true rfl) ⟨Nat.le_of_ble_eq_true rfl, Nat.le_of_ble_eq_true rfl⟩ ⟨Nat.zero_le _, Nat.zero_le _⟩ dX7_readNumber_58 (fun H locs hS => ?_)
            refine lv_iadd hx hb dX7_readNumber_61 ?_
            refine lv_bipush (v := 48) hx hb dX7_readNumber_62 (by decide) ?_
            refine lv_isub hx hb dX7_readNumber_64 ?_
            refine lv_goto (tgt := 70) hx hb dX7_readNumber_65 (by decide) ?_
            exact hB70 t x1 x2 x3 (((x4 * (10 : Int32)) + r_1027) - (48 : Int32)) _ _ _ hS (lv_sub hl [0, 1, 2, 3] rfl) hrun
  unfold fX7_readNumber at hrun
  refine lv_aload_n hx hb dX7_readNumber_0 rfl (lv_at hl 0 rfl) ?_
  refine gX7_22 B hS dX7_readNumber_1 ?_
  refine lv_if_eq (tgt := 9) hx hb dX7_readNumber_4 (by decide) (fun hc => ?_) (fun hc => ?_)
  · have hrun := ip hc hrun
    refine lv_aload_n hx hb dX7_readNumber_9 rfl (lv_at hl 0 rfl) ?_
    obtain ⟨t_2, hc_1, hrun⟩ := bdE hrun
    refine qX7_33 B hS hc_1 hl.1 (Nat.le_of_ble_eq_true rfl) ⟨Nat.le_of_ble_eq_true rfl, Nat.le_of_ble_eq_true rfl⟩ ⟨Nat.zero_le _, Nat.zero_le _⟩ dX7_readNumber_10 (fun H locs hS => ?_)
    refine lv_aload_n hx hb dX7_readNumber_13 rfl (lv_at hl 0 rfl) ?_
    refine gX7_19 B hS dX7_readNumber_14 ?_
    refine lv_topi (fun x3_3 ex => ?_)
    obtain ⟨z, ez, hrun⟩ := bsE hrun
    obtain rfl : x3_3 = z := ex.trans ez.symm
    clear ex ez
    refine lv_istore_n (lv' := [(3, .int x3_3), (0, .ref (X.2.1 1)), (1, .int x1), (2, .int x2)]) hx hb dX7_readNumber_17 rfl hl (by decide) rfl (fun ls hl => ?_)
    refine lv_iconst (v := 0) hx hb dX7_readNumber_18 (by decide) ?_
    refine lv_istore (lv' := [(4, .int (0 : Int32)), (3, .int x3_3), (0, .ref (X.2.1 1)), (1, .int x1), (2, .int x2)]) hx hb dX7_readNumber_19 hl (by decide) rfl (fun ls hl => ?_)
    exact hB21 fuelN t_2 x1 x2 x3_3 (0 : Int32) _ _ _ hS (lv_sub hl [2, 3, 4, 1, 0] rfl) hrun
  · have hrun := iq hc hrun
    refine lv_iload_n hx hb dX7_readNumber_7 rfl (lv_at hl 1 rfl) ?_
    exact hret _ _ _ _ _ _ hrun rfl hS dX7_readNumber_8
theorem mdX8_everyWord : MD yX8_everyWord 0 := ⟨by decide +kernel, by decide +kernel, by decide +kernel⟩
set_option maxHeartbeats 4000000 in
set_option maxRecDepth 100000 in
theorem kX8_everyWord (l : Launch) (X : Cx) (t : St) (h0 : Nat) (e0 : isReg h0) (r : Int32) (hrun : fX8_everyWord h0 t = some r) : Ci l X t yX8_everyWord cX8_everyWord 1 .int 0 0 [.ref (X.2.1 h0)] r t := by
  refine Ci_of (by decide) (Nat.le_of_ble_eq_true rfl) ?_
  intro p e s m args below meth c Q B hret hS ls hl
  have hx := B.1
  have hb := B.2.1
  have hown := B.2.2.2.1
  have hts := B.2.2.2.2.1
  have hl : lv_has ls 1 [(0, .ref (X.2.1 h0))] := hl
  unfold fX8_everyWord at hrun
  refine lv_iconst (v := 1) hx hb dX8_everyWord_0 (by decide) ?_
  refine lv_aload_n hx hb dX8_everyWord_1 rfl (lv_at hl 0 rfl) ?_
  refine gX8_34 B hS e0 dX8_everyWord_2 ?_
  refine lv_ishl hx hb dX8_everyWord_5 ?_
  refine lv_iconst (v := 1) hx hb dX8_everyWord_6 (by decide) ?_
  refine lv_isub hx hb dX8_everyWord_7 ?_
  exact hret _ _ _ _ _ _ (congrArg (Option.map (fun w => (w, t))) hrun) rfl hS dX8_everyWord_8
theorem mdX8_addSinger : MD yX8_addSinger 4 := ⟨by decide +kernel, by decide +kernel, by decide +kernel⟩
set_option maxHeartbeats 4000000 in
set_option maxRecDepth 100000 in
theorem kX8_addSinger (l : Launch) (X : Cx) (t : St) (h0 : Nat) (e0 : isReg h0) (x1 : Int32) (x2 : Int32) (x3 : Int32) (x4 : Int32) (t' : St) (hrun : fX8_addSinger h0 t x1 x2 x3 x4 = some t') : Cv l X t yX8_addSinger cX8_addSinger 5 0 0 [.ref (X.2.1 h0), .int x1, .int x2, .int x3, .int x4] t' := by
  refine Cv_of (by decide) (Nat.le_of_ble_eq_true rfl) ?_
  intro p e s m args below meth c Q B hret hS ls hl
  have hx := B.1
  have hb := B.2.1
  have hown := B.2.2.2.1
  have hts := B.2.2.2.2.1
  have hl : lv_has ls 5 [(0, .ref (X.2.1 h0)), (1, .int x1), (2, .int x2), (3, .int x3), (4, .int x4)] := hl
  unfold fX8_addSinger at hrun
  refine lv_aload_n hx hb dX8_addSinger_0 rfl (lv_at hl 0 rfl) ?_
  refine gX8_37 B hS e0 dX8_addSinger_1 ?_
  refine lv_bipush (v := 7) hx hb dX8_addSinger_4 (by decide) ?_
  refine lv_icmp_ge (tgt := 60) hx hb dX8_addSinger_6 (by decide) (fun hc => ?_) (fun hc => ?_)
  · have hrun := ip hc hrun
    exact hret _ _ _ _ _ hrun hS dX8_addSinger_60
  · have hrun := iq hc hrun
    refine lv_aload_n hx hb dX8_addSinger_9 rfl (lv_at hl 0 rfl) ?_
    refine gX8_9 B hS e0 dX8_addSinger_10 ?_
    refine lv_aload_n hx hb dX8_addSinger_13 rfl (lv_at hl 0 rfl) ?_
    refine gX8_37 B hS e0 dX8_addSinger_14 ?_
    refine lv_iload_n hx hb dX8_addSinger_17 rfl (lv_at hl 1 rfl) ?_
    obtain ⟨hi_1, hrun⟩ := gdE hrun
    refine xs B hS (iaX8_1 e0) hi_1 dX8_addSinger_18 (fun H locs hS => ?_)
    obtain ⟨t_2, et, hrun⟩ := bsE hrun
    have hS : SS X t_2 s.heap H locs := by rw [et]; exact hS
    clear et
    refine lv_aload_n hx hb dX8_addSinger_19 rfl (lv_at hl 0 rfl) ?_
    refine gX8_15 B hS e0 dX8_addSinger_20 ?_
    refine lv_aload_n hx hb dX8_addSinger_23 rfl (lv_at hl 0 rfl) ?_
    refine gX8_37 B hS e0 dX8_addSinger_24 ?_
    refine lv_iload_n hx hb dX8_addSinger_27 rfl (lv_at hl 2 rfl) ?_
    obtain ⟨hi_3, hrun⟩ := gdE hrun
    refine xs B hS (iaX8_2 e0) hi_3 dX8_addSinger_28 (fun H locs hS => ?_)
    obtain ⟨t_4, et, hrun⟩ := bsE hrun
    have hS : SS X t_4 s.heap H locs := by rw [et]; exact hS
    clear et
    refine lv_aload_n hx hb dX8_addSinger_29 rfl (lv_at hl 0 rfl) ?_
    refine gX8_18 B hS e0 dX8_addSinger_30 ?_
    refine lv_aload_n hx hb dX8_addSinger_33 rfl (lv_at hl 0 rfl) ?_
    refine gX8_37 B hS e0 dX8_addSinger_34 ?_
    refine lv_iload_n hx hb dX8_addSinger_37 rfl (lv_at hl 3 rfl) ?_
    obtain ⟨hi_5, hrun⟩ := gdE hrun
    refine xs B hS (iaX8_3 e0) hi_5 dX8_addSinger_38 (fun H locs hS => ?_)
    obtain ⟨t_6, et, hrun⟩ := bsE hrun
    have hS : SS X t_6 s.heap H locs := by rw [et]; exact hS
    clear et
    refine lv_aload_n hx hb dX8_addSinger_39 rfl (lv_at hl 0 rfl) ?_
    refine gX8_21 B hS e0 dX8_addSinger_40 ?_
    refine lv_aload_n hx hb dX8_addSinger_43 rfl (lv_at hl 0 rfl) ?_
    refine gX8_37 B hS e0 dX8_addSinger_44 ?_
    refine lv_iload hx hb dX8_addSinger_47 (lv_at hl 4 rfl) ?_
    obtain ⟨hi_7, hrun⟩ := gdE hrun
    refine xs B hS (iaX8_4 e0) hi_7 dX8_addSinger_49 (fun H locs hS => ?_)
    obtain ⟨t_8, et, hrun⟩ := bsE hrun
    have hS : SS X t_8 s.heap H locs := by rw [et]; exact hS
    clear et
    refine lv_aload_n hx hb dX8_addSinger_50 rfl (lv_at hl 0 rfl) ?_
    refine lv_dup hx hb dX8_addSinger_51 rfl ?_
    refine gX8_37 B hS e0 dX8_addSinger_52 ?_
    refine lv_iconst (v := 1) hx hb dX8_addSinger_55 (by decide) ?_
    refine lv_iadd hx hb dX8_addSinger_56 ?_
    refine pX8_37 B hS e0 dX8_addSinger_57 (fun H locs hS => ?_)
    obtain ⟨t_9, et, hrun⟩ := bsE hrun
    have hS : SS X t_9 s.heap H locs := by rw [et]; exact hS
    clear et
    exact hret _ _ _ _ _ hrun hS dX8_addSinger_60
theorem mdX8_addInspector : MD yX8_addInspector 1 := ⟨by decide +kernel, by decide +kernel, by decide +kernel⟩
set_option maxHeartbeats 4000000 in
set_option maxRecDepth 100000 in
theorem kX8_addInspector (l : Launch) (X : Cx) (t : St) (h0 : Nat) (e0 : isReg h0) (x1 : Int32) (t' : St) (hrun : fX8_addInspector h0 t x1 = some t') : Cv l X t yX8_addInspector cX8_addInspector 2 0 0 [.ref (X.2.1 h0), .int x1] t' := by
  refine Cv_of (by decide) (Nat.le_of_ble_eq_true rfl) ?_
  intro p e s m args below meth c Q B hret hS ls hl
  have hx := B.1
  have hb := B.2.1
  have hown := B.2.2.2.1
  have hts := B.2.2.2.2.1
  have hl : lv_has ls 2 [(0, .ref (X.2.1 h0)), (1, .int x1)] := hl
  unfold fX8_addInspector at hrun
  refine lv_aload_n hx hb dX8_addInspector_0 rfl (lv_at hl 0 rfl) ?_
  refine gX8_40 B hS e0 dX8_addInspector_1 ?_
  refine lv_iconst (v := 4) hx hb dX8_addInspector_4 (by decide) ?_
  refine lv_icmp_ge (tgt := 28) hx hb dX8_addInspector_5 (by decide) (fun hc => ?_) (fun hc => ?_)
  · have hrun := ip hc hrun
    exact hret _ _ _ _ _ hrun hS dX8_addInspector_28
  · have hrun := iq hc hrun
    refine lv_aload_n hx hb dX8_addInspector_8 rfl (lv_at hl 0 rfl) ?_
    refine gX8_24 B hS e0 dX8_addInspector_9 ?_
    refine lv_aload_n hx hb dX8_addInspector_12 rfl (lv_at hl 0 rfl) ?_
    refine gX8_40 B hS e0 dX8_addInspector_13 ?_
    refine lv_iload_n hx hb dX8_addInspector_16 rfl (lv_at hl 1 rfl) ?_
    obtain ⟨hi_1, hrun⟩ := gdE hrun
    refine xs B hS (iaX8_5 e0) hi_1 dX8_addInspector_17 (fun H locs hS => ?_)
    obtain ⟨t_2, et, hrun⟩ := bsE hrun
    have hS : SS X t_2 s.heap H locs := by rw [et]; exact hS
    clear et
    refine lv_aload_n hx hb dX8_addInspector_18 rfl (lv_at hl 0 rfl) ?_
    refine lv_dup hx hb dX8_addInspector_19 rfl ?_
    refine gX8_40 B hS e0 dX8_addInspector_20 ?_
    refine lv_iconst (v := 1) hx hb dX8_addInspector_23 (by decide) ?_
    refine lv_iadd hx hb dX8_addInspector_24 ?_
    refine pX8_40 B hS e0 dX8_addInspector_25 (fun H locs hS => ?_)
    obtain ⟨t_3, et, hrun⟩ := bsE hrun
    have hS : SS X t_3 s.heap H locs := by rw [et]; exact hS
    clear et
    exact hret _ _ _ _ _ hrun hS dX8_addInspector_28
theorem mdX7_readEnd : MD yX7_readEnd 0 := ⟨by decide +kernel, by decide +kernel, by decide +kernel⟩
set_option maxHeartbeats 4000000 in
set_option maxRecDepth 100000 in
theorem kX7_readEnd (l : Launch) (X : Cx) (t : St) (t' : St) (hrun : fX7_readEnd t = some t') : Cv l X t yX7_readEnd cX7_readEnd 1 2 40 [.ref (X.2.1 1)] t' := by
  refine Cv_of (by decide) (Nat.le_of_ble_eq_true rfl) ?_
  intro p e s m args below meth c Q B hret hS ls hl
  have hx := B.1
  have hb := B.2.1
  have hown := B.2.2.2.1
  have hts := B.2.2.2.2.1
  have hl : lv_has ls 1 [(0, .ref (X.2.1 1))] := hl
  unfold fX7_readEnd at hrun
  refine lv_aload_n hx hb dX7_readEnd_0 rfl (lv_at hl 0 rfl) ?_
  refine gX7_22 B hS dX7_readEnd_1 ?_
  refine lv_if_eq (tgt := 8) hx hb dX7_readEnd_4 (by decide) (fun hc => ?_) (fun hc => ?_)
  · have hrun := ip hc hrun
    refine lv_aload_n hx hb dX7_readEnd_8 rfl (lv_at hl 0 rfl) ?_
    obtain ⟨t_2, hc_1, hrun⟩ := bdE hrun
    refine qX7_33 B hS hc_1 hl.1 (Nat.le_of_ble_eq_true rfl) ⟨Nat.le_of_ble_eq_true rfl, Nat.le_of_ble_eq_true rfl⟩ ⟨Nat.zero_le _, Nat.zero_le _⟩ dX7_readEnd_9 (fun H locs hS => ?_)
    refine lv_aload_n hx hb dX7_readEnd_12 rfl (lv_at hl 0 rfl) ?_
    obtain ⟨r_4, hc_3, hrun⟩ := bdE hrun
    refine qX7_40 B hS hc_3 hl.1 (Nat.le_of_ble_eq_true rfl) ⟨Nat.le_of_ble_eq_true rfl, Nat.le_of_ble_eq_true rfl⟩ ⟨Nat.zero_le _, Nat.zero_le _⟩ dX7_readEnd_13 (fun H locs hS => ?_)
    refine lv_bipush (v := 59) hx hb dX7_readEnd_16 (by decide) ?_
    refine lv_icmp_ne (tgt := 34) hx hb dX7_readEnd_18 (by decide) (fun hc => ?_) (fun hc => ?_)
    · have hrun := iq hc hrun
      refine lv_aload_n hx hb dX7_readEnd_34 rfl (lv_at hl 0 rfl) ?_
      refine lv_iconst (v := 1) hx hb dX7_readEnd_35 (by decide) ?_
      refine lv_aload_n hx hb dX7_readEnd_36 rfl (lv_at hl 0 rfl) ?_
      refine gX7_19 B hS dX7_readEnd_37 ?_
      obtain ⟨t_6, hc_5, hrun⟩ := bdE hrun
      refine qX7_48 B hS hc_5 hl.1 (Nat.le_of_ble_eq_true rfl) ⟨Nat.le_of_ble_eq_true rfl, Nat.le_of_ble_eq_true rfl⟩ ⟨Nat.zero_le _, Nat.zero_le _⟩ dX7_readEnd_40 (fun H locs hS => ?_)
      exact hret _ _ _ _ _ hrun hS dX7_readEnd_43
    · have hrun := ip hc hrun
      refine lv_aload_n hx hb dX7_readEnd_21 rfl (lv_at hl 0 rfl) ?_
      refine lv_dup hx hb dX7_readEnd_22 rfl ?_
      refine gX7_19 B hS dX7_readEnd_23 ?_
      refine lv_iconst (v := 1) hx hb dX7_readEnd_26 (by decide) ?_
      refine lv_iadd hx hb dX7_readEnd_27 ?_
      refine pX7_19 B hS dX7_readEnd_28 (fun H locs hS => ?_)
      obtain ⟨t_7, et, hrun⟩ := bsE hrun
      have hS : SS X t_7 s.heap H locs := by rw [et]; exact hS
      clear et
      refine lv_goto (tgt := 43) hx hb dX7_readEnd_31 (by decide) ?_
      exact hret _ _ _ _ _ hrun hS dX7_readEnd_43
  · have hrun := iq hc hrun
    exact hret _ _ _ _ _ hrun hS dX7_readEnd_7
theorem mdX7_readNumbers : MD yX7_readNumbers 2 := ⟨by decide +kernel, by decide +kernel, by decide +kernel⟩
section QX7_readNumbers
variable {p : Program} {l : Launch} {e : Env} {R : Room} {s : State} {m : MethodId} {args : Array Value} {below : List Frame} {meth : Method} {c : Code} {H : Heap} {locs : List Loc} {cells slots : Nat} {Q : State → Prop}
variable {cc : ByteArray} {pc : Nat} {ls : Array Slot} {rest : List Value} {X : Cx} {t : St} {H0 : Heap} {nL : Nat}
theorem qX7_62 (B : Bx p s m args c cc nL X RX7) (hS : SS X t H0 H locs) {x1 : Int32} {x2 : Int32} {r : Int32} {t' : St} (hM : fX7_readNumber t x1 x2 = some (r, t')) (hsz : ls.size = nL) (hW : (rest.map fun v => v.category).sum ≤ 8) (hR : 2 + 1 ≤ R.frames ∧ 8 + (5 + 11) + 40 ≤ R.locals) (hR2 : cells ≤ R.cells ∧ slots ≤ R.slots) (hdg : decode cc pc = .ok (.invokevirtual 62, 3)) (kk : ∀ (H1 : Heap) (locs1 : List Loc), SS X t' H0 H1 locs1 → W p l e R s m args below meth c H1 locs1 cells slots Q (F0 m (pc + 3) ls (.int r :: rest))) : W p l e R s m args below meth c H locs cells slots Q (F0 m pc ls (.int x2 :: .int x1 :: .ref (X.2.1 1) :: rest)) :=
  xVi B hS (kX7_readNumber l X t x1 x2 r t' hM) (tw_2 147 rfl rfl) (tw_2 149 rfl rfl) (tw_0 5 rfl rfl) (tw_1 5 rfl rfl) (tw_2 150 rfl rfl) mdX7_readNumber (by decide) (ceX7 _) rfl rfl rfl hsz rfl hW hR hR2 hdg kk
theorem qX7_75 (B : Bx p s m args c cc nL X RX7) (hS : SS X t H0 H locs) {h0 : Nat} (e0 : isReg h0) {r : Int32} (hM : fX8_everyWord h0 t = some r) (hsz : ls.size = nL) (hW : (rest.map fun v => v.category).sum ≤ 8) (hR : 0 + 1 ≤ R.frames ∧ 8 + (1 + 11) + 0 ≤ R.locals) (hR2 : cells ≤ R.cells ∧ slots ≤ R.slots) (hdg : decode cc pc = .ok (.invokevirtual 75, 3)) (kk : ∀ (H1 : Heap) (locs1 : List Loc), SS X t H0 H1 locs1 → W p l e R s m args below meth c H1 locs1 cells slots Q (F0 m (pc + 3) ls (.int r :: rest))) : W p l e R s m args below meth c H locs cells slots Q (F0 m pc ls (.ref (X.2.1 h0) :: rest)) :=
  xVi B hS (kX8_everyWord l X t h0 e0 r hM) (tw_2 154 rfl rfl) (tw_2 155 rfl rfl) (tw_2 156 rfl rfl) (tw_1 2 rfl rfl) (tw_2 157 rfl rfl) mdX8_everyWord (reg_lt e0) (ceX8 e0 _) rfl rfl rfl hsz rfl hW hR hR2 hdg kk
theorem qX7_78 (B : Bx p s m args c cc nL X RX7) (hS : SS X t H0 H locs) {h0 : Nat} (e0 : isReg h0) {x1 : Int32} {x2 : Int32} {x3 : Int32} {x4 : Int32} {t' : St} (hM : fX8_addSinger h0 t x1 x2 x3 x4 = some t') (hsz : ls.size = nL) (hW : (rest.map fun v => v.category).sum ≤ 8) (hR : 0 + 1 ≤ R.frames ∧ 8 + (5 + 11) + 0 ≤ R.locals) (hR2 : cells ≤ R.cells ∧ slots ≤ R.slots) (hdg : decode cc pc = .ok (.invokevirtual 78, 3)) (kk : ∀ (H1 : Heap) (locs1 : List Loc), SS X t' H0 H1 locs1 → W p l e R s m args below meth c H1 locs1 cells slots Q (F0 m (pc + 3) ls (rest))) : W p l e R s m args below meth c H locs cells slots Q (F0 m pc ls (.int x4 :: .int x3 :: .int x2 :: .int x1 :: .ref (X.2.1 h0) :: rest)) :=
  xVv B hS (kX8_addSinger l X t h0 e0 x1 x2 x3 x4 t' hM) (tw_2 158 rfl rfl) (tw_2 159 rfl rfl) (tw_2 160 rfl rfl) (tw_1 2 rfl rfl) (tw_2 161 rfl rfl) mdX8_addSinger (reg_lt e0) (ceX8 e0 _) rfl rfl rfl hsz rfl hW hR hR2 hdg kk
theorem qX7_82 (B : Bx p s m args c cc nL X RX7) (hS : SS X t H0 H locs) {h0 : Nat} (e0 : isReg h0) {x1 : Int32} {t' : St} (hM : fX8_addInspector h0 t x1 = some t') (hsz : ls.size = nL) (hW : (rest.map fun v => v.category).sum ≤ 8) (hR : 0 + 1 ≤ R.frames ∧ 8 + (2 + 11) + 0 ≤ R.locals) (hR2 : cells ≤ R.cells ∧ slots ≤ R.slots) (hdg : decode cc pc = .ok (.invokevirtual 82, 3)) (kk : ∀ (H1 : Heap) (locs1 : List Loc), SS X t' H0 H1 locs1 → W p l e R s m args below meth c H1 locs1 cells slots Q (F0 m (pc + 3) ls (rest))) : W p l e R s m args below meth c H locs cells slots Q (F0 m pc ls (.int x1 :: .ref (X.2.1 h0) :: rest)) :=
  xVv B hS (kX8_addInspector l X t h0 e0 x1 t' hM) (tw_2 162 rfl rfl) (tw_2 163 rfl rfl) (tw_2 164 rfl rfl) (tw_1 2 rfl rfl) (tw_2 165 rfl rfl) mdX8_addInspector (reg_lt e0) (ceX8 e0 _) rfl rfl rfl hsz rfl hW hR hR2 hdg kk
theorem qX7_86 (B : Bx p s m args c cc nL X RX7) (hS : SS X t H0 H locs) {t' : St} (hM : fX7_readEnd t = some t') (hsz : ls.size = nL) (hW : (rest.map fun v => v.category).sum ≤ 8) (hR : 2 + 1 ≤ R.frames ∧ 8 + (1 + 11) + 40 ≤ R.locals) (hR2 : cells ≤ R.cells ∧ slots ≤ R.slots) (hdg : decode cc pc = .ok (.invokevirtual 86, 3)) (kk : ∀ (H1 : Heap) (locs1 : List Loc), SS X t' H0 H1 locs1 → W p l e R s m args below meth c H1 locs1 cells slots Q (F0 m (pc + 3) ls (rest))) : W p l e R s m args below meth c H locs cells slots Q (F0 m pc ls (.ref (X.2.1 1) :: rest)) :=
  xVv B hS (kX7_readEnd l X t t' hM) (tw_2 166 rfl rfl) (tw_2 168 rfl rfl) (tw_0 6 rfl rfl) (tw_1 5 rfl rfl) (tw_2 169 rfl rfl) mdX7_readEnd (by decide) (ceX7 _) rfl rfl rfl hsz rfl hW hR hR2 hdg kk
end QX7_readNumbers
set_option maxHeartbeats 4000000 in
set_option maxRecDepth 100000 in
theorem kX7_readNumbers (l : Launch) (X : Cx) (t : St) (h2 : Nat) (e2 : isReg h2) (x1 : Int32) (t' : St) (hrun : fX7_readNumbers h2 t x1 = some t') : Cv l X t yX7_readNumbers cX7_readNumbers 6 3 64 [.ref (X.2.1 1), .int x1, .ref (X.2.1 h2)] t' := by
  refine Cv_of (by decide) (Nat.le_of_ble_eq_true rfl) ?_
  intro p e s m args below meth c Q B hret hS ls hl
  have hx := B.1
  have hb := B.2.1
  have hown := B.2.2.2.1
  have hts := B.2.2.2.2.1
  have hl : lv_has ls 6 [(0, .ref (X.2.1 1)), (1, .int x1), (2, .ref (X.2.1 h2))] := hl
  have hB113 : ∀ (t : St) (H : Heap) (locs : List Loc) (ls : Array Slot), SS X t s.heap H locs → lv_has ls 6 [(0, .ref (X.2.1 1))] → fX7_readNumbers_113 h2 t = some t' → W p l e ({ frames := 3, cells := 0, slots := 0, locals := 64 } : Room) s m args below meth c H locs 0 0 Q (F0 m 113 ls []) := by
    intro t H locs ls hS hl hrun
    unfold fX7_readNumbers_113 at hrun
    refine lv_aload_n hx hb dX7_readNumbers_113 rfl (lv_at hl 0 rfl) ?_
    obtain ⟨t_1115, hc_1114, hrun⟩ := bdE hrun
    refine qX7_86 B hS hc_1114 hl.1 (Nat.le_of_ble_eq_true rfl) ⟨Nat.le_of_ble_eq_true rfl, Nat.le_of_ble_eq_true rfl⟩ ⟨Nat.zero_le _, Nat.zero_le _⟩ dX7_readNumbers_114 (fun H locs hS => ?_)
    exact hret _ _ _ _ _ hrun hS dX7_readNumbers_117
  unfold fX7_readNumbers at hrun
  refine lv_iload_n hx hb dX7_readNumbers_0 rfl (lv_at hl 1 rfl) ?_
  refine lv_bipush (v := 100) hx hb dX7_readNumbers_1 (by decide) ?_
  refine lv_icmp_ne (tgt := 41) hx hb dX7_readNumbers_3 (by decide) (fun hc => ?_) (fun hc => ?_)
  · have hrun := iq hc hrun
    refine lv_iload_n hx hb dX7_readNumbers_41 rfl (lv_at hl 1 rfl) ?_
    refine lv_bipush (v := 115) hx hb dX7_readNumbers_42 (by decide) ?_
    refine lv_icmp_ne (tgt := 98) hx hb dX7_readNumbers_44 (by decide) (fun hc => ?_) (fun hc => ?_)
    · have hrun := iq hc hrun
      refine lv_aload_n hx hb dX7_readNumbers_98 rfl (lv_at hl 2 rfl) ?_
      refine lv_aload_n hx hb dX7_readNumbers_99 rfl (lv_at hl 0 rfl) ?_
      refine lv_iconst (v := 0) hx hb dX7_readNumbers_100 (by decide) ?_
      refine lv_aload_n hx hb dX7_readNumbers_101 rfl (lv_at hl 2 rfl) ?_
      refine gX7_69 B hS e2 dX7_readNumbers_102 ?_
      refine lv_iconst (v := 1) hx hb dX7_readNumbers_105 (by decide) ?_
      refine lv_isub hx hb dX7_readNumbers_106 ?_
      obtain ⟨r_2, t_3, hc_1, hrun⟩ := bd2E hrun
      refine qX7_62 B hS hc_1 hl.1 (Nat.le_of_ble_eq_true rfl) ⟨Nat.le_of_ble_eq_true rfl, Nat.le_of_ble_eq_true rfl⟩ ⟨Nat.zero_le _, Nat.zero_le _⟩ dX7_readNumbers_107 (fun H locs hS => ?_)
      obtain ⟨t_5, hc_4, hrun⟩ := bdE hrun
      refine qX7_82 B hS e2 hc_4 hl.1 (Nat.le_of_ble_eq_true rfl) ⟨Nat.le_of_ble_eq_true rfl, Nat.le_of_ble_eq_true rfl⟩ ⟨Nat.zero_le _, Nat.zero_le _⟩ dX7_readNumbers_110 (fun H locs hS => ?_)
      exact hB113 t_5 _ _ _ hS (lv_sub hl [0] rfl) hrun
    · have hrun := ip hc hrun
      refine lv_aload_n hx hb dX7_readNumbers_47 rfl (lv_at hl 0 rfl) ?_
      refine lv_iconst (v := 0) hx hb dX7_readNumbers_48 (by decide) ?_
      refine lv_iconst (v := 3) hx hb dX7_readNumbers_49 (by decide) ?_
      obtain ⟨r_7, t_8, hc_6, hrun⟩ := bd2E hrun
      refine qX7_62 B hS hc_6 hl.1 (Nat.le_of_ble_eq_true rfl) ⟨Nat.le_of_ble_eq_true rfl, Nat.le_of_ble_eq_true rfl⟩ ⟨Nat.zero_le _, Nat.zero_le _⟩ dX7_readNumbers_50 (fun H locs hS => ?_)
      refine lv_istore_n (lv' := [(3, .int r_7), (0, .ref (X.2.1 1)), (1, .int x1), (2, .ref (X.2.1 h2))]) hx hb dX7_readNumbers_53 rfl hl (by decide) rfl (fun ls hl => ?_)
      refine lv_aload_n hx hb dX7_readNumbers_54 rfl (lv_at hl 1 rfl) ?_
      refine lv_iconst (v := 0) hx hb dX7_readNumbers_55 (by decide) ?_
      refine lv_aload_n hx hb dX7_readNumbers_56 rfl (lv_at hl 3 rfl) ?_
      refine gX7_69 B hS e2 dX7_readNumbers_57 ?_
      refine lv_iconst (v := 1) hx hb dX7_readNumbers_60 (by decide) ?_
      refine lv_isub hx hb dX7_readNumbers_61 ?_
      obtain ⟨r_10, t_11, hc_9, hrun⟩ := bd2E hrun
      refine qX7_62 B hS hc_9 hl.1 (Nat.le_of_ble_eq_true rfl) ⟨Nat.le_of_ble_eq_true rfl, Nat.le_of_ble_eq_true rfl⟩ ⟨Nat.zero_le _, Nat.zero_le _⟩ dX7_readNumbers_62 (fun H locs hS => ?_)
      refine lv_istore (lv' := [(4, .int r_10), (3, .int r_7), (0, .ref (X.2.1 1)), (1, .int x1), (2, .ref (X.2.1 h2))]) hx hb dX7_readNumbers_65 hl (by decide) rfl (fun ls hl => ?_)
      refine lv_aload_n hx hb dX7_readNumbers_67 rfl (lv_at hl 2 rfl) ?_
      refine lv_iconst (v := 0) hx hb dX7_readNumbers_68 (by decide) ?_
      refine lv_sipush (v := 999) hx hb dX7_readNumbers_69 (by decide) ?_
      obtain ⟨r_13, t_14, hc_12, hrun⟩ := bd2E hrun
      refine qX7_62 B hS hc_12 hl.1 (Nat.le_of_ble_eq_true rfl) ⟨Nat.le_of_ble_eq_true rfl, Nat.le_of_ble_eq_true rfl⟩ ⟨Nat.zero_le _, Nat.zero_le _⟩ dX7_readNumbers_72 (fun H locs hS => ?_)
      refine lv_istore (lv' := [(5, .int r_13), (4, .int r_10), (3, .int r_7), (0, .ref (X.2.1 1)), (1, .int x1), (2, .ref (X.2.1 h2))]) hx hb dX7_readNumbers_75 hl (by decide) rfl (fun ls hl => ?_)
      refine lv_aload_n hx hb dX7_readNumbers_77 rfl (lv_at hl 5 rfl) ?_
      refine lv_iload_n hx hb dX7_readNumbers_78 rfl (lv_at hl 2 rfl) ?_
      refine lv_iload hx hb dX7_readNumbers_79 (lv_at hl 1 rfl) ?_
      refine lv_iload hx hb dX7_readNumbers_81 (lv_at hl 0 rfl) ?_
      refine lv_aload_n hx hb dX7_readNumbers_83 rfl (lv_at hl 3 rfl) ?_
      refine lv_iconst (v := 0) hx hb dX7_readNumbers_84 (by decide) ?_
      refine lv_aload_n hx hb dX7_readNumbers_85 rfl (lv_at hl 5 rfl) ?_
      obtain ⟨r_16, hc_15, hrun⟩ := bdE hrun
      refine qX7_75 B hS e2 hc_15 hl.1 (Nat.le_of_ble_eq_true rfl) ⟨Nat.le_of_ble_eq_true rfl, Nat.le_of_ble_eq_true rfl⟩ ⟨Nat.zero_le _, Nat.zero_le _⟩ dX7_readNumbers_86 (fun H locs hS => ?_)
      obtain ⟨r_18, t_19, hc_17, hrun⟩ := bd2E hrun
      refine qX7_62 B hS hc_17 hl.1 (Nat.le_of_ble_eq_true rfl) ⟨Nat.le_of_ble_eq_true rfl, Nat.le_of_ble_eq_true rfl⟩ ⟨Nat.zero_le _, Nat.zero_le _⟩ dX7_readNumbers_89 (fun H locs hS => ?_)
      obtain ⟨t_21, hc_20, hrun⟩ := bdE hrun
      refine qX7_78 B hS e2 hc_20 hl.1 (Nat.le_of_ble_eq_true rfl) ⟨Nat.le_of_ble_eq_true rfl, Nat.le_of_ble_eq_true rfl⟩ ⟨Nat.zero_le _, Nat.zero_le _⟩ dX7_readNumbers_92 (fun H locs hS => ?_)
      refine lv_goto (tgt := 113) hx hb dX7_readNumbers_95 (by decide) ?_
      exact hB113 t_21 _ _ _ hS (lv_sub hl [3] rfl) hrun
  · have hrun := ip hc hrun
    refine lv_aload_n hx hb dX7_readNumbers_6 rfl (lv_at hl 2 rfl) ?_
    refine lv_aload_n hx hb dX7_readNumbers_7 rfl (lv_at hl 0 rfl) ?_
    refine lv_iconst (v := 1) hx hb dX7_readNumbers_8 (by decide) ?_
    refine lv_bipush (v := 9) hx hb dX7_readNumbers_9 (by decide) ?_
    obtain ⟨r_23, t_24, hc_22, hrun⟩ := bd2E hrun
    refine qX7_62 B hS hc_22 hl.1 (Nat.le_of_ble_eq_true rfl) ⟨Nat.le_of_ble_eq_true rfl, Nat.le_of_ble_eq_true rfl⟩ ⟨Nat.zero_le _, Nat.zero_le _⟩ dX7_readNumbers_11 (fun H locs hS => ?_)
    refine pX7_66 B hS e2 dX7_readNumbers_14 (fun H locs hS => ?_)
    obtain ⟨t_25, et, hrun⟩ := bsE hrun
    have hS : SS X t_25 s.heap H locs := by rw [et]; exact hS
    clear et
    refine lv_aload_n hx hb dX7_readNumbers_17 rfl (lv_at hl 2 rfl) ?_
    refine lv_aload_n hx hb dX7_readNumbers_18 rfl (lv_at hl 0 rfl) ?_
    refine lv_iconst (v := 1) hx hb dX7_readNumbers_19 (by decide) ?_
    refine lv_iconst (v := 4) hx hb dX7_readNumbers_20 (by decide) ?_
    obtain ⟨r_27, t_28, hc_26, hrun⟩ := bd2E hrun
    refine qX7_62 B hS hc_26 hl.1 (Nat.le_of_ble_eq_true rfl) ⟨Nat.le_of_ble_eq_true rfl, Nat.le_of_ble_eq_true rfl⟩ ⟨Nat.zero_le _, Nat.zero_le _⟩ dX7_readNumbers_21 (fun H locs hS => ?_)
    refine pX7_69 B hS e2 dX7_readNumbers_24 (fun H locs hS => ?_)
    obtain ⟨t_29, et, hrun⟩ := bsE hrun
    have hS : SS X t_29 s.heap H locs := by rw [et]; exact hS
    clear et
    refine lv_aload_n hx hb dX7_readNumbers_27 rfl (lv_at hl 2 rfl) ?_
    refine lv_aload_n hx hb dX7_readNumbers_28 rfl (lv_at hl 0 rfl) ?_
    refine lv_iconst (v := 1) hx hb dX7_readNumbers_29 (by decide) ?_
    refine lv_bipush (v := 9) hx hb dX7_readNumbers_30 (by decide) ?_
    obtain ⟨r_31, t_32, hc_30, hrun⟩ := bd2E hrun
    refine qX7_62 B hS hc_30 hl.1 (Nat.le_of_ble_eq_true rfl) ⟨Nat.le_of_ble_eq_true rfl, Nat.le_of_ble_eq_true rfl⟩ ⟨Nat.zero_le _, Nat.zero_le _⟩ dX7_readNumbers_32 (fun H locs hS => ?_)
    refine pX7_72 B hS e2 dX7_readNumbers_35 (fun H locs hS => ?_)
    obtain ⟨t_33, et, hrun⟩ := bsE hrun
    have hS : SS X t_33 s.heap H locs := by rw [et]; exact hS
    clear et
    refine lv_goto (tgt := 113) hx hb dX7_readNumbers_38 (by decide) ?_
    exact hB113 t_33 _ _ _ hS (lv_sub hl [0] rfl) hrun
theorem mdX7_readClause : MD yX7_readClause 1 := ⟨by decide +kernel, by decide +kernel, by decide +kernel⟩
section QX7_readClause
variable {p : Program} {l : Launch} {e : Env} {R : Room} {s : State} {m : MethodId} {args : Array Value} {below : List Frame} {meth : Method} {c : Code} {H : Heap} {locs : List Loc} {cells slots : Nat} {Q : State → Prop}
variable {cc : ByteArray} {pc : Nat} {ls : Array Slot} {rest : List Value} {X : Cx} {t : St} {H0 : Heap} {nL : Nat}
theorem qX7_44 (B : Bx p s m args c cc nL X RX7) (hS : SS X t H0 H locs) {h0 : Nat} (e0 : isReg h0) {r : Int32} (hM : fX8_isEmpty h0 t = some r) (hsz : ls.size = nL) (hW : (rest.map fun v => v.category).sum ≤ 8) (hR : 0 + 1 ≤ R.frames ∧ 8 + (1 + 11) + 0 ≤ R.locals) (hR2 : cells ≤ R.cells ∧ slots ≤ R.slots) (hdg : decode cc pc = .ok (.invokevirtual 44, 3)) (kk : ∀ (H1 : Heap) (locs1 : List Loc), SS X t H0 H1 locs1 → W p l e R s m args below meth c H1 locs1 cells slots Q (F0 m (pc + 3) ls (.int r :: rest))) : W p l e R s m args below meth c H locs cells slots Q (F0 m pc ls (.ref (X.2.1 h0) :: rest)) :=
  xVi B hS (kX8_isEmpty l X t h0 e0 r hM) (tw_2 135 rfl rfl) (tw_2 136 rfl rfl) (tw_2 137 rfl rfl) (tw_1 2 rfl rfl) (tw_2 138 rfl rfl) mdX8_isEmpty (reg_lt e0) (ceX8 e0 _) rfl rfl rfl hsz rfl hW hR hR2 hdg kk
theorem qX7_58 (B : Bx p s m args c cc nL X RX7) (hS : SS X t H0 H locs) {h2 : Nat} (e2 : isReg h2) {x1 : Int32} {t' : St} (hM : fX7_readNumbers h2 t x1 = some t') (hsz : ls.size = nL) (hW : (rest.map fun v => v.category).sum ≤ 8) (hR : 3 + 1 ≤ R.frames ∧ 8 + (6 + 11) + 64 ≤ R.locals) (hR2 : cells ≤ R.cells ∧ slots ≤ R.slots) (hdg : decode cc pc = .ok (.invokevirtual 58, 3)) (kk : ∀ (H1 : Heap) (locs1 : List Loc), SS X t' H0 H1 locs1 → W p l e R s m args below meth c H1 locs1 cells slots Q (F0 m (pc + 3) ls (rest))) : W p l e R s m args below meth c H locs cells slots Q (F0 m pc ls (.ref (X.2.1 h2) :: .int x1 :: .ref (X.2.1 1) :: rest)) :=
  xVv B hS (kX7_readNumbers l X t h2 e2 x1 t' hM) (tw_2 143 rfl rfl) (tw_2 145 rfl rfl) (tw_0 4 rfl rfl) (tw_1 5 rfl rfl) (tw_2 146 rfl rfl) mdX7_readNumbers (by decide) (ceX7 _) rfl rfl rfl hsz rfl hW hR hR2 hdg kk
end QX7_readClause
set_option maxHeartbeats 4000000 in
set_option maxRecDepth 100000 in
theorem kX7_readClause (l : Launch) (X : Cx) (t : St) (h1 : Nat) (e1 : isReg h1) (t' : St) (hrun : fX7_readClause h1 t = some t') : Cv l X t yX7_readClause cX7_readClause 4 4 89 [.ref (X.2.1 1), .ref (X.2.1 h1)] t' := by
  refine Cv_of (by decide) (Nat.le_of_ble_eq_true rfl) ?_
  intro p e s m args below meth c Q B hret hS ls hl
  have hx := B.1
  have hb := B.2.1
  have hown := B.2.2.2.1
  have hts := B.2.2.2.2.1
  have hl : lv_has ls 4 [(0, .ref (X.2.1 1)), (1, .ref (X.2.1 h1))] := hl
  have hB95 : ∀ (t : St) (x2 : Int32) (H : Heap) (locs : List Loc) (ls : Array Slot), SS X t s.heap H locs → lv_has ls 4 [(0, .ref (X.2.1 1)), (1, .ref (X.2.1 h1)), (2, .int x2)] → fX7_readClause_95 h1 t x2 = some t' → W p l e ({ frames := 4, cells := 0, slots := 0, locals := 89 } : Room) s m args below meth c H locs 0 0 Q (F0 m 95 ls []) := by
    intro t x2 H locs ls hS hl hrun
    unfold fX7_readClause_95 at hrun
    refine lv_aload_n hx hb dX7_readClause_95 rfl (lv_at hl 0 rfl) ?_
    refine lv_dup hx hb dX7_readClause_96 rfl ?_
    refine gX7_19 B hS dX7_readClause_97 ?_
    refine lv_iconst (v := 1) hx hb dX7_readClause_100 (by decide) ?_
    refine lv_iadd hx hb dX7_readClause_101 ?_
    refine pX7_19 B hS dX7_readClause_102 (fun H locs hS => ?_)
    obtain ⟨t_1096, et, hrun⟩ := bsE hrun
    have hS : SS X t_1096 s.heap H locs := by rw [et]; exact hS
    clear et
    refine lv_aload_n hx hb dX7_readClause_105 rfl (lv_at hl 0 rfl) ?_
    refine lv_iload_n hx hb dX7_readClause_106 rfl (lv_at hl 2 rfl) ?_
    refine lv_aload_n hx hb dX7_readClause_107 rfl (lv_at hl 1 rfl) ?_
    obtain ⟨t_1098, hc_1097, hrun⟩ := bdE hrun
    refine qX7_58 B hS e1 hc_1097 hl.1 (Nat.le_of_ble_eq_true rfl) ⟨Nat.le_of_ble_eq_true rfl, Nat.le_of_ble_eq_true rfl⟩ ⟨Nat.zero_le _, Nat.zero_le _⟩ dX7_readClause_108 (fun H locs hS => ?_)
    exact hret _ _ _ _ _ hrun hS dX7_readClause_111
  have hB83 : ∀ (t : St) (H : Heap) (locs : List Loc) (ls : Array Slot), SS X t s.heap H locs → lv_has ls 4 [(0, .ref (X.2.1 1))] → fX7_readClause_83 h1 t = some t' → W p l e ({ frames := 4, cells := 0, slots := 0, locals := 89 } : Room) s m args below meth c H locs 0 0 Q (F0 m 83 ls []) := by
    intro t H locs ls hS hl hrun
    unfold fX7_readClause_83 at hrun
    refine lv_aload_n hx hb dX7_readClause_83 rfl (lv_at hl 0 rfl) ?_
    refine lv_iconst (v := 3) hx hb dX7_readClause_84 (by decide) ?_
    refine lv_aload_n hx hb dX7_readClause_85 rfl (lv_at hl 0 rfl) ?_
    refine gX7_19 B hS dX7_readClause_86 ?_
    obtain ⟨t_1085, hc_1084, hrun⟩ := bdE hrun
    refine qX7_48 B hS hc_1084 hl.1 (Nat.le_of_ble_eq_true rfl) ⟨Nat.le_of_ble_eq_true rfl, Nat.le_of_ble_eq_true rfl⟩ ⟨Nat.zero_le _, Nat.zero_le _⟩ dX7_readClause_89 (fun H locs hS => ?_)
    refine lv_goto (tgt := 111) hx hb dX7_readClause_92 (by decide) ?_
    exact hret _ _ _ _ _ hrun hS dX7_readClause_111
  have hB69 : ∀ (t : St) (x2 : Int32) (H : Heap) (locs : List Loc) (ls : Array Slot), SS X t s.heap H locs → lv_has ls 4 [(0, .ref (X.2.1 1)), (1, .ref (X.2.1 h1)), (2, .int x2)] → fX7_readClause_69 h1 t x2 = some t' → W p l e ({ frames := 4, cells := 0, slots := 0, locals := 89 } : Room) s m args below meth c H locs 0 0 Q (F0 m 69 ls []) := by
    intro t x2 H locs ls hS hl hrun
    unfold fX7_readClause_69 at hrun
    refine lv_iload_n hx hb dX7_readClause_69 rfl (lv_at hl 2 rfl) ?_
    refine lv_bipush (v := 105) hx hb dX7_readClause_70 (by decide) ?_
    refine lv_icmp_ne (tgt := 95) hx hb dX7_readClause_72 (by decide) (fun hc => ?_) (fun hc => ?_)
    · have hrun := iq hc hrun
      exact hB95 t x2 _ _ _ hS (lv_sub hl [0, 1, 2] rfl) hrun
    · have hrun := ip hc hrun
      refine lv_aload_n hx hb dX7_readClause_75 rfl (lv_at hl 1 rfl) ?_
      refine gX7_55 B hS e1 dX7_readClause_76 ?_
      refine lv_iconst (v := 4) hx hb dX7_readClause_79 (by decide) ?_
      refine lv_icmp_ne (tgt := 95) hx hb dX7_readClause_80 (by decide) (fun hc => ?_) (fun hc => ?_)
      · have hrun := iq hc hrun
        exact hB95 t x2 _ _ _ hS (lv_sub hl [0, 1, 2] rfl) hrun
      · have hrun := ip hc hrun
        exact hB83 t _ _ _ hS (lv_sub hl [0] rfl) hrun
  have hB54 : ∀ (t : St) (x2 : Int32) (H : Heap) (locs : List Loc) (ls : Array Slot), SS X t s.heap H locs → lv_has ls 4 [(0, .ref (X.2.1 1)), (1, .ref (X.2.1 h1)), (2, .int x2)] → fX7_readClause_54 h1 t x2 = some t' → W p l e ({ frames := 4, cells := 0, slots := 0, locals := 89 } : Room) s m args below meth c H locs 0 0 Q (F0 m 54 ls []) := by
    intro t x2 H locs ls hS hl hrun
    unfold fX7_readClause_54 at hrun
    refine lv_iload_n hx hb dX7_readClause_54 rfl (lv_at hl 2 rfl) ?_
    refine lv_bipush (v := 115) hx hb dX7_readClause_55 (by decide) ?_
    refine lv_icmp_ne (tgt := 69) hx hb dX7_readClause_57 (by decide) (fun hc => ?_) (fun hc => ?_)
    · have hrun := iq hc hrun
      exact hB69 t x2 _ _ _ hS (lv_sub hl [0, 1, 2] rfl) hrun
    · have hrun := ip hc hrun
      refine lv_aload_n hx hb dX7_readClause_60 rfl (lv_at hl 1 rfl) ?_
      refine gX7_52 B hS e1 dX7_readClause_61 ?_
      refine lv_bipush (v := 7) hx hb dX7_readClause_64 (by decide) ?_
      refine lv_icmp_eq (tgt := 83) hx hb dX7_readClause_66 (by decide) (fun hc => ?_) (fun hc => ?_)
      · have hrun := ip hc hrun
        exact hB83 t _ _ _ hS (lv_sub hl [0] rfl) hrun
      · have hrun := iq hc hrun
        exact hB69 t x2 _ _ _ hS (lv_sub hl [0, 1, 2] rfl) hrun
  have hB44 : ∀ (t : St) (x2 : Int32) (x3 : Int32) (H : Heap) (locs : List Loc) (ls : Array Slot), SS X t s.heap H locs → lv_has ls 4 [(0, .ref (X.2.1 1)), (1, .ref (X.2.1 h1)), (2, .int x2), (3, .int x3)] → fX7_readClause_44 h1 t x2 x3 = some t' → W p l e ({ frames := 4, cells := 0, slots := 0, locals := 89 } : Room) s m args below meth c H locs 0 0 Q (F0 m 44 ls []) := by
    intro t x2 x3 H locs ls hS hl hrun
    unfold fX7_readClause_44 at hrun
    refine lv_iload_n hx hb dX7_readClause_44 rfl (lv_at hl 2 rfl) ?_
    refine lv_bipush (v := 100) hx hb dX7_readClause_45 (by decide) ?_
    refine lv_icmp_ne (tgt := 54) hx hb dX7_readClause_47 (by decide) (fun hc => ?_) (fun hc => ?_)
    · have hrun := iq hc hrun
      exact hB54 t x2 _ _ _ hS (lv_sub hl [0, 1, 2] rfl) hrun
    · have hrun := ip hc hrun
      refine lv_iload_n hx hb dX7_readClause_50 rfl (lv_at hl 3 rfl) ?_
      refine lv_if_eq (tgt := 83) hx hb dX7_readClause_51 (by decide) (fun hc => ?_) (fun hc => ?_)
      · have hrun := ip hc hrun
        exact hB83 t _ _ _ hS (lv_sub hl [0] rfl) hrun
      · have hrun := iq hc hrun
        exact hB54 t x2 _ _ _ hS (lv_sub hl [0, 1, 2] rfl) hrun
  have hB32 : ∀ (t : St) (H : Heap) (locs : List Loc) (ls : Array Slot), SS X t s.heap H locs → lv_has ls 4 [(0, .ref (X.2.1 1))] → fX7_readClause_32 h1 t = some t' → W p l e ({ frames := 4, cells := 0, slots := 0, locals := 89 } : Room) s m args below meth c H locs 0 0 Q (F0 m 32 ls []) := by
    intro t H locs ls hS hl hrun
    unfold fX7_readClause_32 at hrun
    refine lv_aload_n hx hb dX7_readClause_32 rfl (lv_at hl 0 rfl) ?_
    refine lv_iconst (v := 1) hx hb dX7_readClause_33 (by decide) ?_
    refine lv_aload_n hx hb dX7_readClause_34 rfl (lv_at hl 0 rfl) ?_
    refine gX7_19 B hS dX7_readClause_35 ?_
    obtain ⟨t_1034, hc_1033, hrun⟩ := bdE hrun
    refine qX7_48 B hS hc_1033 hl.1 (Nat.le_of_ble_eq_true rfl) ⟨Nat.le_of_ble_eq_true rfl, Nat.le_of_ble_eq_true rfl⟩ ⟨Nat.zero_le _, Nat.zero_le _⟩ dX7_readClause_38 (fun H locs hS => ?_)
    refine lv_goto (tgt := 111) hx hb dX7_readClause_41 (by decide) ?_
    exact hret _ _ _ _ _ hrun hS dX7_readClause_111
  unfold fX7_readClause at hrun
  refine lv_aload_n hx hb dX7_readClause_0 rfl (lv_at hl 0 rfl) ?_
  obtain ⟨r_2, hc_1, hrun⟩ := bdE hrun
  refine qX7_40 B hS hc_1 hl.1 (Nat.le_of_ble_eq_true rfl) ⟨Nat.le_of_ble_eq_true rfl, Nat.le_of_ble_eq_true rfl⟩ ⟨Nat.zero_le _, Nat.zero_le _⟩ dX7_readClause_1 (fun H locs hS => ?_)
  refine lv_istore_n (lv' := [(2, .int r_2), (0, .ref (X.2.1 1)), (1, .ref (X.2.1 h1))]) hx hb dX7_readClause_4 rfl hl (by decide) rfl (fun ls hl => ?_)
  refine lv_aload_n hx hb dX7_readClause_5 rfl (lv_at hl 2 rfl) ?_
  obtain ⟨r_4, hc_3, hrun⟩ := bdE hrun
  refine qX7_44 B hS e1 hc_3 hl.1 (Nat.le_of_ble_eq_true rfl) ⟨Nat.le_of_ble_eq_true rfl, Nat.le_of_ble_eq_true rfl⟩ ⟨Nat.zero_le _, Nat.zero_le _⟩ dX7_readClause_6 (fun H locs hS => ?_)
  refine lv_istore_n (lv' := [(3, .int r_4), (2, .int r_2), (0, .ref (X.2.1 1)), (1, .ref (X.2.1 h1))]) hx hb dX7_readClause_9 rfl hl (by decide) rfl (fun ls hl => ?_)
  refine lv_iload_n hx hb dX7_readClause_10 rfl (lv_at hl 1 rfl) ?_
  refine lv_bipush (v := 100) hx hb dX7_readClause_11 (by decide) ?_
  refine lv_icmp_eq (tgt := 44) hx hb dX7_readClause_13 (by decide) (fun hc => ?_) (fun hc => ?_)
  · have hrun := ip hc hrun
    exact hB44 t r_2 r_4 _ _ _ hS (lv_sub hl [2, 3, 1, 0] rfl) hrun
  · have hrun := iq hc hrun
    refine lv_iload_n hx hb dX7_readClause_16 rfl (lv_at hl 0 rfl) ?_
    refine lv_if_ne (tgt := 32) hx hb dX7_readClause_17 (by decide) (fun hc => ?_) (fun hc => ?_)
    · have hrun := iq hc hrun
      exact hB32 t _ _ _ hS (lv_sub hl [2] rfl) hrun
    · have hrun := ip hc hrun
      refine lv_iload_n hx hb dX7_readClause_20 rfl (lv_at hl 1 rfl) ?_
      refine lv_bipush (v := 115) hx hb dX7_readClause_21 (by decide) ?_
      refine lv_icmp_eq (tgt := 44) hx hb dX7_readClause_23 (by decide) (fun hc => ?_) (fun hc => ?_)
      · have hrun := ip hc hrun
        exact hB44 t r_2 r_4 _ _ _ hS (lv_sub hl [2, 3, 1, 0] rfl) hrun
      · have hrun := iq hc hrun
        refine lv_iload_n hx hb dX7_readClause_26 rfl (lv_at hl 1 rfl) ?_
        refine lv_bipush (v := 105) hx hb dX7_readClause_27 (by decide) ?_
        refine lv_icmp_eq (tgt := 44) hx hb dX7_readClause_29 (by decide) (fun hc => ?_) (fun hc => ?_)
        · have hrun := ip hc hrun
          exact hB44 t r_2 r_4 _ _ _ hS (lv_sub hl [2, 3, 1, 0] rfl) hrun
        · have hrun := iq hc hrun
          exact hB32 t _ _ _ hS (lv_sub hl [2] rfl) hrun
theorem mdX7_readInto : MD yX7_readInto 1 := ⟨by decide +kernel, by decide +kernel, by decide +kernel⟩
section QX7_readInto
variable {p : Program} {l : Launch} {e : Env} {R : Room} {s : State} {m : MethodId} {args : Array Value} {below : List Frame} {meth : Method} {c : Code} {H : Heap} {locs : List Loc} {cells slots : Nat} {Q : State → Prop}
variable {cc : ByteArray} {pc : Nat} {ls : Array Slot} {rest : List Value} {X : Cx} {t : St} {H0 : Heap} {nL : Nat}
theorem qX7_28 (B : Bx p s m args c cc nL X RX7) (hS : SS X t H0 H locs) {h0 : Nat} (e0 : isReg h0) {t' : St} (hM : fX8_clear h0 t = some t') (hsz : ls.size = nL) (hW : (rest.map fun v => v.category).sum ≤ 8) (hR : 0 + 1 ≤ R.frames ∧ 8 + (1 + 11) + 0 ≤ R.locals) (hR2 : cells ≤ R.cells ∧ slots ≤ R.slots) (hdg : decode cc pc = .ok (.invokevirtual 28, 3)) (kk : ∀ (H1 : Heap) (locs1 : List Loc), SS X t' H0 H1 locs1 → W p l e R s m args below meth c H1 locs1 cells slots Q (F0 m (pc + 3) ls (rest))) : W p l e R s m args below meth c H locs cells slots Q (F0 m pc ls (.ref (X.2.1 h0) :: rest)) :=
  xVv B hS (kX8_clear l X t h0 e0 t' hM) (tw_2 119 rfl rfl) (tw_2 120 rfl rfl) (tw_2 121 rfl rfl) (tw_1 2 rfl rfl) (tw_2 122 rfl rfl) mdX8_clear (reg_lt e0) (ceX8 e0 _) rfl rfl rfl hsz rfl hW hR hR2 hdg kk
theorem qX7_36 (B : Bx p s m args c cc nL X RX7) (hS : SS X t H0 H locs) {h1 : Nat} (e1 : isReg h1) {t' : St} (hM : fX7_readClause h1 t = some t') (hsz : ls.size = nL) (hW : (rest.map fun v => v.category).sum ≤ 8) (hR : 4 + 1 ≤ R.frames ∧ 8 + (4 + 11) + 89 ≤ R.locals) (hR2 : cells ≤ R.cells ∧ slots ≤ R.slots) (hdg : decode cc pc = .ok (.invokevirtual 36, 3)) (kk : ∀ (H1 : Heap) (locs1 : List Loc), SS X t' H0 H1 locs1 → W p l e R s m args below meth c H1 locs1 cells slots Q (F0 m (pc + 3) ls (rest))) : W p l e R s m args below meth c H locs cells slots Q (F0 m pc ls (.ref (X.2.1 h1) :: .ref (X.2.1 1) :: rest)) :=
  xVv B hS (kX7_readClause l X t h1 e1 t' hM) (tw_2 131 rfl rfl) (tw_2 133 rfl rfl) (tw_0 2 rfl rfl) (tw_1 5 rfl rfl) (tw_2 134 rfl rfl) mdX7_readClause (by decide) (ceX7 _) rfl rfl rfl hsz rfl hW hR hR2 hdg kk
end QX7_readInto
set_option maxHeartbeats 4000000 in
set_option maxRecDepth 100000 in
theorem kX7_readInto (l : Launch) (X : Cx) (t : St) (h1 : Nat) (e1 : isReg h1) (r : Int32) (t' : St) (hrun : fX7_readInto h1 t = some (r, t')) : Ci l X t yX7_readInto cX7_readInto 3 .int 5 112 [.ref (X.2.1 1), .ref (X.2.1 h1)] r t' := by
  refine Ci_of (by decide) (Nat.le_of_ble_eq_true rfl) ?_
  intro p e s m args below meth c Q B hret hS ls hl
  have hx := B.1
  have hb := B.2.1
  have hown := B.2.2.2.1
  have hts := B.2.2.2.2.1
  have hl : lv_has ls 3 [(0, .ref (X.2.1 1)), (1, .ref (X.2.1 h1))] := hl
  have hB65 : ∀ (t : St) (H : Heap) (locs : List Loc) (ls : Array Slot), SS X t s.heap H locs → lv_has ls 3 [(0, .ref (X.2.1 1))] → fX7_readInto_65 h1 t = some (r, t') → W p l e ({ frames := 5, cells := 0, slots := 0, locals := 112 } : Room) s m args below meth c H locs 0 0 Q (F0 m 65 ls []) := by
    intro t H locs ls hS hl hrun
    unfold fX7_readInto_65 at hrun
    refine lv_aload_n hx hb dX7_readInto_65 rfl (lv_at hl 0 rfl) ?_
    refine lv_iconst (v := 0) hx hb dX7_readInto_66 (by decide) ?_
    refine pX7_15 B hS dX7_readInto_67 (fun H locs hS => ?_)
    obtain ⟨t_1066, et, hrun⟩ := bsE hrun
    have hS : SS X t_1066 s.heap H locs := by rw [et]; exact hS
    clear et
    refine lv_aload_n hx hb dX7_readInto_70 rfl (lv_at hl 0 rfl) ?_
    refine gX7_22 B hS dX7_readInto_71 ?_
    exact hret _ _ _ _ _ _ hrun rfl hS dX7_readInto_74
  have hB25 : ∀ (n25 : Nat) (t : St) (x2 : Int32) (H : Heap) (locs : List Loc) (ls : Array Slot), SS X t s.heap H locs → lv_has ls 3 [(0, .ref (X.2.1 1)), (1, .ref (X.2.1 h1)), (2, .int x2)] → fX7_readInto_25 h1 n25 t x2 = some (r, t') → W p l e ({ frames := 5, cells := 0, slots := 0, locals := 112 } : Room) s m args below meth c H locs 0 0 Q (F0 m 25 ls []) := by
    intro n25
    induction n25 with
    | zero =>
      intro t x2 H locs ls hS hl hrun
      cases (show (none : Option (Int32 × St)) = some (r, t') from hrun)
    | succ n25 ih25 =>
      intro t x2 H locs ls hS hl hrun
      rw [fX7_readInto_25_s] at hrun
      refine lv_iload_n hx hb dX7_readInto_25 rfl (lv_at hl 2 rfl) ?_
      refine lv_sipush (v := 240) hx hb dX7_readInto_26 (by decide) ?_
      refine lv_icmp_ge (tgt := 65) hx hb dX7_readInto_29 (by decide) (fun hc => ?_) (fun hc => ?_)
      · have hrun := ip hc hrun
        exact hB65 t _ _ _ hS (lv_sub hl [0] rfl) hrun
      · have hrun := iq hc hrun
        refine lv_aload_n hx hb dX7_readInto_32 rfl (lv_at hl 0 rfl) ?_
        refine gX7_19 B hS dX7_readInto_33 ?_
        refine lv_aload_n hx hb dX7_readInto_36 rfl (lv_at hl 0 rfl) ?_
        refine gX7_15 B hS dX7_readInto_37 ?_
        refine lv_icmp_ge (tgt := 65) hx hb dX7_readInto_40 (by decide) (fun hc => ?_) (fun hc => ?_)
        · have hrun := ip hc hrun
          exact hB65 t _ _ _ hS (lv_sub hl [0] rfl) hrun
        · have hrun := iq hc hrun
          refine lv_aload_n hx hb dX7_readInto_43 rfl (lv_at hl 0 rfl) ?_
          refine gX7_22 B hS dX7_readInto_44 ?_
          refine lv_if_ne (tgt := 65) hx hb dX7_readInto_47 (by decide) (fun hc => ?_) (fun hc => ?_)
          · have hrun := iq hc hrun
            exact hB65 t _ _ _ hS (lv_sub hl [0] rfl) hrun
          · have hrun := ip hc hrun
            refine lv_aload_n hx hb dX7_readInto_50 rfl (lv_at hl 0 rfl) ?_
            refine lv_aload_n hx hb dX7_readInto_51 rfl (lv_at hl 1 rfl) ?_
            obtain ⟨t_1027, hc_1026, hrun⟩ := bdE hrun
            refine qX7_36 B hS e1 hc_1026 hl.1 (Nat.le_of_ble_eq_true rfl) ⟨Nat.le_of_ble_eq_true rfl, Nat.le_of_ble_eq_true rfl⟩ ⟨Nat.zero_le _, Nat.zero_le _⟩ dX7_readInto_52 (fun H locs hS => ?_)
            refine lv_aload_n hx hb dX7_readInto_55 rfl (lv_at hl 0 rfl) ?_
            obtain ⟨t_1029, hc_1028, hrun⟩ := bdE hrun
            refine qX7_33 B hS hc_1028 hl.1 (Nat.le_of_ble_eq_true rfl) ⟨Nat.le_of_ble_eq_true rfl, Nat.le_of_ble_eq_true rfl⟩ ⟨Nat.zero_le _, Nat.zero_le _⟩ dX7_readInto_56 (fun H locs hS => ?_)
            refine lv_iinc (v := x2 + (1 : Int32)) (k := 2) (lv' := [(2, .int (x2 + (1 : Int32))), (0, .ref (X.2.1 1)), (1, .ref (X.2.1 h1))]) hx hb dX7_readInto_59 hl rfl rfl (by decide) rfl (fun ls hl => ?_)
            refine lv_goto (tgt := 25) hx hb dX7_readInto_62 (by decide) ?_
            exact ih25 t_1029 (x2 + (1 : Int32)) _ _ _ hS (lv_sub hl [1, 2, 0] rfl) hrun
  unfold fX7_readInto at hrun
  refine lv_aload_n hx hb dX7_readInto_0 rfl (lv_at hl 0 rfl) ?_
  refine lv_iconst (v := 0) hx hb dX7_readInto_1 (by decide) ?_
  refine pX7_19 B hS dX7_readInto_2 (fun H locs hS => ?_)
  obtain ⟨t_1, et, hrun⟩ := bsE hrun
  have hS : SS X t_1 s.heap H locs := by rw [et]; exact hS
  clear et
  refine lv_aload_n hx hb dX7_readInto_5 rfl (lv_at hl 0 rfl) ?_
  refine lv_iconst (v := 0) hx hb dX7_readInto_6 (by decide) ?_
  refine pX7_22 B hS dX7_readInto_7 (fun H locs hS => ?_)
  obtain ⟨t_2, et, hrun⟩ := bsE hrun
  have hS : SS X t_2 s.heap H locs := by rw [et]; exact hS
  clear et
  refine lv_aload_n hx hb dX7_readInto_10 rfl (lv_at hl 0 rfl) ?_
  refine lv_iconst (v := -1) hx hb dX7_readInto_11 (by decide) ?_
  refine pX7_25 B hS dX7_readInto_12 (fun H locs hS => ?_)
  obtain ⟨t_3, et, hrun⟩ := bsE hrun
  have hS : SS X t_3 s.heap H locs := by rw [et]; exact hS
  clear et
  refine lv_aload_n hx hb dX7_readInto_15 rfl (lv_at hl 1 rfl) ?_
  obtain ⟨t_5, hc_4, hrun⟩ := bdE hrun
  refine qX7_28 B hS e1 hc_4 hl.1 (Nat.le_of_ble_eq_true rfl) ⟨Nat.le_of_ble_eq_true rfl, Nat.le_of_ble_eq_true rfl⟩ ⟨Nat.zero_le _, Nat.zero_le _⟩ dX7_readInto_16 (fun H locs hS => ?_)
  refine lv_aload_n hx hb dX7_readInto_19 rfl (lv_at hl 0 rfl) ?_
  obtain ⟨t_7, hc_6, hrun⟩ := bdE hrun
  refine qX7_33 B hS hc_6 hl.1 (Nat.le_of_ble_eq_true rfl) ⟨Nat.le_of_ble_eq_true rfl, Nat.le_of_ble_eq_true rfl⟩ ⟨Nat.zero_le _, Nat.zero_le _⟩ dX7_readInto_20 (fun H locs hS => ?_)
  refine lv_iconst (v := 0) hx hb dX7_readInto_23 (by decide) ?_
  refine lv_istore_n (lv' := [(2, .int (0 : Int32)), (0, .ref (X.2.1 1)), (1, .ref (X.2.1 h1))]) hx hb dX7_readInto_24 rfl hl (by decide) rfl (fun ls hl => ?_)
  exact hB25 fuelN t_7 (0 : Int32) _ _ _ hS (lv_sub hl [1, 2, 0] rfl) hrun
theorem mdX8_takeFrom : MD yX8_takeFrom 1 := ⟨by decide +kernel, by decide +kernel, by decide +kernel⟩
set_option maxHeartbeats 4000000 in
set_option maxRecDepth 100000 in
theorem kX8_takeFrom (l : Launch) (X : Cx) (t : St) (h0 : Nat) (h1 : Nat) (e0 : isReg h0) (e1 : isReg h1) (t' : St) (hrun : fX8_takeFrom h0 h1 t = some t') : Cv l X t yX8_takeFrom cX8_takeFrom 2 1 60 [.ref (X.2.1 h0), .ref (X.2.1 h1)] t' := by
  refine Cv_of (by decide) (Nat.le_of_ble_eq_true rfl) ?_
  intro p e s m args below meth c Q B hret hS ls hl
  have hx := B.1
  have hb := B.2.1
  have hown := B.2.2.2.1
  have hts := B.2.2.2.2.1
  have hl : lv_has ls 2 [(0, .ref (X.2.1 h0)), (1, .ref (X.2.1 h1))] := hl
  unfold fX8_takeFrom at hrun
  refine lv_aload_n hx hb dX8_takeFrom_0 rfl (lv_at hl 0 rfl) ?_
  refine lv_aload_n hx hb dX8_takeFrom_1 rfl (lv_at hl 1 rfl) ?_
  refine gX8_27 B hS e1 dX8_takeFrom_2 ?_
  refine pX8_27 B hS e0 dX8_takeFrom_5 (fun H locs hS => ?_)
  obtain ⟨t_1, et, hrun⟩ := bsE hrun
  have hS : SS X t_1 s.heap H locs := by rw [et]; exact hS
  clear et
  refine lv_aload_n hx hb dX8_takeFrom_8 rfl (lv_at hl 0 rfl) ?_
  refine lv_aload_n hx hb dX8_takeFrom_9 rfl (lv_at hl 1 rfl) ?_
  refine gX8_31 B hS e1 dX8_takeFrom_10 ?_
  refine pX8_31 B hS e0 dX8_takeFrom_13 (fun H locs hS => ?_)
  obtain ⟨t_2, et, hrun⟩ := bsE hrun
  have hS : SS X t_2 s.heap H locs := by rw [et]; exact hS
  clear et
  refine lv_aload_n hx hb dX8_takeFrom_16 rfl (lv_at hl 0 rfl) ?_
  refine lv_aload_n hx hb dX8_takeFrom_17 rfl (lv_at hl 1 rfl) ?_
  refine gX8_34 B hS e1 dX8_takeFrom_18 ?_
  refine pX8_34 B hS e0 dX8_takeFrom_21 (fun H locs hS => ?_)
  obtain ⟨t_3, et, hrun⟩ := bsE hrun
  have hS : SS X t_3 s.heap H locs := by rw [et]; exact hS
  clear et
  refine lv_aload_n hx hb dX8_takeFrom_24 rfl (lv_at hl 0 rfl) ?_
  refine lv_aload_n hx hb dX8_takeFrom_25 rfl (lv_at hl 1 rfl) ?_
  refine gX8_37 B hS e1 dX8_takeFrom_26 ?_
  refine pX8_37 B hS e0 dX8_takeFrom_29 (fun H locs hS => ?_)
  obtain ⟨t_4, et, hrun⟩ := bsE hrun
  have hS : SS X t_4 s.heap H locs := by rw [et]; exact hS
  clear et
  refine lv_aload_n hx hb dX8_takeFrom_32 rfl (lv_at hl 0 rfl) ?_
  refine lv_aload_n hx hb dX8_takeFrom_33 rfl (lv_at hl 1 rfl) ?_
  refine gX8_40 B hS e1 dX8_takeFrom_34 ?_
  refine pX8_40 B hS e0 dX8_takeFrom_37 (fun H locs hS => ?_)
  obtain ⟨t_5, et, hrun⟩ := bsE hrun
  have hS : SS X t_5 s.heap H locs := by rw [et]; exact hS
  clear et
  refine lv_aload_n hx hb dX8_takeFrom_40 rfl (lv_at hl 1 rfl) ?_
  refine gX8_9 B hS e1 dX8_takeFrom_41 ?_
  refine lv_iconst (v := 0) hx hb dX8_takeFrom_44 (by decide) ?_
  refine lv_aload_n hx hb dX8_takeFrom_45 rfl (lv_at hl 0 rfl) ?_
  refine gX8_9 B hS e0 dX8_takeFrom_46 ?_
  refine lv_iconst (v := 0) hx hb dX8_takeFrom_49 (by decide) ?_
  refine lv_bipush (v := 7) hx hb dX8_takeFrom_50 (by decide) ?_
  refine xcp B hS hl.1 (tw_2 174 rfl rfl) (tw_2 176 rfl rfl) (tw_2 175 rfl rfl) (tw_1 13 rfl rfl) (iaX8_1 e1) (iaX8_1 e0) (N' := 7) rfl (by decide) (by decide) (by decide) (Nat.le_of_ble_eq_true rfl) (Nat.le_of_ble_eq_true rfl) dX8_takeFrom_52 (fun H locs hS => ?_)
  obtain ⟨t_6, et, hrun⟩ := bsE hrun
  have hS : SS X t_6 s.heap H locs := by rw [et]; exact hS
  clear et
  refine lv_aload_n hx hb dX8_takeFrom_55 rfl (lv_at hl 1 rfl) ?_
  refine gX8_15 B hS e1 dX8_takeFrom_56 ?_
  refine lv_iconst (v := 0) hx hb dX8_takeFrom_59 (by decide) ?_
  refine lv_aload_n hx hb dX8_takeFrom_60 rfl (lv_at hl 0 rfl) ?_
  refine gX8_15 B hS e0 dX8_takeFrom_61 ?_
  refine lv_iconst (v := 0) hx hb dX8_takeFrom_64 (by decide) ?_
  refine lv_bipush (v := 7) hx hb dX8_takeFrom_65 (by decide) ?_
  refine xcp B hS hl.1 (tw_2 174 rfl rfl) (tw_2 176 rfl rfl) (tw_2 175 rfl rfl) (tw_1 13 rfl rfl) (iaX8_2 e1) (iaX8_2 e0) (N' := 7) rfl (by decide) (by decide) (by decide) (Nat.le_of_ble_eq_true rfl) (Nat.le_of_ble_eq_true rfl) dX8_takeFrom_67 (fun H locs hS => ?_)
  obtain ⟨t_7, et, hrun⟩ := bsE hrun
  have hS : SS X t_7 s.heap H locs := by rw [et]; exact hS
  clear et
  refine lv_aload_n hx hb dX8_takeFrom_70 rfl (lv_at hl 1 rfl) ?_
  refine gX8_18 B hS e1 dX8_takeFrom_71 ?_
  refine lv_iconst (v := 0) hx hb dX8_takeFrom_74 (by decide) ?_
  refine lv_aload_n hx hb dX8_takeFrom_75 rfl (lv_at hl 0 rfl) ?_
  refine gX8_18 B hS e0 dX8_takeFrom_76 ?_
  refine lv_iconst (v := 0) hx hb dX8_takeFrom_79 (by decide) ?_
  refine lv_bipush (v := 7) hx hb dX8_takeFrom_80 (by decide) ?_
  refine xcp B hS hl.1 (tw_2 174 rfl rfl) (tw_2 176 rfl rfl) (tw_2 175 rfl rfl) (tw_1 13 rfl rfl) (iaX8_3 e1) (iaX8_3 e0) (N' := 7) rfl (by decide) (by decide) (by decide) (Nat.le_of_ble_eq_true rfl) (Nat.le_of_ble_eq_true rfl) dX8_takeFrom_82 (fun H locs hS => ?_)
  obtain ⟨t_8, et, hrun⟩ := bsE hrun
  have hS : SS X t_8 s.heap H locs := by rw [et]; exact hS
  clear et
  refine lv_aload_n hx hb dX8_takeFrom_85 rfl (lv_at hl 1 rfl) ?_
  refine gX8_21 B hS e1 dX8_takeFrom_86 ?_
  refine lv_iconst (v := 0) hx hb dX8_takeFrom_89 (by decide) ?_
  refine lv_aload_n hx hb dX8_takeFrom_90 rfl (lv_at hl 0 rfl) ?_
  refine gX8_21 B hS e0 dX8_takeFrom_91 ?_
  refine lv_iconst (v := 0) hx hb dX8_takeFrom_94 (by decide) ?_
  refine lv_bipush (v := 7) hx hb dX8_takeFrom_95 (by decide) ?_
  refine xcp B hS hl.1 (tw_2 174 rfl rfl) (tw_2 176 rfl rfl) (tw_2 175 rfl rfl) (tw_1 13 rfl rfl) (iaX8_4 e1) (iaX8_4 e0) (N' := 7) rfl (by decide) (by decide) (by decide) (Nat.le_of_ble_eq_true rfl) (Nat.le_of_ble_eq_true rfl) dX8_takeFrom_97 (fun H locs hS => ?_)
  obtain ⟨t_9, et, hrun⟩ := bsE hrun
  have hS : SS X t_9 s.heap H locs := by rw [et]; exact hS
  clear et
  refine lv_aload_n hx hb dX8_takeFrom_100 rfl (lv_at hl 1 rfl) ?_
  refine gX8_24 B hS e1 dX8_takeFrom_101 ?_
  refine lv_iconst (v := 0) hx hb dX8_takeFrom_104 (by decide) ?_
  refine lv_aload_n hx hb dX8_takeFrom_105 rfl (lv_at hl 0 rfl) ?_
  refine gX8_24 B hS e0 dX8_takeFrom_106 ?_
  refine lv_iconst (v := 0) hx hb dX8_takeFrom_109 (by decide) ?_
  refine lv_iconst (v := 4) hx hb dX8_takeFrom_110 (by decide) ?_
  refine xcp B hS hl.1 (tw_2 174 rfl rfl) (tw_2 176 rfl rfl) (tw_2 175 rfl rfl) (tw_1 13 rfl rfl) (iaX8_5 e1) (iaX8_5 e0) (N' := 4) rfl (by decide) (by decide) (by decide) (Nat.le_of_ble_eq_true rfl) (Nat.le_of_ble_eq_true rfl) dX8_takeFrom_111 (fun H locs hS => ?_)
  obtain ⟨t_10, et, hrun⟩ := bsE hrun
  have hS : SS X t_10 s.heap H locs := by rw [et]; exact hS
  clear et
  exact hret _ _ _ _ _ hrun hS dX8_takeFrom_114
theorem mdX8_hasPlace : MD yX8_hasPlace 1 := ⟨by decide +kernel, by decide +kernel, by decide +kernel⟩
set_option maxHeartbeats 4000000 in
set_option maxRecDepth 100000 in
theorem kX8_hasPlace (l : Launch) (X : Cx) (t : St) (h0 : Nat) (e0 : isReg h0) (x1 : Int32) (r : Int32) (hrun : fX8_hasPlace h0 t x1 = some r) : Ci l X t yX8_hasPlace cX8_hasPlace 2 .boolean 0 0 [.ref (X.2.1 h0), .int x1] r t := by
  refine Ci_of (by decide) (Nat.le_of_ble_eq_true rfl) ?_
  intro p e s m args below meth c Q B hret hS ls hl
  have hx := B.1
  have hb := B.2.1
  have hown := B.2.2.2.1
  have hts := B.2.2.2.2.1
  have hl : lv_has ls 2 [(0, .ref (X.2.1 h0)), (1, .int x1)] := hl
  unfold fX8_hasPlace at hrun
  refine lv_iload_n hx hb dX8_hasPlace_0 rfl (lv_at hl 1 rfl) ?_
  refine lv_if_lt (tgt := 16) hx hb dX8_hasPlace_1 (by decide) (fun hc => ?_) (fun hc => ?_)
  · have hrun := ip hc hrun
    refine lv_iconst (v := 0) hx hb dX8_hasPlace_16 (by decide) ?_
    exact hret _ _ _ _ _ _ (congrArg (Option.map (fun w => (w, t))) hrun) rfl hS dX8_hasPlace_17
  · have hrun := iq hc hrun
    refine lv_iload_n hx hb dX8_hasPlace_4 rfl (lv_at hl 1 rfl) ?_
    refine lv_aload_n hx hb dX8_hasPlace_5 rfl (lv_at hl 0 rfl) ?_
    refine gX8_31 B hS e0 dX8_hasPlace_6 ?_
    refine lv_icmp_ge (tgt := 16) hx hb dX8_hasPlace_9 (by decide) (fun hc => ?_) (fun hc => ?_)
    · have hrun := ip hc hrun
      refine lv_iconst (v := 0) hx hb dX8_hasPlace_16 (by decide) ?_
      exact hret _ _ _ _ _ _ (congrArg (Option.map (fun w => (w, t))) hrun) rfl hS dX8_hasPlace_17
    · have hrun := iq hc hrun
      refine lv_iconst (v := 1) hx hb dX8_hasPlace_12 (by decide) ?_
      refine lv_goto (tgt := 17) hx hb dX8_hasPlace_13 (by decide) ?_
      exact hret _ _ _ _ _ _ (congrArg (Option.map (fun w => (w, t))) hrun) rfl hS dX8_hasPlace_17
theorem mdX8_hasInspector : MD yX8_hasInspector 1 := ⟨by decide +kernel, by decide +kernel, by decide +kernel⟩
set_option maxHeartbeats 4000000 in
set_option maxRecDepth 100000 in
theorem kX8_hasInspector (l : Launch) (X : Cx) (t : St) (h0 : Nat) (e0 : isReg h0) (x1 : Int32) (r : Int32) (hrun : fX8_hasInspector h0 t x1 = some r) : Ci l X t yX8_hasInspector cX8_hasInspector 2 .boolean 0 0 [.ref (X.2.1 h0), .int x1] r t := by
  refine Ci_of (by decide) (Nat.le_of_ble_eq_true rfl) ?_
  intro p e s m args below meth c Q B hret hS ls hl
  have hx := B.1
  have hb := B.2.1
  have hown := B.2.2.2.1
  have hts := B.2.2.2.2.1
  have hl : lv_has ls 2 [(0, .ref (X.2.1 h0)), (1, .int x1)] := hl
  unfold fX8_hasInspector at hrun
  refine lv_iload_n hx hb dX8_hasInspector_0 rfl (lv_at hl 1 rfl) ?_
  refine lv_if_lt (tgt := 16) hx hb dX8_hasInspector_1 (by decide) (fun hc => ?_) (fun hc => ?_)
  · have hrun := ip hc hrun
    refine lv_iconst (v := 0) hx hb dX8_hasInspector_16 (by decide) ?_
    exact hret _ _ _ _ _ _ (congrArg (Option.map (fun w => (w, t))) hrun) rfl hS dX8_hasInspector_17
  · have hrun := iq hc hrun
    refine lv_iload_n hx hb dX8_hasInspector_4 rfl (lv_at hl 1 rfl) ?_
    refine lv_aload_n hx hb dX8_hasInspector_5 rfl (lv_at hl 0 rfl) ?_
    refine gX8_40 B hS e0 dX8_hasInspector_6 ?_
    refine lv_icmp_ge (tgt := 16) hx hb dX8_hasInspector_9 (by decide) (fun hc => ?_) (fun hc => ?_)
    · have hrun := ip hc hrun
      refine lv_iconst (v := 0) hx hb dX8_hasInspector_16 (by decide) ?_
      exact hret _ _ _ _ _ _ (congrArg (Option.map (fun w => (w, t))) hrun) rfl hS dX8_hasInspector_17
    · have hrun := iq hc hrun
      refine lv_iconst (v := 1) hx hb dX8_hasInspector_12 (by decide) ?_
      refine lv_goto (tgt := 17) hx hb dX8_hasInspector_13 (by decide) ?_
      exact hret _ _ _ _ _ _ (congrArg (Option.map (fun w => (w, t))) hrun) rfl hS dX8_hasInspector_17
theorem mdX8_hasWord : MD yX8_hasWord 1 := ⟨by decide +kernel, by decide +kernel, by decide +kernel⟩
set_option maxHeartbeats 4000000 in
set_option maxRecDepth 100000 in
theorem kX8_hasWord (l : Launch) (X : Cx) (t : St) (h0 : Nat) (e0 : isReg h0) (x1 : Int32) (r : Int32) (hrun : fX8_hasWord h0 t x1 = some r) : Ci l X t yX8_hasWord cX8_hasWord 2 .boolean 0 0 [.ref (X.2.1 h0), .int x1] r t := by
  refine Ci_of (by decide) (Nat.le_of_ble_eq_true rfl) ?_
  intro p e s m args below meth c Q B hret hS ls hl
  have hx := B.1
  have hb := B.2.1
  have hown := B.2.2.2.1
  have hts := B.2.2.2.2.1
  have hl : lv_has ls 2 [(0, .ref (X.2.1 h0)), (1, .int x1)] := hl
  unfold fX8_hasWord at hrun
  refine lv_iload_n hx hb dX8_hasWord_0 rfl (lv_at hl 1 rfl) ?_
  refine lv_if_lt (tgt := 16) hx hb dX8_hasWord_1 (by decide) (fun hc => ?_) (fun hc => ?_)
  · have hrun := ip hc hrun
    refine lv_iconst (v := 0) hx hb dX8_hasWord_16 (by decide) ?_
    exact hret _ _ _ _ _ _ (congrArg (Option.map (fun w => (w, t))) hrun) rfl hS dX8_hasWord_17
  · have hrun := iq hc hrun
    refine lv_iload_n hx hb dX8_hasWord_4 rfl (lv_at hl 1 rfl) ?_
    refine lv_aload_n hx hb dX8_hasWord_5 rfl (lv_at hl 0 rfl) ?_
    refine gX8_34 B hS e0 dX8_hasWord_6 ?_
    refine lv_icmp_ge (tgt := 16) hx hb dX8_hasWord_9 (by decide) (fun hc => ?_) (fun hc => ?_)
    · have hrun := ip hc hrun
      refine lv_iconst (v := 0) hx hb dX8_hasWord_16 (by decide) ?_
      exact hret _ _ _ _ _ _ (congrArg (Option.map (fun w => (w, t))) hrun) rfl hS dX8_hasWord_17
    · have hrun := iq hc hrun
      refine lv_iconst (v := 1) hx hb dX8_hasWord_12 (by decide) ?_
      refine lv_goto (tgt := 17) hx hb dX8_hasWord_13 (by decide) ?_
      exact hret _ _ _ _ _ _ (congrArg (Option.map (fun w => (w, t))) hrun) rfl hS dX8_hasWord_17
theorem mdX8_hasAll : MD yX8_hasAll 1 := ⟨by decide +kernel, by decide +kernel, by decide +kernel⟩
section QX8_hasAll
variable {p : Program} {l : Launch} {e : Env} {R : Room} {s : State} {m : MethodId} {args : Array Value} {below : List Frame} {meth : Method} {c : Code} {H : Heap} {locs : List Loc} {cells slots : Nat} {Q : State → Prop}
variable {cc : ByteArray} {pc : Nat} {ls : Array Slot} {rest : List Value} {X : Cx} {t : St} {H0 : Heap} {nL : Nat}
theorem qX8_49 (B : Bx p s m args c cc nL X RX8) (hS : SS X t H0 H locs) {h0 : Nat} (e0 : isReg h0) {r : Int32} (hM : fX8_everyone h0 t = some r) (hsz : ls.size = nL) (hW : (rest.map fun v => v.category).sum ≤ 8) (hR : 0 + 1 ≤ R.frames ∧ 8 + (1 + 11) + 0 ≤ R.locals) (hR2 : cells ≤ R.cells ∧ slots ≤ R.slots) (hdg : decode cc pc = .ok (.invokevirtual 49, 3)) (kk : ∀ (H1 : Heap) (locs1 : List Loc), SS X t H0 H1 locs1 → W p l e R s m args below meth c H1 locs1 cells slots Q (F0 m (pc + 3) ls (.int r :: rest))) : W p l e R s m args below meth c H locs cells slots Q (F0 m pc ls (.ref (X.2.1 h0) :: rest)) :=
  xVi B hS (kX8_everyone l X t h0 e0 r hM) (tw_3 204 rfl rfl) (tw_3 0 rfl rfl) (tw_3 1 rfl rfl) (tw_1 2 rfl rfl) (tw_3 2 rfl rfl) mdX8_everyone (reg_lt e0) (ceX8 e0 _) rfl rfl rfl hsz rfl hW hR hR2 hdg kk
end QX8_hasAll
set_option maxHeartbeats 4000000 in
set_option maxRecDepth 100000 in
theorem kX8_hasAll (l : Launch) (X : Cx) (t : St) (h0 : Nat) (e0 : isReg h0) (x1 : Int32) (r : Int32) (hrun : fX8_hasAll h0 t x1 = some r) : Ci l X t yX8_hasAll cX8_hasAll 2 .boolean 1 20 [.ref (X.2.1 h0), .int x1] r t := by
  refine Ci_of (by decide) (Nat.le_of_ble_eq_true rfl) ?_
  intro p e s m args below meth c Q B hret hS ls hl
  have hx := B.1
  have hb := B.2.1
  have hown := B.2.2.2.1
  have hts := B.2.2.2.2.1
  have hl : lv_has ls 2 [(0, .ref (X.2.1 h0)), (1, .int x1)] := hl
  unfold fX8_hasAll at hrun
  refine lv_iload_n hx hb dX8_hasAll_0 rfl (lv_at hl 1 rfl) ?_
  refine lv_aload_n hx hb dX8_hasAll_1 rfl (lv_at hl 0 rfl) ?_
  obtain ⟨r_2, hc_1, hrun⟩ := bdE hrun
  refine qX8_49 B hS e0 hc_1 hl.1 (Nat.le_of_ble_eq_true rfl) ⟨Nat.le_of_ble_eq_true rfl, Nat.le_of_ble_eq_true rfl⟩ ⟨Nat.zero_le _, Nat.zero_le _⟩ dX8_hasAll_2 (fun H locs hS => ?_)
  refine lv_iconst (v := -1) hx hb dX8_hasAll_5 (by decide) ?_
  refine lv_ixor hx hb dX8_hasAll_6 ?_
  refine lv_iand hx hb dX8_hasAll_7 ?_
  refine lv_if_ne (tgt := 15) hx hb dX8_hasAll_8 (by decide) (fun hc => ?_) (fun hc => ?_)
  · have hrun := iq hc hrun
    refine lv_iconst (v := 0) hx hb dX8_hasAll_15 (by decide) ?_
    exact hret _ _ _ _ _ _ (congrArg (Option.map (fun w => (w, t))) hrun) rfl hS dX8_hasAll_16
  · have hrun := ip hc hrun
    refine lv_iconst (v := 1) hx hb dX8_hasAll_11 (by decide) ?_
    refine lv_goto (tgt := 16) hx hb dX8_hasAll_12 (by decide) ?_
    exact hret _ _ _ _ _ _ (congrArg (Option.map (fun w => (w, t))) hrun) rfl hS dX8_hasAll_16
theorem mdX8_knownBy : MD yX8_knownBy 1 := ⟨by decide +kernel, by decide +kernel, by decide +kernel⟩
section QX8_knownBy
variable {p : Program} {l : Launch} {e : Env} {R : Room} {s : State} {m : MethodId} {args : Array Value} {below : List Frame} {meth : Method} {c : Code} {H : Heap} {locs : List Loc} {cells slots : Nat} {Q : State → Prop}
variable {cc : ByteArray} {pc : Nat} {ls : Array Slot} {rest : List Value} {X : Cx} {t : St} {H0 : Heap} {nL : Nat}
theorem qX8_53 (B : Bx p s m args c cc nL X RX8) (hS : SS X t H0 H locs) {x0 : Int32} {x1 : Int32} {r : Int32} (hM : fX10_isIn t x0 x1 = some r) (hsz : ls.size = nL) (hW : (rest.map fun v => v.category).sum ≤ 8) (hR : 0 + 1 ≤ R.frames ∧ 8 + (2 + 11) + 0 ≤ R.locals) (hR2 : cells ≤ R.cells ∧ slots ≤ R.slots) (hdg : decode cc pc = .ok (.invokestatic 53, 3)) (kk : ∀ (H1 : Heap) (locs1 : List Loc), SS X t H0 H1 locs1 → W p l e R s m args below meth c H1 locs1 cells slots Q (F0 m (pc + 3) ls (.int r :: rest))) : W p l e R s m args below meth c H locs cells slots Q (F0 m pc ls (.int x1 :: .int x0 :: rest)) :=
  xSNi B hS (kX10_isIn l X t x0 x1 r hM) (host := "SongSquares") (List.mem_of_getElem? (i := 56) rfl) (tw_3 14 rfl rfl) (tw_1 1 rfl rfl) (tw_3 15 rfl rfl) mdX10_isIn rfl hsz rfl hW hR hR2 hdg kk
end QX8_knownBy
set_option maxHeartbeats 4000000 in
set_option maxRecDepth 100000 in
theorem kX8_knownBy (l : Launch) (X : Cx) (t : St) (h0 : Nat) (e0 : isReg h0) (x1 : Int32) (r : Int32) (hrun : fX8_knownBy h0 t x1 = some r) : Ci l X t yX8_knownBy cX8_knownBy 4 .int 1 21 [.ref (X.2.1 h0), .int x1] r t := by
  refine Ci_of (by decide) (Nat.le_of_ble_eq_true rfl) ?_
  intro p e s m args below meth c Q B hret hS ls hl
  have hx := B.1
  have hb := B.2.1
  have hown := B.2.2.2.1
  have hts := B.2.2.2.2.1
  have hl : lv_has ls 4 [(0, .ref (X.2.1 h0)), (1, .int x1)] := hl
  have hB4 : ∀ (n4 : Nat) (x1 : Int32) (x2 : Int32) (x3 : Int32) (H : Heap) (locs : List Loc) (ls : Array Slot), SS X t s.heap H locs → lv_has ls 4 [(0, .ref (X.2.1 h0)), (1, .int x1), (2, .int x2), (3, .int x3)] → fX8_knownBy_4 h0 t n4 x1 x2 x3 = some r → W p l e ({ frames := 1, cells := 0, slots := 0, locals := 21 } : Room) s m args below meth c H locs 0 0 Q (F0 m 4 ls []) := by
    intro n4
    induction n4 with
    | zero =>
      intro x1 x2 x3 H locs ls hS hl hrun
      cases (show (none : Option (Int32)) = some r from hrun)
    | succ n4 ih4 =>
      intro x1 x2 x3 H locs ls hS hl hrun
      rw [fX8_knownBy_4_s] at hrun
      refine lv_iload_n hx hb dX8_knownBy_4 rfl (lv_at hl 3 rfl) ?_
      refine lv_aload_n hx hb dX8_knownBy_5 rfl (lv_at hl 0 rfl) ?_
      refine gX8_37 B hS e0 dX8_knownBy_6 ?_
      refine lv_icmp_ge (tgt := 35) hx hb dX8_knownBy_9 (by decide) (fun hc => ?_) (fun hc => ?_)
      · have hrun := ip hc hrun
        refine lv_iload_n hx hb dX8_knownBy_35 rfl (lv_at hl 2 rfl) ?_
        exact hret _ _ _ _ _ _ (congrArg (Option.map (fun w => (w, t))) hrun) rfl hS dX8_knownBy_36
      · have hrun := iq hc hrun
        refine lv_iload_n hx hb dX8_knownBy_12 rfl (lv_at hl 3 rfl) ?_
        refine lv_iload_n hx hb dX8_knownBy_13 rfl (lv_at hl 1 rfl) ?_
        obtain ⟨r_1006, hc_1005, hrun⟩ := bdE hrun
        refine qX8_53 B hS hc_1005 hl.1 (Nat.le_of_ble_eq_true rfl) ⟨Nat.le_of_ble_eq_true rfl, Nat.le_of_ble_eq_true rfl⟩ ⟨Nat.zero_le _, Nat.zero_le _⟩ dX8_knownBy_14 (fun H locs hS => ?_)
        refine lv_if_eq (tgt := 29) hx hb dX8_knownBy_17 (by decide) (fun hc => ?_) (fun hc => ?_)
        · have hrun := ip hc hrun
          refine lv_iinc (v := x3 + (1 : Int32)) (k := 3) (lv' := [(3, .int (x3 + (1 : Int32))), (0, .ref (X.2.1 h0)), (1, .int x1), (2, .int x2)]) hx hb dX8_knownBy_29 hl rfl rfl (by decide) rfl (fun ls hl => ?_)
          refine lv_goto (tgt := 4) hx hb dX8_knownBy_32 (by decide) ?_
          exact ih4 x1 x2 (x3 + (1 : Int32)) _ _ _ hS (lv_sub hl [1, 2, 3, 0] rfl) hrun
        · have hrun := iq hc hrun
          refine lv_iload_n hx hb dX8_knownBy_20 rfl (lv_at hl 2 rfl) ?_
          refine lv_aload_n hx hb dX8_knownBy_21 rfl (lv_at hl 0 rfl) ?_
          refine gX8_21 B hS e0 dX8_knownBy_22 ?_
          refine lv_iload_n hx hb dX8_knownBy_25 rfl (lv_at hl 3 rfl) ?_
          obtain ⟨hi_1007, hrun⟩ := gdE hrun
          refine xa B hS (iaX8_4 e0) hi_1007 dX8_knownBy_26 ?_
          refine lv_ior hx hb dX8_knownBy_27 ?_
          refine lv_topi (fun x2_1008 ex => ?_)
          obtain ⟨z, ez, hrun⟩ := bsE hrun
          obtain rfl : x2_1008 = z := ex.trans ez.symm
          clear ex ez
          refine lv_istore_n (lv' := [(2, .int x2_1008), (0, .ref (X.2.1 h0)), (1, .int x1), (3, .int x3)]) hx hb dX8_knownBy_28 rfl hl (by decide) rfl (fun ls hl => ?_)
          refine lv_iinc (v := x3 + (1 : Int32)) (k := 3) (lv' := [(3, .int (x3 + (1 : Int32))), (2, .int x2_1008), (0, .ref (X.2.1 h0)), (1, .int x1)]) hx hb dX8_knownBy_29 hl rfl rfl (by decide) rfl (fun ls hl => ?_)
          refine lv_goto (tgt := 4) hx hb dX8_knownBy_32 (by decide) ?_
          exact ih4 x1 x2_1008 (x3 + (1 : Int32)) _ _ _ hS (lv_sub hl [2, 3, 1, 0] rfl) hrun
  unfold fX8_knownBy at hrun
  refine lv_iconst (v := 0) hx hb dX8_knownBy_0 (by decide) ?_
  refine lv_istore_n (lv' := [(2, .int (0 : Int32)), (0, .ref (X.2.1 h0)), (1, .int x1)]) hx hb dX8_knownBy_1 rfl hl (by decide) rfl (fun ls hl => ?_)
  refine lv_iconst (v := 0) hx hb dX8_knownBy_2 (by decide) ?_
  refine lv_istore_n (lv' := [(3, .int (0 : Int32)), (2, .int (0 : Int32)), (0, .ref (X.2.1 h0)), (1, .int x1)]) hx hb dX8_knownBy_3 rfl hl (by decide) rfl (fun ls hl => ?_)
  exact hB4 fuelN x1 (0 : Int32) (0 : Int32) _ _ _ hS (lv_sub hl [2, 3, 1, 0] rfl) hrun
theorem mdX9_costOf : MD yX9_costOf 3 := ⟨by decide +kernel, by decide +kernel, by decide +kernel⟩
set_option maxHeartbeats 4000000 in
set_option maxRecDepth 100000 in
theorem kX9_costOf (l : Launch) (X : Cx) (t : St) (x1 : Int32) (x2 : Int32) (x3 : Int32) (r : Int32) (hrun : fX9_costOf t x1 x2 x3 = some r) : Ci l X t yX9_costOf cX9_costOf 4 .int 0 0 [.ref (X.2.1 27), .int x1, .int x2, .int x3] r t := by
  refine Ci_of (by decide) (Nat.le_of_ble_eq_true rfl) ?_
  intro p e s m args below meth c Q B hret hS ls hl
  have hx := B.1
  have hb := B.2.1
  have hown := B.2.2.2.1
  have hts := B.2.2.2.2.1
  have hl : lv_has ls 4 [(0, .ref (X.2.1 27)), (1, .int x1), (2, .int x2), (3, .int x3)] := hl
  unfold fX9_costOf at hrun
  refine lv_aload_n hx hb dX9_costOf_0 rfl (lv_at hl 0 rfl) ?_
  refine gX9_11 B hS dX9_costOf_1 ?_
  refine lv_iload_n hx hb dX9_costOf_4 rfl (lv_at hl 1 rfl) ?_
  obtain ⟨hi_1, hrun⟩ := gdE hrun
  refine xqa B hS qa_28 rfl hi_1 dX9_costOf_5 ?_
  refine lv_iload_n hx hb dX9_costOf_6 rfl (lv_at hl 2 rfl) ?_
  obtain ⟨hi_2, hrun⟩ := gdE hrun
  refine xa B hS (ia_ahead hi_1) hi_2 dX9_costOf_7 ?_
  refine lv_iload_n hx hb dX9_costOf_8 rfl (lv_at hl 3 rfl) ?_
  refine lv_iconst (v := -1) hx hb dX9_costOf_9 (by decide) ?_
  refine lv_icmp_eq (tgt := 18) hx hb dX9_costOf_10 (by decide) (fun hc => ?_) (fun hc => ?_)
  · have hrun := ip hc hrun
    refine lv_iconst (v := 0) hx hb dX9_costOf_18 (by decide) ?_
    refine lv_goto (tgt := 23) hx hb dX9_costOf_19 (by decide) ?_
    refine lv_iadd hx hb dX9_costOf_23 ?_
    exact hret _ _ _ _ _ _ (congrArg (Option.map (fun w => (w, t))) hrun) rfl hS dX9_costOf_24
  · have hrun := iq hc hrun
    refine lv_iload_n hx hb dX9_costOf_13 rfl (lv_at hl 3 rfl) ?_
    refine lv_iload_n hx hb dX9_costOf_14 rfl (lv_at hl 2 rfl) ?_
    refine lv_icmp_ne (tgt := 22) hx hb dX9_costOf_15 (by decide) (fun hc => ?_) (fun hc => ?_)
    · have hrun := iq hc hrun
      refine lv_iconst (v := 1) hx hb dX9_costOf_22 (by decide) ?_
      refine lv_iadd hx hb dX9_costOf_23 ?_
      exact hret _ _ _ _ _ _ (congrArg (Option.map (fun w => (w, t))) hrun) rfl hS dX9_costOf_24
    · have hrun := ip hc hrun
      refine lv_iconst (v := 0) hx hb dX9_costOf_18 (by decide) ?_
      refine lv_goto (tgt := 23) hx hb dX9_costOf_19 (by decide) ?_
      refine lv_iadd hx hb dX9_costOf_23 ?_
      exact hret _ _ _ _ _ _ (congrArg (Option.map (fun w => (w, t))) hrun) rfl hS dX9_costOf_24
theorem mdX9_bestFor : MD yX9_bestFor 2 := ⟨by decide +kernel, by decide +kernel, by decide +kernel⟩
section QX9_bestFor
variable {p : Program} {l : Launch} {e : Env} {R : Room} {s : State} {m : MethodId} {args : Array Value} {below : List Frame} {meth : Method} {c : Code} {H : Heap} {locs : List Loc} {cells slots : Nat} {Q : State → Prop}
variable {cc : ByteArray} {pc : Nat} {ls : Array Slot} {rest : List Value} {X : Cx} {t : St} {H0 : Heap} {nL : Nat}
theorem qX9_58 (B : Bx p s m args c cc nL X RX9) (hS : SS X t H0 H locs) {x1 : Int32} {x2 : Int32} {x3 : Int32} {r : Int32} (hM : fX9_costOf t x1 x2 x3 = some r) (hsz : ls.size = nL) (hW : (rest.map fun v => v.category).sum ≤ 8) (hR : 0 + 1 ≤ R.frames ∧ 8 + (4 + 11) + 0 ≤ R.locals) (hR2 : cells ≤ R.cells ∧ slots ≤ R.slots) (hdg : decode cc pc = .ok (.invokevirtual 58, 3)) (kk : ∀ (H1 : Heap) (locs1 : List Loc), SS X t H0 H1 locs1 → W p l e R s m args below meth c H1 locs1 cells slots Q (F0 m (pc + 3) ls (.int r :: rest))) : W p l e R s m args below meth c H locs cells slots Q (F0 m pc ls (.int x3 :: .int x2 :: .int x1 :: .ref (X.2.1 27) :: rest)) :=
  xVi B hS (kX9_costOf l X t x1 x2 x3 r hM) (tw_3 237 rfl rfl) (tw_3 239 rfl rfl) (tw_0 17 rfl rfl) (tw_1 9 rfl rfl) (tw_4 0 rfl rfl) mdX9_costOf (by decide) (ceX9 _) rfl rfl rfl hsz rfl hW hR hR2 hdg kk
end QX9_bestFor
set_option maxHeartbeats 4000000 in
set_option maxRecDepth 100000 in
theorem kX9_bestFor (l : Launch) (X : Cx) (t : St) (x1 : Int32) (x2 : Int32) (r : Int32) (hrun : fX9_bestFor t x1 x2 = some r) : Ci l X t yX9_bestFor cX9_bestFor 7 .int 1 23 [.ref (X.2.1 27), .int x1, .int x2] r t := by
  refine Ci_of (by decide) (Nat.le_of_ble_eq_true rfl) ?_
  intro p e s m args below meth c Q B hret hS ls hl
  have hx := B.1
  have hb := B.2.1
  have hown := B.2.2.2.1
  have hts := B.2.2.2.2.1
  have hl : lv_has ls 7 [(0, .ref (X.2.1 27)), (1, .int x1), (2, .int x2)] := hl
  have hB9 : ∀ (n9 : Nat) (x1 : Int32) (x2 : Int32) (x3 : Int32) (x4 : Int32) (x5 : Int32) (H : Heap) (locs : List Loc) (ls : Array Slot), SS X t s.heap H locs → lv_has ls 7 [(0, .ref (X.2.1 27)), (1, .int x1), (2, .int x2), (3, .int x3), (4, .int x4), (5, .int x5)] → fX9_bestFor_9 t n9 x1 x2 x3 x4 x5 = some r → W p l e ({ frames := 1, cells := 0, slots := 0, locals := 23 } : Room) s m args below meth c H locs 0 0 Q (F0 m 9 ls []) := by
    intro n9
    induction n9 with
    | zero =>
      intro x1 x2 x3 x4 x5 H locs ls hS hl hrun
      cases (show (none : Option (Int32)) = some r from hrun)
    | succ n9 ih9 =>
      intro x1 x2 x3 x4 x5 H locs ls hS hl hrun
      rw [fX9_bestFor_9_s] at hrun
      refine lv_iload hx hb dX9_bestFor_9 (lv_at hl 5 rfl) ?_
      refine lv_aload_n hx hb dX9_bestFor_11 rfl (lv_at hl 0 rfl) ?_
      refine gX9_24 B hS dX9_bestFor_12 ?_
      refine gX9_33 B hS reg_3 dX9_bestFor_15 ?_
      refine lv_icmp_ge (tgt := 51) hx hb dX9_bestFor_18 (by decide) (fun hc => ?_) (fun hc => ?_)
      · have hrun := ip hc hrun
        refine lv_iload_n hx hb dX9_bestFor_51 rfl (lv_at hl 3 rfl) ?_
        exact hret _ _ _ _ _ _ (congrArg (Option.map (fun w => (w, t))) hrun) rfl hS dX9_bestFor_52
      · have hrun := iq hc hrun
        refine lv_aload_n hx hb dX9_bestFor_21 rfl (lv_at hl 0 rfl) ?_
        refine lv_iload_n hx hb dX9_bestFor_22 rfl (lv_at hl 1 rfl) ?_
        refine lv_iload hx hb dX9_bestFor_23 (lv_at hl 5 rfl) ?_
        refine lv_iload_n hx hb dX9_bestFor_25 rfl (lv_at hl 2 rfl) ?_
        obtain ⟨r_1011, hc_1010, hrun⟩ := bdE hrun
        refine qX9_58 B hS hc_1010 hl.1 (Nat.le_of_ble_eq_true rfl) ⟨Nat.le_of_ble_eq_true rfl, Nat.le_of_ble_eq_true rfl⟩ ⟨Nat.zero_le _, Nat.zero_le _⟩ dX9_bestFor_26 (fun H locs hS => ?_)
        refine lv_istore (lv' := [(6, .int r_1011), (0, .ref (X.2.1 27)), (1, .int x1), (2, .int x2), (3, .int x3), (4, .int x4), (5, .int x5)]) hx hb dX9_bestFor_29 hl (by decide) rfl (fun ls hl => ?_)
        refine lv_iload hx hb dX9_bestFor_31 (lv_at hl 0 rfl) ?_
        refine lv_iload hx hb dX9_bestFor_33 (lv_at hl 5 rfl) ?_
        refine lv_icmp_ge (tgt := 45) hx hb dX9_bestFor_35 (by decide) (fun hc => ?_) (fun hc => ?_)
        · have hrun := ip hc hrun
          refine lv_iinc (v := x5 + (1 : Int32)) (k := 6) (lv' := [(5, .int (x5 + (1 : Int32))), (6, .int r_1011), (0, .ref (X.2.1 27)), (1, .int x1), (2, .int x2), (3, .int x3), (4, .int x4)]) hx hb dX9_bestFor_45 hl rfl rfl (by decide) rfl (fun ls hl => ?_)
          refine lv_goto (tgt := 9) hx hb dX9_bestFor_48 (by decide) ?_
          exact ih9 x1 x2 x3 x4 (x5 + (1 : Int32)) _ _ _ hS (lv_sub hl [2, 3, 4, 5, 6, 0] rfl) hrun
        · have hrun := iq hc hrun
          refine lv_iload hx hb dX9_bestFor_38 (lv_at hl 6 rfl) ?_
          refine lv_istore_n (lv' := [(3, .int x5), (6, .int r_1011), (0, .ref (X.2.1 27)), (1, .int x1), (2, .int x2), (4, .int x4), (5, .int x5)]) hx hb dX9_bestFor_40 rfl hl (by decide) rfl (fun ls hl => ?_)
          refine lv_iload hx hb dX9_bestFor_41 (lv_at hl 1 rfl) ?_
          refine lv_istore (lv' := [(4, .int r_1011), (3, .int x5), (6, .int r_1011), (0, .ref (X.2.1 27)), (1, .int x1), (2, .int x2), (5, .int x5)]) hx hb dX9_bestFor_43 hl (by decide) rfl (fun ls hl => ?_)
          refine lv_iinc (v := x5 + (1 : Int32)) (k := 6) (lv' := [(5, .int (x5 + (1 : Int32))), (4, .int r_1011), (3, .int x5), (6, .int r_1011), (0, .ref (X.2.1 27)), (1, .int x1), (2, .int x2)]) hx hb dX9_bestFor_45 hl rfl rfl (by decide) rfl (fun ls hl => ?_)
          refine lv_goto (tgt := 9) hx hb dX9_bestFor_48 (by decide) ?_
          exact ih9 x1 x2 x5 r_1011 (x5 + (1 : Int32)) _ _ _ hS (lv_sub hl [4, 5, 6, 2, 1, 0] rfl) hrun
  unfold fX9_bestFor at hrun
  refine lv_iconst (v := -1) hx hb dX9_bestFor_0 (by decide) ?_
  refine lv_istore_n (lv' := [(3, .int (-1 : Int32)), (0, .ref (X.2.1 27)), (1, .int x1), (2, .int x2)]) hx hb dX9_bestFor_1 rfl hl (by decide) rfl (fun ls hl => ?_)
  refine lv_ldc (v := 1000000) hx hb hown (hts _ (tw_3 236 rfl rfl)) dX9_bestFor_2 ?_
  refine lv_istore (lv' := [(4, .int (1000000 : Int32)), (3, .int (-1 : Int32)), (0, .ref (X.2.1 27)), (1, .int x1), (2, .int x2)]) hx hb dX9_bestFor_4 hl (by decide) rfl (fun ls hl => ?_)
  refine lv_iconst (v := 0) hx hb dX9_bestFor_6 (by decide) ?_
  refine lv_istore (lv' := [(5, .int (0 : Int32)), (4, .int (1000000 : Int32)), (3, .int (-1 : Int32)), (0, .ref (X.2.1 27)), (1, .int x1), (2, .int x2)]) hx hb dX9_bestFor_7 hl (by decide) rfl (fun ls hl => ?_)
  exact hB9 fuelN x1 x2 (-1 : Int32) (1000000 : Int32) (0 : Int32) _ _ _ hS (lv_sub hl [3, 4, 5, 2, 1, 0] rfl) hrun
theorem mdX9_fewestBehind : MD yX9_fewestBehind 2 := ⟨by decide +kernel, by decide +kernel, by decide +kernel⟩
section QX9_fewestBehind
variable {p : Program} {l : Launch} {e : Env} {R : Room} {s : State} {m : MethodId} {args : Array Value} {below : List Frame} {meth : Method} {c : Code} {H : Heap} {locs : List Loc} {cells slots : Nat} {Q : State → Prop}
variable {cc : ByteArray} {pc : Nat} {ls : Array Slot} {rest : List Value} {X : Cx} {t : St} {H0 : Heap} {nL : Nat}
theorem qX9_48 (B : Bx p s m args c cc nL X RX9) (hS : SS X t H0 H locs) {x1 : Int32} {x2 : Int32} {r : Int32} (hM : fX9_bestFor t x1 x2 = some r) (hsz : ls.size = nL) (hW : (rest.map fun v => v.category).sum ≤ 8) (hR : 1 + 1 ≤ R.frames ∧ 8 + (7 + 11) + 23 ≤ R.locals) (hR2 : cells ≤ R.cells ∧ slots ≤ R.slots) (hdg : decode cc pc = .ok (.invokevirtual 48, 3)) (kk : ∀ (H1 : Heap) (locs1 : List Loc), SS X t H0 H1 locs1 → W p l e R s m args below meth c H1 locs1 cells slots Q (F0 m (pc + 3) ls (.int r :: rest))) : W p l e R s m args below meth c H locs cells slots Q (F0 m pc ls (.int x2 :: .int x1 :: .ref (X.2.1 27) :: rest)) :=
  xVi B hS (kX9_bestFor l X t x1 x2 r hM) (tw_3 232 rfl rfl) (tw_3 234 rfl rfl) (tw_0 16 rfl rfl) (tw_1 9 rfl rfl) (tw_3 235 rfl rfl) mdX9_bestFor (by decide) (ceX9 _) rfl rfl rfl hsz rfl hW hR hR2 hdg kk
theorem qX9_51 (B : Bx p s m args c cc nL X RX9) (hS : SS X t H0 H locs) {h0 : Nat} (e0 : isReg h0) {x1 : Int32} {r : Int32} (hM : fX8_hasWord h0 t x1 = some r) (hsz : ls.size = nL) (hW : (rest.map fun v => v.category).sum ≤ 8) (hR : 0 + 1 ≤ R.frames ∧ 8 + (2 + 11) + 0 ≤ R.locals) (hR2 : cells ≤ R.cells ∧ slots ≤ R.slots) (hdg : decode cc pc = .ok (.invokevirtual 51, 3)) (kk : ∀ (H1 : Heap) (locs1 : List Loc), SS X t H0 H1 locs1 → W p l e R s m args below meth c H1 locs1 cells slots Q (F0 m (pc + 3) ls (.int r :: rest))) : W p l e R s m args below meth c H locs cells slots Q (F0 m pc ls (.int x1 :: .ref (X.2.1 h0) :: rest)) :=
  xVi B hS (kX8_hasWord l X t h0 e0 x1 r hM) (tw_3 231 rfl rfl) (tw_3 219 rfl rfl) (tw_3 220 rfl rfl) (tw_1 2 rfl rfl) (tw_3 221 rfl rfl) mdX8_hasWord (reg_lt e0) (ceX8 e0 _) rfl rfl rfl hsz rfl hW hR hR2 hdg kk
theorem qX9_55 (B : Bx p s m args c cc nL X RX9) (hS : SS X t H0 H locs) {h0 : Nat} (e0 : isReg h0) {x1 : Int32} {r : Int32} (hM : fX8_hasSinger h0 t x1 = some r) (hsz : ls.size = nL) (hW : (rest.map fun v => v.category).sum ≤ 8) (hR : 0 + 1 ≤ R.frames ∧ 8 + (2 + 11) + 0 ≤ R.locals) (hR2 : cells ≤ R.cells ∧ slots ≤ R.slots) (hdg : decode cc pc = .ok (.invokevirtual 55, 3)) (kk : ∀ (H1 : Heap) (locs1 : List Loc), SS X t H0 H1 locs1 → W p l e R s m args below meth c H1 locs1 cells slots Q (F0 m (pc + 3) ls (.int r :: rest))) : W p l e R s m args below meth c H locs cells slots Q (F0 m pc ls (.int x1 :: .ref (X.2.1 h0) :: rest)) :=
  xVi B hS (kX8_hasSinger l X t h0 e0 x1 r hM) (tw_4 1 rfl rfl) (tw_2 215 rfl rfl) (tw_2 216 rfl rfl) (tw_1 2 rfl rfl) (tw_2 217 rfl rfl) mdX8_hasSinger (reg_lt e0) (ceX8 e0 _) rfl rfl rfl hsz rfl hW hR hR2 hdg kk
end QX9_fewestBehind
set_option maxHeartbeats 4000000 in
set_option maxRecDepth 100000 in
theorem kX9_fewestBehind (l : Launch) (X : Cx) (t : St) (x1 : Int32) (x2 : Int32) (r : Int32) (hrun : fX9_fewestBehind t x1 x2 = some r) : Ci l X t yX9_fewestBehind cX9_fewestBehind 4 .int 2 49 [.ref (X.2.1 27), .int x1, .int x2] r t := by
  refine Ci_of (by decide) (Nat.le_of_ble_eq_true rfl) ?_
  intro p e s m args below meth c Q B hret hS ls hl
  have hx := B.1
  have hb := B.2.1
  have hown := B.2.2.2.1
  have hts := B.2.2.2.2.1
  have hl : lv_has ls 4 [(0, .ref (X.2.1 27)), (1, .int x1), (2, .int x2)] := hl
  unfold fX9_fewestBehind at hrun
  refine lv_aload_n hx hb dX9_fewestBehind_0 rfl (lv_at hl 0 rfl) ?_
  refine gX9_24 B hS dX9_fewestBehind_1 ?_
  refine lv_iload_n hx hb dX9_fewestBehind_4 rfl (lv_at hl 1 rfl) ?_
  obtain ⟨r_2, hc_1, hrun⟩ := bdE hrun
  refine qX9_51 B hS reg_3 hc_1 hl.1 (Nat.le_of_ble_eq_true rfl) ⟨Nat.le_of_ble_eq_true rfl, Nat.le_of_ble_eq_true rfl⟩ ⟨Nat.zero_le _, Nat.zero_le _⟩ dX9_fewestBehind_5 (fun H locs hS => ?_)
  refine lv_if_ne (tgt := 13) hx hb dX9_fewestBehind_8 (by decide) (fun hc => ?_) (fun hc => ?_)
  · have hrun := iq hc hrun
    refine lv_aload_n hx hb dX9_fewestBehind_13 rfl (lv_at hl 0 rfl) ?_
    refine lv_iload_n hx hb dX9_fewestBehind_14 rfl (lv_at hl 1 rfl) ?_
    refine lv_iload_n hx hb dX9_fewestBehind_15 rfl (lv_at hl 2 rfl) ?_
    obtain ⟨r_4, hc_3, hrun⟩ := bdE hrun
    refine qX9_48 B hS hc_3 hl.1 (Nat.le_of_ble_eq_true rfl) ⟨Nat.le_of_ble_eq_true rfl, Nat.le_of_ble_eq_true rfl⟩ ⟨Nat.zero_le _, Nat.zero_le _⟩ dX9_fewestBehind_16 (fun H locs hS => ?_)
    refine lv_istore_n (lv' := [(3, .int r_4), (0, .ref (X.2.1 27)), (1, .int x1), (2, .int x2)]) hx hb dX9_fewestBehind_19 rfl hl (by decide) rfl (fun ls hl => ?_)
    refine lv_aload_n hx hb dX9_fewestBehind_20 rfl (lv_at hl 1 rfl) ?_
    refine gX9_24 B hS dX9_fewestBehind_21 ?_
    refine lv_iload_n hx hb dX9_fewestBehind_24 rfl (lv_at hl 0 rfl) ?_
    obtain ⟨r_6, hc_5, hrun⟩ := bdE hrun
    refine qX9_55 B hS reg_3 hc_5 hl.1 (Nat.le_of_ble_eq_true rfl) ⟨Nat.le_of_ble_eq_true rfl, Nat.le_of_ble_eq_true rfl⟩ ⟨Nat.zero_le _, Nat.zero_le _⟩ dX9_fewestBehind_25 (fun H locs hS => ?_)
    refine lv_if_eq (tgt := 41) hx hb dX9_fewestBehind_28 (by decide) (fun hc => ?_) (fun hc => ?_)
    · have hrun := ip hc hrun
      refine lv_ldc (v := 1000000) hx hb hown (hts _ (tw_3 236 rfl rfl)) dX9_fewestBehind_41 ?_
      exact hret _ _ _ _ _ _ (congrArg (Option.map (fun w => (w, t))) hrun) rfl hS dX9_fewestBehind_43
    · have hrun := iq hc hrun
      refine lv_aload_n hx hb dX9_fewestBehind_31 rfl (lv_at hl 1 rfl) ?_
      refine lv_iload_n hx hb dX9_fewestBehind_32 rfl (lv_at hl 2 rfl) ?_
      refine lv_iload_n hx hb dX9_fewestBehind_33 rfl (lv_at hl 0 rfl) ?_
      refine lv_iload_n hx hb dX9_fewestBehind_34 rfl (lv_at hl 3 rfl) ?_
      obtain ⟨r_8, hc_7, hrun⟩ := bdE hrun
      refine qX9_58 B hS hc_7 hl.1 (Nat.le_of_ble_eq_true rfl) ⟨Nat.le_of_ble_eq_true rfl, Nat.le_of_ble_eq_true rfl⟩ ⟨Nat.zero_le _, Nat.zero_le _⟩ dX9_fewestBehind_35 (fun H locs hS => ?_)
      refine lv_goto (tgt := 43) hx hb dX9_fewestBehind_38 (by decide) ?_
      exact hret _ _ _ _ _ _ (congrArg (Option.map (fun w => (w, t))) hrun) rfl hS dX9_fewestBehind_43
  · have hrun := ip hc hrun
    refine lv_iconst (v := 0) hx hb dX9_fewestBehind_11 (by decide) ?_
    exact hret _ _ _ _ _ _ (congrArg (Option.map (fun w => (w, t))) hrun) rfl hS dX9_fewestBehind_12
theorem mdX9_share : MD yX9_share 1 := ⟨by decide +kernel, by decide +kernel, by decide +kernel⟩
section QX9_share
variable {p : Program} {l : Launch} {e : Env} {R : Room} {s : State} {m : MethodId} {args : Array Value} {below : List Frame} {meth : Method} {c : Code} {H : Heap} {locs : List Loc} {cells slots : Nat} {Q : State → Prop}
variable {cc : ByteArray} {pc : Nat} {ls : Array Slot} {rest : List Value} {X : Cx} {t : St} {H0 : Heap} {nL : Nat}
theorem qX9_36 (B : Bx p s m args c cc nL X RX9) (hS : SS X t H0 H locs) {x0 : Int32} {x1 : Int32} {r : Int32} (hM : fX10_isIn t x0 x1 = some r) (hsz : ls.size = nL) (hW : (rest.map fun v => v.category).sum ≤ 8) (hR : 0 + 1 ≤ R.frames ∧ 8 + (2 + 11) + 0 ≤ R.locals) (hR2 : cells ≤ R.cells ∧ slots ≤ R.slots) (hdg : decode cc pc = .ok (.invokestatic 36, 3)) (kk : ∀ (H1 : Heap) (locs1 : List Loc), SS X t H0 H1 locs1 → W p l e R s m args below meth c H1 locs1 cells slots Q (F0 m (pc + 3) ls (.int r :: rest))) : W p l e R s m args below meth c H locs cells slots Q (F0 m pc ls (.int x1 :: .int x0 :: rest)) :=
  xSNi B hS (kX10_isIn l X t x0 x1 r hM) (host := "SongSquares") (List.mem_of_getElem? (i := 58) rfl) (tw_3 14 rfl rfl) (tw_1 1 rfl rfl) (tw_3 15 rfl rfl) mdX10_isIn rfl hsz rfl hW hR hR2 hdg kk
theorem qX9_43 (B : Bx p s m args c cc nL X RX9) (hS : SS X t H0 H locs) {x1 : Int32} {x2 : Int32} {r : Int32} (hM : fX9_fewestBehind t x1 x2 = some r) (hsz : ls.size = nL) (hW : (rest.map fun v => v.category).sum ≤ 8) (hR : 2 + 1 ≤ R.frames ∧ 8 + (4 + 11) + 49 ≤ R.locals) (hR2 : cells ≤ R.cells ∧ slots ≤ R.slots) (hdg : decode cc pc = .ok (.invokevirtual 43, 3)) (kk : ∀ (H1 : Heap) (locs1 : List Loc), SS X t H0 H1 locs1 → W p l e R s m args below meth c H1 locs1 cells slots Q (F0 m (pc + 3) ls (.int r :: rest))) : W p l e R s m args below meth c H locs cells slots Q (F0 m pc ls (.int x2 :: .int x1 :: .ref (X.2.1 27) :: rest)) :=
  xVi B hS (kX9_fewestBehind l X t x1 x2 r hM) (tw_3 227 rfl rfl) (tw_3 229 rfl rfl) (tw_0 15 rfl rfl) (tw_1 9 rfl rfl) (tw_3 230 rfl rfl) mdX9_fewestBehind (by decide) (ceX9 _) rfl rfl rfl hsz rfl hW hR hR2 hdg kk
end QX9_share
set_option maxHeartbeats 4000000 in
set_option maxRecDepth 100000 in
theorem kX9_share (l : Launch) (X : Cx) (t : St) (x1 : Int32) (t' : St) (hrun : fX9_share t x1 = some t') : Cv l X t yX9_share cX9_share 5 3 72 [.ref (X.2.1 27), .int x1] t' := by
  refine Cv_of (by decide) (Nat.le_of_ble_eq_true rfl) ?_
  intro p e s m args below meth c Q B hret hS ls hl
  have hx := B.1
  have hb := B.2.1
  have hown := B.2.2.2.1
  have hts := B.2.2.2.2.1
  have hl : lv_has ls 5 [(0, .ref (X.2.1 27)), (1, .int x1)] := hl
  have hB110 : ∀ (n110 : Nat) (t : St) (x2 : Int32) (x3 : Int32) (H : Heap) (locs : List Loc) (ls : Array Slot), SS X t s.heap H locs → lv_has ls 5 [(0, .ref (X.2.1 27)), (2, .int x2), (3, .int x3)] → fX9_share_110 n110 t x2 x3 = some t' → W p l e ({ frames := 3, cells := 0, slots := 0, locals := 72 } : Room) s m args below meth c H locs 0 0 Q (F0 m 110 ls []) := by
    intro n110
    induction n110 with
    | zero =>
      intro t x2 x3 H locs ls hS hl hrun
      cases (show (none : Option (St)) = some t' from hrun)
    | succ n110 ih110 =>
      intro t x2 x3 H locs ls hS hl hrun
      rw [fX9_share_110_s] at hrun
      refine lv_iload_n hx hb dX9_share_110 rfl (lv_at hl 2 rfl) ?_
      refine lv_aload_n hx hb dX9_share_111 rfl (lv_at hl 0 rfl) ?_
      refine gX9_24 B hS dX9_share_112 ?_
      refine gX9_28 B hS reg_3 dX9_share_115 ?_
      refine lv_icmp_ge (tgt := 141) hx hb dX9_share_118 (by decide) (fun hc => ?_) (fun hc => ?_)
      · have hrun := ip hc hrun
        exact hret _ _ _ _ _ hrun hS dX9_share_141
      · have hrun := iq hc hrun
        refine lv_aload_n hx hb dX9_share_121 rfl (lv_at hl 0 rfl) ?_
        refine lv_iload_n hx hb dX9_share_122 rfl (lv_at hl 2 rfl) ?_
        refine lv_iload_n hx hb dX9_share_123 rfl (lv_at hl 1 rfl) ?_
        obtain ⟨r_1112, hc_1111, hrun⟩ := bdE hrun
        refine qX9_48 B hS hc_1111 hl.1 (Nat.le_of_ble_eq_true rfl) ⟨Nat.le_of_ble_eq_true rfl, Nat.le_of_ble_eq_true rfl⟩ ⟨Nat.zero_le _, Nat.zero_le _⟩ dX9_share_124 (fun H locs hS => ?_)
        refine lv_istore_n (lv' := [(2, .int r_1112), (0, .ref (X.2.1 27)), (3, .int x3)]) hx hb dX9_share_127 rfl hl (by decide) rfl (fun ls hl => ?_)
        refine lv_aload_n hx hb dX9_share_128 rfl (lv_at hl 1 rfl) ?_
        refine gX9_16 B hS dX9_share_129 ?_
        refine lv_iload_n hx hb dX9_share_132 rfl (lv_at hl 2 rfl) ?_
        refine lv_iload_n hx hb dX9_share_133 rfl (lv_at hl 0 rfl) ?_
        obtain ⟨hi_1113, hrun⟩ := gdE hrun
        refine xs B hS ia_38 hi_1113 dX9_share_134 (fun H locs hS => ?_)
        obtain ⟨t_1114, et, hrun⟩ := bsE hrun
        have hS : SS X t_1114 s.heap H locs := by rw [et]; exact hS
        clear et
        refine lv_iinc (v := x3 + (1 : Int32)) (k := 2) (lv' := [(3, .int (x3 + (1 : Int32))), (2, .int r_1112), (0, .ref (X.2.1 27))]) hx hb dX9_share_135 hl rfl rfl (by decide) rfl (fun ls hl => ?_)
        refine lv_goto (tgt := 110) hx hb dX9_share_138 (by decide) ?_
        exact ih110 t_1114 r_1112 (x3 + (1 : Int32)) _ _ _ hS (lv_sub hl [2, 1, 0] rfl) hrun
  have hB96 : ∀ (t : St) (H : Heap) (locs : List Loc) (ls : Array Slot), SS X t s.heap H locs → lv_has ls 5 [(0, .ref (X.2.1 27))] → fX9_share_96 t = some t' → W p l e ({ frames := 3, cells := 0, slots := 0, locals := 72 } : Room) s m args below meth c H locs 0 0 Q (F0 m 96 ls []) := by
    intro t H locs ls hS hl hrun
    unfold fX9_share_96 at hrun
    refine lv_aload_n hx hb dX9_share_96 rfl (lv_at hl 0 rfl) ?_
    refine lv_aload_n hx hb dX9_share_97 rfl (lv_at hl 0 rfl) ?_
    refine lv_iconst (v := 0) hx hb dX9_share_98 (by decide) ?_
    refine lv_iconst (v := -1) hx hb dX9_share_99 (by decide) ?_
    obtain ⟨r_1098, hc_1097, hrun⟩ := bdE hrun
    refine qX9_43 B hS hc_1097 hl.1 (Nat.le_of_ble_eq_true rfl) ⟨Nat.le_of_ble_eq_true rfl, Nat.le_of_ble_eq_true rfl⟩ ⟨Nat.zero_le _, Nat.zero_le _⟩ dX9_share_100 (fun H locs hS => ?_)
    refine pX9_20 B hS dX9_share_103 (fun H locs hS => ?_)
    obtain ⟨t_1099, et, hrun⟩ := bsE hrun
    have hS : SS X t_1099 s.heap H locs := by rw [et]; exact hS
    clear et
    refine lv_iconst (v := -1) hx hb dX9_share_106 (by decide) ?_
    refine lv_istore_n (lv' := [(2, .int (-1 : Int32)), (0, .ref (X.2.1 27))]) hx hb dX9_share_107 rfl hl (by decide) rfl (fun ls hl => ?_)
    refine lv_iconst (v := 0) hx hb dX9_share_108 (by decide) ?_
    refine lv_istore_n (lv' := [(3, .int (0 : Int32)), (2, .int (-1 : Int32)), (0, .ref (X.2.1 27))]) hx hb dX9_share_109 rfl hl (by decide) rfl (fun ls hl => ?_)
    exact hB110 fuelN t_1099 (-1 : Int32) (0 : Int32) _ _ _ hS (lv_sub hl [2, 1, 0] rfl) hrun
  have hB10 : ∀ (n10 : Nat) (t : St) (x1 : Int32) (x2 : Int32) (H : Heap) (locs : List Loc) (ls : Array Slot), SS X t s.heap H locs → lv_has ls 5 [(0, .ref (X.2.1 27)), (1, .int x1), (2, .int x2)] → fX9_share_10 n10 t x1 x2 = some t' → W p l e ({ frames := 3, cells := 0, slots := 0, locals := 72 } : Room) s m args below meth c H locs 0 0 Q (F0 m 10 ls []) := by
    intro n10
    induction n10 with
    | zero =>
      intro t x1 x2 H locs ls hS hl hrun
      cases (show (none : Option (St)) = some t' from hrun)
    | succ n10 ih10 =>
      have hB16 : ∀ (n16 : Nat) (t : St) (x1 : Int32) (x2 : Int32) (x3 : Int32) (H : Heap) (locs : List Loc) (ls : Array Slot), SS X t s.heap H locs → lv_has ls 5 [(0, .ref (X.2.1 27)), (1, .int x1), (2, .int x2), (3, .int x3)] → fX9_share_16 (fX9_share_10 n10) n16 t x1 x2 x3 = some t' → W p l e ({ frames := 3, cells := 0, slots := 0, locals := 72 } : Room) s m args below meth c H locs 0 0 Q (F0 m 16 ls []) := by
        intro n16
        induction n16 with
        | zero =>
          intro t x1 x2 x3 H locs ls hS hl hrun
          cases (show (none : Option (St)) = some t' from hrun)
        | succ n16 ih16 =>
          have hB83 : ∀ (t : St) (x1 : Int32) (x2 : Int32) (x3 : Int32) (q0 : Nat) (y1 : Int32) (y2 : Int32) (H : Heap) (locs : List Loc) (ls : Array Slot) (z0 : isI X q0 7), SS X t s.heap H locs → lv_has ls 5 [(0, .ref (X.2.1 27)), (1, .int x1), (2, .int x2), (3, .int x3)] → fX9_share_83 (fX9_share_10 n10) (fX9_share_16 (fX9_share_10 n10) n16) t x1 x2 x3 q0 y1 y2 = some t' → W p l e ({ frames := 3, cells := 0, slots := 0, locals := 72 } : Room) s m args below meth c H locs 0 0 Q (F0 m 83 ls [.int y2, .int y1, .ref (X.2.1 q0)]) := by
            intro t x1 x2 x3 q0 y1 y2 H locs ls z0 hS hl hrun
            unfold fX9_share_83 at hrun
            obtain ⟨hi_1084, hrun⟩ := gdE hrun
            refine xs B hS z0 hi_1084 dX9_share_83 (fun H locs hS => ?_)
            obtain ⟨t_1085, et, hrun⟩ := bsE hrun
            have hS : SS X t_1085 s.heap H locs := by rw [et]; exact hS
            clear et
            refine lv_iinc (v := x3 + (1 : Int32)) (k := 3) (lv' := [(3, .int (x3 + (1 : Int32))), (0, .ref (X.2.1 27)), (1, .int x1), (2, .int x2)]) hx hb dX9_share_84 hl rfl rfl (by decide) rfl (fun ls hl => ?_)
            refine lv_goto (tgt := 16) hx hb dX9_share_87 (by decide) ?_
            exact ih16 t_1085 x1 x2 (x3 + (1 : Int32)) _ _ _ hS (lv_sub hl [1, 2, 3, 0] rfl) hrun
          have hB56 : ∀ (t : St) (x1 : Int32) (x2 : Int32) (x3 : Int32) (y0 : Int32) (H : Heap) (locs : List Loc) (ls : Array Slot), SS X t s.heap H locs → lv_has ls 5 [(0, .ref (X.2.1 27)), (1, .int x1), (2, .int x2), (3, .int x3)] → fX9_share_56 (fX9_share_10 n10) (fX9_share_16 (fX9_share_10 n10) n16) t x1 x2 x3 y0 = some t' → W p l e ({ frames := 3, cells := 0, slots := 0, locals := 72 } : Room) s m args below meth c H locs 0 0 Q (F0 m 56 ls [.int y0]) := by
            intro t x1 x2 x3 y0 H locs ls hS hl hrun
            unfold fX9_share_56 at hrun
            refine lv_istore (lv' := [(4, .int y0), (0, .ref (X.2.1 27)), (1, .int x1), (2, .int x2), (3, .int x3)]) hx hb dX9_share_56 hl (by decide) rfl (fun ls hl => ?_)
            refine lv_aload_n hx hb dX9_share_58 rfl (lv_at hl 1 rfl) ?_
            refine gX9_11 B hS dX9_share_59 ?_
            refine lv_iload_n hx hb dX9_share_62 rfl (lv_at hl 3 rfl) ?_
            obtain ⟨hi_1057, hrun⟩ := gdE hrun
            refine xqa B hS qa_28 rfl hi_1057 dX9_share_63 ?_
            refine lv_iload_n hx hb dX9_share_64 rfl (lv_at hl 4 rfl) ?_
            refine lv_iload hx hb dX9_share_65 (lv_at hl 0 rfl) ?_
            refine lv_if_eq (tgt := 81) hx hb dX9_share_67 (by decide) (fun hc => ?_) (fun hc => ?_)
            · have hrun := ip hc hrun
              refine lv_ldc (v := 1000000) hx hb hown (hts _ (tw_3 236 rfl rfl)) dX9_share_81 ?_
              exact hB83 t x1 x2 x3 (29 + x2.toNatClampNeg) x3 (1000000 : Int32) _ _ _ ((ia_ahead hi_1057)) hS (lv_sub hl [1, 2, 3, 4] rfl) hrun
            · have hrun := iq hc hrun
              refine lv_aload_n hx hb dX9_share_70 rfl (lv_at hl 1 rfl) ?_
              refine lv_iload_n hx hb dX9_share_71 rfl (lv_at hl 3 rfl) ?_
              refine lv_iconst (v := 1) hx hb dX9_share_72 (by decide) ?_
              refine lv_iadd hx hb dX9_share_73 ?_
              refine lv_iload_n hx hb dX9_share_74 rfl (lv_at hl 4 rfl) ?_
              obtain ⟨r_1059, hc_1058, hrun⟩ := bdE hrun
              refine qX9_43 B hS hc_1058 hl.1 (Nat.le_of_ble_eq_true rfl) ⟨Nat.le_of_ble_eq_true rfl, Nat.le_of_ble_eq_true rfl⟩ ⟨Nat.zero_le _, Nat.zero_le _⟩ dX9_share_75 (fun H locs hS => ?_)
              refine lv_goto (tgt := 83) hx hb dX9_share_78 (by decide) ?_
              exact hB83 t x1 x2 x3 (29 + x2.toNatClampNeg) x3 r_1059 _ _ _ ((ia_ahead hi_1057)) hS (lv_sub hl [1, 2, 3, 4] rfl) hrun
          have hB55 : ∀ (t : St) (x1 : Int32) (x2 : Int32) (x3 : Int32) (H : Heap) (locs : List Loc) (ls : Array Slot), SS X t s.heap H locs → lv_has ls 5 [(0, .ref (X.2.1 27)), (1, .int x1), (2, .int x2), (3, .int x3)] → fX9_share_55 (fX9_share_10 n10) (fX9_share_16 (fX9_share_10 n10) n16) t x1 x2 x3 = some t' → W p l e ({ frames := 3, cells := 0, slots := 0, locals := 72 } : Room) s m args below meth c H locs 0 0 Q (F0 m 55 ls []) := by
            intro t x1 x2 x3 H locs ls hS hl hrun
            unfold fX9_share_55 at hrun
            refine lv_iconst (v := 0) hx hb dX9_share_55 (by decide) ?_
            exact hB56 t x1 x2 x3 (0 : Int32) _ _ _ hS (lv_sub hl [0, 1, 2, 3] rfl) hrun
          intro t x1 x2 x3 H locs ls hS hl hrun
          rw [fX9_share_16_s] at hrun
          refine lv_iload_n hx hb dX9_share_16 rfl (lv_at hl 3 rfl) ?_
          refine lv_aload_n hx hb dX9_share_17 rfl (lv_at hl 0 rfl) ?_
          refine gX9_24 B hS dX9_share_18 ?_
          refine gX9_33 B hS reg_3 dX9_share_21 ?_
          refine lv_icmp_ge (tgt := 90) hx hb dX9_share_24 (by decide) (fun hc => ?_) (fun hc => ?_)
          · have hrun := ip hc hrun
            refine lv_iinc (v := x2 + (-1 : Int32)) (k := 2) (lv' := [(2, .int (x2 + (-1 : Int32))), (0, .ref (X.2.1 27)), (1, .int x1), (3, .int x3)]) hx hb dX9_share_90 hl rfl rfl (by decide) rfl (fun ls hl => ?_)
            refine lv_goto (tgt := 10) hx hb dX9_share_93 (by decide) ?_
            exact ih10 t x1 (x2 + (-1 : Int32)) _ _ _ hS (lv_sub hl [1, 2, 0] rfl) hrun
          · have hrun := iq hc hrun
            refine lv_iload_n hx hb dX9_share_27 rfl (lv_at hl 3 rfl) ?_
            refine lv_iload_n hx hb dX9_share_28 rfl (lv_at hl 1 rfl) ?_
            obtain ⟨r_1018, hc_1017, hrun⟩ := bdE hrun
            refine qX9_36 B hS hc_1017 hl.1 (Nat.le_of_ble_eq_true rfl) ⟨Nat.le_of_ble_eq_true rfl, Nat.le_of_ble_eq_true rfl⟩ ⟨Nat.zero_le _, Nat.zero_le _⟩ dX9_share_29 (fun H locs hS => ?_)
            refine lv_if_eq (tgt := 55) hx hb dX9_share_32 (by decide) (fun hc => ?_) (fun hc => ?_)
            · have hrun := ip hc hrun
              exact hB55 t x1 x2 x3 _ _ _ hS (lv_sub hl [0, 1, 2, 3] rfl) hrun
            · have hrun := iq hc hrun
              refine lv_iload_n hx hb dX9_share_35 rfl (lv_at hl 2 rfl) ?_
              refine lv_aload_n hx hb dX9_share_36 rfl (lv_at hl 0 rfl) ?_
              refine gX9_24 B hS dX9_share_37 ?_
              refine gX9_40 B hS reg_3 dX9_share_40 ?_
              refine lv_iload_n hx hb dX9_share_43 rfl (lv_at hl 3 rfl) ?_
              obtain ⟨hi_1019, hrun⟩ := gdE hrun
              refine xa B hS (iaX8_4 reg_3) hi_1019 dX9_share_44 ?_
              obtain ⟨r_1021, hc_1020, hrun⟩ := bdE hrun
              refine qX9_36 B hS hc_1020 hl.1 (Nat.le_of_ble_eq_true rfl) ⟨Nat.le_of_ble_eq_true rfl, Nat.le_of_ble_eq_true rfl⟩ ⟨Nat.zero_le _, Nat.zero_le _⟩ dX9_share_45 (fun H locs hS => ?_)
              refine lv_if_eq (tgt := 55) hx hb dX9_share_48 (by decide) (fun hc => ?_) (fun hc => ?_)
              · have hrun := ip hc hrun
                exact hB55 t x1 x2 x3 _ _ _ hS (lv_sub hl [0, 1, 2, 3] rfl) hrun
              · have hrun := iq hc hrun
                refine lv_iconst (v := 1) hx hb dX9_share_51 (by decide) ?_
                refine lv_goto (tgt := 56) hx hb dX9_share_52 (by decide) ?_
                exact hB56 t x1 x2 x3 (1 : Int32) _ _ _ hS (lv_sub hl [0, 1, 2, 3] rfl) hrun
      intro t x1 x2 H locs ls hS hl hrun
      rw [fX9_share_10_s] at hrun
      refine lv_iload_n hx hb dX9_share_10 rfl (lv_at hl 2 rfl) ?_
      refine lv_if_lt (tgt := 96) hx hb dX9_share_11 (by decide) (fun hc => ?_) (fun hc => ?_)
      · have hrun := ip hc hrun
        exact hB96 t _ _ _ hS (lv_sub hl [0] rfl) hrun
      · have hrun := iq hc hrun
        refine lv_iconst (v := 0) hx hb dX9_share_14 (by decide) ?_
        refine lv_istore_n (lv' := [(3, .int (0 : Int32)), (0, .ref (X.2.1 27)), (1, .int x1), (2, .int x2)]) hx hb dX9_share_15 rfl hl (by decide) rfl (fun ls hl => ?_)
        exact hB16 fuelN t x1 x2 (0 : Int32) _ _ _ hS (lv_sub hl [1, 2, 3, 0] rfl) hrun
  unfold fX9_share at hrun
  refine lv_aload_n hx hb dX9_share_0 rfl (lv_at hl 0 rfl) ?_
  refine gX9_24 B hS dX9_share_1 ?_
  refine gX9_28 B hS reg_3 dX9_share_4 ?_
  refine lv_iconst (v := 1) hx hb dX9_share_7 (by decide) ?_
  refine lv_isub hx hb dX9_share_8 ?_
  refine lv_topi (fun x2_1 ex => ?_)
  obtain ⟨z, ez, hrun⟩ := bsE hrun
  obtain rfl : x2_1 = z := ex.trans ez.symm
  clear ex ez
  refine lv_istore_n (lv' := [(2, .int x2_1), (0, .ref (X.2.1 27)), (1, .int x1)]) hx hb dX9_share_9 rfl hl (by decide) rfl (fun ls hl => ?_)
  exact hB10 fuelN t x1 x2_1 _ _ _ hS (lv_sub hl [1, 2, 0] rfl) hrun
