theorem mdX10_feed : MD yX10_feed 1 := ⟨by decide +kernel, by decide +kernel, by decide +kernel⟩
section QX10_feed
variable {p : Program} {l : Launch} {e : Env} {R : Room} {s : State} {m : MethodId} {args : Array Value} {below : List Frame} {meth : Method} {c : Code} {H : Heap} {locs : List Loc} {cells slots : Nat} {Q : State → Prop}
variable {cc : ByteArray} {pc : Nat} {ls : Array Slot} {rest : List Value} {X : Cx} {t : St} {H0 : Heap} {nL : Nat}
theorem qX10_88 (B : Bx p s m args c cc nL X RX10) (hS : SS X t H0 H locs) {x1 : Int32} {r : Int32} {t' : St} (hM : fX7_append t x1 = some (r, t')) (hsz : ls.size = nL) (hW : (rest.map fun v => v.category).sum ≤ 8) (hR : 0 + 1 ≤ R.frames ∧ 8 + (2 + 11) + 0 ≤ R.locals) (hR2 : cells ≤ R.cells ∧ slots ≤ R.slots) (hdg : decode cc pc = .ok (.invokevirtual 88, 3)) (kk : ∀ (H1 : Heap) (locs1 : List Loc), SS X t' H0 H1 locs1 → W p l e R s m args below meth c H1 locs1 cells slots Q (F0 m (pc + 3) ls (.int r :: rest))) : W p l e R s m args below meth c H locs cells slots Q (F0 m pc ls (.int x1 :: .ref (X.2.1 1) :: rest)) :=
  xVi B hS (kX7_append l X t x1 r t' hM) (tw_2 106 rfl rfl) (tw_2 107 rfl rfl) (tw_2 108 rfl rfl) (tw_1 5 rfl rfl) (tw_2 109 rfl rfl) mdX7_append (by decide) (ceX7 _) rfl rfl rfl hsz rfl hW hR hR2 hdg kk
end QX10_feed
set_option maxHeartbeats 4000000 in
set_option maxRecDepth 100000 in
theorem kX10_feed (l : Launch) (X : Cx) (t : St) (x1 : Int32) (r : Int32) (t' : St) (hrun : fX10_feed t x1 = some (r, t')) : Ci l X t yX10_feed cX10_feed 2 .int 1 21 [.ref (X.2.1 0), .int x1] r t' := by
  refine Ci_of (by decide) (Nat.le_of_ble_eq_true rfl) ?_
  intro p e s m args below meth c Q B hret hS ls hl
  have hx := B.1
  have hb := B.2.1
  have hown := B.2.2.2.1
  have hts := B.2.2.2.2.1
  have hl : lv_has ls 2 [(0, .ref (X.2.1 0)), (1, .int x1)] := hl
  unfold fX10_feed at hrun
  refine lv_iload_n hx hb dX10_feed_0 rfl (lv_at hl 1 rfl) ?_
  refine lv_if_lt (tgt := 11) hx hb dX10_feed_1 (by decide) (fun hc => ?_) (fun hc => ?_)
  · have hrun := ip hc hrun
    refine lv_ldc (v := -1000000002) hx hb hown (hts _ (tw_2 105 rfl rfl)) dX10_feed_11 ?_
    exact hret _ _ _ _ _ _ hrun rfl hS dX10_feed_13
  · have hrun := iq hc hrun
    refine lv_iload_n hx hb dX10_feed_4 rfl (lv_at hl 1 rfl) ?_
    refine lv_sipush (v := 255) hx hb dX10_feed_5 (by decide) ?_
    refine lv_icmp_le (tgt := 14) hx hb dX10_feed_8 (by decide) (fun hc => ?_) (fun hc => ?_)
    · have hrun := ip hc hrun
      refine lv_aload_n hx hb dX10_feed_14 rfl (lv_at hl 0 rfl) ?_
      refine gX10_20 B hS dX10_feed_15 ?_
      refine lv_iload_n hx hb dX10_feed_18 rfl (lv_at hl 1 rfl) ?_
      obtain ⟨r_2, t_3, hc_1, hrun⟩ := bd2E hrun
      refine qX10_88 B hS hc_1 hl.1 (Nat.le_of_ble_eq_true rfl) ⟨Nat.le_of_ble_eq_true rfl, Nat.le_of_ble_eq_true rfl⟩ ⟨Nat.zero_le _, Nat.zero_le _⟩ dX10_feed_19 (fun H locs hS => ?_)
      refine lv_if_eq (tgt := 35) hx hb dX10_feed_22 (by decide) (fun hc => ?_) (fun hc => ?_)
      · have hrun := ip hc hrun
        refine lv_ldc (v := -1000000004) hx hb hown (hts _ (tw_2 110 rfl rfl)) dX10_feed_35 ?_
        exact hret _ _ _ _ _ _ hrun rfl hS dX10_feed_37
      · have hrun := iq hc hrun
        refine lv_aload_n hx hb dX10_feed_25 rfl (lv_at hl 0 rfl) ?_
        refine gX10_20 B hS dX10_feed_26 ?_
        refine gX10_92 B hS dX10_feed_29 ?_
        refine lv_goto (tgt := 37) hx hb dX10_feed_32 (by decide) ?_
        exact hret _ _ _ _ _ _ hrun rfl hS dX10_feed_37
    · have hrun := iq hc hrun
      refine lv_ldc (v := -1000000002) hx hb hown (hts _ (tw_2 105 rfl rfl)) dX10_feed_11 ?_
      exact hret _ _ _ _ _ _ hrun rfl hS dX10_feed_13
theorem mdX10_duchy : MD yX10_duchy 0 := ⟨by decide +kernel, by decide +kernel, by decide +kernel⟩
section QX10_duchy
variable {p : Program} {l : Launch} {e : Env} {R : Room} {s : State} {m : MethodId} {args : Array Value} {below : List Frame} {meth : Method} {c : Code} {H : Heap} {locs : List Loc} {cells slots : Nat} {Q : State → Prop}
variable {cc : ByteArray} {pc : Nat} {ls : Array Slot} {rest : List Value} {X : Cx} {t : St} {H0 : Heap} {nL : Nat}
theorem qX10_97 (B : Bx p s m args c cc nL X RX10) (hS : SS X t H0 H locs) {h1 : Nat} (e1 : isReg h1) {r : Int32} {t' : St} (hM : fX7_readInto h1 t = some (r, t')) (hsz : ls.size = nL) (hW : (rest.map fun v => v.category).sum ≤ 8) (hR : 5 + 1 ≤ R.frames ∧ 8 + (3 + 11) + 112 ≤ R.locals) (hR2 : cells ≤ R.cells ∧ slots ≤ R.slots) (hdg : decode cc pc = .ok (.invokevirtual 97, 3)) (kk : ∀ (H1 : Heap) (locs1 : List Loc), SS X t' H0 H1 locs1 → W p l e R s m args below meth c H1 locs1 cells slots Q (F0 m (pc + 3) ls (.int r :: rest))) : W p l e R s m args below meth c H locs cells slots Q (F0 m pc ls (.ref (X.2.1 h1) :: .ref (X.2.1 1) :: rest)) :=
  xVi B hS (kX7_readInto l X t h1 e1 r t' hM) (tw_2 115 rfl rfl) (tw_2 116 rfl rfl) (tw_2 117 rfl rfl) (tw_1 5 rfl rfl) (tw_2 118 rfl rfl) mdX7_readInto (by decide) (ceX7 _) rfl rfl rfl hsz rfl hW hR hR2 hdg kk
theorem qX10_101 (B : Bx p s m args c cc nL X RX10) (hS : SS X t H0 H locs) {h0 : Nat} {h1 : Nat} (e0 : isReg h0) (e1 : isReg h1) {t' : St} (hM : fX8_takeFrom h0 h1 t = some t') (hsz : ls.size = nL) (hW : (rest.map fun v => v.category).sum ≤ 8) (hR : 1 + 1 ≤ R.frames ∧ 8 + (2 + 11) + 60 ≤ R.locals) (hR2 : cells ≤ R.cells ∧ slots ≤ R.slots) (hdg : decode cc pc = .ok (.invokevirtual 101, 3)) (kk : ∀ (H1 : Heap) (locs1 : List Loc), SS X t' H0 H1 locs1 → W p l e R s m args below meth c H1 locs1 cells slots Q (F0 m (pc + 3) ls (rest))) : W p l e R s m args below meth c H locs cells slots Q (F0 m pc ls (.ref (X.2.1 h1) :: .ref (X.2.1 h0) :: rest)) :=
  xVv B hS (kX8_takeFrom l X t h0 h1 e0 e1 t' hM) (tw_2 170 rfl rfl) (tw_2 171 rfl rfl) (tw_2 172 rfl rfl) (tw_1 2 rfl rfl) (tw_2 173 rfl rfl) mdX8_takeFrom (reg_lt e0) (ceX8 e0 _) rfl rfl rfl hsz rfl hW hR hR2 hdg kk
theorem qX10_104 (B : Bx p s m args c cc nL X RX10) (hS : SS X t H0 H locs) {h0 : Nat} (e0 : isHall h0) {t' : St} (hM : fX3_begin h0 t = some t') (hsz : ls.size = nL) (hW : (rest.map fun v => v.category).sum ≤ 8) (hR : 1 + 1 ≤ R.frames ∧ 8 + (2 + 11) + 60 ≤ R.locals) (hR2 : cells ≤ R.cells ∧ slots ≤ R.slots) (hdg : decode cc pc = .ok (.invokevirtual 104, 3)) (kk : ∀ (H1 : Heap) (locs1 : List Loc), SS X t' H0 H1 locs1 → W p l e R s m args below meth c H1 locs1 cells slots Q (F0 m (pc + 3) ls (rest))) : W p l e R s m args below meth c H locs cells slots Q (F0 m pc ls (.ref (X.2.1 h0) :: rest)) :=
  xVv B hS (kX3_begin l X t h0 e0 t' hM) (tw_2 177 rfl rfl) (tw_2 178 rfl rfl) (tw_2 179 rfl rfl) (tw_1 4 rfl rfl) (tw_2 180 rfl rfl) mdX3_begin (hall_lt e0) (ceX3 e0 _) rfl rfl rfl hsz rfl hW hR hR2 hdg kk
theorem qX10_107 (B : Bx p s m args c cc nL X RX10) (hS : SS X t H0 H locs) {t' : St} (hM : fX5_clear t = some t') (hsz : ls.size = nL) (hW : (rest.map fun v => v.category).sum ≤ 8) (hR : 0 + 1 ≤ R.frames ∧ 8 + (1 + 11) + 0 ≤ R.locals) (hR2 : cells ≤ R.cells ∧ slots ≤ R.slots) (hdg : decode cc pc = .ok (.invokevirtual 107, 3)) (kk : ∀ (H1 : Heap) (locs1 : List Loc), SS X t' H0 H1 locs1 → W p l e R s m args below meth c H1 locs1 cells slots Q (F0 m (pc + 3) ls (rest))) : W p l e R s m args below meth c H locs cells slots Q (F0 m pc ls (.ref (X.2.1 20) :: rest)) :=
  xVv B hS (kX5_clear l X t t' hM) (tw_2 182 rfl rfl) (tw_2 183 rfl rfl) (tw_2 184 rfl rfl) (tw_1 7 rfl rfl) (tw_2 185 rfl rfl) mdX5_clear (by decide) (ceX5 _) rfl rfl rfl hsz rfl hW hR hR2 hdg kk
theorem qX10_110 (B : Bx p s m args c cc nL X RX10) (hS : SS X t H0 H locs) {t' : St} (hM : fX6_forget t = some t') (hsz : ls.size = nL) (hW : (rest.map fun v => v.category).sum ≤ 8) (hR : 0 + 1 ≤ R.frames ∧ 8 + (1 + 11) + 0 ≤ R.locals) (hR2 : cells ≤ R.cells ∧ slots ≤ R.slots) (hdg : decode cc pc = .ok (.invokevirtual 110, 3)) (kk : ∀ (H1 : Heap) (locs1 : List Loc), SS X t' H0 H1 locs1 → W p l e R s m args below meth c H1 locs1 cells slots Q (F0 m (pc + 3) ls (rest))) : W p l e R s m args below meth c H locs cells slots Q (F0 m pc ls (.ref (X.2.1 15) :: rest)) :=
  xVv B hS (kX6_forget l X t t' hM) (tw_2 186 rfl rfl) (tw_2 187 rfl rfl) (tw_2 188 rfl rfl) (tw_1 6 rfl rfl) (tw_2 189 rfl rfl) mdX6_forget (by decide) (ceX6 _) rfl rfl rfl hsz rfl hW hR hR2 hdg kk
end QX10_duchy
set_option maxHeartbeats 4000000 in
set_option maxRecDepth 100000 in
theorem kX10_duchy (l : Launch) (X : Cx) (t : St) (r : Int32) (t' : St) (hrun : fX10_duchy t = some (r, t')) : Ci l X t yX10_duchy cX10_duchy 3 .int 6 134 [.ref (X.2.1 0)] r t' := by
  refine Ci_of (by decide) (Nat.le_of_ble_eq_true rfl) ?_
  intro p e s m args below meth c Q B hret hS ls hl
  have hx := B.1
  have hb := B.2.1
  have hown := B.2.2.2.1
  have hts := B.2.2.2.2.1
  have hl : lv_has ls 3 [(0, .ref (X.2.1 0))] := hl
  have hB55 : ∀ (n55 : Nat) (t : St) (x2 : Int32) (H : Heap) (locs : List Loc) (ls : Array Slot), SS X t s.heap H locs → lv_has ls 3 [(0, .ref (X.2.1 0)), (2, .int x2)] → fX10_duchy_55 n55 t x2 = some (r, t') → W p l e ({ frames := 6, cells := 0, slots := 0, locals := 134 } : Room) s m args below meth c H locs 0 0 Q (F0 m 55 ls []) := by
    intro n55
    induction n55 with
    | zero =>
      intro t x2 H locs ls hS hl hrun
      cases (show (none : Option (Int32 × St)) = some (r, t') from hrun)
    | succ n55 ih55 =>
      intro t x2 H locs ls hS hl hrun
      rw [fX10_duchy_55_s] at hrun
      refine lv_iload_n hx hb dX10_duchy_55 rfl (lv_at hl 1 rfl) ?_
      refine lv_iconst (v := 2) hx hb dX10_duchy_56 (by decide) ?_
      refine lv_icmp_ge (tgt := 76) hx hb dX10_duchy_57 (by decide) (fun hc => ?_) (fun hc => ?_)
      · have hrun := ip hc hrun
        refine lv_aload_n hx hb dX10_duchy_76 rfl (lv_at hl 0 rfl) ?_
        refine gX10_28 B hS dX10_duchy_77 ?_
        refine gX10_117 B hS reg_3 dX10_duchy_80 ?_
        exact hret _ _ _ _ _ _ hrun rfl hS dX10_duchy_83
      · have hrun := iq hc hrun
        refine lv_aload_n hx hb dX10_duchy_60 rfl (lv_at hl 0 rfl) ?_
        refine gX10_48 B hS dX10_duchy_61 ?_
        refine lv_iload_n hx hb dX10_duchy_64 rfl (lv_at hl 1 rfl) ?_
        obtain ⟨hi_1056, hrun⟩ := gdE hrun
        refine xq B hS qa_17 rfl hi_1056 dX10_duchy_65 ?_
        refine lv_iconst (v := 0) hx hb dX10_duchy_66 (by decide) ?_
        refine pX10_113 B hS (img_at hi_1056) rfl rfl dX10_duchy_67 (fun H locs hS => ?_)
        obtain ⟨t_1057, et, hrun⟩ := bsE hrun
        have hS : SS X t_1057 s.heap H locs := by rw [et]; exact hS
        clear et
        refine lv_iinc (v := x2 + (1 : Int32)) (k := 1) (lv' := [(2, .int (x2 + (1 : Int32))), (0, .ref (X.2.1 0))]) hx hb dX10_duchy_70 hl rfl rfl (by decide) rfl (fun ls hl => ?_)
        refine lv_goto (tgt := 55) hx hb dX10_duchy_73 (by decide) ?_
        exact ih55 t_1057 (x2 + (1 : Int32)) _ _ _ hS (lv_sub hl [1, 0] rfl) hrun
  unfold fX10_duchy at hrun
  refine lv_aload_n hx hb dX10_duchy_0 rfl (lv_at hl 0 rfl) ?_
  refine gX10_20 B hS dX10_duchy_1 ?_
  refine lv_aload_n hx hb dX10_duchy_4 rfl (lv_at hl 0 rfl) ?_
  refine gX10_24 B hS dX10_duchy_5 ?_
  obtain ⟨r_2, t_3, hc_1, hrun⟩ := bd2E hrun
  refine qX10_97 B hS reg_9 hc_1 hl.1 (Nat.le_of_ble_eq_true rfl) ⟨Nat.le_of_ble_eq_true rfl, Nat.le_of_ble_eq_true rfl⟩ ⟨Nat.zero_le _, Nat.zero_le _⟩ dX10_duchy_8 (fun H locs hS => ?_)
  refine lv_istore_n (lv' := [(1, .int r_2), (0, .ref (X.2.1 0))]) hx hb dX10_duchy_11 rfl hl (by decide) rfl (fun ls hl => ?_)
  refine lv_iload_n hx hb dX10_duchy_12 rfl (lv_at hl 0 rfl) ?_
  refine lv_if_eq (tgt := 21) hx hb dX10_duchy_13 (by decide) (fun hc => ?_) (fun hc => ?_)
  · have hrun := ip hc hrun
    refine lv_aload_n hx hb dX10_duchy_21 rfl (lv_at hl 1 rfl) ?_
    refine gX10_28 B hS dX10_duchy_22 ?_
    refine lv_aload_n hx hb dX10_duchy_25 rfl (lv_at hl 1 rfl) ?_
    refine gX10_24 B hS dX10_duchy_26 ?_
    obtain ⟨t_5, hc_4, hrun⟩ := bdE hrun
    refine qX10_101 B hS reg_3 reg_9 hc_4 hl.1 (Nat.le_of_ble_eq_true rfl) ⟨Nat.le_of_ble_eq_true rfl, Nat.le_of_ble_eq_true rfl⟩ ⟨Nat.zero_le _, Nat.zero_le _⟩ dX10_duchy_29 (fun H locs hS => ?_)
    refine lv_aload_n hx hb dX10_duchy_32 rfl (lv_at hl 1 rfl) ?_
    refine gX10_34 B hS dX10_duchy_33 ?_
    obtain ⟨t_7, hc_6, hrun⟩ := bdE hrun
    refine qX10_104 B hS hall_now hc_6 hl.1 (Nat.le_of_ble_eq_true rfl) ⟨Nat.le_of_ble_eq_true rfl, Nat.le_of_ble_eq_true rfl⟩ ⟨Nat.zero_le _, Nat.zero_le _⟩ dX10_duchy_36 (fun H locs hS => ?_)
    refine lv_aload_n hx hb dX10_duchy_39 rfl (lv_at hl 1 rfl) ?_
    refine gX10_55 B hS dX10_duchy_40 ?_
    obtain ⟨t_9, hc_8, hrun⟩ := bdE hrun
    refine qX10_107 B hS hc_8 hl.1 (Nat.le_of_ble_eq_true rfl) ⟨Nat.le_of_ble_eq_true rfl, Nat.le_of_ble_eq_true rfl⟩ ⟨Nat.zero_le _, Nat.zero_le _⟩ dX10_duchy_43 (fun H locs hS => ?_)
    refine lv_aload_n hx hb dX10_duchy_46 rfl (lv_at hl 1 rfl) ?_
    refine gX10_44 B hS dX10_duchy_47 ?_
    obtain ⟨t_11, hc_10, hrun⟩ := bdE hrun
    refine qX10_110 B hS hc_10 hl.1 (Nat.le_of_ble_eq_true rfl) ⟨Nat.le_of_ble_eq_true rfl, Nat.le_of_ble_eq_true rfl⟩ ⟨Nat.zero_le _, Nat.zero_le _⟩ dX10_duchy_50 (fun H locs hS => ?_)
    refine lv_iconst (v := 0) hx hb dX10_duchy_53 (by decide) ?_
    refine lv_istore_n (lv' := [(2, .int (0 : Int32)), (1, .int r_2), (0, .ref (X.2.1 0))]) hx hb dX10_duchy_54 rfl hl (by decide) rfl (fun ls hl => ?_)
    exact hB55 fuelN t_11 (0 : Int32) _ _ _ hS (lv_sub hl [2, 0] rfl) hrun
  · have hrun := iq hc hrun
    refine lv_bipush (v := -10) hx hb dX10_duchy_16 (by decide) ?_
    refine lv_iload_n hx hb dX10_duchy_18 rfl (lv_at hl 0 rfl) ?_
    refine lv_isub hx hb dX10_duchy_19 ?_
    exact hret _ _ _ _ _ _ hrun rfl hS dX10_duchy_20
theorem mdX10_fault : MD yX10_fault 0 := ⟨by decide +kernel, by decide +kernel, by decide +kernel⟩
set_option maxHeartbeats 4000000 in
set_option maxRecDepth 100000 in
theorem kX10_fault (l : Launch) (X : Cx) (t : St) (r : Int32) (hrun : fX10_fault t = some r) : Ci l X t yX10_fault cX10_fault 1 .int 0 0 [.ref (X.2.1 0)] r t := by
  refine Ci_of (by decide) (Nat.le_of_ble_eq_true rfl) ?_
  intro p e s m args below meth c Q B hret hS ls hl
  have hx := B.1
  have hb := B.2.1
  have hown := B.2.2.2.1
  have hts := B.2.2.2.2.1
  have hl : lv_has ls 1 [(0, .ref (X.2.1 0))] := hl
  unfold fX10_fault at hrun
  refine lv_aload_n hx hb dX10_fault_0 rfl (lv_at hl 0 rfl) ?_
  refine gX10_20 B hS dX10_fault_1 ?_
  refine gX10_120 B hS dX10_fault_4 ?_
  exact hret _ _ _ _ _ _ (congrArg (Option.map (fun w => (w, t))) hrun) rfl hS dX10_fault_7
theorem mdX10_fewest : MD yX10_fewest 0 := ⟨by decide +kernel, by decide +kernel, by decide +kernel⟩
section QX10_fewest
variable {p : Program} {l : Launch} {e : Env} {R : Room} {s : State} {m : MethodId} {args : Array Value} {below : List Frame} {meth : Method} {c : Code} {H : Heap} {locs : List Loc} {cells slots : Nat} {Q : State → Prop}
variable {cc : ByteArray} {pc : Nat} {ls : Array Slot} {rest : List Value} {X : Cx} {t : St} {H0 : Heap} {nL : Nat}
theorem qX10_240 (B : Bx p s m args c cc nL X RX10) (hS : SS X t H0 H locs) {h0 : Nat} (e0 : isReg h0) {r : Int32} (hM : fX8_isEmpty h0 t = some r) (hsz : ls.size = nL) (hW : (rest.map fun v => v.category).sum ≤ 8) (hR : 0 + 1 ≤ R.frames ∧ 8 + (1 + 11) + 0 ≤ R.locals) (hR2 : cells ≤ R.cells ∧ slots ≤ R.slots) (hdg : decode cc pc = .ok (.invokevirtual 240, 3)) (kk : ∀ (H1 : Heap) (locs1 : List Loc), SS X t H0 H1 locs1 → W p l e R s m args below meth c H1 locs1 cells slots Q (F0 m (pc + 3) ls (.int r :: rest))) : W p l e R s m args below meth c H locs cells slots Q (F0 m pc ls (.ref (X.2.1 h0) :: rest)) :=
  xVi B hS (kX8_isEmpty l X t h0 e0 r hM) (tw_2 238 rfl rfl) (tw_2 136 rfl rfl) (tw_2 137 rfl rfl) (tw_1 2 rfl rfl) (tw_2 138 rfl rfl) mdX8_isEmpty (reg_lt e0) (ceX8 e0 _) rfl rfl rfl hsz rfl hW hR hR2 hdg kk
theorem qX10_269 (B : Bx p s m args c cc nL X RX10) (hS : SS X t H0 H locs) {x0 : Int32} {r : Int32} (hM : fJ6_bitCount_0f7a4 t x0 = some r) (hsz : ls.size = nL) (hW : (rest.map fun v => v.category).sum ≤ 8) (hR : 0 + 1 ≤ R.frames ∧ 8 + (1 + 11) + 0 ≤ R.locals) (hR2 : cells ≤ R.cells ∧ slots ≤ R.slots) (hdg : decode cc pc = .ok (.invokestatic 269, 3)) (kk : ∀ (H1 : Heap) (locs1 : List Loc), SS X t H0 H1 locs1 → W p l e R s m args below meth c H1 locs1 cells slots Q (F0 m (pc + 3) ls (.int r :: rest))) : W p l e R s m args below meth c H locs cells slots Q (F0 m pc ls (.int x0 :: rest)) :=
  xSi B hS (kJ6_bitCount_0f7a4 l X t x0 r hM) (tw_3 3 rfl rfl) (tw_3 4 rfl rfl) (tw_1 14 rfl rfl) (tw_3 5 rfl rfl) mdJ6_bitCount_0f7a4 rfl hsz rfl hW hR hR2 hdg kk
theorem qX10_277 (B : Bx p s m args c cc nL X RX10) (hS : SS X t H0 H locs) {h0 : Nat} (e0 : isReg h0) {x1 : Int32} {r : Int32} (hM : fX8_knownBy h0 t x1 = some r) (hsz : ls.size = nL) (hW : (rest.map fun v => v.category).sum ≤ 8) (hR : 1 + 1 ≤ R.frames ∧ 8 + (4 + 11) + 21 ≤ R.locals) (hR2 : cells ≤ R.cells ∧ slots ≤ R.slots) (hdg : decode cc pc = .ok (.invokevirtual 277, 3)) (kk : ∀ (H1 : Heap) (locs1 : List Loc), SS X t H0 H1 locs1 → W p l e R s m args below meth c H1 locs1 cells slots Q (F0 m (pc + 3) ls (.int r :: rest))) : W p l e R s m args below meth c H locs cells slots Q (F0 m pc ls (.int x1 :: .ref (X.2.1 h0) :: rest)) :=
  xVi B hS (kX8_knownBy l X t h0 e0 x1 r hM) (tw_3 9 rfl rfl) (tw_3 10 rfl rfl) (tw_3 11 rfl rfl) (tw_1 2 rfl rfl) (tw_3 12 rfl rfl) mdX8_knownBy (reg_lt e0) (ceX8 e0 _) rfl rfl rfl hsz rfl hW hR hR2 hdg kk
theorem qX10_280 (B : Bx p s m args c cc nL X RX10) (hS : SS X t H0 H locs) {h0 : Nat} (e0 : isReg h0) {r : Int32} (hM : fX8_everyWord h0 t = some r) (hsz : ls.size = nL) (hW : (rest.map fun v => v.category).sum ≤ 8) (hR : 0 + 1 ≤ R.frames ∧ 8 + (1 + 11) + 0 ≤ R.locals) (hR2 : cells ≤ R.cells ∧ slots ≤ R.slots) (hdg : decode cc pc = .ok (.invokevirtual 280, 3)) (kk : ∀ (H1 : Heap) (locs1 : List Loc), SS X t H0 H1 locs1 → W p l e R s m args below meth c H1 locs1 cells slots Q (F0 m (pc + 3) ls (.int r :: rest))) : W p l e R s m args below meth c H locs cells slots Q (F0 m pc ls (.ref (X.2.1 h0) :: rest)) :=
  xVi B hS (kX8_everyWord l X t h0 e0 r hM) (tw_3 16 rfl rfl) (tw_2 155 rfl rfl) (tw_2 156 rfl rfl) (tw_1 2 rfl rfl) (tw_2 157 rfl rfl) mdX8_everyWord (reg_lt e0) (ceX8 e0 _) rfl rfl rfl hsz rfl hW hR hR2 hdg kk
theorem qX10_339 (B : Bx p s m args c cc nL X RX10) (hS : SS X t H0 H locs) {h0 : Nat} (e0 : isReg h0) {r : Int32} (hM : fX8_everyone h0 t = some r) (hsz : ls.size = nL) (hW : (rest.map fun v => v.category).sum ≤ 8) (hR : 0 + 1 ≤ R.frames ∧ 8 + (1 + 11) + 0 ≤ R.locals) (hR2 : cells ≤ R.cells ∧ slots ≤ R.slots) (hdg : decode cc pc = .ok (.invokevirtual 339, 3)) (kk : ∀ (H1 : Heap) (locs1 : List Loc), SS X t H0 H1 locs1 → W p l e R s m args below meth c H1 locs1 cells slots Q (F0 m (pc + 3) ls (.int r :: rest))) : W p l e R s m args below meth c H locs cells slots Q (F0 m pc ls (.ref (X.2.1 h0) :: rest)) :=
  xVi B hS (kX8_everyone l X t h0 e0 r hM) (tw_2 239 rfl rfl) (tw_3 0 rfl rfl) (tw_3 1 rfl rfl) (tw_1 2 rfl rfl) (tw_3 2 rfl rfl) mdX8_everyone (reg_lt e0) (ceX8 e0 _) rfl rfl rfl hsz rfl hW hR hR2 hdg kk
end QX10_fewest
set_option maxHeartbeats 4000000 in
set_option maxRecDepth 100000 in
theorem kX10_fewest (l : Launch) (X : Cx) (t : St) (r : Int32) (hrun : fX10_fewest t = some r) : Ci l X t yX10_fewest cX10_fewest 4 .int 2 44 [.ref (X.2.1 0)] r t := by
  refine Ci_of (by decide) (Nat.le_of_ble_eq_true rfl) ?_
  intro p e s m args below meth c Q B hret hS ls hl
  have hx := B.1
  have hb := B.2.1
  have hown := B.2.2.2.1
  have hts := B.2.2.2.2.1
  have hl : lv_has ls 4 [(0, .ref (X.2.1 0))] := hl
  have hB19 : ∀ (n19 : Nat) (x1 : Int32) (x2 : Int32) (x3 : Int32) (H : Heap) (locs : List Loc) (ls : Array Slot), SS X t s.heap H locs → lv_has ls 4 [(0, .ref (X.2.1 0)), (1, .int x1), (2, .int x2), (3, .int x3)] → fX10_fewest_19 t n19 x1 x2 x3 = some r → W p l e ({ frames := 2, cells := 0, slots := 0, locals := 44 } : Room) s m args below meth c H locs 0 0 Q (F0 m 19 ls []) := by
    intro n19
    induction n19 with
    | zero =>
      intro x1 x2 x3 H locs ls hS hl hrun
      cases (show (none : Option (Int32)) = some r from hrun)
    | succ n19 ih19 =>
      intro x1 x2 x3 H locs ls hS hl hrun
      rw [fX10_fewest_19_s] at hrun
      refine lv_iload_n hx hb dX10_fewest_19 rfl (lv_at hl 3 rfl) ?_
      refine lv_aload_n hx hb dX10_fewest_20 rfl (lv_at hl 0 rfl) ?_
      refine gX10_28 B hS dX10_fewest_21 ?_
      obtain ⟨r_1021, hc_1020, hrun⟩ := bdE hrun
      refine qX10_339 B hS reg_3 hc_1020 hl.1 (Nat.le_of_ble_eq_true rfl) ⟨Nat.le_of_ble_eq_true rfl, Nat.le_of_ble_eq_true rfl⟩ ⟨Nat.zero_le _, Nat.zero_le _⟩ dX10_fewest_24 (fun H locs hS => ?_)
      refine lv_icmp_gt (tgt := 69) hx hb dX10_fewest_27 (by decide) (fun hc => ?_) (fun hc => ?_)
      · have hrun := ip hc hrun
        refine lv_iload_n hx hb dX10_fewest_69 rfl (lv_at hl 1 rfl) ?_
        exact hret _ _ _ _ _ _ (congrArg (Option.map (fun w => (w, t))) hrun) rfl hS dX10_fewest_70
      · have hrun := iq hc hrun
        refine lv_iload_n hx hb dX10_fewest_30 rfl (lv_at hl 3 rfl) ?_
        obtain ⟨r_1023, hc_1022, hrun⟩ := bdE hrun
        refine qX10_269 B hS hc_1022 hl.1 (Nat.le_of_ble_eq_true rfl) ⟨Nat.le_of_ble_eq_true rfl, Nat.le_of_ble_eq_true rfl⟩ ⟨Nat.zero_le _, Nat.zero_le _⟩ dX10_fewest_31 (fun H locs hS => ?_)
        refine lv_iload_n hx hb dX10_fewest_34 rfl (lv_at hl 2 rfl) ?_
        refine lv_icmp_ge (tgt := 63) hx hb dX10_fewest_35 (by decide) (fun hc => ?_) (fun hc => ?_)
        · have hrun := ip hc hrun
          refine lv_iinc (v := x3 + (1 : Int32)) (k := 3) (lv' := [(3, .int (x3 + (1 : Int32))), (0, .ref (X.2.1 0)), (1, .int x1), (2, .int x2)]) hx hb dX10_fewest_63 hl rfl rfl (by decide) rfl (fun ls hl => ?_)
          refine lv_goto (tgt := 19) hx hb dX10_fewest_66 (by decide) ?_
          exact ih19 x1 x2 (x3 + (1 : Int32)) _ _ _ hS (lv_sub hl [1, 2, 3, 0] rfl) hrun
        · have hrun := iq hc hrun
          refine lv_aload_n hx hb dX10_fewest_38 rfl (lv_at hl 0 rfl) ?_
          refine gX10_28 B hS dX10_fewest_39 ?_
          refine lv_iload_n hx hb dX10_fewest_42 rfl (lv_at hl 3 rfl) ?_
          obtain ⟨r_1025, hc_1024, hrun⟩ := bdE hrun
          refine qX10_277 B hS reg_3 hc_1024 hl.1 (Nat.le_of_ble_eq_true rfl) ⟨Nat.le_of_ble_eq_true rfl, Nat.le_of_ble_eq_true rfl⟩ ⟨Nat.zero_le _, Nat.zero_le _⟩ dX10_fewest_43 (fun H locs hS => ?_)
          refine lv_aload_n hx hb dX10_fewest_46 rfl (lv_at hl 0 rfl) ?_
          refine gX10_28 B hS dX10_fewest_47 ?_
          obtain ⟨r_1027, hc_1026, hrun⟩ := bdE hrun
          refine qX10_280 B hS reg_3 hc_1026 hl.1 (Nat.le_of_ble_eq_true rfl) ⟨Nat.le_of_ble_eq_true rfl, Nat.le_of_ble_eq_true rfl⟩ ⟨Nat.zero_le _, Nat.zero_le _⟩ dX10_fewest_50 (fun H locs hS => ?_)
          refine lv_icmp_ne (tgt := 63) hx hb dX10_fewest_53 (by decide) (fun hc => ?_) (fun hc => ?_)
          · have hrun := iq hc hrun
            refine lv_iinc (v := x3 + (1 : Int32)) (k := 3) (lv' := [(3, .int (x3 + (1 : Int32))), (0, .ref (X.2.1 0)), (1, .int x1), (2, .int x2)]) hx hb dX10_fewest_63 hl rfl rfl (by decide) rfl (fun ls hl => ?_)
            refine lv_goto (tgt := 19) hx hb dX10_fewest_66 (by decide) ?_
            exact ih19 x1 x2 (x3 + (1 : Int32)) _ _ _ hS (lv_sub hl [1, 2, 3, 0] rfl) hrun
          · have hrun := ip hc hrun
            refine lv_iload_n hx hb dX10_fewest_56 rfl (lv_at hl 3 rfl) ?_
            refine lv_istore_n (lv' := [(1, .int x3), (0, .ref (X.2.1 0)), (2, .int x2), (3, .int x3)]) hx hb dX10_fewest_57 rfl hl (by decide) rfl (fun ls hl => ?_)
            refine lv_iload_n hx hb dX10_fewest_58 rfl (lv_at hl 3 rfl) ?_
            obtain ⟨r_1029, hc_1028, hrun⟩ := bdE hrun
            refine qX10_269 B hS hc_1028 hl.1 (Nat.le_of_ble_eq_true rfl) ⟨Nat.le_of_ble_eq_true rfl, Nat.le_of_ble_eq_true rfl⟩ ⟨Nat.zero_le _, Nat.zero_le _⟩ dX10_fewest_59 (fun H locs hS => ?_)
            refine lv_istore_n (lv' := [(2, .int r_1029), (1, .int x3), (0, .ref (X.2.1 0)), (3, .int x3)]) hx hb dX10_fewest_62 rfl hl (by decide) rfl (fun ls hl => ?_)
            refine lv_iinc (v := x3 + (1 : Int32)) (k := 3) (lv' := [(3, .int (x3 + (1 : Int32))), (2, .int r_1029), (1, .int x3), (0, .ref (X.2.1 0))]) hx hb dX10_fewest_63 hl rfl rfl (by decide) rfl (fun ls hl => ?_)
            refine lv_goto (tgt := 19) hx hb dX10_fewest_66 (by decide) ?_
            exact ih19 x3 r_1029 (x3 + (1 : Int32)) _ _ _ hS (lv_sub hl [3, 2, 1, 0] rfl) hrun
  unfold fX10_fewest at hrun
  refine lv_aload_n hx hb dX10_fewest_0 rfl (lv_at hl 0 rfl) ?_
  refine gX10_28 B hS dX10_fewest_1 ?_
  obtain ⟨r_2, hc_1, hrun⟩ := bdE hrun
  refine qX10_240 B hS reg_3 hc_1 hl.1 (Nat.le_of_ble_eq_true rfl) ⟨Nat.le_of_ble_eq_true rfl, Nat.le_of_ble_eq_true rfl⟩ ⟨Nat.zero_le _, Nat.zero_le _⟩ dX10_fewest_4 (fun H locs hS => ?_)
  refine lv_if_eq (tgt := 12) hx hb dX10_fewest_7 (by decide) (fun hc => ?_) (fun hc => ?_)
  · have hrun := ip hc hrun
    refine lv_iconst (v := -1) hx hb dX10_fewest_12 (by decide) ?_
    refine lv_istore_n (lv' := [(1, .int (-1 : Int32)), (0, .ref (X.2.1 0))]) hx hb dX10_fewest_13 rfl hl (by decide) rfl (fun ls hl => ?_)
    refine lv_bipush (v := 8) hx hb dX10_fewest_14 (by decide) ?_
    refine lv_istore_n (lv' := [(2, .int (8 : Int32)), (1, .int (-1 : Int32)), (0, .ref (X.2.1 0))]) hx hb dX10_fewest_16 rfl hl (by decide) rfl (fun ls hl => ?_)
    refine lv_iconst (v := 0) hx hb dX10_fewest_17 (by decide) ?_
    refine lv_istore_n (lv' := [(3, .int (0 : Int32)), (2, .int (8 : Int32)), (1, .int (-1 : Int32)), (0, .ref (X.2.1 0))]) hx hb dX10_fewest_18 rfl hl (by decide) rfl (fun ls hl => ?_)
    exact hB19 fuelN (-1 : Int32) (8 : Int32) (0 : Int32) _ _ _ hS (lv_sub hl [3, 2, 1, 0] rfl) hrun
  · have hrun := iq hc hrun
    refine lv_iconst (v := -1) hx hb dX10_fewest_10 (by decide) ?_
    exact hret _ _ _ _ _ _ (congrArg (Option.map (fun w => (w, t))) hrun) rfl hS dX10_fewest_11
theorem mdX10_toldOfChoirs : MD yX10_toldOfChoirs 1 := ⟨by decide +kernel, by decide +kernel, by decide +kernel⟩
section QX10_toldOfChoirs
variable {p : Program} {l : Launch} {e : Env} {R : Room} {s : State} {m : MethodId} {args : Array Value} {below : List Frame} {meth : Method} {c : Code} {H : Heap} {locs : List Loc} {cells slots : Nat} {Q : State → Prop}
variable {cc : ByteArray} {pc : Nat} {ls : Array Slot} {rest : List Value} {X : Cx} {t : St} {H0 : Heap} {nL : Nat}
theorem qX10_328 (B : Bx p s m args c cc nL X RX10) (hS : SS X t H0 H locs) {h1 : Nat} {h2 : Nat} (e1 : isReg h1) (e2 : isHall h2) {t' : St} (hM : fX0_gather h1 h2 t = some t') (hsz : ls.size = nL) (hW : (rest.map fun v => v.category).sum ≤ 8) (hR : 4 + 1 ≤ R.frames ∧ 8 + (5 + 11) + 96 ≤ R.locals) (hR2 : cells ≤ R.cells ∧ slots ≤ R.slots) (hdg : decode cc pc = .ok (.invokevirtual 328, 3)) (kk : ∀ (H1 : Heap) (locs1 : List Loc), SS X t' H0 H1 locs1 → W p l e R s m args below meth c H1 locs1 cells slots Q (F0 m (pc + 3) ls (rest))) : W p l e R s m args below meth c H locs cells slots Q (F0 m pc ls (.ref (X.2.1 20) :: .ref (X.2.1 h2) :: .ref (X.2.1 h1) :: .ref (X.2.1 25) :: rest)) :=
  xVv B hS (kX0_gather l X t h1 h2 e1 e2 t' hM) (tw_3 21 rfl rfl) (tw_3 22 rfl rfl) (tw_3 23 rfl rfl) (tw_1 8 rfl rfl) (tw_3 24 rfl rfl) mdX0_gather (by decide) (ceX0 _) rfl rfl rfl hsz rfl hW hR hR2 hdg kk
theorem qX10_336 (B : Bx p s m args c cc nL X RX10) (hS : SS X t H0 H locs) {h1 : Nat} (e1 : isReg h1) {r : Int32} (hM : fX0_bestLip h1 t = some r) (hsz : ls.size = nL) (hW : (rest.map fun v => v.category).sum ≤ 8) (hR : 1 + 1 ≤ R.frames ∧ 8 + (6 + 11) + 24 ≤ R.locals) (hR2 : cells ≤ R.cells ∧ slots ≤ R.slots) (hdg : decode cc pc = .ok (.invokevirtual 336, 3)) (kk : ∀ (H1 : Heap) (locs1 : List Loc), SS X t H0 H1 locs1 → W p l e R s m args below meth c H1 locs1 cells slots Q (F0 m (pc + 3) ls (.int r :: rest))) : W p l e R s m args below meth c H locs cells slots Q (F0 m pc ls (.ref (X.2.1 h1) :: .ref (X.2.1 25) :: rest)) :=
  xVi B hS (kX0_bestLip l X t h1 e1 r hM) (tw_3 39 rfl rfl) (tw_3 40 rfl rfl) (tw_3 41 rfl rfl) (tw_1 8 rfl rfl) (tw_3 42 rfl rfl) mdX0_bestLip (by decide) (ceX0 _) rfl rfl rfl hsz rfl hW hR hR2 hdg kk
end QX10_toldOfChoirs
set_option maxHeartbeats 4000000 in
set_option maxRecDepth 100000 in
theorem kX10_toldOfChoirs (l : Launch) (X : Cx) (t : St) (x1 : Int32) (r : Int32) (t' : St) (hrun : fX10_toldOfChoirs t x1 = some (r, t')) : Ci l X t yX10_toldOfChoirs cX10_toldOfChoirs 2 .int 5 120 [.ref (X.2.1 0), .int x1] r t' := by
  refine Ci_of (by decide) (Nat.le_of_ble_eq_true rfl) ?_
  intro p e s m args below meth c Q B hret hS ls hl
  have hx := B.1
  have hb := B.2.1
  have hown := B.2.2.2.1
  have hts := B.2.2.2.2.1
  have hl : lv_has ls 2 [(0, .ref (X.2.1 0)), (1, .int x1)] := hl
  unfold fX10_toldOfChoirs at hrun
  refine lv_aload_n hx hb dX10_toldOfChoirs_0 rfl (lv_at hl 0 rfl) ?_
  refine gX10_62 B hS dX10_toldOfChoirs_1 ?_
  refine lv_aload_n hx hb dX10_toldOfChoirs_4 rfl (lv_at hl 0 rfl) ?_
  refine gX10_28 B hS dX10_toldOfChoirs_5 ?_
  refine lv_aload_n hx hb dX10_toldOfChoirs_8 rfl (lv_at hl 0 rfl) ?_
  refine gX10_34 B hS dX10_toldOfChoirs_9 ?_
  refine lv_aload_n hx hb dX10_toldOfChoirs_12 rfl (lv_at hl 0 rfl) ?_
  refine gX10_55 B hS dX10_toldOfChoirs_13 ?_
  obtain ⟨t_2, hc_1, hrun⟩ := bdE hrun
  refine qX10_328 B hS reg_3 hall_now hc_1 hl.1 (Nat.le_of_ble_eq_true rfl) ⟨Nat.le_of_ble_eq_true rfl, Nat.le_of_ble_eq_true rfl⟩ ⟨Nat.zero_le _, Nat.zero_le _⟩ dX10_toldOfChoirs_16 (fun H locs hS => ?_)
  refine lv_iload_n hx hb dX10_toldOfChoirs_19 rfl (lv_at hl 1 rfl) ?_
  refine lv_bipush (v := 15) hx hb dX10_toldOfChoirs_20 (by decide) ?_
  refine lv_icmp_ne (tgt := 33) hx hb dX10_toldOfChoirs_22 (by decide) (fun hc => ?_) (fun hc => ?_)
  · have hrun := iq hc hrun
    refine lv_iload_n hx hb dX10_toldOfChoirs_33 rfl (lv_at hl 1 rfl) ?_
    refine lv_bipush (v := 16) hx hb dX10_toldOfChoirs_34 (by decide) ?_
    refine lv_icmp_ne (tgt := 49) hx hb dX10_toldOfChoirs_36 (by decide) (fun hc => ?_) (fun hc => ?_)
    · have hrun := iq hc hrun
      refine lv_aload_n hx hb dX10_toldOfChoirs_49 rfl (lv_at hl 0 rfl) ?_
      refine gX10_62 B hS dX10_toldOfChoirs_50 ?_
      refine lv_aload_n hx hb dX10_toldOfChoirs_53 rfl (lv_at hl 0 rfl) ?_
      refine gX10_28 B hS dX10_toldOfChoirs_54 ?_
      obtain ⟨r_4, hc_3, hrun⟩ := bdE hrun
      refine qX10_336 B hS reg_3 hc_3 hl.1 (Nat.le_of_ble_eq_true rfl) ⟨Nat.le_of_ble_eq_true rfl, Nat.le_of_ble_eq_true rfl⟩ ⟨Nat.zero_le _, Nat.zero_le _⟩ dX10_toldOfChoirs_57 (fun H locs hS => ?_)
      exact hret _ _ _ _ _ _ hrun rfl hS dX10_toldOfChoirs_60
    · have hrun := ip hc hrun
      refine lv_aload_n hx hb dX10_toldOfChoirs_39 rfl (lv_at hl 0 rfl) ?_
      refine gX10_62 B hS dX10_toldOfChoirs_40 ?_
      refine gX10_333 B hS dX10_toldOfChoirs_43 ?_
      refine lv_goto (tgt := 60) hx hb dX10_toldOfChoirs_46 (by decide) ?_
      exact hret _ _ _ _ _ _ hrun rfl hS dX10_toldOfChoirs_60
  · have hrun := ip hc hrun
    refine lv_aload_n hx hb dX10_toldOfChoirs_25 rfl (lv_at hl 0 rfl) ?_
    refine gX10_62 B hS dX10_toldOfChoirs_26 ?_
    refine gX10_332 B hS dX10_toldOfChoirs_29 ?_
    exact hret _ _ _ _ _ _ hrun rfl hS dX10_toldOfChoirs_32
theorem mdX10_told : MD yX10_told 1 := ⟨by decide +kernel, by decide +kernel, by decide +kernel⟩
section QX10_told
variable {p : Program} {l : Launch} {e : Env} {R : Room} {s : State} {m : MethodId} {args : Array Value} {below : List Frame} {meth : Method} {c : Code} {H : Heap} {locs : List Loc} {cells slots : Nat} {Q : State → Prop}
variable {cc : ByteArray} {pc : Nat} {ls : Array Slot} {rest : List Value} {X : Cx} {t : St} {H0 : Heap} {nL : Nat}
theorem qX10_138 (B : Bx p s m args c cc nL X RX10) (hS : SS X t H0 H locs) {h0 : Nat} (e0 : isHall h0) {r : Int32} (hM : fX3_whoSings h0 t = some r) (hsz : ls.size = nL) (hW : (rest.map fun v => v.category).sum ≤ 8) (hR : 0 + 1 ≤ R.frames ∧ 8 + (3 + 11) + 0 ≤ R.locals) (hR2 : cells ≤ R.cells ∧ slots ≤ R.slots) (hdg : decode cc pc = .ok (.invokevirtual 138, 3)) (kk : ∀ (H1 : Heap) (locs1 : List Loc), SS X t H0 H1 locs1 → W p l e R s m args below meth c H1 locs1 cells slots Q (F0 m (pc + 3) ls (.int r :: rest))) : W p l e R s m args below meth c H locs cells slots Q (F0 m pc ls (.ref (X.2.1 h0) :: rest)) :=
  xVi B hS (kX3_whoSings l X t h0 e0 r hM) (tw_2 198 rfl rfl) (tw_2 199 rfl rfl) (tw_2 200 rfl rfl) (tw_1 4 rfl rfl) (tw_2 201 rfl rfl) mdX3_whoSings (hall_lt e0) (ceX3 e0 _) rfl rfl rfl hsz rfl hW hR hR2 hdg kk
theorem qX10_148 (B : Bx p s m args c cc nL X RX10) (hS : SS X t H0 H locs) {h0 : Nat} (e0 : isHall h0) {r : Int32} (hM : fX3_owedByAll h0 t = some r) (hsz : ls.size = nL) (hW : (rest.map fun v => v.category).sum ≤ 8) (hR : 3 + 1 ≤ R.frames ∧ 8 + (3 + 11) + 70 ≤ R.locals) (hR2 : cells ≤ R.cells ∧ slots ≤ R.slots) (hdg : decode cc pc = .ok (.invokevirtual 148, 3)) (kk : ∀ (H1 : Heap) (locs1 : List Loc), SS X t H0 H1 locs1 → W p l e R s m args below meth c H1 locs1 cells slots Q (F0 m (pc + 3) ls (.int r :: rest))) : W p l e R s m args below meth c H locs cells slots Q (F0 m pc ls (.ref (X.2.1 h0) :: rest)) :=
  xVi B hS (kX3_owedByAll l X t h0 e0 r hM) (tw_2 202 rfl rfl) (tw_2 203 rfl rfl) (tw_2 204 rfl rfl) (tw_1 4 rfl rfl) (tw_2 205 rfl rfl) mdX3_owedByAll (hall_lt e0) (ceX3 e0 _) rfl rfl rfl hsz rfl hW hR hR2 hdg kk
theorem qX10_151 (B : Bx p s m args c cc nL X RX10) (hS : SS X t H0 H locs) {h0 : Nat} (e0 : isHall h0) {r : Int32} (hM : fX3_deafPlaces h0 t = some r) (hsz : ls.size = nL) (hW : (rest.map fun v => v.category).sum ≤ 8) (hR : 1 + 1 ≤ R.frames ∧ 8 + (3 + 11) + 23 ≤ R.locals) (hR2 : cells ≤ R.cells ∧ slots ≤ R.slots) (hdg : decode cc pc = .ok (.invokevirtual 151, 3)) (kk : ∀ (H1 : Heap) (locs1 : List Loc), SS X t H0 H1 locs1 → W p l e R s m args below meth c H1 locs1 cells slots Q (F0 m (pc + 3) ls (.int r :: rest))) : W p l e R s m args below meth c H locs cells slots Q (F0 m pc ls (.ref (X.2.1 h0) :: rest)) :=
  xVi B hS (kX3_deafPlaces l X t h0 e0 r hM) (tw_2 226 rfl rfl) (tw_2 227 rfl rfl) (tw_2 228 rfl rfl) (tw_1 4 rfl rfl) (tw_2 229 rfl rfl) mdX3_deafPlaces (hall_lt e0) (ceX3 e0 _) rfl rfl rfl hsz rfl hW hR hR2 hdg kk
theorem qX10_154 (B : Bx p s m args c cc nL X RX10) (hS : SS X t H0 H locs) {h0 : Nat} (e0 : isHall h0) {r : Int32} (hM : fX3_richest h0 t = some r) (hsz : ls.size = nL) (hW : (rest.map fun v => v.category).sum ≤ 8) (hR : 0 + 1 ≤ R.frames ∧ 8 + (4 + 11) + 0 ≤ R.locals) (hR2 : cells ≤ R.cells ∧ slots ≤ R.slots) (hdg : decode cc pc = .ok (.invokevirtual 154, 3)) (kk : ∀ (H1 : Heap) (locs1 : List Loc), SS X t H0 H1 locs1 → W p l e R s m args below meth c H1 locs1 cells slots Q (F0 m (pc + 3) ls (.int r :: rest))) : W p l e R s m args below meth c H locs cells slots Q (F0 m pc ls (.ref (X.2.1 h0) :: rest)) :=
  xVi B hS (kX3_richest l X t h0 e0 r hM) (tw_2 230 rfl rfl) (tw_2 231 rfl rfl) (tw_2 232 rfl rfl) (tw_1 4 rfl rfl) (tw_2 233 rfl rfl) mdX3_richest (hall_lt e0) (ceX3 e0 _) rfl rfl rfl hsz rfl hW hR hR2 hdg kk
theorem qX10_157 (B : Bx p s m args c cc nL X RX10) (hS : SS X t H0 H locs) {r : Int32} (hM : fX10_fewest t = some r) (hsz : ls.size = nL) (hW : (rest.map fun v => v.category).sum ≤ 8) (hR : 2 + 1 ≤ R.frames ∧ 8 + (4 + 11) + 44 ≤ R.locals) (hR2 : cells ≤ R.cells ∧ slots ≤ R.slots) (hdg : decode cc pc = .ok (.invokevirtual 157, 3)) (kk : ∀ (H1 : Heap) (locs1 : List Loc), SS X t H0 H1 locs1 → W p l e R s m args below meth c H1 locs1 cells slots Q (F0 m (pc + 3) ls (.int r :: rest))) : W p l e R s m args below meth c H locs cells slots Q (F0 m pc ls (.ref (X.2.1 0) :: rest)) :=
  xVi B hS (kX10_fewest l X t r hM) (tw_2 234 rfl rfl) (tw_2 236 rfl rfl) (tw_0 7 rfl rfl) (tw_1 1 rfl rfl) (tw_2 237 rfl rfl) mdX10_fewest (by decide) (ceX10 _) rfl rfl rfl hsz rfl hW hR hR2 hdg kk
theorem qX10_163 (B : Bx p s m args c cc nL X RX10) (hS : SS X t H0 H locs) {x1 : Int32} {r : Int32} {t' : St} (hM : fX10_toldOfChoirs t x1 = some (r, t')) (hsz : ls.size = nL) (hW : (rest.map fun v => v.category).sum ≤ 8) (hR : 5 + 1 ≤ R.frames ∧ 8 + (2 + 11) + 120 ≤ R.locals) (hR2 : cells ≤ R.cells ∧ slots ≤ R.slots) (hdg : decode cc pc = .ok (.invokevirtual 163, 3)) (kk : ∀ (H1 : Heap) (locs1 : List Loc), SS X t' H0 H1 locs1 → W p l e R s m args below meth c H1 locs1 cells slots Q (F0 m (pc + 3) ls (.int r :: rest))) : W p l e R s m args below meth c H locs cells slots Q (F0 m pc ls (.int x1 :: .ref (X.2.1 0) :: rest)) :=
  xVi B hS (kX10_toldOfChoirs l X t x1 r t' hM) (tw_3 17 rfl rfl) (tw_3 19 rfl rfl) (tw_0 8 rfl rfl) (tw_1 1 rfl rfl) (tw_3 20 rfl rfl) mdX10_toldOfChoirs (by decide) (ceX10 _) rfl rfl rfl hsz rfl hW hR hR2 hdg kk
end QX10_told
set_option maxHeartbeats 4000000 in
set_option maxRecDepth 100000 in
theorem kX10_told (l : Launch) (X : Cx) (t : St) (x1 : Int32) (r : Int32) (t' : St) (hrun : fX10_told t x1 = some (r, t')) : Ci l X t yX10_told cX10_told 2 .int 6 141 [.ref (X.2.1 0), .int x1] r t' := by
  refine Ci_of (by decide) (Nat.le_of_ble_eq_true rfl) ?_
  intro p e s m args below meth c Q B hret hS ls hl
  have hx := B.1
  have hb := B.2.1
  have hown := B.2.2.2.1
  have hts := B.2.2.2.2.1
  have hl : lv_has ls 2 [(0, .ref (X.2.1 0)), (1, .int x1)] := hl
  unfold fX10_told at hrun
  refine lv_iload_n hx hb dX10_told_0 rfl (lv_at hl 1 rfl) ?_
  by_cases hw_1 : x1 = (0 : Int32)
  · have hrun := ip hw_1 hrun
    refine lv_tableIn (off := 95) (tgt := 96) hx hb dX10_told_1 (by rw [hw_1]; decide) (by rw [hw_1]; decide) (by rw [hw_1]; rfl) (by decide) ?_
    refine lv_aload_n hx hb dX10_told_96 rfl (lv_at hl 0 rfl) ?_
    refine gX10_34 B hS dX10_told_97 ?_
    refine gX10_123 B hS hall_now dX10_told_100 ?_
    exact hret _ _ _ _ _ _ hrun rfl hS dX10_told_103
  have hrun := iq hw_1 hrun
  by_cases hw_2 : x1 = (1 : Int32)
  · have hrun := ip hw_2 hrun
    refine lv_tableIn (off := 103) (tgt := 104) hx hb dX10_told_1 (by rw [hw_2]; decide) (by rw [hw_2]; decide) (by rw [hw_2]; rfl) (by decide) ?_
    refine lv_aload_n hx hb dX10_told_104 rfl (lv_at hl 0 rfl) ?_
    refine gX10_28 B hS dX10_told_105 ?_
    refine gX10_126 B hS reg_3 dX10_told_108 ?_
    exact hret _ _ _ _ _ _ hrun rfl hS dX10_told_111
  have hrun := iq hw_2 hrun
  by_cases hw_3 : x1 = (2 : Int32)
  · have hrun := ip hw_3 hrun
    refine lv_tableIn (off := 111) (tgt := 112) hx hb dX10_told_1 (by rw [hw_3]; decide) (by rw [hw_3]; decide) (by rw [hw_3]; rfl) (by decide) ?_
    refine lv_aload_n hx hb dX10_told_112 rfl (lv_at hl 0 rfl) ?_
    refine gX10_28 B hS dX10_told_113 ?_
    refine gX10_129 B hS reg_3 dX10_told_116 ?_
    exact hret _ _ _ _ _ _ hrun rfl hS dX10_told_119
  have hrun := iq hw_3 hrun
  by_cases hw_4 : x1 = (3 : Int32)
  · have hrun := ip hw_4 hrun
    refine lv_tableIn (off := 119) (tgt := 120) hx hb dX10_told_1 (by rw [hw_4]; decide) (by rw [hw_4]; decide) (by rw [hw_4]; rfl) (by decide) ?_
    refine lv_aload_n hx hb dX10_told_120 rfl (lv_at hl 0 rfl) ?_
    refine gX10_28 B hS dX10_told_121 ?_
    refine gX10_117 B hS reg_3 dX10_told_124 ?_
    exact hret _ _ _ _ _ _ hrun rfl hS dX10_told_127
  have hrun := iq hw_4 hrun
  by_cases hw_5 : x1 = (4 : Int32)
  · have hrun := ip hw_5 hrun
    refine lv_tableIn (off := 127) (tgt := 128) hx hb dX10_told_1 (by rw [hw_5]; decide) (by rw [hw_5]; decide) (by rw [hw_5]; rfl) (by decide) ?_
    refine lv_aload_n hx hb dX10_told_128 rfl (lv_at hl 0 rfl) ?_
    refine gX10_28 B hS dX10_told_129 ?_
    refine gX10_132 B hS reg_3 dX10_told_132 ?_
    exact hret _ _ _ _ _ _ hrun rfl hS dX10_told_135
  have hrun := iq hw_5 hrun
  by_cases hw_6 : x1 = (5 : Int32)
  · have hrun := ip hw_6 hrun
    refine lv_tableIn (off := 135) (tgt := 136) hx hb dX10_told_1 (by rw [hw_6]; decide) (by rw [hw_6]; decide) (by rw [hw_6]; rfl) (by decide) ?_
    refine lv_aload_n hx hb dX10_told_136 rfl (lv_at hl 0 rfl) ?_
    refine gX10_20 B hS dX10_told_137 ?_
    refine gX10_92 B hS dX10_told_140 ?_
    exact hret _ _ _ _ _ _ hrun rfl hS dX10_told_143
  have hrun := iq hw_6 hrun
  by_cases hw_7 : x1 = (6 : Int32)
  · have hrun := ip hw_7 hrun
    refine lv_tableIn (off := 143) (tgt := 144) hx hb dX10_told_1 (by rw [hw_7]; decide) (by rw [hw_7]; decide) (by rw [hw_7]; rfl) (by decide) ?_
    refine lv_aload_n hx hb dX10_told_144 rfl (lv_at hl 0 rfl) ?_
    refine gX10_34 B hS dX10_told_145 ?_
    refine gX10_135 B hS hall_now dX10_told_148 ?_
    exact hret _ _ _ _ _ _ hrun rfl hS dX10_told_151
  have hrun := iq hw_7 hrun
  by_cases hw_8 : x1 = (7 : Int32)
  · have hrun := ip hw_8 hrun
    refine lv_tableIn (off := 151) (tgt := 152) hx hb dX10_told_1 (by rw [hw_8]; decide) (by rw [hw_8]; decide) (by rw [hw_8]; rfl) (by decide) ?_
    refine lv_aload_n hx hb dX10_told_152 rfl (lv_at hl 0 rfl) ?_
    refine gX10_34 B hS dX10_told_153 ?_
    obtain ⟨r_10, hc_9, hrun⟩ := bdE hrun
    refine qX10_138 B hS hall_now hc_9 hl.1 (Nat.le_of_ble_eq_true rfl) ⟨Nat.le_of_ble_eq_true rfl, Nat.le_of_ble_eq_true rfl⟩ ⟨Nat.zero_le _, Nat.zero_le _⟩ dX10_told_156 (fun H locs hS => ?_)
    exact hret _ _ _ _ _ _ hrun rfl hS dX10_told_159
  have hrun := iq hw_8 hrun
  by_cases hw_11 : x1 = (8 : Int32)
  · have hrun := ip hw_11 hrun
    refine lv_tableIn (off := 159) (tgt := 160) hx hb dX10_told_1 (by rw [hw_11]; decide) (by rw [hw_11]; decide) (by rw [hw_11]; rfl) (by decide) ?_
    refine lv_aload_n hx hb dX10_told_160 rfl (lv_at hl 0 rfl) ?_
    refine gX10_34 B hS dX10_told_161 ?_
    refine gX10_142 B hS hall_now dX10_told_164 ?_
    exact hret _ _ _ _ _ _ hrun rfl hS dX10_told_167
  have hrun := iq hw_11 hrun
  by_cases hw_12 : x1 = (9 : Int32)
  · have hrun := ip hw_12 hrun
    refine lv_tableIn (off := 167) (tgt := 168) hx hb dX10_told_1 (by rw [hw_12]; decide) (by rw [hw_12]; decide) (by rw [hw_12]; rfl) (by decide) ?_
    refine lv_aload_n hx hb dX10_told_168 rfl (lv_at hl 0 rfl) ?_
    refine gX10_34 B hS dX10_told_169 ?_
    refine gX10_145 B hS hall_now dX10_told_172 ?_
    exact hret _ _ _ _ _ _ hrun rfl hS dX10_told_175
  have hrun := iq hw_12 hrun
  by_cases hw_13 : x1 = (10 : Int32)
  · have hrun := ip hw_13 hrun
    refine lv_tableIn (off := 175) (tgt := 176) hx hb dX10_told_1 (by rw [hw_13]; decide) (by rw [hw_13]; decide) (by rw [hw_13]; rfl) (by decide) ?_
    refine lv_aload_n hx hb dX10_told_176 rfl (lv_at hl 0 rfl) ?_
    refine gX10_34 B hS dX10_told_177 ?_
    obtain ⟨r_15, hc_14, hrun⟩ := bdE hrun
    refine qX10_148 B hS hall_now hc_14 hl.1 (Nat.le_of_ble_eq_true rfl) ⟨Nat.le_of_ble_eq_true rfl, Nat.le_of_ble_eq_true rfl⟩ ⟨Nat.zero_le _, Nat.zero_le _⟩ dX10_told_180 (fun H locs hS => ?_)
    exact hret _ _ _ _ _ _ hrun rfl hS dX10_told_183
  have hrun := iq hw_13 hrun
  by_cases hw_16 : x1 = (11 : Int32)
  · have hrun := ip hw_16 hrun
    refine lv_tableIn (off := 183) (tgt := 184) hx hb dX10_told_1 (by rw [hw_16]; decide) (by rw [hw_16]; decide) (by rw [hw_16]; rfl) (by decide) ?_
    refine lv_aload_n hx hb dX10_told_184 rfl (lv_at hl 0 rfl) ?_
    refine gX10_34 B hS dX10_told_185 ?_
    obtain ⟨r_18, hc_17, hrun⟩ := bdE hrun
    refine qX10_151 B hS hall_now hc_17 hl.1 (Nat.le_of_ble_eq_true rfl) ⟨Nat.le_of_ble_eq_true rfl, Nat.le_of_ble_eq_true rfl⟩ ⟨Nat.zero_le _, Nat.zero_le _⟩ dX10_told_188 (fun H locs hS => ?_)
    exact hret _ _ _ _ _ _ hrun rfl hS dX10_told_191
  have hrun := iq hw_16 hrun
  by_cases hw_19 : x1 = (12 : Int32)
  · have hrun := ip hw_19 hrun
    refine lv_tableIn (off := 191) (tgt := 192) hx hb dX10_told_1 (by rw [hw_19]; decide) (by rw [hw_19]; decide) (by rw [hw_19]; rfl) (by decide) ?_
    refine lv_aload_n hx hb dX10_told_192 rfl (lv_at hl 0 rfl) ?_
    refine gX10_34 B hS dX10_told_193 ?_
    obtain ⟨r_21, hc_20, hrun⟩ := bdE hrun
    refine qX10_154 B hS hall_now hc_20 hl.1 (Nat.le_of_ble_eq_true rfl) ⟨Nat.le_of_ble_eq_true rfl, Nat.le_of_ble_eq_true rfl⟩ ⟨Nat.zero_le _, Nat.zero_le _⟩ dX10_told_196 (fun H locs hS => ?_)
    exact hret _ _ _ _ _ _ hrun rfl hS dX10_told_199
  have hrun := iq hw_19 hrun
  by_cases hw_22 : x1 = (13 : Int32)
  · have hrun := ip hw_22 hrun
    refine lv_tableIn (off := 199) (tgt := 200) hx hb dX10_told_1 (by rw [hw_22]; decide) (by rw [hw_22]; decide) (by rw [hw_22]; rfl) (by decide) ?_
    refine lv_aload_n hx hb dX10_told_200 rfl (lv_at hl 0 rfl) ?_
    obtain ⟨r_24, hc_23, hrun⟩ := bdE hrun
    refine qX10_157 B hS hc_23 hl.1 (Nat.le_of_ble_eq_true rfl) ⟨Nat.le_of_ble_eq_true rfl, Nat.le_of_ble_eq_true rfl⟩ ⟨Nat.zero_le _, Nat.zero_le _⟩ dX10_told_201 (fun H locs hS => ?_)
    exact hret _ _ _ _ _ _ hrun rfl hS dX10_told_204
  have hrun := iq hw_22 hrun
  by_cases hw_25 : x1 = (14 : Int32)
  · have hrun := ip hw_25 hrun
    refine lv_tableIn (off := 204) (tgt := 205) hx hb dX10_told_1 (by rw [hw_25]; decide) (by rw [hw_25]; decide) (by rw [hw_25]; rfl) (by decide) ?_
    refine lv_aload_n hx hb dX10_told_205 rfl (lv_at hl 0 rfl) ?_
    refine gX10_55 B hS dX10_told_206 ?_
    refine gX10_160 B hS dX10_told_209 ?_
    exact hret _ _ _ _ _ _ hrun rfl hS dX10_told_212
  have hrun := iq hw_25 hrun
  by_cases hw_26 : x1 = (15 : Int32)
  · have hrun := ip hw_26 hrun
    refine lv_tableIn (off := 212) (tgt := 213) hx hb dX10_told_1 (by rw [hw_26]; decide) (by rw [hw_26]; decide) (by rw [hw_26]; rfl) (by decide) ?_
    refine lv_aload_n hx hb dX10_told_213 rfl (lv_at hl 0 rfl) ?_
    refine lv_iload_n hx hb dX10_told_214 rfl (lv_at hl 1 rfl) ?_
    obtain ⟨r_28, t_29, hc_27, hrun⟩ := bd2E hrun
    refine qX10_163 B hS hc_27 hl.1 (Nat.le_of_ble_eq_true rfl) ⟨Nat.le_of_ble_eq_true rfl, Nat.le_of_ble_eq_true rfl⟩ ⟨Nat.zero_le _, Nat.zero_le _⟩ dX10_told_215 (fun H locs hS => ?_)
    exact hret _ _ _ _ _ _ hrun rfl hS dX10_told_218
  have hrun := iq hw_26 hrun
  by_cases hw_30 : x1 = (16 : Int32)
  · have hrun := ip hw_30 hrun
    refine lv_tableIn (off := 212) (tgt := 213) hx hb dX10_told_1 (by rw [hw_30]; decide) (by rw [hw_30]; decide) (by rw [hw_30]; rfl) (by decide) ?_
    refine lv_aload_n hx hb dX10_told_213 rfl (lv_at hl 0 rfl) ?_
    refine lv_iload_n hx hb dX10_told_214 rfl (lv_at hl 1 rfl) ?_
    obtain ⟨r_32, t_33, hc_31, hrun⟩ := bd2E hrun
    refine qX10_163 B hS hc_31 hl.1 (Nat.le_of_ble_eq_true rfl) ⟨Nat.le_of_ble_eq_true rfl, Nat.le_of_ble_eq_true rfl⟩ ⟨Nat.zero_le _, Nat.zero_le _⟩ dX10_told_215 (fun H locs hS => ?_)
    exact hret _ _ _ _ _ _ hrun rfl hS dX10_told_218
  have hrun := iq hw_30 hrun
  by_cases hw_34 : x1 = (17 : Int32)
  · have hrun := ip hw_34 hrun
    refine lv_tableIn (off := 212) (tgt := 213) hx hb dX10_told_1 (by rw [hw_34]; decide) (by rw [hw_34]; decide) (by rw [hw_34]; rfl) (by decide) ?_
    refine lv_aload_n hx hb dX10_told_213 rfl (lv_at hl 0 rfl) ?_
    refine lv_iload_n hx hb dX10_told_214 rfl (lv_at hl 1 rfl) ?_
    obtain ⟨r_36, t_37, hc_35, hrun⟩ := bd2E hrun
    refine qX10_163 B hS hc_35 hl.1 (Nat.le_of_ble_eq_true rfl) ⟨Nat.le_of_ble_eq_true rfl, Nat.le_of_ble_eq_true rfl⟩ ⟨Nat.zero_le _, Nat.zero_le _⟩ dX10_told_215 (fun H locs hS => ?_)
    exact hret _ _ _ _ _ _ hrun rfl hS dX10_told_218
  have hrun := iq hw_34 hrun
  by_cases hw_38 : x1 = (18 : Int32)
  · have hrun := ip hw_38 hrun
    refine lv_tableIn (off := 218) (tgt := 219) hx hb dX10_told_1 (by rw [hw_38]; decide) (by rw [hw_38]; decide) (by rw [hw_38]; rfl) (by decide) ?_
    refine lv_aload_n hx hb dX10_told_219 rfl (lv_at hl 0 rfl) ?_
    refine gX10_55 B hS dX10_told_220 ?_
    refine gX10_167 B hS dX10_told_223 ?_
    exact hret _ _ _ _ _ _ hrun rfl hS dX10_told_226
  have hrun := iq hw_38 hrun
  by_cases hw_39 : x1 = (19 : Int32)
  · have hrun := ip hw_39 hrun
    refine lv_tableIn (off := 226) (tgt := 227) hx hb dX10_told_1 (by rw [hw_39]; decide) (by rw [hw_39]; decide) (by rw [hw_39]; rfl) (by decide) ?_
    refine lv_aload_n hx hb dX10_told_227 rfl (lv_at hl 0 rfl) ?_
    refine gX10_44 B hS dX10_told_228 ?_
    refine gX10_170 B hS dX10_told_231 ?_
    exact hret _ _ _ _ _ _ hrun rfl hS dX10_told_234
  have hrun := iq hw_39 hrun
  have hw_1 := lv_neT (a := 0) hw_1 (by decide)
  have hw_2 := lv_neT (a := 1) hw_2 (by decide)
  have hw_3 := lv_neT (a := 2) hw_3 (by decide)
  have hw_4 := lv_neT (a := 3) hw_4 (by decide)
  have hw_5 := lv_neT (a := 4) hw_5 (by decide)
  have hw_6 := lv_neT (a := 5) hw_6 (by decide)
  have hw_7 := lv_neT (a := 6) hw_7 (by decide)
  have hw_8 := lv_neT (a := 7) hw_8 (by decide)
  have hw_11 := lv_neT (a := 8) hw_11 (by decide)
  have hw_12 := lv_neT (a := 9) hw_12 (by decide)
  have hw_13 := lv_neT (a := 10) hw_13 (by decide)
  have hw_16 := lv_neT (a := 11) hw_16 (by decide)
  have hw_19 := lv_neT (a := 12) hw_19 (by decide)
  have hw_22 := lv_neT (a := 13) hw_22 (by decide)
  have hw_25 := lv_neT (a := 14) hw_25 (by decide)
  have hw_26 := lv_neT (a := 15) hw_26 (by decide)
  have hw_30 := lv_neT (a := 16) hw_30 (by decide)
  have hw_34 := lv_neT (a := 17) hw_34 (by decide)
  have hw_38 := lv_neT (a := 18) hw_38 (by decide)
  have hw_39 := lv_neT (a := 19) hw_39 (by decide)
  refine lv_tableOut (tgt := 235) hx hb dX10_told_1 (by omega) (by decide) ?_
  refine lv_ldc (v := -1000000002) hx hb hown (hts _ (tw_2 105 rfl rfl)) dX10_told_235 ?_
  exact hret _ _ _ _ _ _ hrun rfl hS dX10_told_237
theorem mdX10_singer : MD yX10_singer 2 := ⟨by decide +kernel, by decide +kernel, by decide +kernel⟩
section QX10_singer
variable {p : Program} {l : Launch} {e : Env} {R : Room} {s : State} {m : MethodId} {args : Array Value} {below : List Frame} {meth : Method} {c : Code} {H : Heap} {locs : List Loc} {cells slots : Nat} {Q : State → Prop}
variable {cc : ByteArray} {pc : Nat} {ls : Array Slot} {rest : List Value} {X : Cx} {t : St} {H0 : Heap} {nL : Nat}
theorem qX10_173 (B : Bx p s m args c cc nL X RX10) (hS : SS X t H0 H locs) {h0 : Nat} (e0 : isReg h0) {x1 : Int32} {r : Int32} (hM : fX8_hasSinger h0 t x1 = some r) (hsz : ls.size = nL) (hW : (rest.map fun v => v.category).sum ≤ 8) (hR : 0 + 1 ≤ R.frames ∧ 8 + (2 + 11) + 0 ≤ R.locals) (hR2 : cells ≤ R.cells ∧ slots ≤ R.slots) (hdg : decode cc pc = .ok (.invokevirtual 173, 3)) (kk : ∀ (H1 : Heap) (locs1 : List Loc), SS X t H0 H1 locs1 → W p l e R s m args below meth c H1 locs1 cells slots Q (F0 m (pc + 3) ls (.int r :: rest))) : W p l e R s m args below meth c H locs cells slots Q (F0 m pc ls (.int x1 :: .ref (X.2.1 h0) :: rest)) :=
  xVi B hS (kX8_hasSinger l X t h0 e0 x1 r hM) (tw_3 50 rfl rfl) (tw_2 215 rfl rfl) (tw_2 216 rfl rfl) (tw_1 2 rfl rfl) (tw_2 217 rfl rfl) mdX8_hasSinger (reg_lt e0) (ceX8 e0 _) rfl rfl rfl hsz rfl hW hR hR2 hdg kk
theorem qX10_193 (B : Bx p s m args c cc nL X RX10) (hS : SS X t H0 H locs) {h0 : Nat} (e0 : isHall h0) {x1 : Int32} {x2 : Int32} {r : Int32} (hM : fX3_owedBy h0 t x1 x2 = some r) (hsz : ls.size = nL) (hW : (rest.map fun v => v.category).sum ≤ 8) (hR : 2 + 1 ≤ R.frames ∧ 8 + (3 + 11) + 48 ≤ R.locals) (hR2 : cells ≤ R.cells ∧ slots ≤ R.slots) (hdg : decode cc pc = .ok (.invokevirtual 193, 3)) (kk : ∀ (H1 : Heap) (locs1 : List Loc), SS X t H0 H1 locs1 → W p l e R s m args below meth c H1 locs1 cells slots Q (F0 m (pc + 3) ls (.int r :: rest))) : W p l e R s m args below meth c H locs cells slots Q (F0 m pc ls (.int x2 :: .int x1 :: .ref (X.2.1 h0) :: rest)) :=
  xVi B hS (kX3_owedBy l X t h0 e0 x1 x2 r hM) (tw_3 52 rfl rfl) (tw_2 207 rfl rfl) (tw_2 208 rfl rfl) (tw_1 4 rfl rfl) (tw_2 209 rfl rfl) mdX3_owedBy (hall_lt e0) (ceX3 e0 _) rfl rfl rfl hsz rfl hW hR hR2 hdg kk
end QX10_singer
set_option maxHeartbeats 4000000 in
set_option maxRecDepth 100000 in
theorem kX10_singer (l : Launch) (X : Cx) (t : St) (x1 : Int32) (x2 : Int32) (r : Int32) (hrun : fX10_singer t x1 x2 = some r) : Ci l X t yX10_singer cX10_singer 3 .int 3 70 [.ref (X.2.1 0), .int x1, .int x2] r t := by
  refine Ci_of (by decide) (Nat.le_of_ble_eq_true rfl) ?_
  intro p e s m args below meth c Q B hret hS ls hl
  have hx := B.1
  have hb := B.2.1
  have hown := B.2.2.2.1
  have hts := B.2.2.2.2.1
  have hl : lv_has ls 3 [(0, .ref (X.2.1 0)), (1, .int x1), (2, .int x2)] := hl
  unfold fX10_singer at hrun
  refine lv_aload_n hx hb dX10_singer_0 rfl (lv_at hl 0 rfl) ?_
  refine gX10_28 B hS dX10_singer_1 ?_
  refine lv_iload_n hx hb dX10_singer_4 rfl (lv_at hl 1 rfl) ?_
  obtain ⟨r_2, hc_1, hrun⟩ := bdE hrun
  refine qX10_173 B hS reg_3 hc_1 hl.1 (Nat.le_of_ble_eq_true rfl) ⟨Nat.le_of_ble_eq_true rfl, Nat.le_of_ble_eq_true rfl⟩ ⟨Nat.zero_le _, Nat.zero_le _⟩ dX10_singer_5 (fun H locs hS => ?_)
  refine lv_if_ne (tgt := 14) hx hb dX10_singer_8 (by decide) (fun hc => ?_) (fun hc => ?_)
  · have hrun := iq hc hrun
    refine lv_iload_n hx hb dX10_singer_14 rfl (lv_at hl 2 rfl) ?_
    by_cases hw_3 : x2 = (0 : Int32)
    · have hrun := ip hw_3 hrun
      refine lv_tableIn (off := 37) (tgt := 52) hx hb dX10_singer_15 (by rw [hw_3]; decide) (by rw [hw_3]; decide) (by rw [hw_3]; rfl) (by decide) ?_
      refine lv_aload_n hx hb dX10_singer_52 rfl (lv_at hl 0 rfl) ?_
      refine gX10_28 B hS dX10_singer_53 ?_
      refine gX10_177 B hS reg_3 dX10_singer_56 ?_
      refine lv_iload_n hx hb dX10_singer_59 rfl (lv_at hl 1 rfl) ?_
      obtain ⟨hi_4, hrun⟩ := gdE hrun
      refine xa B hS (iaX8_1 reg_3) hi_4 dX10_singer_60 ?_
      exact hret _ _ _ _ _ _ (congrArg (Option.map (fun w => (w, t))) hrun) rfl hS dX10_singer_61
    have hrun := iq hw_3 hrun
    by_cases hw_5 : x2 = (1 : Int32)
    · have hrun := ip hw_5 hrun
      refine lv_tableIn (off := 47) (tgt := 62) hx hb dX10_singer_15 (by rw [hw_5]; decide) (by rw [hw_5]; decide) (by rw [hw_5]; rfl) (by decide) ?_
      refine lv_aload_n hx hb dX10_singer_62 rfl (lv_at hl 0 rfl) ?_
      refine gX10_34 B hS dX10_singer_63 ?_
      refine gX10_181 B hS hall_now dX10_singer_66 ?_
      refine lv_iload_n hx hb dX10_singer_69 rfl (lv_at hl 1 rfl) ?_
      obtain ⟨hi_6, hrun⟩ := gdE hrun
      refine xa B hS (iaX3_1 hall_now) hi_6 dX10_singer_70 ?_
      exact hret _ _ _ _ _ _ (congrArg (Option.map (fun w => (w, t))) hrun) rfl hS dX10_singer_71
    have hrun := iq hw_5 hrun
    by_cases hw_7 : x2 = (2 : Int32)
    · have hrun := ip hw_7 hrun
      refine lv_tableIn (off := 57) (tgt := 72) hx hb dX10_singer_15 (by rw [hw_7]; decide) (by rw [hw_7]; decide) (by rw [hw_7]; rfl) (by decide) ?_
      refine lv_aload_n hx hb dX10_singer_72 rfl (lv_at hl 0 rfl) ?_
      refine gX10_34 B hS dX10_singer_73 ?_
      refine gX10_184 B hS hall_now dX10_singer_76 ?_
      refine lv_iload_n hx hb dX10_singer_79 rfl (lv_at hl 1 rfl) ?_
      obtain ⟨hi_8, hrun⟩ := gdE hrun
      refine xa B hS (iaX3_2 hall_now) hi_8 dX10_singer_80 ?_
      exact hret _ _ _ _ _ _ (congrArg (Option.map (fun w => (w, t))) hrun) rfl hS dX10_singer_81
    have hrun := iq hw_7 hrun
    by_cases hw_9 : x2 = (3 : Int32)
    · have hrun := ip hw_9 hrun
      refine lv_tableIn (off := 67) (tgt := 82) hx hb dX10_singer_15 (by rw [hw_9]; decide) (by rw [hw_9]; decide) (by rw [hw_9]; rfl) (by decide) ?_
      refine lv_aload_n hx hb dX10_singer_82 rfl (lv_at hl 0 rfl) ?_
      refine gX10_28 B hS dX10_singer_83 ?_
      refine gX10_187 B hS reg_3 dX10_singer_86 ?_
      refine lv_iload_n hx hb dX10_singer_89 rfl (lv_at hl 1 rfl) ?_
      obtain ⟨hi_10, hrun⟩ := gdE hrun
      refine xa B hS (iaX8_4 reg_3) hi_10 dX10_singer_90 ?_
      exact hret _ _ _ _ _ _ (congrArg (Option.map (fun w => (w, t))) hrun) rfl hS dX10_singer_91
    have hrun := iq hw_9 hrun
    by_cases hw_11 : x2 = (4 : Int32)
    · have hrun := ip hw_11 hrun
      refine lv_tableIn (off := 77) (tgt := 92) hx hb dX10_singer_15 (by rw [hw_11]; decide) (by rw [hw_11]; decide) (by rw [hw_11]; rfl) (by decide) ?_
      refine lv_aload_n hx hb dX10_singer_92 rfl (lv_at hl 0 rfl) ?_
      refine gX10_34 B hS dX10_singer_93 ?_
      refine gX10_190 B hS hall_now dX10_singer_96 ?_
      refine lv_iload_n hx hb dX10_singer_99 rfl (lv_at hl 1 rfl) ?_
      obtain ⟨hi_12, hrun⟩ := gdE hrun
      refine xa B hS (iaX3_3 hall_now) hi_12 dX10_singer_100 ?_
      exact hret _ _ _ _ _ _ (congrArg (Option.map (fun w => (w, t))) hrun) rfl hS dX10_singer_101
    have hrun := iq hw_11 hrun
    by_cases hw_13 : x2 = (5 : Int32)
    · have hrun := ip hw_13 hrun
      refine lv_tableIn (off := 87) (tgt := 102) hx hb dX10_singer_15 (by rw [hw_13]; decide) (by rw [hw_13]; decide) (by rw [hw_13]; rfl) (by decide) ?_
      refine lv_aload_n hx hb dX10_singer_102 rfl (lv_at hl 0 rfl) ?_
      refine gX10_34 B hS dX10_singer_103 ?_
      refine lv_iload_n hx hb dX10_singer_106 rfl (lv_at hl 1 rfl) ?_
      refine lv_aload_n hx hb dX10_singer_107 rfl (lv_at hl 0 rfl) ?_
      refine gX10_34 B hS dX10_singer_108 ?_
      refine gX10_123 B hS hall_now dX10_singer_111 ?_
      obtain ⟨r_15, hc_14, hrun⟩ := bdE hrun
      refine qX10_193 B hS hall_now hc_14 hl.1 (Nat.le_of_ble_eq_true rfl) ⟨Nat.le_of_ble_eq_true rfl, Nat.le_of_ble_eq_true rfl⟩ ⟨Nat.zero_le _, Nat.zero_le _⟩ dX10_singer_114 (fun H locs hS => ?_)
      exact hret _ _ _ _ _ _ (congrArg (Option.map (fun w => (w, t))) hrun) rfl hS dX10_singer_117
    have hrun := iq hw_13 hrun
    have hw_3 := lv_neT (a := 0) hw_3 (by decide)
    have hw_5 := lv_neT (a := 1) hw_5 (by decide)
    have hw_7 := lv_neT (a := 2) hw_7 (by decide)
    have hw_9 := lv_neT (a := 3) hw_9 (by decide)
    have hw_11 := lv_neT (a := 4) hw_11 (by decide)
    have hw_13 := lv_neT (a := 5) hw_13 (by decide)
    refine lv_tableOut (tgt := 118) hx hb dX10_singer_15 (by omega) (by decide) ?_
    refine lv_ldc (v := -1000000002) hx hb hown (hts _ (tw_2 105 rfl rfl)) dX10_singer_118 ?_
    exact hret _ _ _ _ _ _ (congrArg (Option.map (fun w => (w, t))) hrun) rfl hS dX10_singer_120
  · have hrun := ip hc hrun
    refine lv_ldc (v := -1000000001) hx hb hown (hts _ (tw_3 51 rfl rfl)) dX10_singer_11 ?_
    exact hret _ _ _ _ _ _ (congrArg (Option.map (fun w => (w, t))) hrun) rfl hS dX10_singer_13
theorem mdX10_place : MD yX10_place 2 := ⟨by decide +kernel, by decide +kernel, by decide +kernel⟩
section QX10_place
variable {p : Program} {l : Launch} {e : Env} {R : Room} {s : State} {m : MethodId} {args : Array Value} {below : List Frame} {meth : Method} {c : Code} {H : Heap} {locs : List Loc} {cells slots : Nat} {Q : State → Prop}
variable {cc : ByteArray} {pc : Nat} {ls : Array Slot} {rest : List Value} {X : Cx} {t : St} {H0 : Heap} {nL : Nat}
theorem qX10_197 (B : Bx p s m args c cc nL X RX10) (hS : SS X t H0 H locs) {h0 : Nat} (e0 : isReg h0) {x1 : Int32} {r : Int32} (hM : fX8_hasPlace h0 t x1 = some r) (hsz : ls.size = nL) (hW : (rest.map fun v => v.category).sum ≤ 8) (hR : 0 + 1 ≤ R.frames ∧ 8 + (2 + 11) + 0 ≤ R.locals) (hR2 : cells ≤ R.cells ∧ slots ≤ R.slots) (hdg : decode cc pc = .ok (.invokevirtual 197, 3)) (kk : ∀ (H1 : Heap) (locs1 : List Loc), SS X t H0 H1 locs1 → W p l e R s m args below meth c H1 locs1 cells slots Q (F0 m (pc + 3) ls (.int r :: rest))) : W p l e R s m args below meth c H locs cells slots Q (F0 m pc ls (.int x1 :: .ref (X.2.1 h0) :: rest)) :=
  xVi B hS (kX8_hasPlace l X t h0 e0 x1 r hM) (tw_3 57 rfl rfl) (tw_3 58 rfl rfl) (tw_3 59 rfl rfl) (tw_1 2 rfl rfl) (tw_3 60 rfl rfl) mdX8_hasPlace (reg_lt e0) (ceX8 e0 _) rfl rfl rfl hsz rfl hW hR hR2 hdg kk
theorem qX10_200 (B : Bx p s m args c cc nL X RX10) (hS : SS X t H0 H locs) {h0 : Nat} (e0 : isHall h0) {x1 : Int32} {r : Int32} (hM : fX3_whoIsIn h0 t x1 = some r) (hsz : ls.size = nL) (hW : (rest.map fun v => v.category).sum ≤ 8) (hR : 0 + 1 ≤ R.frames ∧ 8 + (4 + 11) + 0 ≤ R.locals) (hR2 : cells ≤ R.cells ∧ slots ≤ R.slots) (hdg : decode cc pc = .ok (.invokevirtual 200, 3)) (kk : ∀ (H1 : Heap) (locs1 : List Loc), SS X t H0 H1 locs1 → W p l e R s m args below meth c H1 locs1 cells slots Q (F0 m (pc + 3) ls (.int r :: rest))) : W p l e R s m args below meth c H locs cells slots Q (F0 m pc ls (.int x1 :: .ref (X.2.1 h0) :: rest)) :=
  xVi B hS (kX3_whoIsIn l X t h0 e0 x1 r hM) (tw_3 61 rfl rfl) (tw_3 62 rfl rfl) (tw_3 63 rfl rfl) (tw_1 4 rfl rfl) (tw_3 64 rfl rfl) mdX3_whoIsIn (hall_lt e0) (ceX3 e0 _) rfl rfl rfl hsz rfl hW hR hR2 hdg kk
theorem qX10_203 (B : Bx p s m args c cc nL X RX10) (hS : SS X t H0 H locs) {h0 : Nat} (e0 : isHall h0) {x1 : Int32} {r : Int32} (hM : fX3_owedIn h0 t x1 = some r) (hsz : ls.size = nL) (hW : (rest.map fun v => v.category).sum ≤ 8) (hR : 3 + 1 ≤ R.frames ∧ 8 + (4 + 11) + 70 ≤ R.locals) (hR2 : cells ≤ R.cells ∧ slots ≤ R.slots) (hdg : decode cc pc = .ok (.invokevirtual 203, 3)) (kk : ∀ (H1 : Heap) (locs1 : List Loc), SS X t H0 H1 locs1 → W p l e R s m args below meth c H1 locs1 cells slots Q (F0 m (pc + 3) ls (.int r :: rest))) : W p l e R s m args below meth c H locs cells slots Q (F0 m pc ls (.int x1 :: .ref (X.2.1 h0) :: rest)) :=
  xVi B hS (kX3_owedIn l X t h0 e0 x1 r hM) (tw_3 65 rfl rfl) (tw_3 66 rfl rfl) (tw_3 67 rfl rfl) (tw_1 4 rfl rfl) (tw_3 68 rfl rfl) mdX3_owedIn (hall_lt e0) (ceX3 e0 _) rfl rfl rfl hsz rfl hW hR hR2 hdg kk
theorem qX10_206 (B : Bx p s m args c cc nL X RX10) (hS : SS X t H0 H locs) {h0 : Nat} (e0 : isHall h0) {x1 : Int32} {r : Int32} (hM : fX3_inspectorsIn h0 t x1 = some r) (hsz : ls.size = nL) (hW : (rest.map fun v => v.category).sum ≤ 8) (hR : 0 + 1 ≤ R.frames ∧ 8 + (4 + 11) + 0 ≤ R.locals) (hR2 : cells ≤ R.cells ∧ slots ≤ R.slots) (hdg : decode cc pc = .ok (.invokevirtual 206, 3)) (kk : ∀ (H1 : Heap) (locs1 : List Loc), SS X t H0 H1 locs1 → W p l e R s m args below meth c H1 locs1 cells slots Q (F0 m (pc + 3) ls (.int r :: rest))) : W p l e R s m args below meth c H locs cells slots Q (F0 m pc ls (.int x1 :: .ref (X.2.1 h0) :: rest)) :=
  xVi B hS (kX3_inspectorsIn l X t h0 e0 x1 r hM) (tw_3 69 rfl rfl) (tw_2 223 rfl rfl) (tw_2 224 rfl rfl) (tw_1 4 rfl rfl) (tw_2 225 rfl rfl) mdX3_inspectorsIn (hall_lt e0) (ceX3 e0 _) rfl rfl rfl hsz rfl hW hR hR2 hdg kk
end QX10_place
set_option maxHeartbeats 4000000 in
set_option maxRecDepth 100000 in
theorem kX10_place (l : Launch) (X : Cx) (t : St) (x1 : Int32) (x2 : Int32) (r : Int32) (hrun : fX10_place t x1 x2 = some r) : Ci l X t yX10_place cX10_place 3 .int 4 93 [.ref (X.2.1 0), .int x1, .int x2] r t := by
  refine Ci_of (by decide) (Nat.le_of_ble_eq_true rfl) ?_
  intro p e s m args below meth c Q B hret hS ls hl
  have hx := B.1
  have hb := B.2.1
  have hown := B.2.2.2.1
  have hts := B.2.2.2.2.1
  have hl : lv_has ls 3 [(0, .ref (X.2.1 0)), (1, .int x1), (2, .int x2)] := hl
  unfold fX10_place at hrun
  refine lv_aload_n hx hb dX10_place_0 rfl (lv_at hl 0 rfl) ?_
  refine gX10_28 B hS dX10_place_1 ?_
  refine lv_iload_n hx hb dX10_place_4 rfl (lv_at hl 1 rfl) ?_
  obtain ⟨r_2, hc_1, hrun⟩ := bdE hrun
  refine qX10_197 B hS reg_3 hc_1 hl.1 (Nat.le_of_ble_eq_true rfl) ⟨Nat.le_of_ble_eq_true rfl, Nat.le_of_ble_eq_true rfl⟩ ⟨Nat.zero_le _, Nat.zero_le _⟩ dX10_place_5 (fun H locs hS => ?_)
  refine lv_if_ne (tgt := 14) hx hb dX10_place_8 (by decide) (fun hc => ?_) (fun hc => ?_)
  · have hrun := iq hc hrun
    refine lv_iload_n hx hb dX10_place_14 rfl (lv_at hl 2 rfl) ?_
    by_cases hw_3 : x2 = (0 : Int32)
    · have hrun := ip hw_3 hrun
      refine lv_tableIn (off := 29) (tgt := 44) hx hb dX10_place_15 (by rw [hw_3]; decide) (by rw [hw_3]; decide) (by rw [hw_3]; rfl) (by decide) ?_
      refine lv_aload_n hx hb dX10_place_44 rfl (lv_at hl 0 rfl) ?_
      refine gX10_34 B hS dX10_place_45 ?_
      refine lv_iload_n hx hb dX10_place_48 rfl (lv_at hl 1 rfl) ?_
      obtain ⟨r_5, hc_4, hrun⟩ := bdE hrun
      refine qX10_200 B hS hall_now hc_4 hl.1 (Nat.le_of_ble_eq_true rfl) ⟨Nat.le_of_ble_eq_true rfl, Nat.le_of_ble_eq_true rfl⟩ ⟨Nat.zero_le _, Nat.zero_le _⟩ dX10_place_49 (fun H locs hS => ?_)
      exact hret _ _ _ _ _ _ (congrArg (Option.map (fun w => (w, t))) hrun) rfl hS dX10_place_52
    have hrun := iq hw_3 hrun
    by_cases hw_6 : x2 = (1 : Int32)
    · have hrun := ip hw_6 hrun
      refine lv_tableIn (off := 38) (tgt := 53) hx hb dX10_place_15 (by rw [hw_6]; decide) (by rw [hw_6]; decide) (by rw [hw_6]; rfl) (by decide) ?_
      refine lv_aload_n hx hb dX10_place_53 rfl (lv_at hl 0 rfl) ?_
      refine gX10_34 B hS dX10_place_54 ?_
      refine lv_iload_n hx hb dX10_place_57 rfl (lv_at hl 1 rfl) ?_
      obtain ⟨r_8, hc_7, hrun⟩ := bdE hrun
      refine qX10_200 B hS hall_now hc_7 hl.1 (Nat.le_of_ble_eq_true rfl) ⟨Nat.le_of_ble_eq_true rfl, Nat.le_of_ble_eq_true rfl⟩ ⟨Nat.zero_le _, Nat.zero_le _⟩ dX10_place_58 (fun H locs hS => ?_)
      refine lv_aload_n hx hb dX10_place_61 rfl (lv_at hl 0 rfl) ?_
      refine gX10_34 B hS dX10_place_62 ?_
      obtain ⟨r_10, hc_9, hrun⟩ := bdE hrun
      refine qX10_138 B hS hall_now hc_9 hl.1 (Nat.le_of_ble_eq_true rfl) ⟨Nat.le_of_ble_eq_true rfl, Nat.le_of_ble_eq_true rfl⟩ ⟨Nat.zero_le _, Nat.zero_le _⟩ dX10_place_65 (fun H locs hS => ?_)
      refine lv_iand hx hb dX10_place_68 ?_
      exact hret _ _ _ _ _ _ (congrArg (Option.map (fun w => (w, t))) hrun) rfl hS dX10_place_69
    have hrun := iq hw_6 hrun
    by_cases hw_11 : x2 = (2 : Int32)
    · have hrun := ip hw_11 hrun
      refine lv_tableIn (off := 55) (tgt := 70) hx hb dX10_place_15 (by rw [hw_11]; decide) (by rw [hw_11]; decide) (by rw [hw_11]; rfl) (by decide) ?_
      refine lv_aload_n hx hb dX10_place_70 rfl (lv_at hl 0 rfl) ?_
      refine gX10_34 B hS dX10_place_71 ?_
      refine lv_iload_n hx hb dX10_place_74 rfl (lv_at hl 1 rfl) ?_
      obtain ⟨r_13, hc_12, hrun⟩ := bdE hrun
      refine qX10_203 B hS hall_now hc_12 hl.1 (Nat.le_of_ble_eq_true rfl) ⟨Nat.le_of_ble_eq_true rfl, Nat.le_of_ble_eq_true rfl⟩ ⟨Nat.zero_le _, Nat.zero_le _⟩ dX10_place_75 (fun H locs hS => ?_)
      exact hret _ _ _ _ _ _ (congrArg (Option.map (fun w => (w, t))) hrun) rfl hS dX10_place_78
    have hrun := iq hw_11 hrun
    by_cases hw_14 : x2 = (3 : Int32)
    · have hrun := ip hw_14 hrun
      refine lv_tableIn (off := 64) (tgt := 79) hx hb dX10_place_15 (by rw [hw_14]; decide) (by rw [hw_14]; decide) (by rw [hw_14]; rfl) (by decide) ?_
      refine lv_aload_n hx hb dX10_place_79 rfl (lv_at hl 0 rfl) ?_
      refine gX10_34 B hS dX10_place_80 ?_
      refine lv_iload_n hx hb dX10_place_83 rfl (lv_at hl 1 rfl) ?_
      obtain ⟨r_16, hc_15, hrun⟩ := bdE hrun
      refine qX10_206 B hS hall_now hc_15 hl.1 (Nat.le_of_ble_eq_true rfl) ⟨Nat.le_of_ble_eq_true rfl, Nat.le_of_ble_eq_true rfl⟩ ⟨Nat.zero_le _, Nat.zero_le _⟩ dX10_place_84 (fun H locs hS => ?_)
      exact hret _ _ _ _ _ _ (congrArg (Option.map (fun w => (w, t))) hrun) rfl hS dX10_place_87
    have hrun := iq hw_14 hrun
    have hw_3 := lv_neT (a := 0) hw_3 (by decide)
    have hw_6 := lv_neT (a := 1) hw_6 (by decide)
    have hw_11 := lv_neT (a := 2) hw_11 (by decide)
    have hw_14 := lv_neT (a := 3) hw_14 (by decide)
    refine lv_tableOut (tgt := 88) hx hb dX10_place_15 (by omega) (by decide) ?_
    refine lv_ldc (v := -1000000002) hx hb hown (hts _ (tw_2 105 rfl rfl)) dX10_place_88 ?_
    exact hret _ _ _ _ _ _ (congrArg (Option.map (fun w => (w, t))) hrun) rfl hS dX10_place_90
  · have hrun := ip hc hrun
    refine lv_ldc (v := -1000000001) hx hb hown (hts _ (tw_3 51 rfl rfl)) dX10_place_11 ?_
    exact hret _ _ _ _ _ _ (congrArg (Option.map (fun w => (w, t))) hrun) rfl hS dX10_place_13
theorem mdX10_refusalOfVerses : MD yX10_refusalOfVerses 1 := ⟨by decide +kernel, by decide +kernel, by decide +kernel⟩
set_option maxHeartbeats 4000000 in
set_option maxRecDepth 100000 in
theorem kX10_refusalOfVerses (l : Launch) (X : Cx) (t : St) (x1 : Int32) (r : Int32) (hrun : fX10_refusalOfVerses t x1 = some r) : Ci l X t yX10_refusalOfVerses cX10_refusalOfVerses 2 .int 1 20 [.ref (X.2.1 0), .int x1] r t := by
  refine Ci_of (by decide) (Nat.le_of_ble_eq_true rfl) ?_
  intro p e s m args below meth c Q B hret hS ls hl
  have hx := B.1
  have hb := B.2.1
  have hown := B.2.2.2.1
  have hts := B.2.2.2.2.1
  have hl : lv_has ls 2 [(0, .ref (X.2.1 0)), (1, .int x1)] := hl
  unfold fX10_refusalOfVerses at hrun
  refine lv_iload_n hx hb dX10_refusalOfVerses_0 rfl (lv_at hl 1 rfl) ?_
  refine lv_iconst (v := 1) hx hb dX10_refusalOfVerses_1 (by decide) ?_
  refine lv_icmp_lt (tgt := 11) hx hb dX10_refusalOfVerses_2 (by decide) (fun hc => ?_) (fun hc => ?_)
  · have hrun := ip hc hrun
    refine lv_ldc (v := -1000000002) hx hb hown (hts _ (tw_2 105 rfl rfl)) dX10_refusalOfVerses_11 ?_
    exact hret _ _ _ _ _ _ (congrArg (Option.map (fun w => (w, t))) hrun) rfl hS dX10_refusalOfVerses_13
  · have hrun := iq hc hrun
    refine lv_iload_n hx hb dX10_refusalOfVerses_5 rfl (lv_at hl 1 rfl) ?_
    refine lv_bipush (v := 60) hx hb dX10_refusalOfVerses_6 (by decide) ?_
    refine lv_icmp_le (tgt := 14) hx hb dX10_refusalOfVerses_8 (by decide) (fun hc => ?_) (fun hc => ?_)
    · have hrun := ip hc hrun
      refine lv_aload_n hx hb dX10_refusalOfVerses_14 rfl (lv_at hl 0 rfl) ?_
      refine gX10_28 B hS dX10_refusalOfVerses_15 ?_
      obtain ⟨r_2, hc_1, hrun⟩ := bdE hrun
      refine qX10_240 B hS reg_3 hc_1 hl.1 (Nat.le_of_ble_eq_true rfl) ⟨Nat.le_of_ble_eq_true rfl, Nat.le_of_ble_eq_true rfl⟩ ⟨Nat.zero_le _, Nat.zero_le _⟩ dX10_refusalOfVerses_18 (fun H locs hS => ?_)
      refine lv_if_eq (tgt := 27) hx hb dX10_refusalOfVerses_21 (by decide) (fun hc => ?_) (fun hc => ?_)
      · have hrun := ip hc hrun
        refine lv_aload_n hx hb dX10_refusalOfVerses_27 rfl (lv_at hl 0 rfl) ?_
        refine gX10_34 B hS dX10_refusalOfVerses_28 ?_
        refine gX10_135 B hS hall_now dX10_refusalOfVerses_31 ?_
        refine lv_sipush (v := 9000) hx hb dX10_refusalOfVerses_34 (by decide) ?_
        refine lv_icmp_le (tgt := 45) hx hb dX10_refusalOfVerses_37 (by decide) (fun hc => ?_) (fun hc => ?_)
        · have hrun := ip hc hrun
          refine lv_iconst (v := 0) hx hb dX10_refusalOfVerses_45 (by decide) ?_
          exact hret _ _ _ _ _ _ (congrArg (Option.map (fun w => (w, t))) hrun) rfl hS dX10_refusalOfVerses_46
        · have hrun := iq hc hrun
          refine lv_ldc (v := -1000000004) hx hb hown (hts _ (tw_2 110 rfl rfl)) dX10_refusalOfVerses_40 ?_
          refine lv_goto (tgt := 46) hx hb dX10_refusalOfVerses_42 (by decide) ?_
          exact hret _ _ _ _ _ _ (congrArg (Option.map (fun w => (w, t))) hrun) rfl hS dX10_refusalOfVerses_46
      · have hrun := iq hc hrun
        refine lv_ldc (v := -1000000003) hx hb hown (hts _ (tw_3 78 rfl rfl)) dX10_refusalOfVerses_24 ?_
        exact hret _ _ _ _ _ _ (congrArg (Option.map (fun w => (w, t))) hrun) rfl hS dX10_refusalOfVerses_26
    · have hrun := iq hc hrun
      refine lv_ldc (v := -1000000002) hx hb hown (hts _ (tw_2 105 rfl rfl)) dX10_refusalOfVerses_11 ?_
      exact hret _ _ _ _ _ _ (congrArg (Option.map (fun w => (w, t))) hrun) rfl hS dX10_refusalOfVerses_13
theorem mdX10_verse : MD yX10_verse 1 := ⟨by decide +kernel, by decide +kernel, by decide +kernel⟩
section QX10_verse
variable {p : Program} {l : Launch} {e : Env} {R : Room} {s : State} {m : MethodId} {args : Array Value} {below : List Frame} {meth : Method} {c : Code} {H : Heap} {locs : List Loc} {cells slots : Nat} {Q : State → Prop}
variable {cc : ByteArray} {pc : Nat} {ls : Array Slot} {rest : List Value} {X : Cx} {t : St} {H0 : Heap} {nL : Nat}
theorem qX10_209 (B : Bx p s m args c cc nL X RX10) (hS : SS X t H0 H locs) {x1 : Int32} {r : Int32} (hM : fX10_refusalOfVerses t x1 = some r) (hsz : ls.size = nL) (hW : (rest.map fun v => v.category).sum ≤ 8) (hR : 1 + 1 ≤ R.frames ∧ 8 + (2 + 11) + 20 ≤ R.locals) (hR2 : cells ≤ R.cells ∧ slots ≤ R.slots) (hdg : decode cc pc = .ok (.invokevirtual 209, 3)) (kk : ∀ (H1 : Heap) (locs1 : List Loc), SS X t H0 H1 locs1 → W p l e R s m args below meth c H1 locs1 cells slots Q (F0 m (pc + 3) ls (.int r :: rest))) : W p l e R s m args below meth c H locs cells slots Q (F0 m pc ls (.int x1 :: .ref (X.2.1 0) :: rest)) :=
  xVi B hS (kX10_refusalOfVerses l X t x1 r hM) (tw_3 74 rfl rfl) (tw_3 76 rfl rfl) (tw_0 10 rfl rfl) (tw_1 1 rfl rfl) (tw_3 77 rfl rfl) mdX10_refusalOfVerses (by decide) (ceX10 _) rfl rfl rfl hsz rfl hW hR hR2 hdg kk
theorem qX10_212 (B : Bx p s m args c cc nL X RX10) (hS : SS X t H0 H locs) {h1 : Nat} (e1 : isHall h1) {t' : St} (hM : fX6_mark h1 t = some t') (hsz : ls.size = nL) (hW : (rest.map fun v => v.category).sum ≤ 8) (hR : 2 + 1 ≤ R.frames ∧ 8 + (2 + 11) + 81 ≤ R.locals) (hR2 : cells ≤ R.cells ∧ slots ≤ R.slots) (hdg : decode cc pc = .ok (.invokevirtual 212, 3)) (kk : ∀ (H1 : Heap) (locs1 : List Loc), SS X t' H0 H1 locs1 → W p l e R s m args below meth c H1 locs1 cells slots Q (F0 m (pc + 3) ls (rest))) : W p l e R s m args below meth c H locs cells slots Q (F0 m pc ls (.ref (X.2.1 h1) :: .ref (X.2.1 15) :: rest)) :=
  xVv B hS (kX6_mark l X t h1 e1 t' hM) (tw_3 79 rfl rfl) (tw_3 80 rfl rfl) (tw_3 81 rfl rfl) (tw_1 6 rfl rfl) (tw_3 82 rfl rfl) mdX6_mark (by decide) (ceX6 _) rfl rfl rfl hsz rfl hW hR hR2 hdg kk
theorem qX10_216 (B : Bx p s m args c cc nL X RX10) (hS : SS X t H0 H locs) {h0 : Nat} (e0 : isHall h0) {t' : St} (hM : fX3_singVerse h0 t = some t') (hsz : ls.size = nL) (hW : (rest.map fun v => v.category).sum ≤ 8) (hR : 3 + 1 ≤ R.frames ∧ 8 + (4 + 11) + 70 ≤ R.locals) (hR2 : cells ≤ R.cells ∧ slots ≤ R.slots) (hdg : decode cc pc = .ok (.invokevirtual 216, 3)) (kk : ∀ (H1 : Heap) (locs1 : List Loc), SS X t' H0 H1 locs1 → W p l e R s m args below meth c H1 locs1 cells slots Q (F0 m (pc + 3) ls (rest))) : W p l e R s m args below meth c H locs cells slots Q (F0 m pc ls (.ref (X.2.1 h0) :: rest)) :=
  xVv B hS (kX3_singVerse l X t h0 e0 t' hM) (tw_3 90 rfl rfl) (tw_3 91 rfl rfl) (tw_3 92 rfl rfl) (tw_1 4 rfl rfl) (tw_3 93 rfl rfl) mdX3_singVerse (hall_lt e0) (ceX3 e0 _) rfl rfl rfl hsz rfl hW hR hR2 hdg kk
end QX10_verse
set_option maxHeartbeats 4000000 in
set_option maxRecDepth 100000 in
theorem kX10_verse (l : Launch) (X : Cx) (t : St) (x1 : Int32) (r : Int32) (t' : St) (hrun : fX10_verse t x1 = some (r, t')) : Ci l X t yX10_verse cX10_verse 4 .int 4 102 [.ref (X.2.1 0), .int x1] r t' := by
  refine Ci_of (by decide) (Nat.le_of_ble_eq_true rfl) ?_
  intro p e s m args below meth c Q B hret hS ls hl
  have hx := B.1
  have hb := B.2.1
  have hown := B.2.2.2.1
  have hts := B.2.2.2.2.1
  have hl : lv_has ls 4 [(0, .ref (X.2.1 0)), (1, .int x1)] := hl
  have hB25 : ∀ (n25 : Nat) (t : St) (x1 : Int32) (x3 : Int32) (H : Heap) (locs : List Loc) (ls : Array Slot), SS X t s.heap H locs → lv_has ls 4 [(0, .ref (X.2.1 0)), (1, .int x1), (3, .int x3)] → fX10_verse_25 n25 t x1 x3 = some (r, t') → W p l e ({ frames := 4, cells := 0, slots := 0, locals := 102 } : Room) s m args below meth c H locs 0 0 Q (F0 m 25 ls []) := by
    intro n25
    induction n25 with
    | zero =>
      intro t x1 x3 H locs ls hS hl hrun
      cases (show (none : Option (Int32 × St)) = some (r, t') from hrun)
    | succ n25 ih25 =>
      intro t x1 x3 H locs ls hS hl hrun
      rw [fX10_verse_25_s] at hrun
      refine lv_iload_n hx hb dX10_verse_25 rfl (lv_at hl 2 rfl) ?_
      refine lv_iload_n hx hb dX10_verse_26 rfl (lv_at hl 1 rfl) ?_
      refine lv_icmp_ge (tgt := 43) hx hb dX10_verse_27 (by decide) (fun hc => ?_) (fun hc => ?_)
      · have hrun := ip hc hrun
        refine lv_aload_n hx hb dX10_verse_43 rfl (lv_at hl 0 rfl) ?_
        refine gX10_34 B hS dX10_verse_44 ?_
        refine gX10_142 B hS hall_now dX10_verse_47 ?_
        exact hret _ _ _ _ _ _ hrun rfl hS dX10_verse_50
      · have hrun := iq hc hrun
        refine lv_aload_n hx hb dX10_verse_30 rfl (lv_at hl 0 rfl) ?_
        refine gX10_34 B hS dX10_verse_31 ?_
        obtain ⟨t_1027, hc_1026, hrun⟩ := bdE hrun
        refine qX10_216 B hS hall_now hc_1026 hl.1 (Nat.le_of_ble_eq_true rfl) ⟨Nat.le_of_ble_eq_true rfl, Nat.le_of_ble_eq_true rfl⟩ ⟨Nat.zero_le _, Nat.zero_le _⟩ dX10_verse_34 (fun H locs hS => ?_)
        refine lv_iinc (v := x3 + (1 : Int32)) (k := 2) (lv' := [(3, .int (x3 + (1 : Int32))), (0, .ref (X.2.1 0)), (1, .int x1)]) hx hb dX10_verse_37 hl rfl rfl (by decide) rfl (fun ls hl => ?_)
        refine lv_goto (tgt := 25) hx hb dX10_verse_40 (by decide) ?_
        exact ih25 t_1027 x1 (x3 + (1 : Int32)) _ _ _ hS (lv_sub hl [1, 2, 0] rfl) hrun
  unfold fX10_verse at hrun
  refine lv_aload_n hx hb dX10_verse_0 rfl (lv_at hl 0 rfl) ?_
  refine lv_iload_n hx hb dX10_verse_1 rfl (lv_at hl 1 rfl) ?_
  obtain ⟨r_2, hc_1, hrun⟩ := bdE hrun
  refine qX10_209 B hS hc_1 hl.1 (Nat.le_of_ble_eq_true rfl) ⟨Nat.le_of_ble_eq_true rfl, Nat.le_of_ble_eq_true rfl⟩ ⟨Nat.zero_le _, Nat.zero_le _⟩ dX10_verse_2 (fun H locs hS => ?_)
  refine lv_istore_n (lv' := [(2, .int r_2), (0, .ref (X.2.1 0)), (1, .int x1)]) hx hb dX10_verse_5 rfl hl (by decide) rfl (fun ls hl => ?_)
  refine lv_iload_n hx hb dX10_verse_6 rfl (lv_at hl 0 rfl) ?_
  refine lv_if_eq (tgt := 12) hx hb dX10_verse_7 (by decide) (fun hc => ?_) (fun hc => ?_)
  · have hrun := ip hc hrun
    refine lv_aload_n hx hb dX10_verse_12 rfl (lv_at hl 1 rfl) ?_
    refine gX10_44 B hS dX10_verse_13 ?_
    refine lv_aload_n hx hb dX10_verse_16 rfl (lv_at hl 1 rfl) ?_
    refine gX10_34 B hS dX10_verse_17 ?_
    obtain ⟨t_4, hc_3, hrun⟩ := bdE hrun
    refine qX10_212 B hS hall_now hc_3 hl.1 (Nat.le_of_ble_eq_true rfl) ⟨Nat.le_of_ble_eq_true rfl, Nat.le_of_ble_eq_true rfl⟩ ⟨Nat.zero_le _, Nat.zero_le _⟩ dX10_verse_20 (fun H locs hS => ?_)
    refine lv_iconst (v := 0) hx hb dX10_verse_23 (by decide) ?_
    refine lv_istore_n (lv' := [(3, .int (0 : Int32)), (2, .int r_2), (0, .ref (X.2.1 0)), (1, .int x1)]) hx hb dX10_verse_24 rfl hl (by decide) rfl (fun ls hl => ?_)
    exact hB25 fuelN t_4 x1 (0 : Int32) _ _ _ hS (lv_sub hl [2, 3, 0] rfl) hrun
  · have hrun := iq hc hrun
    refine lv_iload_n hx hb dX10_verse_10 rfl (lv_at hl 0 rfl) ?_
    exact hret _ _ _ _ _ _ hrun rfl hS dX10_verse_11
theorem mdX10_join : MD yX10_join 1 := ⟨by decide +kernel, by decide +kernel, by decide +kernel⟩
section QX10_join
variable {p : Program} {l : Launch} {e : Env} {R : Room} {s : State} {m : MethodId} {args : Array Value} {below : List Frame} {meth : Method} {c : Code} {H : Heap} {locs : List Loc} {cells slots : Nat} {Q : State → Prop}
variable {cc : ByteArray} {pc : Nat} {ls : Array Slot} {rest : List Value} {X : Cx} {t : St} {H0 : Heap} {nL : Nat}
theorem qX10_219 (B : Bx p s m args c cc nL X RX10) (hS : SS X t H0 H locs) {h0 : Nat} (e0 : isHall h0) {x1 : Int32} {r : Int32} (hM : fX3_sings h0 t x1 = some r) (hsz : ls.size = nL) (hW : (rest.map fun v => v.category).sum ≤ 8) (hR : 1 + 1 ≤ R.frames ∧ 8 + (2 + 11) + 21 ≤ R.locals) (hR2 : cells ≤ R.cells ∧ slots ≤ R.slots) (hdg : decode cc pc = .ok (.invokevirtual 219, 3)) (kk : ∀ (H1 : Heap) (locs1 : List Loc), SS X t H0 H1 locs1 → W p l e R s m args below meth c H1 locs1 cells slots Q (F0 m (pc + 3) ls (.int r :: rest))) : W p l e R s m args below meth c H locs cells slots Q (F0 m pc ls (.int x1 :: .ref (X.2.1 h0) :: rest)) :=
  xVi B hS (kX3_sings l X t h0 e0 x1 r hM) (tw_3 108 rfl rfl) (tw_2 211 rfl rfl) (tw_2 212 rfl rfl) (tw_1 4 rfl rfl) (tw_2 213 rfl rfl) mdX3_sings (hall_lt e0) (ceX3 e0 _) rfl rfl rfl hsz rfl hW hR hR2 hdg kk
theorem qX10_223 (B : Bx p s m args c cc nL X RX10) (hS : SS X t H0 H locs) {h0 : Nat} (e0 : isHall h0) {x1 : Int32} {t' : St} (hM : fX3_letIn h0 t x1 = some t') (hsz : ls.size = nL) (hW : (rest.map fun v => v.category).sum ≤ 8) (hR : 2 + 1 ≤ R.frames ∧ 8 + (2 + 11) + 44 ≤ R.locals) (hR2 : cells ≤ R.cells ∧ slots ≤ R.slots) (hdg : decode cc pc = .ok (.invokevirtual 223, 3)) (kk : ∀ (H1 : Heap) (locs1 : List Loc), SS X t' H0 H1 locs1 → W p l e R s m args below meth c H1 locs1 cells slots Q (F0 m (pc + 3) ls (rest))) : W p l e R s m args below meth c H locs cells slots Q (F0 m pc ls (.int x1 :: .ref (X.2.1 h0) :: rest)) :=
  xVv B hS (kX3_letIn l X t h0 e0 x1 t' hM) (tw_3 109 rfl rfl) (tw_3 110 rfl rfl) (tw_3 111 rfl rfl) (tw_1 4 rfl rfl) (tw_3 112 rfl rfl) mdX3_letIn (hall_lt e0) (ceX3 e0 _) rfl rfl rfl hsz rfl hW hR hR2 hdg kk
end QX10_join
set_option maxHeartbeats 4000000 in
set_option maxRecDepth 100000 in
theorem kX10_join (l : Launch) (X : Cx) (t : St) (x1 : Int32) (r : Int32) (t' : St) (hrun : fX10_join t x1 = some (r, t')) : Ci l X t yX10_join cX10_join 2 .int 3 102 [.ref (X.2.1 0), .int x1] r t' := by
  refine Ci_of (by decide) (Nat.le_of_ble_eq_true rfl) ?_
  intro p e s m args below meth c Q B hret hS ls hl
  have hx := B.1
  have hb := B.2.1
  have hown := B.2.2.2.1
  have hts := B.2.2.2.2.1
  have hl : lv_has ls 2 [(0, .ref (X.2.1 0)), (1, .int x1)] := hl
  unfold fX10_join at hrun
  refine lv_aload_n hx hb dX10_join_0 rfl (lv_at hl 0 rfl) ?_
  refine gX10_28 B hS dX10_join_1 ?_
  refine lv_iload_n hx hb dX10_join_4 rfl (lv_at hl 1 rfl) ?_
  obtain ⟨r_2, hc_1, hrun⟩ := bdE hrun
  refine qX10_173 B hS reg_3 hc_1 hl.1 (Nat.le_of_ble_eq_true rfl) ⟨Nat.le_of_ble_eq_true rfl, Nat.le_of_ble_eq_true rfl⟩ ⟨Nat.zero_le _, Nat.zero_le _⟩ dX10_join_5 (fun H locs hS => ?_)
  refine lv_if_ne (tgt := 14) hx hb dX10_join_8 (by decide) (fun hc => ?_) (fun hc => ?_)
  · have hrun := iq hc hrun
    refine lv_aload_n hx hb dX10_join_14 rfl (lv_at hl 0 rfl) ?_
    refine gX10_34 B hS dX10_join_15 ?_
    refine lv_iload_n hx hb dX10_join_18 rfl (lv_at hl 1 rfl) ?_
    obtain ⟨r_4, hc_3, hrun⟩ := bdE hrun
    refine qX10_219 B hS hall_now hc_3 hl.1 (Nat.le_of_ble_eq_true rfl) ⟨Nat.le_of_ble_eq_true rfl, Nat.le_of_ble_eq_true rfl⟩ ⟨Nat.zero_le _, Nat.zero_le _⟩ dX10_join_19 (fun H locs hS => ?_)
    refine lv_if_eq (tgt := 28) hx hb dX10_join_22 (by decide) (fun hc => ?_) (fun hc => ?_)
    · have hrun := ip hc hrun
      refine lv_aload_n hx hb dX10_join_28 rfl (lv_at hl 0 rfl) ?_
      refine gX10_44 B hS dX10_join_29 ?_
      refine lv_aload_n hx hb dX10_join_32 rfl (lv_at hl 0 rfl) ?_
      refine gX10_34 B hS dX10_join_33 ?_
      obtain ⟨t_6, hc_5, hrun⟩ := bdE hrun
      refine qX10_212 B hS hall_now hc_5 hl.1 (Nat.le_of_ble_eq_true rfl) ⟨Nat.le_of_ble_eq_true rfl, Nat.le_of_ble_eq_true rfl⟩ ⟨Nat.zero_le _, Nat.zero_le _⟩ dX10_join_36 (fun H locs hS => ?_)
      refine lv_aload_n hx hb dX10_join_39 rfl (lv_at hl 0 rfl) ?_
      refine gX10_34 B hS dX10_join_40 ?_
      refine lv_iload_n hx hb dX10_join_43 rfl (lv_at hl 1 rfl) ?_
      obtain ⟨t_8, hc_7, hrun⟩ := bdE hrun
      refine qX10_223 B hS hall_now hc_7 hl.1 (Nat.le_of_ble_eq_true rfl) ⟨Nat.le_of_ble_eq_true rfl, Nat.le_of_ble_eq_true rfl⟩ ⟨Nat.zero_le _, Nat.zero_le _⟩ dX10_join_44 (fun H locs hS => ?_)
      refine lv_aload_n hx hb dX10_join_47 rfl (lv_at hl 0 rfl) ?_
      refine gX10_34 B hS dX10_join_48 ?_
      refine gX10_190 B hS hall_now dX10_join_51 ?_
      refine lv_iload_n hx hb dX10_join_54 rfl (lv_at hl 1 rfl) ?_
      obtain ⟨hi_9, hrun⟩ := gdE hrun
      refine xa B hS (iaX3_3 hall_now) hi_9 dX10_join_55 ?_
      exact hret _ _ _ _ _ _ hrun rfl hS dX10_join_56
    · have hrun := iq hc hrun
      refine lv_ldc (v := -1000000003) hx hb hown (hts _ (tw_3 78 rfl rfl)) dX10_join_25 ?_
      exact hret _ _ _ _ _ _ hrun rfl hS dX10_join_27
  · have hrun := ip hc hrun
    refine lv_ldc (v := -1000000001) hx hb hown (hts _ (tw_3 51 rfl rfl)) dX10_join_11 ?_
    exact hret _ _ _ _ _ _ hrun rfl hS dX10_join_13
theorem mdX10_hush : MD yX10_hush 1 := ⟨by decide +kernel, by decide +kernel, by decide +kernel⟩
section QX10_hush
variable {p : Program} {l : Launch} {e : Env} {R : Room} {s : State} {m : MethodId} {args : Array Value} {below : List Frame} {meth : Method} {c : Code} {H : Heap} {locs : List Loc} {cells slots : Nat} {Q : State → Prop}
variable {cc : ByteArray} {pc : Nat} {ls : Array Slot} {rest : List Value} {X : Cx} {t : St} {H0 : Heap} {nL : Nat}
theorem qX10_227 (B : Bx p s m args c cc nL X RX10) (hS : SS X t H0 H locs) {h0 : Nat} (e0 : isHall h0) {x1 : Int32} {t' : St} (hM : fX3_silence h0 t x1 = some t') (hsz : ls.size = nL) (hW : (rest.map fun v => v.category).sum ≤ 8) (hR : 2 + 1 ≤ R.frames ∧ 8 + (3 + 11) + 42 ≤ R.locals) (hR2 : cells ≤ R.cells ∧ slots ≤ R.slots) (hdg : decode cc pc = .ok (.invokevirtual 227, 3)) (kk : ∀ (H1 : Heap) (locs1 : List Loc), SS X t' H0 H1 locs1 → W p l e R s m args below meth c H1 locs1 cells slots Q (F0 m (pc + 3) ls (rest))) : W p l e R s m args below meth c H locs cells slots Q (F0 m pc ls (.int x1 :: .ref (X.2.1 h0) :: rest)) :=
  xVv B hS (kX3_silence l X t h0 e0 x1 t' hM) (tw_3 124 rfl rfl) (tw_3 101 rfl rfl) (tw_3 102 rfl rfl) (tw_1 4 rfl rfl) (tw_3 103 rfl rfl) mdX3_silence (hall_lt e0) (ceX3 e0 _) rfl rfl rfl hsz rfl hW hR hR2 hdg kk
theorem qX10_230 (B : Bx p s m args c cc nL X RX10) (hS : SS X t H0 H locs) {h0 : Nat} (e0 : isHall h0) {x1 : Int32} {r : Int32} (hM : fX3_voicesIn h0 t x1 = some r) (hsz : ls.size = nL) (hW : (rest.map fun v => v.category).sum ≤ 8) (hR : 1 + 1 ≤ R.frames ∧ 8 + (2 + 11) + 23 ≤ R.locals) (hR2 : cells ≤ R.cells ∧ slots ≤ R.slots) (hdg : decode cc pc = .ok (.invokevirtual 230, 3)) (kk : ∀ (H1 : Heap) (locs1 : List Loc), SS X t H0 H1 locs1 → W p l e R s m args below meth c H1 locs1 cells slots Q (F0 m (pc + 3) ls (.int r :: rest))) : W p l e R s m args below meth c H locs cells slots Q (F0 m pc ls (.int x1 :: .ref (X.2.1 h0) :: rest)) :=
  xVi B hS (kX3_voicesIn l X t h0 e0 x1 r hM) (tw_3 125 rfl rfl) (tw_3 114 rfl rfl) (tw_3 115 rfl rfl) (tw_1 4 rfl rfl) (tw_3 116 rfl rfl) mdX3_voicesIn (hall_lt e0) (ceX3 e0 _) rfl rfl rfl hsz rfl hW hR hR2 hdg kk
end QX10_hush
set_option maxHeartbeats 4000000 in
set_option maxRecDepth 100000 in
theorem kX10_hush (l : Launch) (X : Cx) (t : St) (x1 : Int32) (r : Int32) (t' : St) (hrun : fX10_hush t x1 = some (r, t')) : Ci l X t yX10_hush cX10_hush 2 .int 3 102 [.ref (X.2.1 0), .int x1] r t' := by
  refine Ci_of (by decide) (Nat.le_of_ble_eq_true rfl) ?_
  intro p e s m args below meth c Q B hret hS ls hl
  have hx := B.1
  have hb := B.2.1
  have hown := B.2.2.2.1
  have hts := B.2.2.2.2.1
  have hl : lv_has ls 2 [(0, .ref (X.2.1 0)), (1, .int x1)] := hl
  unfold fX10_hush at hrun
  refine lv_aload_n hx hb dX10_hush_0 rfl (lv_at hl 0 rfl) ?_
  refine gX10_28 B hS dX10_hush_1 ?_
  refine lv_iload_n hx hb dX10_hush_4 rfl (lv_at hl 1 rfl) ?_
  obtain ⟨r_2, hc_1, hrun⟩ := bdE hrun
  refine qX10_173 B hS reg_3 hc_1 hl.1 (Nat.le_of_ble_eq_true rfl) ⟨Nat.le_of_ble_eq_true rfl, Nat.le_of_ble_eq_true rfl⟩ ⟨Nat.zero_le _, Nat.zero_le _⟩ dX10_hush_5 (fun H locs hS => ?_)
  refine lv_if_ne (tgt := 14) hx hb dX10_hush_8 (by decide) (fun hc => ?_) (fun hc => ?_)
  · have hrun := iq hc hrun
    refine lv_aload_n hx hb dX10_hush_14 rfl (lv_at hl 0 rfl) ?_
    refine gX10_34 B hS dX10_hush_15 ?_
    refine lv_iload_n hx hb dX10_hush_18 rfl (lv_at hl 1 rfl) ?_
    obtain ⟨r_4, hc_3, hrun⟩ := bdE hrun
    refine qX10_219 B hS hall_now hc_3 hl.1 (Nat.le_of_ble_eq_true rfl) ⟨Nat.le_of_ble_eq_true rfl, Nat.le_of_ble_eq_true rfl⟩ ⟨Nat.zero_le _, Nat.zero_le _⟩ dX10_hush_19 (fun H locs hS => ?_)
    refine lv_if_ne (tgt := 28) hx hb dX10_hush_22 (by decide) (fun hc => ?_) (fun hc => ?_)
    · have hrun := iq hc hrun
      refine lv_aload_n hx hb dX10_hush_28 rfl (lv_at hl 0 rfl) ?_
      refine gX10_44 B hS dX10_hush_29 ?_
      refine lv_aload_n hx hb dX10_hush_32 rfl (lv_at hl 0 rfl) ?_
      refine gX10_34 B hS dX10_hush_33 ?_
      obtain ⟨t_6, hc_5, hrun⟩ := bdE hrun
      refine qX10_212 B hS hall_now hc_5 hl.1 (Nat.le_of_ble_eq_true rfl) ⟨Nat.le_of_ble_eq_true rfl, Nat.le_of_ble_eq_true rfl⟩ ⟨Nat.zero_le _, Nat.zero_le _⟩ dX10_hush_36 (fun H locs hS => ?_)
      refine lv_aload_n hx hb dX10_hush_39 rfl (lv_at hl 0 rfl) ?_
      refine gX10_34 B hS dX10_hush_40 ?_
      refine lv_iload_n hx hb dX10_hush_43 rfl (lv_at hl 1 rfl) ?_
      obtain ⟨t_8, hc_7, hrun⟩ := bdE hrun
      refine qX10_227 B hS hall_now hc_7 hl.1 (Nat.le_of_ble_eq_true rfl) ⟨Nat.le_of_ble_eq_true rfl, Nat.le_of_ble_eq_true rfl⟩ ⟨Nat.zero_le _, Nat.zero_le _⟩ dX10_hush_44 (fun H locs hS => ?_)
      refine lv_aload_n hx hb dX10_hush_47 rfl (lv_at hl 0 rfl) ?_
      refine gX10_34 B hS dX10_hush_48 ?_
      refine lv_aload_n hx hb dX10_hush_51 rfl (lv_at hl 0 rfl) ?_
      refine gX10_34 B hS dX10_hush_52 ?_
      refine gX10_181 B hS hall_now dX10_hush_55 ?_
      refine lv_iload_n hx hb dX10_hush_58 rfl (lv_at hl 1 rfl) ?_
      obtain ⟨hi_9, hrun⟩ := gdE hrun
      refine xa B hS (iaX3_1 hall_now) hi_9 dX10_hush_59 ?_
      obtain ⟨r_11, hc_10, hrun⟩ := bdE hrun
      refine qX10_230 B hS hall_now hc_10 hl.1 (Nat.le_of_ble_eq_true rfl) ⟨Nat.le_of_ble_eq_true rfl, Nat.le_of_ble_eq_true rfl⟩ ⟨Nat.zero_le _, Nat.zero_le _⟩ dX10_hush_60 (fun H locs hS => ?_)
      exact hret _ _ _ _ _ _ hrun rfl hS dX10_hush_63
    · have hrun := ip hc hrun
      refine lv_ldc (v := -1000000003) hx hb hown (hts _ (tw_3 78 rfl rfl)) dX10_hush_25 ?_
      exact hret _ _ _ _ _ _ hrun rfl hS dX10_hush_27
  · have hrun := ip hc hrun
    refine lv_ldc (v := -1000000001) hx hb hown (hts _ (tw_3 51 rfl rfl)) dX10_hush_11 ?_
    exact hret _ _ _ _ _ _ hrun rfl hS dX10_hush_13
theorem mdX10_go : MD yX10_go 2 := ⟨by decide +kernel, by decide +kernel, by decide +kernel⟩
section QX10_go
variable {p : Program} {l : Launch} {e : Env} {R : Room} {s : State} {m : MethodId} {args : Array Value} {below : List Frame} {meth : Method} {c : Code} {H : Heap} {locs : List Loc} {cells slots : Nat} {Q : State → Prop}
variable {cc : ByteArray} {pc : Nat} {ls : Array Slot} {rest : List Value} {X : Cx} {t : St} {H0 : Heap} {nL : Nat}
theorem qX10_233 (B : Bx p s m args c cc nL X RX10) (hS : SS X t H0 H locs) {h0 : Nat} (e0 : isHall h0) {x1 : Int32} {x2 : Int32} {t' : St} (hM : fX3_move h0 t x1 x2 = some t') (hsz : ls.size = nL) (hW : (rest.map fun v => v.category).sum ≤ 8) (hR : 3 + 1 ≤ R.frames ∧ 8 + (3 + 11) + 64 ≤ R.locals) (hR2 : cells ≤ R.cells ∧ slots ≤ R.slots) (hdg : decode cc pc = .ok (.invokevirtual 233, 3)) (kk : ∀ (H1 : Heap) (locs1 : List Loc), SS X t' H0 H1 locs1 → W p l e R s m args below meth c H1 locs1 cells slots Q (F0 m (pc + 3) ls (rest))) : W p l e R s m args below meth c H locs cells slots Q (F0 m pc ls (.int x2 :: .int x1 :: .ref (X.2.1 h0) :: rest)) :=
  xVv B hS (kX3_move l X t h0 e0 x1 x2 t' hM) (tw_3 130 rfl rfl) (tw_3 131 rfl rfl) (tw_3 132 rfl rfl) (tw_1 4 rfl rfl) (tw_3 133 rfl rfl) mdX3_move (hall_lt e0) (ceX3 e0 _) rfl rfl rfl hsz rfl hW hR hR2 hdg kk
end QX10_go
set_option maxHeartbeats 4000000 in
set_option maxRecDepth 100000 in
theorem kX10_go (l : Launch) (X : Cx) (t : St) (x1 : Int32) (x2 : Int32) (r : Int32) (t' : St) (hrun : fX10_go t x1 x2 = some (r, t')) : Ci l X t yX10_go cX10_go 4 .int 4 102 [.ref (X.2.1 0), .int x1, .int x2] r t' := by
  refine Ci_of (by decide) (Nat.le_of_ble_eq_true rfl) ?_
  intro p e s m args below meth c Q B hret hS ls hl
  have hx := B.1
  have hb := B.2.1
  have hown := B.2.2.2.1
  have hts := B.2.2.2.2.1
  have hl : lv_has ls 4 [(0, .ref (X.2.1 0)), (1, .int x1), (2, .int x2)] := hl
  unfold fX10_go at hrun
  refine lv_aload_n hx hb dX10_go_0 rfl (lv_at hl 0 rfl) ?_
  refine gX10_28 B hS dX10_go_1 ?_
  refine lv_iload_n hx hb dX10_go_4 rfl (lv_at hl 1 rfl) ?_
  obtain ⟨r_2, hc_1, hrun⟩ := bdE hrun
  refine qX10_173 B hS reg_3 hc_1 hl.1 (Nat.le_of_ble_eq_true rfl) ⟨Nat.le_of_ble_eq_true rfl, Nat.le_of_ble_eq_true rfl⟩ ⟨Nat.zero_le _, Nat.zero_le _⟩ dX10_go_5 (fun H locs hS => ?_)
  refine lv_if_eq (tgt := 22) hx hb dX10_go_8 (by decide) (fun hc => ?_) (fun hc => ?_)
  · have hrun := ip hc hrun
    refine lv_ldc (v := -1000000001) hx hb hown (hts _ (tw_3 51 rfl rfl)) dX10_go_22 ?_
    exact hret _ _ _ _ _ _ hrun rfl hS dX10_go_24
  · have hrun := iq hc hrun
    refine lv_aload_n hx hb dX10_go_11 rfl (lv_at hl 0 rfl) ?_
    refine gX10_28 B hS dX10_go_12 ?_
    refine lv_iload_n hx hb dX10_go_15 rfl (lv_at hl 2 rfl) ?_
    obtain ⟨r_4, hc_3, hrun⟩ := bdE hrun
    refine qX10_197 B hS reg_3 hc_3 hl.1 (Nat.le_of_ble_eq_true rfl) ⟨Nat.le_of_ble_eq_true rfl, Nat.le_of_ble_eq_true rfl⟩ ⟨Nat.zero_le _, Nat.zero_le _⟩ dX10_go_16 (fun H locs hS => ?_)
    refine lv_if_ne (tgt := 25) hx hb dX10_go_19 (by decide) (fun hc => ?_) (fun hc => ?_)
    · have hrun := iq hc hrun
      refine lv_aload_n hx hb dX10_go_25 rfl (lv_at hl 0 rfl) ?_
      refine gX10_34 B hS dX10_go_26 ?_
      refine gX10_181 B hS hall_now dX10_go_29 ?_
      refine lv_iload_n hx hb dX10_go_32 rfl (lv_at hl 1 rfl) ?_
      obtain ⟨hi_5, hrun⟩ := gdE hrun
      refine xa B hS (iaX3_1 hall_now) hi_5 dX10_go_33 ?_
      refine lv_topi (fun x3_6 ex => ?_)
      obtain ⟨z, ez, hrun⟩ := bsE hrun
      obtain rfl : x3_6 = z := ex.trans ez.symm
      clear ex ez
      refine lv_istore_n (lv' := [(3, .int x3_6), (0, .ref (X.2.1 0)), (1, .int x1), (2, .int x2)]) hx hb dX10_go_34 rfl hl (by decide) rfl (fun ls hl => ?_)
      refine lv_iload_n hx hb dX10_go_35 rfl (lv_at hl 0 rfl) ?_
      refine lv_iload_n hx hb dX10_go_36 rfl (lv_at hl 3 rfl) ?_
      refine lv_icmp_ne (tgt := 43) hx hb dX10_go_37 (by decide) (fun hc => ?_) (fun hc => ?_)
      · have hrun := iq hc hrun
        refine lv_aload_n hx hb dX10_go_43 rfl (lv_at hl 1 rfl) ?_
        refine gX10_44 B hS dX10_go_44 ?_
        refine lv_aload_n hx hb dX10_go_47 rfl (lv_at hl 1 rfl) ?_
        refine gX10_34 B hS dX10_go_48 ?_
        obtain ⟨t_8, hc_7, hrun⟩ := bdE hrun
        refine qX10_212 B hS hall_now hc_7 hl.1 (Nat.le_of_ble_eq_true rfl) ⟨Nat.le_of_ble_eq_true rfl, Nat.le_of_ble_eq_true rfl⟩ ⟨Nat.zero_le _, Nat.zero_le _⟩ dX10_go_51 (fun H locs hS => ?_)
        refine lv_aload_n hx hb dX10_go_54 rfl (lv_at hl 1 rfl) ?_
        refine gX10_34 B hS dX10_go_55 ?_
        refine lv_iload_n hx hb dX10_go_58 rfl (lv_at hl 2 rfl) ?_
        refine lv_iload_n hx hb dX10_go_59 rfl (lv_at hl 3 rfl) ?_
        obtain ⟨t_10, hc_9, hrun⟩ := bdE hrun
        refine qX10_233 B hS hall_now hc_9 hl.1 (Nat.le_of_ble_eq_true rfl) ⟨Nat.le_of_ble_eq_true rfl, Nat.le_of_ble_eq_true rfl⟩ ⟨Nat.zero_le _, Nat.zero_le _⟩ dX10_go_60 (fun H locs hS => ?_)
        refine lv_iload_n hx hb dX10_go_63 rfl (lv_at hl 0 rfl) ?_
        exact hret _ _ _ _ _ _ hrun rfl hS dX10_go_64
      · have hrun := ip hc hrun
        refine lv_ldc (v := -1000000003) hx hb hown (hts _ (tw_3 78 rfl rfl)) dX10_go_40 ?_
        exact hret _ _ _ _ _ _ hrun rfl hS dX10_go_42
    · have hrun := ip hc hrun
      refine lv_ldc (v := -1000000001) hx hb hown (hts _ (tw_3 51 rfl rfl)) dX10_go_22 ?_
      exact hret _ _ _ _ _ _ hrun rfl hS dX10_go_24
theorem mdX10_give : MD yX10_give 2 := ⟨by decide +kernel, by decide +kernel, by decide +kernel⟩
section QX10_give
variable {p : Program} {l : Launch} {e : Env} {R : Room} {s : State} {m : MethodId} {args : Array Value} {below : List Frame} {meth : Method} {c : Code} {H : Heap} {locs : List Loc} {cells slots : Nat} {Q : State → Prop}
variable {cc : ByteArray} {pc : Nat} {ls : Array Slot} {rest : List Value} {X : Cx} {t : St} {H0 : Heap} {nL : Nat}
theorem qX10_237 (B : Bx p s m args c cc nL X RX10) (hS : SS X t H0 H locs) {h0 : Nat} (e0 : isHall h0) {x1 : Int32} {x2 : Int32} {t' : St} (hM : fX3_fill h0 t x1 x2 = some t') (hsz : ls.size = nL) (hW : (rest.map fun v => v.category).sum ≤ 8) (hR : 1 + 1 ≤ R.frames ∧ 8 + (3 + 11) + 24 ≤ R.locals) (hR2 : cells ≤ R.cells ∧ slots ≤ R.slots) (hdg : decode cc pc = .ok (.invokevirtual 237, 3)) (kk : ∀ (H1 : Heap) (locs1 : List Loc), SS X t' H0 H1 locs1 → W p l e R s m args below meth c H1 locs1 cells slots Q (F0 m (pc + 3) ls (rest))) : W p l e R s m args below meth c H locs cells slots Q (F0 m pc ls (.int x2 :: .int x1 :: .ref (X.2.1 h0) :: rest)) :=
  xVv B hS (kX3_fill l X t h0 e0 x1 x2 t' hM) (tw_3 138 rfl rfl) (tw_3 139 rfl rfl) (tw_3 140 rfl rfl) (tw_1 4 rfl rfl) (tw_3 141 rfl rfl) mdX3_fill (hall_lt e0) (ceX3 e0 _) rfl rfl rfl hsz rfl hW hR hR2 hdg kk
end QX10_give
set_option maxHeartbeats 4000000 in
set_option maxRecDepth 100000 in
theorem kX10_give (l : Launch) (X : Cx) (t : St) (x1 : Int32) (x2 : Int32) (r : Int32) (t' : St) (hrun : fX10_give t x1 x2 = some (r, t')) : Ci l X t yX10_give cX10_give 3 .int 3 102 [.ref (X.2.1 0), .int x1, .int x2] r t' := by
  refine Ci_of (by decide) (Nat.le_of_ble_eq_true rfl) ?_
  intro p e s m args below meth c Q B hret hS ls hl
  have hx := B.1
  have hb := B.2.1
  have hown := B.2.2.2.1
  have hts := B.2.2.2.2.1
  have hl : lv_has ls 3 [(0, .ref (X.2.1 0)), (1, .int x1), (2, .int x2)] := hl
  unfold fX10_give at hrun
  refine lv_aload_n hx hb dX10_give_0 rfl (lv_at hl 0 rfl) ?_
  refine gX10_28 B hS dX10_give_1 ?_
  refine lv_iload_n hx hb dX10_give_4 rfl (lv_at hl 1 rfl) ?_
  obtain ⟨r_2, hc_1, hrun⟩ := bdE hrun
  refine qX10_173 B hS reg_3 hc_1 hl.1 (Nat.le_of_ble_eq_true rfl) ⟨Nat.le_of_ble_eq_true rfl, Nat.le_of_ble_eq_true rfl⟩ ⟨Nat.zero_le _, Nat.zero_le _⟩ dX10_give_5 (fun H locs hS => ?_)
  refine lv_if_ne (tgt := 14) hx hb dX10_give_8 (by decide) (fun hc => ?_) (fun hc => ?_)
  · have hrun := iq hc hrun
    refine lv_iload_n hx hb dX10_give_14 rfl (lv_at hl 2 rfl) ?_
    refine lv_iconst (v := 1) hx hb dX10_give_15 (by decide) ?_
    refine lv_icmp_lt (tgt := 26) hx hb dX10_give_16 (by decide) (fun hc => ?_) (fun hc => ?_)
    · have hrun := ip hc hrun
      refine lv_ldc (v := -1000000002) hx hb hown (hts _ (tw_2 105 rfl rfl)) dX10_give_26 ?_
      exact hret _ _ _ _ _ _ hrun rfl hS dX10_give_28
    · have hrun := iq hc hrun
      refine lv_iload_n hx hb dX10_give_19 rfl (lv_at hl 2 rfl) ?_
      refine lv_sipush (v := 999) hx hb dX10_give_20 (by decide) ?_
      refine lv_icmp_le (tgt := 29) hx hb dX10_give_23 (by decide) (fun hc => ?_) (fun hc => ?_)
      · have hrun := ip hc hrun
        refine lv_aload_n hx hb dX10_give_29 rfl (lv_at hl 0 rfl) ?_
        refine gX10_44 B hS dX10_give_30 ?_
        refine lv_aload_n hx hb dX10_give_33 rfl (lv_at hl 0 rfl) ?_
        refine gX10_34 B hS dX10_give_34 ?_
        obtain ⟨t_4, hc_3, hrun⟩ := bdE hrun
        refine qX10_212 B hS hall_now hc_3 hl.1 (Nat.le_of_ble_eq_true rfl) ⟨Nat.le_of_ble_eq_true rfl, Nat.le_of_ble_eq_true rfl⟩ ⟨Nat.zero_le _, Nat.zero_le _⟩ dX10_give_37 (fun H locs hS => ?_)
        refine lv_aload_n hx hb dX10_give_40 rfl (lv_at hl 0 rfl) ?_
        refine gX10_34 B hS dX10_give_41 ?_
        refine lv_iload_n hx hb dX10_give_44 rfl (lv_at hl 1 rfl) ?_
        refine lv_iload_n hx hb dX10_give_45 rfl (lv_at hl 2 rfl) ?_
        obtain ⟨t_6, hc_5, hrun⟩ := bdE hrun
        refine qX10_237 B hS hall_now hc_5 hl.1 (Nat.le_of_ble_eq_true rfl) ⟨Nat.le_of_ble_eq_true rfl, Nat.le_of_ble_eq_true rfl⟩ ⟨Nat.zero_le _, Nat.zero_le _⟩ dX10_give_46 (fun H locs hS => ?_)
        refine lv_aload_n hx hb dX10_give_49 rfl (lv_at hl 0 rfl) ?_
        refine gX10_34 B hS dX10_give_50 ?_
        refine gX10_184 B hS hall_now dX10_give_53 ?_
        refine lv_iload_n hx hb dX10_give_56 rfl (lv_at hl 1 rfl) ?_
        obtain ⟨hi_7, hrun⟩ := gdE hrun
        refine xa B hS (iaX3_2 hall_now) hi_7 dX10_give_57 ?_
        exact hret _ _ _ _ _ _ hrun rfl hS dX10_give_58
      · have hrun := iq hc hrun
        refine lv_ldc (v := -1000000002) hx hb hown (hts _ (tw_2 105 rfl rfl)) dX10_give_26 ?_
        exact hret _ _ _ _ _ _ hrun rfl hS dX10_give_28
  · have hrun := ip hc hrun
    refine lv_ldc (v := -1000000001) hx hb hown (hts _ (tw_3 51 rfl rfl)) dX10_give_11 ?_
    exact hret _ _ _ _ _ _ hrun rfl hS dX10_give_13
theorem mdX10_rate : MD yX10_rate 1 := ⟨by decide +kernel, by decide +kernel, by decide +kernel⟩
set_option maxHeartbeats 4000000 in
set_option maxRecDepth 100000 in
theorem kX10_rate (l : Launch) (X : Cx) (t : St) (x1 : Int32) (r : Int32) (t' : St) (hrun : fX10_rate t x1 = some (r, t')) : Ci l X t yX10_rate cX10_rate 3 .int 3 102 [.ref (X.2.1 0), .int x1] r t' := by
  refine Ci_of (by decide) (Nat.le_of_ble_eq_true rfl) ?_
  intro p e s m args below meth c Q B hret hS ls hl
  have hx := B.1
  have hb := B.2.1
  have hown := B.2.2.2.1
  have hts := B.2.2.2.2.1
  have hl : lv_has ls 3 [(0, .ref (X.2.1 0)), (1, .int x1)] := hl
  unfold fX10_rate at hrun
  refine lv_iload_n hx hb dX10_rate_0 rfl (lv_at hl 1 rfl) ?_
  refine lv_iconst (v := 1) hx hb dX10_rate_1 (by decide) ?_
  refine lv_icmp_lt (tgt := 11) hx hb dX10_rate_2 (by decide) (fun hc => ?_) (fun hc => ?_)
  · have hrun := ip hc hrun
    refine lv_ldc (v := -1000000002) hx hb hown (hts _ (tw_2 105 rfl rfl)) dX10_rate_11 ?_
    exact hret _ _ _ _ _ _ hrun rfl hS dX10_rate_13
  · have hrun := iq hc hrun
    refine lv_iload_n hx hb dX10_rate_5 rfl (lv_at hl 1 rfl) ?_
    refine lv_bipush (v := 9) hx hb dX10_rate_6 (by decide) ?_
    refine lv_icmp_le (tgt := 14) hx hb dX10_rate_8 (by decide) (fun hc => ?_) (fun hc => ?_)
    · have hrun := ip hc hrun
      refine lv_aload_n hx hb dX10_rate_14 rfl (lv_at hl 0 rfl) ?_
      refine gX10_28 B hS dX10_rate_15 ?_
      obtain ⟨r_2, hc_1, hrun⟩ := bdE hrun
      refine qX10_240 B hS reg_3 hc_1 hl.1 (Nat.le_of_ble_eq_true rfl) ⟨Nat.le_of_ble_eq_true rfl, Nat.le_of_ble_eq_true rfl⟩ ⟨Nat.zero_le _, Nat.zero_le _⟩ dX10_rate_18 (fun H locs hS => ?_)
      refine lv_if_eq (tgt := 27) hx hb dX10_rate_21 (by decide) (fun hc => ?_) (fun hc => ?_)
      · have hrun := ip hc hrun
        refine lv_aload_n hx hb dX10_rate_27 rfl (lv_at hl 0 rfl) ?_
        refine gX10_34 B hS dX10_rate_28 ?_
        refine gX10_123 B hS hall_now dX10_rate_31 ?_
        refine lv_topi (fun x2_3 ex => ?_)
        obtain ⟨z, ez, hrun⟩ := bsE hrun
        obtain rfl : x2_3 = z := ex.trans ez.symm
        clear ex ez
        refine lv_istore_n (lv' := [(2, .int x2_3), (0, .ref (X.2.1 0)), (1, .int x1)]) hx hb dX10_rate_34 rfl hl (by decide) rfl (fun ls hl => ?_)
        refine lv_aload_n hx hb dX10_rate_35 rfl (lv_at hl 1 rfl) ?_
        refine gX10_44 B hS dX10_rate_36 ?_
        refine lv_aload_n hx hb dX10_rate_39 rfl (lv_at hl 1 rfl) ?_
        refine gX10_34 B hS dX10_rate_40 ?_
        obtain ⟨t_5, hc_4, hrun⟩ := bdE hrun
        refine qX10_212 B hS hall_now hc_4 hl.1 (Nat.le_of_ble_eq_true rfl) ⟨Nat.le_of_ble_eq_true rfl, Nat.le_of_ble_eq_true rfl⟩ ⟨Nat.zero_le _, Nat.zero_le _⟩ dX10_rate_43 (fun H locs hS => ?_)
        refine lv_aload_n hx hb dX10_rate_46 rfl (lv_at hl 1 rfl) ?_
        refine gX10_34 B hS dX10_rate_47 ?_
        refine lv_iload_n hx hb dX10_rate_50 rfl (lv_at hl 2 rfl) ?_
        refine pX10_123 B hS hall_now dX10_rate_51 (fun H locs hS => ?_)
        obtain ⟨t_6, et, hrun⟩ := bsE hrun
        have hS : SS X t_6 s.heap H locs := by rw [et]; exact hS
        clear et
        refine lv_iload_n hx hb dX10_rate_54 rfl (lv_at hl 0 rfl) ?_
        exact hret _ _ _ _ _ _ hrun rfl hS dX10_rate_55
      · have hrun := iq hc hrun
        refine lv_ldc (v := -1000000003) hx hb hown (hts _ (tw_3 78 rfl rfl)) dX10_rate_24 ?_
        exact hret _ _ _ _ _ _ hrun rfl hS dX10_rate_26
    · have hrun := iq hc hrun
      refine lv_ldc (v := -1000000002) hx hb hown (hts _ (tw_2 105 rfl rfl)) dX10_rate_11 ?_
      exact hret _ _ _ _ _ _ hrun rfl hS dX10_rate_13
theorem mdX10_inspect : MD yX10_inspect 2 := ⟨by decide +kernel, by decide +kernel, by decide +kernel⟩
section QX10_inspect
variable {p : Program} {l : Launch} {e : Env} {R : Room} {s : State} {m : MethodId} {args : Array Value} {below : List Frame} {meth : Method} {c : Code} {H : Heap} {locs : List Loc} {cells slots : Nat} {Q : State → Prop}
variable {cc : ByteArray} {pc : Nat} {ls : Array Slot} {rest : List Value} {X : Cx} {t : St} {H0 : Heap} {nL : Nat}
theorem qX10_244 (B : Bx p s m args c cc nL X RX10) (hS : SS X t H0 H locs) {h0 : Nat} (e0 : isReg h0) {x1 : Int32} {r : Int32} (hM : fX8_hasInspector h0 t x1 = some r) (hsz : ls.size = nL) (hW : (rest.map fun v => v.category).sum ≤ 8) (hR : 0 + 1 ≤ R.frames ∧ 8 + (2 + 11) + 0 ≤ R.locals) (hR2 : cells ≤ R.cells ∧ slots ≤ R.slots) (hdg : decode cc pc = .ok (.invokevirtual 244, 3)) (kk : ∀ (H1 : Heap) (locs1 : List Loc), SS X t H0 H1 locs1 → W p l e R s m args below meth c H1 locs1 cells slots Q (F0 m (pc + 3) ls (.int r :: rest))) : W p l e R s m args below meth c H locs cells slots Q (F0 m pc ls (.int x1 :: .ref (X.2.1 h0) :: rest)) :=
  xVi B hS (kX8_hasInspector l X t h0 e0 x1 r hM) (tw_3 150 rfl rfl) (tw_3 151 rfl rfl) (tw_3 152 rfl rfl) (tw_1 2 rfl rfl) (tw_3 153 rfl rfl) mdX8_hasInspector (reg_lt e0) (ceX8 e0 _) rfl rfl rfl hsz rfl hW hR hR2 hdg kk
end QX10_inspect
set_option maxHeartbeats 4000000 in
set_option maxRecDepth 100000 in
theorem kX10_inspect (l : Launch) (X : Cx) (t : St) (x1 : Int32) (x2 : Int32) (r : Int32) (t' : St) (hrun : fX10_inspect t x1 x2 = some (r, t')) : Ci l X t yX10_inspect cX10_inspect 4 .int 3 102 [.ref (X.2.1 0), .int x1, .int x2] r t' := by
  refine Ci_of (by decide) (Nat.le_of_ble_eq_true rfl) ?_
  intro p e s m args below meth c Q B hret hS ls hl
  have hx := B.1
  have hb := B.2.1
  have hown := B.2.2.2.1
  have hts := B.2.2.2.2.1
  have hl : lv_has ls 4 [(0, .ref (X.2.1 0)), (1, .int x1), (2, .int x2)] := hl
  unfold fX10_inspect at hrun
  refine lv_aload_n hx hb dX10_inspect_0 rfl (lv_at hl 0 rfl) ?_
  refine gX10_28 B hS dX10_inspect_1 ?_
  refine lv_iload_n hx hb dX10_inspect_4 rfl (lv_at hl 1 rfl) ?_
  obtain ⟨r_2, hc_1, hrun⟩ := bdE hrun
  refine qX10_244 B hS reg_3 hc_1 hl.1 (Nat.le_of_ble_eq_true rfl) ⟨Nat.le_of_ble_eq_true rfl, Nat.le_of_ble_eq_true rfl⟩ ⟨Nat.zero_le _, Nat.zero_le _⟩ dX10_inspect_5 (fun H locs hS => ?_)
  refine lv_if_eq (tgt := 22) hx hb dX10_inspect_8 (by decide) (fun hc => ?_) (fun hc => ?_)
  · have hrun := ip hc hrun
    refine lv_ldc (v := -1000000001) hx hb hown (hts _ (tw_3 51 rfl rfl)) dX10_inspect_22 ?_
    exact hret _ _ _ _ _ _ hrun rfl hS dX10_inspect_24
  · have hrun := iq hc hrun
    refine lv_aload_n hx hb dX10_inspect_11 rfl (lv_at hl 0 rfl) ?_
    refine gX10_28 B hS dX10_inspect_12 ?_
    refine lv_iload_n hx hb dX10_inspect_15 rfl (lv_at hl 2 rfl) ?_
    obtain ⟨r_4, hc_3, hrun⟩ := bdE hrun
    refine qX10_197 B hS reg_3 hc_3 hl.1 (Nat.le_of_ble_eq_true rfl) ⟨Nat.le_of_ble_eq_true rfl, Nat.le_of_ble_eq_true rfl⟩ ⟨Nat.zero_le _, Nat.zero_le _⟩ dX10_inspect_16 (fun H locs hS => ?_)
    refine lv_if_ne (tgt := 25) hx hb dX10_inspect_19 (by decide) (fun hc => ?_) (fun hc => ?_)
    · have hrun := iq hc hrun
      refine lv_aload_n hx hb dX10_inspect_25 rfl (lv_at hl 0 rfl) ?_
      refine gX10_34 B hS dX10_inspect_26 ?_
      refine gX10_247 B hS hall_now dX10_inspect_29 ?_
      refine lv_iload_n hx hb dX10_inspect_32 rfl (lv_at hl 1 rfl) ?_
      obtain ⟨hi_5, hrun⟩ := gdE hrun
      refine xa B hS (iaX3_4 hall_now) hi_5 dX10_inspect_33 ?_
      refine lv_topi (fun x3_6 ex => ?_)
      obtain ⟨z, ez, hrun⟩ := bsE hrun
      obtain rfl : x3_6 = z := ex.trans ez.symm
      clear ex ez
      refine lv_istore_n (lv' := [(3, .int x3_6), (0, .ref (X.2.1 0)), (1, .int x1), (2, .int x2)]) hx hb dX10_inspect_34 rfl hl (by decide) rfl (fun ls hl => ?_)
      refine lv_iload_n hx hb dX10_inspect_35 rfl (lv_at hl 0 rfl) ?_
      refine lv_iload_n hx hb dX10_inspect_36 rfl (lv_at hl 3 rfl) ?_
      refine lv_icmp_ne (tgt := 43) hx hb dX10_inspect_37 (by decide) (fun hc => ?_) (fun hc => ?_)
      · have hrun := iq hc hrun
        refine lv_aload_n hx hb dX10_inspect_43 rfl (lv_at hl 1 rfl) ?_
        refine gX10_44 B hS dX10_inspect_44 ?_
        refine lv_aload_n hx hb dX10_inspect_47 rfl (lv_at hl 1 rfl) ?_
        refine gX10_34 B hS dX10_inspect_48 ?_
        obtain ⟨t_8, hc_7, hrun⟩ := bdE hrun
        refine qX10_212 B hS hall_now hc_7 hl.1 (Nat.le_of_ble_eq_true rfl) ⟨Nat.le_of_ble_eq_true rfl, Nat.le_of_ble_eq_true rfl⟩ ⟨Nat.zero_le _, Nat.zero_le _⟩ dX10_inspect_51 (fun H locs hS => ?_)
        refine lv_aload_n hx hb dX10_inspect_54 rfl (lv_at hl 1 rfl) ?_
        refine gX10_34 B hS dX10_inspect_55 ?_
        refine gX10_247 B hS hall_now dX10_inspect_58 ?_
        refine lv_iload_n hx hb dX10_inspect_61 rfl (lv_at hl 2 rfl) ?_
        refine lv_iload_n hx hb dX10_inspect_62 rfl (lv_at hl 3 rfl) ?_
        obtain ⟨hi_9, hrun⟩ := gdE hrun
        refine xs B hS (iaX3_4 hall_now) hi_9 dX10_inspect_63 (fun H locs hS => ?_)
        obtain ⟨t_10, et, hrun⟩ := bsE hrun
        have hS : SS X t_10 s.heap H locs := by rw [et]; exact hS
        clear et
        refine lv_iload_n hx hb dX10_inspect_64 rfl (lv_at hl 0 rfl) ?_
        exact hret _ _ _ _ _ _ hrun rfl hS dX10_inspect_65
      · have hrun := ip hc hrun
        refine lv_ldc (v := -1000000003) hx hb hown (hts _ (tw_3 78 rfl rfl)) dX10_inspect_40 ?_
        exact hret _ _ _ _ _ _ hrun rfl hS dX10_inspect_42
    · have hrun := ip hc hrun
      refine lv_ldc (v := -1000000001) hx hb hown (hts _ (tw_3 51 rfl rfl)) dX10_inspect_22 ?_
      exact hret _ _ _ _ _ _ hrun rfl hS dX10_inspect_24
theorem mdX10_sendByDraws : MD yX10_sendByDraws 0 := ⟨by decide +kernel, by decide +kernel, by decide +kernel⟩
section QX10_sendByDraws
variable {p : Program} {l : Launch} {e : Env} {R : Room} {s : State} {m : MethodId} {args : Array Value} {below : List Frame} {meth : Method} {c : Code} {H : Heap} {locs : List Loc} {cells slots : Nat} {Q : State → Prop}
variable {cc : ByteArray} {pc : Nat} {ls : Array Slot} {rest : List Value} {X : Cx} {t : St} {H0 : Heap} {nL : Nat}
theorem qX10_342 (B : Bx p s m args c cc nL X RX10) (hS : SS X t H0 H locs) {x1 : Int32} {r : Int32} {t' : St} (hM : fX1_draw t x1 = some (r, t')) (hsz : ls.size = nL) (hW : (rest.map fun v => v.category).sum ≤ 8) (hR : 0 + 1 ≤ R.frames ∧ 8 + (2 + 11) + 0 ≤ R.locals) (hR2 : cells ≤ R.cells ∧ slots ≤ R.slots) (hdg : decode cc pc = .ok (.invokevirtual 342, 3)) (kk : ∀ (H1 : Heap) (locs1 : List Loc), SS X t' H0 H1 locs1 → W p l e R s m args below meth c H1 locs1 cells slots Q (F0 m (pc + 3) ls (.int r :: rest))) : W p l e R s m args below meth c H locs cells slots Q (F0 m pc ls (.int x1 :: .ref (X.2.1 43) :: rest)) :=
  xVi B hS (kX1_draw l X t x1 r t' hM) (tw_3 162 rfl rfl) (tw_3 163 rfl rfl) (tw_3 164 rfl rfl) (tw_1 11 rfl rfl) (tw_3 165 rfl rfl) mdX1_draw (by decide) (ceX1 _) rfl rfl rfl hsz rfl hW hR hR2 hdg kk
end QX10_sendByDraws
set_option maxHeartbeats 4000000 in
set_option maxRecDepth 100000 in
theorem kX10_sendByDraws (l : Launch) (X : Cx) (t : St) (t' : St) (hrun : fX10_sendByDraws t = some t') : Cv l X t yX10_sendByDraws cX10_sendByDraws 3 1 21 [.ref (X.2.1 0)] t' := by
  refine Cv_of (by decide) (Nat.le_of_ble_eq_true rfl) ?_
  intro p e s m args below meth c Q B hret hS ls hl
  have hx := B.1
  have hb := B.2.1
  have hown := B.2.2.2.1
  have hts := B.2.2.2.2.1
  have hl : lv_has ls 3 [(0, .ref (X.2.1 0))] := hl
  unfold fX10_sendByDraws at hrun
  refine lv_aload_n hx hb dX10_sendByDraws_0 rfl (lv_at hl 0 rfl) ?_
  refine gX10_28 B hS dX10_sendByDraws_1 ?_
  refine gX10_132 B hS reg_3 dX10_sendByDraws_4 ?_
  refine lv_if_ne (tgt := 11) hx hb dX10_sendByDraws_7 (by decide) (fun hc => ?_) (fun hc => ?_)
  · have hrun := iq hc hrun
    refine lv_aload_n hx hb dX10_sendByDraws_11 rfl (lv_at hl 0 rfl) ?_
    refine gX10_83 B hS dX10_sendByDraws_12 ?_
    refine lv_aload_n hx hb dX10_sendByDraws_15 rfl (lv_at hl 0 rfl) ?_
    refine gX10_28 B hS dX10_sendByDraws_16 ?_
    refine gX10_132 B hS reg_3 dX10_sendByDraws_19 ?_
    obtain ⟨r_2, t_3, hc_1, hrun⟩ := bd2E hrun
    refine qX10_342 B hS hc_1 hl.1 (Nat.le_of_ble_eq_true rfl) ⟨Nat.le_of_ble_eq_true rfl, Nat.le_of_ble_eq_true rfl⟩ ⟨Nat.zero_le _, Nat.zero_le _⟩ dX10_sendByDraws_22 (fun H locs hS => ?_)
    refine lv_istore_n (lv' := [(1, .int r_2), (0, .ref (X.2.1 0))]) hx hb dX10_sendByDraws_25 rfl hl (by decide) rfl (fun ls hl => ?_)
    refine lv_aload_n hx hb dX10_sendByDraws_26 rfl (lv_at hl 1 rfl) ?_
    refine gX10_83 B hS dX10_sendByDraws_27 ?_
    refine lv_aload_n hx hb dX10_sendByDraws_30 rfl (lv_at hl 1 rfl) ?_
    refine gX10_28 B hS dX10_sendByDraws_31 ?_
    refine gX10_126 B hS reg_3 dX10_sendByDraws_34 ?_
    obtain ⟨r_5, t_6, hc_4, hrun⟩ := bd2E hrun
    refine qX10_342 B hS hc_4 hl.1 (Nat.le_of_ble_eq_true rfl) ⟨Nat.le_of_ble_eq_true rfl, Nat.le_of_ble_eq_true rfl⟩ ⟨Nat.zero_le _, Nat.zero_le _⟩ dX10_sendByDraws_37 (fun H locs hS => ?_)
    refine lv_istore_n (lv' := [(2, .int r_5), (1, .int r_2), (0, .ref (X.2.1 0))]) hx hb dX10_sendByDraws_40 rfl hl (by decide) rfl (fun ls hl => ?_)
    refine lv_aload_n hx hb dX10_sendByDraws_41 rfl (lv_at hl 2 rfl) ?_
    refine gX10_28 B hS dX10_sendByDraws_42 ?_
    refine lv_iload_n hx hb dX10_sendByDraws_45 rfl (lv_at hl 1 rfl) ?_
    obtain ⟨r_8, hc_7, hrun⟩ := bdE hrun
    refine qX10_244 B hS reg_3 hc_7 hl.1 (Nat.le_of_ble_eq_true rfl) ⟨Nat.le_of_ble_eq_true rfl, Nat.le_of_ble_eq_true rfl⟩ ⟨Nat.zero_le _, Nat.zero_le _⟩ dX10_sendByDraws_46 (fun H locs hS => ?_)
    refine lv_if_eq (tgt := 62) hx hb dX10_sendByDraws_49 (by decide) (fun hc => ?_) (fun hc => ?_)
    · have hrun := ip hc hrun
      exact hret _ _ _ _ _ hrun hS dX10_sendByDraws_62
    · have hrun := iq hc hrun
      refine lv_aload_n hx hb dX10_sendByDraws_52 rfl (lv_at hl 2 rfl) ?_
      refine gX10_34 B hS dX10_sendByDraws_53 ?_
      refine gX10_247 B hS hall_now dX10_sendByDraws_56 ?_
      refine lv_iload_n hx hb dX10_sendByDraws_59 rfl (lv_at hl 1 rfl) ?_
      refine lv_iload_n hx hb dX10_sendByDraws_60 rfl (lv_at hl 0 rfl) ?_
      obtain ⟨hi_9, hrun⟩ := gdE hrun
      refine xs B hS (iaX3_4 hall_now) hi_9 dX10_sendByDraws_61 (fun H locs hS => ?_)
      obtain ⟨t_10, et, hrun⟩ := bsE hrun
      have hS : SS X t_10 s.heap H locs := by rw [et]; exact hS
      clear et
      exact hret _ _ _ _ _ hrun hS dX10_sendByDraws_62
  · have hrun := ip hc hrun
    exact hret _ _ _ _ _ hrun hS dX10_sendByDraws_10
theorem mdX10_stirByDraws : MD yX10_stirByDraws 0 := ⟨by decide +kernel, by decide +kernel, by decide +kernel⟩
section QX10_stirByDraws
variable {p : Program} {l : Launch} {e : Env} {R : Room} {s : State} {m : MethodId} {args : Array Value} {below : List Frame} {meth : Method} {c : Code} {H : Heap} {locs : List Loc} {cells slots : Nat} {Q : State → Prop}
variable {cc : ByteArray} {pc : Nat} {ls : Array Slot} {rest : List Value} {X : Cx} {t : St} {H0 : Heap} {nL : Nat}
theorem qX10_345 (B : Bx p s m args c cc nL X RX10) (hS : SS X t H0 H locs) {t' : St} (hM : fX10_sendByDraws t = some t') (hsz : ls.size = nL) (hW : (rest.map fun v => v.category).sum ≤ 8) (hR : 1 + 1 ≤ R.frames ∧ 8 + (3 + 11) + 21 ≤ R.locals) (hR2 : cells ≤ R.cells ∧ slots ≤ R.slots) (hdg : decode cc pc = .ok (.invokevirtual 345, 3)) (kk : ∀ (H1 : Heap) (locs1 : List Loc), SS X t' H0 H1 locs1 → W p l e R s m args below meth c H1 locs1 cells slots Q (F0 m (pc + 3) ls (rest))) : W p l e R s m args below meth c H locs cells slots Q (F0 m pc ls (.ref (X.2.1 0) :: rest)) :=
  xVv B hS (kX10_sendByDraws l X t t' hM) (tw_3 170 rfl rfl) (tw_3 172 rfl rfl) (tw_0 13 rfl rfl) (tw_1 1 rfl rfl) (tw_3 173 rfl rfl) mdX10_sendByDraws (by decide) (ceX10 _) rfl rfl rfl hsz rfl hW hR hR2 hdg kk
end QX10_stirByDraws
set_option maxHeartbeats 4000000 in
set_option maxRecDepth 100000 in
theorem kX10_stirByDraws (l : Launch) (X : Cx) (t : St) (t' : St) (hrun : fX10_stirByDraws t = some t') : Cv l X t yX10_stirByDraws cX10_stirByDraws 3 4 86 [.ref (X.2.1 0)] t' := by
  refine Cv_of (by decide) (Nat.le_of_ble_eq_true rfl) ?_
  intro p e s m args below meth c Q B hret hS ls hl
  have hx := B.1
  have hb := B.2.1
  have hown := B.2.2.2.1
  have hts := B.2.2.2.2.1
  have hl : lv_has ls 3 [(0, .ref (X.2.1 0))] := hl
  unfold fX10_stirByDraws at hrun
  refine lv_aload_n hx hb dX10_stirByDraws_0 rfl (lv_at hl 0 rfl) ?_
  refine gX10_28 B hS dX10_stirByDraws_1 ?_
  refine gX10_117 B hS reg_3 dX10_stirByDraws_4 ?_
  refine lv_if_ne (tgt := 11) hx hb dX10_stirByDraws_7 (by decide) (fun hc => ?_) (fun hc => ?_)
  · have hrun := iq hc hrun
    refine lv_aload_n hx hb dX10_stirByDraws_11 rfl (lv_at hl 0 rfl) ?_
    refine gX10_83 B hS dX10_stirByDraws_12 ?_
    refine lv_iconst (v := 5) hx hb dX10_stirByDraws_15 (by decide) ?_
    obtain ⟨r_2, t_3, hc_1, hrun⟩ := bd2E hrun
    refine qX10_342 B hS hc_1 hl.1 (Nat.le_of_ble_eq_true rfl) ⟨Nat.le_of_ble_eq_true rfl, Nat.le_of_ble_eq_true rfl⟩ ⟨Nat.zero_le _, Nat.zero_le _⟩ dX10_stirByDraws_16 (fun H locs hS => ?_)
    refine lv_istore_n (lv' := [(1, .int r_2), (0, .ref (X.2.1 0))]) hx hb dX10_stirByDraws_19 rfl hl (by decide) rfl (fun ls hl => ?_)
    refine lv_aload_n hx hb dX10_stirByDraws_20 rfl (lv_at hl 1 rfl) ?_
    refine gX10_83 B hS dX10_stirByDraws_21 ?_
    refine lv_aload_n hx hb dX10_stirByDraws_24 rfl (lv_at hl 1 rfl) ?_
    refine gX10_28 B hS dX10_stirByDraws_25 ?_
    refine gX10_117 B hS reg_3 dX10_stirByDraws_28 ?_
    obtain ⟨r_5, t_6, hc_4, hrun⟩ := bd2E hrun
    refine qX10_342 B hS hc_4 hl.1 (Nat.le_of_ble_eq_true rfl) ⟨Nat.le_of_ble_eq_true rfl, Nat.le_of_ble_eq_true rfl⟩ ⟨Nat.zero_le _, Nat.zero_le _⟩ dX10_stirByDraws_31 (fun H locs hS => ?_)
    refine lv_istore_n (lv' := [(2, .int r_5), (1, .int r_2), (0, .ref (X.2.1 0))]) hx hb dX10_stirByDraws_34 rfl hl (by decide) rfl (fun ls hl => ?_)
    refine lv_iload_n hx hb dX10_stirByDraws_35 rfl (lv_at hl 1 rfl) ?_
    by_cases hw_7 : r_2 = (0 : Int32)
    · have hrun := ip hw_7 hrun
      refine lv_tableIn (off := 32) (tgt := 68) hx hb dX10_stirByDraws_36 (by rw [hw_7]; decide) (by rw [hw_7]; decide) (by rw [hw_7]; rfl) (by decide) ?_
      refine lv_aload_n hx hb dX10_stirByDraws_68 rfl (lv_at hl 2 rfl) ?_
      refine gX10_34 B hS dX10_stirByDraws_69 ?_
      refine lv_iload_n hx hb dX10_stirByDraws_72 rfl (lv_at hl 0 rfl) ?_
      obtain ⟨t_9, hc_8, hrun⟩ := bdE hrun
      refine qX10_223 B hS hall_now hc_8 hl.1 (Nat.le_of_ble_eq_true rfl) ⟨Nat.le_of_ble_eq_true rfl, Nat.le_of_ble_eq_true rfl⟩ ⟨Nat.zero_le _, Nat.zero_le _⟩ dX10_stirByDraws_73 (fun H locs hS => ?_)
      refine lv_goto (tgt := 139) hx hb dX10_stirByDraws_76 (by decide) ?_
      exact hret _ _ _ _ _ hrun hS dX10_stirByDraws_139
    have hrun := iq hw_7 hrun
    by_cases hw_10 : r_2 = (1 : Int32)
    · have hrun := ip hw_10 hrun
      refine lv_tableIn (off := 43) (tgt := 79) hx hb dX10_stirByDraws_36 (by rw [hw_10]; decide) (by rw [hw_10]; decide) (by rw [hw_10]; rfl) (by decide) ?_
      refine lv_aload_n hx hb dX10_stirByDraws_79 rfl (lv_at hl 2 rfl) ?_
      refine gX10_34 B hS dX10_stirByDraws_80 ?_
      refine lv_iload_n hx hb dX10_stirByDraws_83 rfl (lv_at hl 0 rfl) ?_
      obtain ⟨t_12, hc_11, hrun⟩ := bdE hrun
      refine qX10_227 B hS hall_now hc_11 hl.1 (Nat.le_of_ble_eq_true rfl) ⟨Nat.le_of_ble_eq_true rfl, Nat.le_of_ble_eq_true rfl⟩ ⟨Nat.zero_le _, Nat.zero_le _⟩ dX10_stirByDraws_84 (fun H locs hS => ?_)
      refine lv_goto (tgt := 139) hx hb dX10_stirByDraws_87 (by decide) ?_
      exact hret _ _ _ _ _ hrun hS dX10_stirByDraws_139
    have hrun := iq hw_10 hrun
    by_cases hw_13 : r_2 = (2 : Int32)
    · have hrun := ip hw_13 hrun
      refine lv_tableIn (off := 54) (tgt := 90) hx hb dX10_stirByDraws_36 (by rw [hw_13]; decide) (by rw [hw_13]; decide) (by rw [hw_13]; rfl) (by decide) ?_
      refine lv_aload_n hx hb dX10_stirByDraws_90 rfl (lv_at hl 2 rfl) ?_
      refine gX10_34 B hS dX10_stirByDraws_91 ?_
      refine lv_iload_n hx hb dX10_stirByDraws_94 rfl (lv_at hl 0 rfl) ?_
      refine lv_aload_n hx hb dX10_stirByDraws_95 rfl (lv_at hl 2 rfl) ?_
      refine gX10_83 B hS dX10_stirByDraws_96 ?_
      refine lv_aload_n hx hb dX10_stirByDraws_99 rfl (lv_at hl 2 rfl) ?_
      refine gX10_28 B hS dX10_stirByDraws_100 ?_
      refine gX10_126 B hS reg_3 dX10_stirByDraws_103 ?_
      obtain ⟨r_15, t_16, hc_14, hrun⟩ := bd2E hrun
      refine qX10_342 B hS hc_14 hl.1 (Nat.le_of_ble_eq_true rfl) ⟨Nat.le_of_ble_eq_true rfl, Nat.le_of_ble_eq_true rfl⟩ ⟨Nat.zero_le _, Nat.zero_le _⟩ dX10_stirByDraws_106 (fun H locs hS => ?_)
      obtain ⟨t_18, hc_17, hrun⟩ := bdE hrun
      refine qX10_233 B hS hall_now hc_17 hl.1 (Nat.le_of_ble_eq_true rfl) ⟨Nat.le_of_ble_eq_true rfl, Nat.le_of_ble_eq_true rfl⟩ ⟨Nat.zero_le _, Nat.zero_le _⟩ dX10_stirByDraws_109 (fun H locs hS => ?_)
      refine lv_goto (tgt := 139) hx hb dX10_stirByDraws_112 (by decide) ?_
      exact hret _ _ _ _ _ hrun hS dX10_stirByDraws_139
    have hrun := iq hw_13 hrun
    by_cases hw_19 : r_2 = (3 : Int32)
    · have hrun := ip hw_19 hrun
      refine lv_tableIn (off := 79) (tgt := 115) hx hb dX10_stirByDraws_36 (by rw [hw_19]; decide) (by rw [hw_19]; decide) (by rw [hw_19]; rfl) (by decide) ?_
      refine lv_aload_n hx hb dX10_stirByDraws_115 rfl (lv_at hl 2 rfl) ?_
      refine gX10_34 B hS dX10_stirByDraws_116 ?_
      refine lv_iload_n hx hb dX10_stirByDraws_119 rfl (lv_at hl 0 rfl) ?_
      refine lv_aload_n hx hb dX10_stirByDraws_120 rfl (lv_at hl 2 rfl) ?_
      refine gX10_83 B hS dX10_stirByDraws_121 ?_
      refine lv_bipush (v := 50) hx hb dX10_stirByDraws_124 (by decide) ?_
      obtain ⟨r_21, t_22, hc_20, hrun⟩ := bd2E hrun
      refine qX10_342 B hS hc_20 hl.1 (Nat.le_of_ble_eq_true rfl) ⟨Nat.le_of_ble_eq_true rfl, Nat.le_of_ble_eq_true rfl⟩ ⟨Nat.zero_le _, Nat.zero_le _⟩ dX10_stirByDraws_126 (fun H locs hS => ?_)
      obtain ⟨t_24, hc_23, hrun⟩ := bdE hrun
      refine qX10_237 B hS hall_now hc_23 hl.1 (Nat.le_of_ble_eq_true rfl) ⟨Nat.le_of_ble_eq_true rfl, Nat.le_of_ble_eq_true rfl⟩ ⟨Nat.zero_le _, Nat.zero_le _⟩ dX10_stirByDraws_129 (fun H locs hS => ?_)
      refine lv_goto (tgt := 139) hx hb dX10_stirByDraws_132 (by decide) ?_
      exact hret _ _ _ _ _ hrun hS dX10_stirByDraws_139
    have hrun := iq hw_19 hrun
    have hw_7 := lv_neT (a := 0) hw_7 (by decide)
    have hw_10 := lv_neT (a := 1) hw_10 (by decide)
    have hw_13 := lv_neT (a := 2) hw_13 (by decide)
    have hw_19 := lv_neT (a := 3) hw_19 (by decide)
    refine lv_tableOut (tgt := 135) hx hb dX10_stirByDraws_36 (by omega) (by decide) ?_
    refine lv_aload_n hx hb dX10_stirByDraws_135 rfl (lv_at hl 2 rfl) ?_
    obtain ⟨t_26, hc_25, hrun⟩ := bdE hrun
    refine qX10_345 B hS hc_25 hl.1 (Nat.le_of_ble_eq_true rfl) ⟨Nat.le_of_ble_eq_true rfl, Nat.le_of_ble_eq_true rfl⟩ ⟨Nat.zero_le _, Nat.zero_le _⟩ dX10_stirByDraws_136 (fun H locs hS => ?_)
    exact hret _ _ _ _ _ hrun hS dX10_stirByDraws_139
  · have hrun := ip hc hrun
    exact hret _ _ _ _ _ hrun hS dX10_stirByDraws_10
theorem mdX10_drift : MD yX10_drift 1 := ⟨by decide +kernel, by decide +kernel, by decide +kernel⟩
section QX10_drift
variable {p : Program} {l : Launch} {e : Env} {R : Room} {s : State} {m : MethodId} {args : Array Value} {below : List Frame} {meth : Method} {c : Code} {H : Heap} {locs : List Loc} {cells slots : Nat} {Q : State → Prop}
variable {cc : ByteArray} {pc : Nat} {ls : Array Slot} {rest : List Value} {X : Cx} {t : St} {H0 : Heap} {nL : Nat}
theorem qX10_250 (B : Bx p s m args c cc nL X RX10) (hS : SS X t H0 H locs) {t' : St} (hM : fX10_stirByDraws t = some t') (hsz : ls.size = nL) (hW : (rest.map fun v => v.category).sum ≤ 8) (hR : 4 + 1 ≤ R.frames ∧ 8 + (3 + 11) + 86 ≤ R.locals) (hR2 : cells ≤ R.cells ∧ slots ≤ R.slots) (hdg : decode cc pc = .ok (.invokevirtual 250, 3)) (kk : ∀ (H1 : Heap) (locs1 : List Loc), SS X t' H0 H1 locs1 → W p l e R s m args below meth c H1 locs1 cells slots Q (F0 m (pc + 3) ls (rest))) : W p l e R s m args below meth c H locs cells slots Q (F0 m pc ls (.ref (X.2.1 0) :: rest)) :=
  xVv B hS (kX10_stirByDraws l X t t' hM) (tw_3 158 rfl rfl) (tw_3 160 rfl rfl) (tw_0 12 rfl rfl) (tw_1 1 rfl rfl) (tw_3 161 rfl rfl) mdX10_stirByDraws (by decide) (ceX10 _) rfl rfl rfl hsz rfl hW hR hR2 hdg kk
end QX10_drift
set_option maxHeartbeats 4000000 in
set_option maxRecDepth 100000 in
theorem kX10_drift (l : Launch) (X : Cx) (t : St) (x1 : Int32) (r : Int32) (t' : St) (hrun : fX10_drift t x1 = some (r, t')) : Ci l X t yX10_drift cX10_drift 4 .int 5 108 [.ref (X.2.1 0), .int x1] r t' := by
  refine Ci_of (by decide) (Nat.le_of_ble_eq_true rfl) ?_
  intro p e s m args below meth c Q B hret hS ls hl
  have hx := B.1
  have hb := B.2.1
  have hown := B.2.2.2.1
  have hts := B.2.2.2.2.1
  have hl : lv_has ls 4 [(0, .ref (X.2.1 0)), (1, .int x1)] := hl
  have hB25 : ∀ (n25 : Nat) (t : St) (x1 : Int32) (x3 : Int32) (H : Heap) (locs : List Loc) (ls : Array Slot), SS X t s.heap H locs → lv_has ls 4 [(0, .ref (X.2.1 0)), (1, .int x1), (3, .int x3)] → fX10_drift_25 n25 t x1 x3 = some (r, t') → W p l e ({ frames := 5, cells := 0, slots := 0, locals := 108 } : Room) s m args below meth c H locs 0 0 Q (F0 m 25 ls []) := by
    intro n25
    induction n25 with
    | zero =>
      intro t x1 x3 H locs ls hS hl hrun
      cases (show (none : Option (Int32 × St)) = some (r, t') from hrun)
    | succ n25 ih25 =>
      intro t x1 x3 H locs ls hS hl hrun
      rw [fX10_drift_25_s] at hrun
      refine lv_iload_n hx hb dX10_drift_25 rfl (lv_at hl 2 rfl) ?_
      refine lv_iload_n hx hb dX10_drift_26 rfl (lv_at hl 1 rfl) ?_
      refine lv_icmp_ge (tgt := 47) hx hb dX10_drift_27 (by decide) (fun hc => ?_) (fun hc => ?_)
      · have hrun := ip hc hrun
        refine lv_aload_n hx hb dX10_drift_47 rfl (lv_at hl 0 rfl) ?_
        refine gX10_34 B hS dX10_drift_48 ?_
        refine gX10_142 B hS hall_now dX10_drift_51 ?_
        exact hret _ _ _ _ _ _ hrun rfl hS dX10_drift_54
      · have hrun := iq hc hrun
        refine lv_aload_n hx hb dX10_drift_30 rfl (lv_at hl 0 rfl) ?_
        obtain ⟨t_1027, hc_1026, hrun⟩ := bdE hrun
        refine qX10_250 B hS hc_1026 hl.1 (Nat.le_of_ble_eq_true rfl) ⟨Nat.le_of_ble_eq_true rfl, Nat.le_of_ble_eq_true rfl⟩ ⟨Nat.zero_le _, Nat.zero_le _⟩ dX10_drift_31 (fun H locs hS => ?_)
        refine lv_aload_n hx hb dX10_drift_34 rfl (lv_at hl 0 rfl) ?_
        refine gX10_34 B hS dX10_drift_35 ?_
        obtain ⟨t_1029, hc_1028, hrun⟩ := bdE hrun
        refine qX10_216 B hS hall_now hc_1028 hl.1 (Nat.le_of_ble_eq_true rfl) ⟨Nat.le_of_ble_eq_true rfl, Nat.le_of_ble_eq_true rfl⟩ ⟨Nat.zero_le _, Nat.zero_le _⟩ dX10_drift_38 (fun H locs hS => ?_)
        refine lv_iinc (v := x3 + (1 : Int32)) (k := 2) (lv' := [(3, .int (x3 + (1 : Int32))), (0, .ref (X.2.1 0)), (1, .int x1)]) hx hb dX10_drift_41 hl rfl rfl (by decide) rfl (fun ls hl => ?_)
        refine lv_goto (tgt := 25) hx hb dX10_drift_44 (by decide) ?_
        exact ih25 t_1029 x1 (x3 + (1 : Int32)) _ _ _ hS (lv_sub hl [1, 2, 0] rfl) hrun
  unfold fX10_drift at hrun
  refine lv_aload_n hx hb dX10_drift_0 rfl (lv_at hl 0 rfl) ?_
  refine lv_iload_n hx hb dX10_drift_1 rfl (lv_at hl 1 rfl) ?_
  obtain ⟨r_2, hc_1, hrun⟩ := bdE hrun
  refine qX10_209 B hS hc_1 hl.1 (Nat.le_of_ble_eq_true rfl) ⟨Nat.le_of_ble_eq_true rfl, Nat.le_of_ble_eq_true rfl⟩ ⟨Nat.zero_le _, Nat.zero_le _⟩ dX10_drift_2 (fun H locs hS => ?_)
  refine lv_istore_n (lv' := [(2, .int r_2), (0, .ref (X.2.1 0)), (1, .int x1)]) hx hb dX10_drift_5 rfl hl (by decide) rfl (fun ls hl => ?_)
  refine lv_iload_n hx hb dX10_drift_6 rfl (lv_at hl 0 rfl) ?_
  refine lv_if_eq (tgt := 12) hx hb dX10_drift_7 (by decide) (fun hc => ?_) (fun hc => ?_)
  · have hrun := ip hc hrun
    refine lv_aload_n hx hb dX10_drift_12 rfl (lv_at hl 1 rfl) ?_
    refine gX10_44 B hS dX10_drift_13 ?_
    refine lv_aload_n hx hb dX10_drift_16 rfl (lv_at hl 1 rfl) ?_
    refine gX10_34 B hS dX10_drift_17 ?_
    obtain ⟨t_4, hc_3, hrun⟩ := bdE hrun
    refine qX10_212 B hS hall_now hc_3 hl.1 (Nat.le_of_ble_eq_true rfl) ⟨Nat.le_of_ble_eq_true rfl, Nat.le_of_ble_eq_true rfl⟩ ⟨Nat.zero_le _, Nat.zero_le _⟩ dX10_drift_20 (fun H locs hS => ?_)
    refine lv_iconst (v := 0) hx hb dX10_drift_23 (by decide) ?_
    refine lv_istore_n (lv' := [(3, .int (0 : Int32)), (2, .int r_2), (0, .ref (X.2.1 0)), (1, .int x1)]) hx hb dX10_drift_24 rfl hl (by decide) rfl (fun ls hl => ?_)
    exact hB25 fuelN t_4 x1 (0 : Int32) _ _ _ hS (lv_sub hl [2, 3, 0] rfl) hrun
  · have hrun := iq hc hrun
    refine lv_iload_n hx hb dX10_drift_10 rfl (lv_at hl 0 rfl) ?_
    exact hret _ _ _ _ _ _ hrun rfl hS dX10_drift_11
theorem mdX10_undo : MD yX10_undo 0 := ⟨by decide +kernel, by decide +kernel, by decide +kernel⟩
section QX10_undo
variable {p : Program} {l : Launch} {e : Env} {R : Room} {s : State} {m : MethodId} {args : Array Value} {below : List Frame} {meth : Method} {c : Code} {H : Heap} {locs : List Loc} {cells slots : Nat} {Q : State → Prop}
variable {cc : ByteArray} {pc : Nat} {ls : Array Slot} {rest : List Value} {X : Cx} {t : St} {H0 : Heap} {nL : Nat}
theorem qX10_253 (B : Bx p s m args c cc nL X RX10) (hS : SS X t H0 H locs) {h1 : Nat} (e1 : isHall h1) {r : Int32} {t' : St} (hM : fX6_restore h1 t = some (r, t')) (hsz : ls.size = nL) (hW : (rest.map fun v => v.category).sum ≤ 8) (hR : 2 + 1 ≤ R.frames ∧ 8 + (2 + 11) + 81 ≤ R.locals) (hR2 : cells ≤ R.cells ∧ slots ≤ R.slots) (hdg : decode cc pc = .ok (.invokevirtual 253, 3)) (kk : ∀ (H1 : Heap) (locs1 : List Loc), SS X t' H0 H1 locs1 → W p l e R s m args below meth c H1 locs1 cells slots Q (F0 m (pc + 3) ls (.int r :: rest))) : W p l e R s m args below meth c H locs cells slots Q (F0 m pc ls (.ref (X.2.1 h1) :: .ref (X.2.1 15) :: rest)) :=
  xVi B hS (kX6_restore l X t h1 e1 r t' hM) (tw_3 178 rfl rfl) (tw_3 179 rfl rfl) (tw_3 180 rfl rfl) (tw_1 6 rfl rfl) (tw_3 181 rfl rfl) mdX6_restore (by decide) (ceX6 _) rfl rfl rfl hsz rfl hW hR hR2 hdg kk
end QX10_undo
set_option maxHeartbeats 4000000 in
set_option maxRecDepth 100000 in
theorem kX10_undo (l : Launch) (X : Cx) (t : St) (r : Int32) (t' : St) (hrun : fX10_undo t = some (r, t')) : Ci l X t yX10_undo cX10_undo 1 .int 3 102 [.ref (X.2.1 0)] r t' := by
  refine Ci_of (by decide) (Nat.le_of_ble_eq_true rfl) ?_
  intro p e s m args below meth c Q B hret hS ls hl
  have hx := B.1
  have hb := B.2.1
  have hown := B.2.2.2.1
  have hts := B.2.2.2.2.1
  have hl : lv_has ls 1 [(0, .ref (X.2.1 0))] := hl
  unfold fX10_undo at hrun
  refine lv_aload_n hx hb dX10_undo_0 rfl (lv_at hl 0 rfl) ?_
  refine gX10_44 B hS dX10_undo_1 ?_
  refine lv_aload_n hx hb dX10_undo_4 rfl (lv_at hl 0 rfl) ?_
  refine gX10_34 B hS dX10_undo_5 ?_
  obtain ⟨r_2, t_3, hc_1, hrun⟩ := bd2E hrun
  refine qX10_253 B hS hall_now hc_1 hl.1 (Nat.le_of_ble_eq_true rfl) ⟨Nat.le_of_ble_eq_true rfl, Nat.le_of_ble_eq_true rfl⟩ ⟨Nat.zero_le _, Nat.zero_le _⟩ dX10_undo_8 (fun H locs hS => ?_)
  refine lv_if_eq (tgt := 24) hx hb dX10_undo_11 (by decide) (fun hc => ?_) (fun hc => ?_)
  · have hrun := ip hc hrun
    refine lv_ldc (v := -1000000003) hx hb hown (hts _ (tw_3 78 rfl rfl)) dX10_undo_24 ?_
    exact hret _ _ _ _ _ _ hrun rfl hS dX10_undo_26
  · have hrun := iq hc hrun
    refine lv_aload_n hx hb dX10_undo_14 rfl (lv_at hl 0 rfl) ?_
    refine gX10_44 B hS dX10_undo_15 ?_
    refine gX10_170 B hS dX10_undo_18 ?_
    refine lv_goto (tgt := 26) hx hb dX10_undo_21 (by decide) ?_
    exact hret _ _ _ _ _ _ hrun rfl hS dX10_undo_26
theorem mdX10_treasury : MD yX10_treasury 1 := ⟨by decide +kernel, by decide +kernel, by decide +kernel⟩
section QX10_treasury
variable {p : Program} {l : Launch} {e : Env} {R : Room} {s : State} {m : MethodId} {args : Array Value} {below : List Frame} {meth : Method} {c : Code} {H : Heap} {locs : List Loc} {cells slots : Nat} {Q : State → Prop}
variable {cc : ByteArray} {pc : Nat} {ls : Array Slot} {rest : List Value} {X : Cx} {t : St} {H0 : Heap} {nL : Nat}
theorem qX10_257 (B : Bx p s m args c cc nL X RX10) (hS : SS X t H0 H locs) {h0 : Nat} {h1 : Nat} (e0 : isHall h0) (e1 : isHall h1) {t' : St} (hM : fX3_takeFrom h0 h1 t = some t') (hsz : ls.size = nL) (hW : (rest.map fun v => v.category).sum ≤ 8) (hR : 1 + 1 ≤ R.frames ∧ 8 + (2 + 11) + 60 ≤ R.locals) (hR2 : cells ≤ R.cells ∧ slots ≤ R.slots) (hdg : decode cc pc = .ok (.invokevirtual 257, 3)) (kk : ∀ (H1 : Heap) (locs1 : List Loc), SS X t' H0 H1 locs1 → W p l e R s m args below meth c H1 locs1 cells slots Q (F0 m (pc + 3) ls (rest))) : W p l e R s m args below meth c H locs cells slots Q (F0 m pc ls (.ref (X.2.1 h1) :: .ref (X.2.1 h0) :: rest)) :=
  xVv B hS (kX3_takeFrom l X t h0 h1 e0 e1 t' hM) (tw_3 186 rfl rfl) (tw_3 84 rfl rfl) (tw_3 85 rfl rfl) (tw_1 4 rfl rfl) (tw_3 86 rfl rfl) mdX3_takeFrom (hall_lt e0) (ceX3 e0 _) rfl rfl rfl hsz rfl hW hR hR2 hdg kk
end QX10_treasury
set_option maxHeartbeats 4000000 in
set_option maxRecDepth 100000 in
theorem kX10_treasury (l : Launch) (X : Cx) (t : St) (x1 : Int32) (r : Int32) (t' : St) (hrun : fX10_treasury t x1 = some (r, t')) : Ci l X t yX10_treasury cX10_treasury 3 .int 4 93 [.ref (X.2.1 0), .int x1] r t' := by
  refine Ci_of (by decide) (Nat.le_of_ble_eq_true rfl) ?_
  intro p e s m args below meth c Q B hret hS ls hl
  have hx := B.1
  have hb := B.2.1
  have hown := B.2.2.2.1
  have hts := B.2.2.2.2.1
  have hl : lv_has ls 3 [(0, .ref (X.2.1 0)), (1, .int x1)] := hl
  have hB40 : ∀ (n40 : Nat) (t : St) (x1 : Int32) (x2 : Int32) (H : Heap) (locs : List Loc) (ls : Array Slot), SS X t s.heap H locs → lv_has ls 3 [(0, .ref (X.2.1 0)), (1, .int x1), (2, .int x2)] → fX10_treasury_40 n40 t x1 x2 = some (r, t') → W p l e ({ frames := 4, cells := 0, slots := 0, locals := 93 } : Room) s m args below meth c H locs 0 0 Q (F0 m 40 ls []) := by
    intro n40
    induction n40 with
    | zero =>
      intro t x1 x2 H locs ls hS hl hrun
      cases (show (none : Option (Int32 × St)) = some (r, t') from hrun)
    | succ n40 ih40 =>
      intro t x1 x2 H locs ls hS hl hrun
      rw [fX10_treasury_40_s] at hrun
      refine lv_iload_n hx hb dX10_treasury_40 rfl (lv_at hl 2 rfl) ?_
      refine lv_iload_n hx hb dX10_treasury_41 rfl (lv_at hl 1 rfl) ?_
      refine lv_icmp_ge (tgt := 58) hx hb dX10_treasury_42 (by decide) (fun hc => ?_) (fun hc => ?_)
      · have hrun := ip hc hrun
        refine lv_aload_n hx hb dX10_treasury_58 rfl (lv_at hl 0 rfl) ?_
        refine gX10_38 B hS dX10_treasury_59 ?_
        refine gX10_142 B hS hall_trial dX10_treasury_62 ?_
        exact hret _ _ _ _ _ _ hrun rfl hS dX10_treasury_65
      · have hrun := iq hc hrun
        refine lv_aload_n hx hb dX10_treasury_45 rfl (lv_at hl 0 rfl) ?_
        refine gX10_38 B hS dX10_treasury_46 ?_
        obtain ⟨t_1042, hc_1041, hrun⟩ := bdE hrun
        refine qX10_216 B hS hall_trial hc_1041 hl.1 (Nat.le_of_ble_eq_true rfl) ⟨Nat.le_of_ble_eq_true rfl, Nat.le_of_ble_eq_true rfl⟩ ⟨Nat.zero_le _, Nat.zero_le _⟩ dX10_treasury_49 (fun H locs hS => ?_)
        refine lv_iinc (v := x2 + (1 : Int32)) (k := 2) (lv' := [(2, .int (x2 + (1 : Int32))), (0, .ref (X.2.1 0)), (1, .int x1)]) hx hb dX10_treasury_52 hl rfl rfl (by decide) rfl (fun ls hl => ?_)
        refine lv_goto (tgt := 40) hx hb dX10_treasury_55 (by decide) ?_
        exact ih40 t_1042 x1 (x2 + (1 : Int32)) _ _ _ hS (lv_sub hl [1, 2, 0] rfl) hrun
  unfold fX10_treasury at hrun
  refine lv_iload_n hx hb dX10_treasury_0 rfl (lv_at hl 1 rfl) ?_
  refine lv_if_lt (tgt := 11) hx hb dX10_treasury_1 (by decide) (fun hc => ?_) (fun hc => ?_)
  · have hrun := ip hc hrun
    refine lv_ldc (v := -1000000002) hx hb hown (hts _ (tw_2 105 rfl rfl)) dX10_treasury_11 ?_
    exact hret _ _ _ _ _ _ hrun rfl hS dX10_treasury_13
  · have hrun := iq hc hrun
    refine lv_iload_n hx hb dX10_treasury_4 rfl (lv_at hl 1 rfl) ?_
    refine lv_sipush (v := 200) hx hb dX10_treasury_5 (by decide) ?_
    refine lv_icmp_le (tgt := 14) hx hb dX10_treasury_8 (by decide) (fun hc => ?_) (fun hc => ?_)
    · have hrun := ip hc hrun
      refine lv_aload_n hx hb dX10_treasury_14 rfl (lv_at hl 0 rfl) ?_
      refine gX10_28 B hS dX10_treasury_15 ?_
      obtain ⟨r_2, hc_1, hrun⟩ := bdE hrun
      refine qX10_240 B hS reg_3 hc_1 hl.1 (Nat.le_of_ble_eq_true rfl) ⟨Nat.le_of_ble_eq_true rfl, Nat.le_of_ble_eq_true rfl⟩ ⟨Nat.zero_le _, Nat.zero_le _⟩ dX10_treasury_18 (fun H locs hS => ?_)
      refine lv_if_eq (tgt := 27) hx hb dX10_treasury_21 (by decide) (fun hc => ?_) (fun hc => ?_)
      · have hrun := ip hc hrun
        refine lv_aload_n hx hb dX10_treasury_27 rfl (lv_at hl 0 rfl) ?_
        refine gX10_38 B hS dX10_treasury_28 ?_
        refine lv_aload_n hx hb dX10_treasury_31 rfl (lv_at hl 0 rfl) ?_
        refine gX10_34 B hS dX10_treasury_32 ?_
        obtain ⟨t_4, hc_3, hrun⟩ := bdE hrun
        refine qX10_257 B hS hall_trial hall_now hc_3 hl.1 (Nat.le_of_ble_eq_true rfl) ⟨Nat.le_of_ble_eq_true rfl, Nat.le_of_ble_eq_true rfl⟩ ⟨Nat.zero_le _, Nat.zero_le _⟩ dX10_treasury_35 (fun H locs hS => ?_)
        refine lv_iconst (v := 0) hx hb dX10_treasury_38 (by decide) ?_
        refine lv_istore_n (lv' := [(2, .int (0 : Int32)), (0, .ref (X.2.1 0)), (1, .int x1)]) hx hb dX10_treasury_39 rfl hl (by decide) rfl (fun ls hl => ?_)
        exact hB40 fuelN t_4 x1 (0 : Int32) _ _ _ hS (lv_sub hl [1, 2, 0] rfl) hrun
      · have hrun := iq hc hrun
        refine lv_ldc (v := -1000000003) hx hb hown (hts _ (tw_3 78 rfl rfl)) dX10_treasury_24 ?_
        exact hret _ _ _ _ _ _ hrun rfl hS dX10_treasury_26
    · have hrun := iq hc hrun
      refine lv_ldc (v := -1000000002) hx hb hown (hts _ (tw_2 105 rfl rfl)) dX10_treasury_11 ?_
      exact hret _ _ _ _ _ _ hrun rfl hS dX10_treasury_13
theorem mdX10_lasts : MD yX10_lasts 1 := ⟨by decide +kernel, by decide +kernel, by decide +kernel⟩
set_option maxHeartbeats 4000000 in
set_option maxRecDepth 100000 in
theorem kX10_lasts (l : Launch) (X : Cx) (t : St) (x1 : Int32) (r : Int32) (t' : St) (hrun : fX10_lasts t x1 = some (r, t')) : Ci l X t yX10_lasts cX10_lasts 3 .int 4 93 [.ref (X.2.1 0), .int x1] r t' := by
  refine Ci_of (by decide) (Nat.le_of_ble_eq_true rfl) ?_
  intro p e s m args below meth c Q B hret hS ls hl
  have hx := B.1
  have hb := B.2.1
  have hown := B.2.2.2.1
  have hts := B.2.2.2.2.1
  have hl : lv_has ls 3 [(0, .ref (X.2.1 0)), (1, .int x1)] := hl
  have hB27 : ∀ (n27 : Nat) (t : St) (x1 : Int32) (x2 : Int32) (H : Heap) (locs : List Loc) (ls : Array Slot), SS X t s.heap H locs → lv_has ls 3 [(0, .ref (X.2.1 0)), (1, .int x1), (2, .int x2)] → fX10_lasts_27 n27 t x1 x2 = some (r, t') → W p l e ({ frames := 4, cells := 0, slots := 0, locals := 93 } : Room) s m args below meth c H locs 0 0 Q (F0 m 27 ls []) := by
    intro n27
    induction n27 with
    | zero =>
      intro t x1 x2 H locs ls hS hl hrun
      cases (show (none : Option (Int32 × St)) = some (r, t') from hrun)
    | succ n27 ih27 =>
      intro t x1 x2 H locs ls hS hl hrun
      rw [fX10_lasts_27_s] at hrun
      refine lv_iload_n hx hb dX10_lasts_27 rfl (lv_at hl 2 rfl) ?_
      refine lv_sipush (v := 500) hx hb dX10_lasts_28 (by decide) ?_
      refine lv_icmp_gt (tgt := 60) hx hb dX10_lasts_31 (by decide) (fun hc => ?_) (fun hc => ?_)
      · have hrun := ip hc hrun
        refine lv_iconst (v := -1) hx hb dX10_lasts_60 (by decide) ?_
        exact hret _ _ _ _ _ _ hrun rfl hS dX10_lasts_61
      · have hrun := iq hc hrun
        refine lv_aload_n hx hb dX10_lasts_34 rfl (lv_at hl 0 rfl) ?_
        refine gX10_38 B hS dX10_lasts_35 ?_
        refine lv_iload_n hx hb dX10_lasts_38 rfl (lv_at hl 1 rfl) ?_
        obtain ⟨r_1029, hc_1028, hrun⟩ := bdE hrun
        refine qX10_219 B hS hall_trial hc_1028 hl.1 (Nat.le_of_ble_eq_true rfl) ⟨Nat.le_of_ble_eq_true rfl, Nat.le_of_ble_eq_true rfl⟩ ⟨Nat.zero_le _, Nat.zero_le _⟩ dX10_lasts_39 (fun H locs hS => ?_)
        refine lv_if_ne (tgt := 47) hx hb dX10_lasts_42 (by decide) (fun hc => ?_) (fun hc => ?_)
        · have hrun := iq hc hrun
          refine lv_aload_n hx hb dX10_lasts_47 rfl (lv_at hl 0 rfl) ?_
          refine gX10_38 B hS dX10_lasts_48 ?_
          obtain ⟨t_1031, hc_1030, hrun⟩ := bdE hrun
          refine qX10_216 B hS hall_trial hc_1030 hl.1 (Nat.le_of_ble_eq_true rfl) ⟨Nat.le_of_ble_eq_true rfl, Nat.le_of_ble_eq_true rfl⟩ ⟨Nat.zero_le _, Nat.zero_le _⟩ dX10_lasts_51 (fun H locs hS => ?_)
          refine lv_iinc (v := x2 + (1 : Int32)) (k := 2) (lv' := [(2, .int (x2 + (1 : Int32))), (0, .ref (X.2.1 0)), (1, .int x1)]) hx hb dX10_lasts_54 hl rfl rfl (by decide) rfl (fun ls hl => ?_)
          refine lv_goto (tgt := 27) hx hb dX10_lasts_57 (by decide) ?_
          exact ih27 t_1031 x1 (x2 + (1 : Int32)) _ _ _ hS (lv_sub hl [1, 2, 0] rfl) hrun
        · have hrun := ip hc hrun
          refine lv_iload_n hx hb dX10_lasts_45 rfl (lv_at hl 2 rfl) ?_
          exact hret _ _ _ _ _ _ hrun rfl hS dX10_lasts_46
  unfold fX10_lasts at hrun
  refine lv_aload_n hx hb dX10_lasts_0 rfl (lv_at hl 0 rfl) ?_
  refine gX10_28 B hS dX10_lasts_1 ?_
  refine lv_iload_n hx hb dX10_lasts_4 rfl (lv_at hl 1 rfl) ?_
  obtain ⟨r_2, hc_1, hrun⟩ := bdE hrun
  refine qX10_173 B hS reg_3 hc_1 hl.1 (Nat.le_of_ble_eq_true rfl) ⟨Nat.le_of_ble_eq_true rfl, Nat.le_of_ble_eq_true rfl⟩ ⟨Nat.zero_le _, Nat.zero_le _⟩ dX10_lasts_5 (fun H locs hS => ?_)
  refine lv_if_ne (tgt := 14) hx hb dX10_lasts_8 (by decide) (fun hc => ?_) (fun hc => ?_)
  · have hrun := iq hc hrun
    refine lv_aload_n hx hb dX10_lasts_14 rfl (lv_at hl 0 rfl) ?_
    refine gX10_38 B hS dX10_lasts_15 ?_
    refine lv_aload_n hx hb dX10_lasts_18 rfl (lv_at hl 0 rfl) ?_
    refine gX10_34 B hS dX10_lasts_19 ?_
    obtain ⟨t_4, hc_3, hrun⟩ := bdE hrun
    refine qX10_257 B hS hall_trial hall_now hc_3 hl.1 (Nat.le_of_ble_eq_true rfl) ⟨Nat.le_of_ble_eq_true rfl, Nat.le_of_ble_eq_true rfl⟩ ⟨Nat.zero_le _, Nat.zero_le _⟩ dX10_lasts_22 (fun H locs hS => ?_)
    refine lv_iconst (v := 0) hx hb dX10_lasts_25 (by decide) ?_
    refine lv_istore_n (lv' := [(2, .int (0 : Int32)), (0, .ref (X.2.1 0)), (1, .int x1)]) hx hb dX10_lasts_26 rfl hl (by decide) rfl (fun ls hl => ?_)
    exact hB27 fuelN t_4 x1 (0 : Int32) _ _ _ hS (lv_sub hl [1, 2, 0] rfl) hrun
  · have hrun := ip hc hrun
    refine lv_ldc (v := -1000000001) hx hb hown (hts _ (tw_3 51 rfl rfl)) dX10_lasts_11 ?_
    exact hret _ _ _ _ _ _ hrun rfl hS dX10_lasts_13
theorem mdX10_more : MD yX10_more 2 := ⟨by decide +kernel, by decide +kernel, by decide +kernel⟩
section QX10_more
variable {p : Program} {l : Launch} {e : Env} {R : Room} {s : State} {m : MethodId} {args : Array Value} {below : List Frame} {meth : Method} {c : Code} {H : Heap} {locs : List Loc} {cells slots : Nat} {Q : State → Prop}
variable {cc : ByteArray} {pc : Nat} {ls : Array Slot} {rest : List Value} {X : Cx} {t : St} {H0 : Heap} {nL : Nat}
theorem qX10_259 (B : Bx p s m args c cc nL X RX10) (hS : SS X t H0 H locs) {h0 : Nat} (e0 : isHall h0) {x1 : Int32} {x2 : Int32} {x3 : Int32} {x4 : Int32} {r : Int32} (hM : fX3_priceBy h0 t x1 x2 x3 x4 = some r) (hsz : ls.size = nL) (hW : (rest.map fun v => v.category).sum ≤ 8) (hR : 1 + 1 ≤ R.frames ∧ 8 + (6 + 11) + 23 ≤ R.locals) (hR2 : cells ≤ R.cells ∧ slots ≤ R.slots) (hdg : decode cc pc = .ok (.invokevirtual 259, 3)) (kk : ∀ (H1 : Heap) (locs1 : List Loc), SS X t H0 H1 locs1 → W p l e R s m args below meth c H1 locs1 cells slots Q (F0 m (pc + 3) ls (.int r :: rest))) : W p l e R s m args below meth c H locs cells slots Q (F0 m pc ls (.int x4 :: .int x3 :: .int x2 :: .int x1 :: .ref (X.2.1 h0) :: rest)) :=
  xVi B hS (kX3_priceBy l X t h0 e0 x1 x2 x3 x4 r hM) (tw_3 195 rfl rfl) (tw_2 219 rfl rfl) (tw_2 220 rfl rfl) (tw_1 4 rfl rfl) (tw_2 221 rfl rfl) mdX3_priceBy (hall_lt e0) (ceX3 e0 _) rfl rfl rfl hsz rfl hW hR hR2 hdg kk
end QX10_more
set_option maxHeartbeats 4000000 in
set_option maxRecDepth 100000 in
theorem kX10_more (l : Launch) (X : Cx) (t : St) (x1 : Int32) (x2 : Int32) (r : Int32) (hrun : fX10_more t x1 x2 = some r) : Ci l X t yX10_more cX10_more 3 .int 2 48 [.ref (X.2.1 0), .int x1, .int x2] r t := by
  refine Ci_of (by decide) (Nat.le_of_ble_eq_true rfl) ?_
  intro p e s m args below meth c Q B hret hS ls hl
  have hx := B.1
  have hb := B.2.1
  have hown := B.2.2.2.1
  have hts := B.2.2.2.2.1
  have hl : lv_has ls 3 [(0, .ref (X.2.1 0)), (1, .int x1), (2, .int x2)] := hl
  unfold fX10_more at hrun
  refine lv_aload_n hx hb dX10_more_0 rfl (lv_at hl 0 rfl) ?_
  refine gX10_28 B hS dX10_more_1 ?_
  refine lv_iload_n hx hb dX10_more_4 rfl (lv_at hl 1 rfl) ?_
  obtain ⟨r_2, hc_1, hrun⟩ := bdE hrun
  refine qX10_173 B hS reg_3 hc_1 hl.1 (Nat.le_of_ble_eq_true rfl) ⟨Nat.le_of_ble_eq_true rfl, Nat.le_of_ble_eq_true rfl⟩ ⟨Nat.zero_le _, Nat.zero_le _⟩ dX10_more_5 (fun H locs hS => ?_)
  refine lv_if_eq (tgt := 22) hx hb dX10_more_8 (by decide) (fun hc => ?_) (fun hc => ?_)
  · have hrun := ip hc hrun
    refine lv_ldc (v := -1000000001) hx hb hown (hts _ (tw_3 51 rfl rfl)) dX10_more_22 ?_
    exact hret _ _ _ _ _ _ (congrArg (Option.map (fun w => (w, t))) hrun) rfl hS dX10_more_24
  · have hrun := iq hc hrun
    refine lv_aload_n hx hb dX10_more_11 rfl (lv_at hl 0 rfl) ?_
    refine gX10_28 B hS dX10_more_12 ?_
    refine lv_iload_n hx hb dX10_more_15 rfl (lv_at hl 2 rfl) ?_
    obtain ⟨r_4, hc_3, hrun⟩ := bdE hrun
    refine qX10_197 B hS reg_3 hc_3 hl.1 (Nat.le_of_ble_eq_true rfl) ⟨Nat.le_of_ble_eq_true rfl, Nat.le_of_ble_eq_true rfl⟩ ⟨Nat.zero_le _, Nat.zero_le _⟩ dX10_more_16 (fun H locs hS => ?_)
    refine lv_if_ne (tgt := 25) hx hb dX10_more_19 (by decide) (fun hc => ?_) (fun hc => ?_)
    · have hrun := iq hc hrun
      refine lv_aload_n hx hb dX10_more_25 rfl (lv_at hl 0 rfl) ?_
      refine gX10_34 B hS dX10_more_26 ?_
      refine lv_iload_n hx hb dX10_more_29 rfl (lv_at hl 1 rfl) ?_
      obtain ⟨r_6, hc_5, hrun⟩ := bdE hrun
      refine qX10_219 B hS hall_now hc_5 hl.1 (Nat.le_of_ble_eq_true rfl) ⟨Nat.le_of_ble_eq_true rfl, Nat.le_of_ble_eq_true rfl⟩ ⟨Nat.zero_le _, Nat.zero_le _⟩ dX10_more_30 (fun H locs hS => ?_)
      refine lv_if_eq (tgt := 39) hx hb dX10_more_33 (by decide) (fun hc => ?_) (fun hc => ?_)
      · have hrun := ip hc hrun
        refine lv_aload_n hx hb dX10_more_39 rfl (lv_at hl 0 rfl) ?_
        refine gX10_34 B hS dX10_more_40 ?_
        refine lv_aload_n hx hb dX10_more_43 rfl (lv_at hl 0 rfl) ?_
        refine gX10_34 B hS dX10_more_44 ?_
        refine gX10_123 B hS hall_now dX10_more_47 ?_
        refine lv_iload_n hx hb dX10_more_50 rfl (lv_at hl 1 rfl) ?_
        refine lv_aload_n hx hb dX10_more_51 rfl (lv_at hl 0 rfl) ?_
        refine gX10_34 B hS dX10_more_52 ?_
        refine lv_iload_n hx hb dX10_more_55 rfl (lv_at hl 2 rfl) ?_
        obtain ⟨r_8, hc_7, hrun⟩ := bdE hrun
        refine qX10_230 B hS hall_now hc_7 hl.1 (Nat.le_of_ble_eq_true rfl) ⟨Nat.le_of_ble_eq_true rfl, Nat.le_of_ble_eq_true rfl⟩ ⟨Nat.zero_le _, Nat.zero_le _⟩ dX10_more_56 (fun H locs hS => ?_)
        refine lv_iload_n hx hb dX10_more_59 rfl (lv_at hl 2 rfl) ?_
        obtain ⟨r_10, hc_9, hrun⟩ := bdE hrun
        refine qX10_259 B hS hall_now hc_9 hl.1 (Nat.le_of_ble_eq_true rfl) ⟨Nat.le_of_ble_eq_true rfl, Nat.le_of_ble_eq_true rfl⟩ ⟨Nat.zero_le _, Nat.zero_le _⟩ dX10_more_60 (fun H locs hS => ?_)
        exact hret _ _ _ _ _ _ (congrArg (Option.map (fun w => (w, t))) hrun) rfl hS dX10_more_63
      · have hrun := iq hc hrun
        refine lv_ldc (v := -1000000003) hx hb hown (hts _ (tw_3 78 rfl rfl)) dX10_more_36 ?_
        exact hret _ _ _ _ _ _ (congrArg (Option.map (fun w => (w, t))) hrun) rfl hS dX10_more_38
    · have hrun := ip hc hrun
      refine lv_ldc (v := -1000000001) hx hb hown (hts _ (tw_3 51 rfl rfl)) dX10_more_22 ?_
      exact hret _ _ _ _ _ _ (congrArg (Option.map (fun w => (w, t))) hrun) rfl hS dX10_more_24
theorem mdX10_bears : MD yX10_bears 3 := ⟨by decide +kernel, by decide +kernel, by decide +kernel⟩
section QX10_bears
variable {p : Program} {l : Launch} {e : Env} {R : Room} {s : State} {m : MethodId} {args : Array Value} {below : List Frame} {meth : Method} {c : Code} {H : Heap} {locs : List Loc} {cells slots : Nat} {Q : State → Prop}
variable {cc : ByteArray} {pc : Nat} {ls : Array Slot} {rest : List Value} {X : Cx} {t : St} {H0 : Heap} {nL : Nat}
theorem qX10_263 (B : Bx p s m args c cc nL X RX10) (hS : SS X t H0 H locs) {h0 : Nat} (e0 : isReg h0) {x1 : Int32} {r : Int32} (hM : fX8_hasAll h0 t x1 = some r) (hsz : ls.size = nL) (hW : (rest.map fun v => v.category).sum ≤ 8) (hR : 1 + 1 ≤ R.frames ∧ 8 + (2 + 11) + 20 ≤ R.locals) (hR2 : cells ≤ R.cells ∧ slots ≤ R.slots) (hdg : decode cc pc = .ok (.invokevirtual 263, 3)) (kk : ∀ (H1 : Heap) (locs1 : List Loc), SS X t H0 H1 locs1 → W p l e R s m args below meth c H1 locs1 cells slots Q (F0 m (pc + 3) ls (.int r :: rest))) : W p l e R s m args below meth c H locs cells slots Q (F0 m pc ls (.int x1 :: .ref (X.2.1 h0) :: rest)) :=
  xVi B hS (kX8_hasAll l X t h0 e0 x1 r hM) (tw_3 200 rfl rfl) (tw_3 201 rfl rfl) (tw_3 202 rfl rfl) (tw_1 2 rfl rfl) (tw_3 203 rfl rfl) mdX8_hasAll (reg_lt e0) (ceX8 e0 _) rfl rfl rfl hsz rfl hW hR hR2 hdg kk
theorem qX10_266 (B : Bx p s m args c cc nL X RX10) (hS : SS X t H0 H locs) {h0 : Nat} (e0 : isHall h0) {x1 : Int32} {x2 : Int32} {r : Int32} (hM : fX3_mostBorne h0 t x1 x2 = some r) (hsz : ls.size = nL) (hW : (rest.map fun v => v.category).sum ≤ 8) (hR : 3 + 1 ≤ R.frames ∧ 8 + (5 + 11) + 72 ≤ R.locals) (hR2 : cells ≤ R.cells ∧ slots ≤ R.slots) (hdg : decode cc pc = .ok (.invokevirtual 266, 3)) (kk : ∀ (H1 : Heap) (locs1 : List Loc), SS X t H0 H1 locs1 → W p l e R s m args below meth c H1 locs1 cells slots Q (F0 m (pc + 3) ls (.int r :: rest))) : W p l e R s m args below meth c H locs cells slots Q (F0 m pc ls (.int x2 :: .int x1 :: .ref (X.2.1 h0) :: rest)) :=
  xVi B hS (kX3_mostBorne l X t h0 e0 x1 x2 r hM) (tw_3 205 rfl rfl) (tw_3 206 rfl rfl) (tw_3 207 rfl rfl) (tw_1 4 rfl rfl) (tw_3 208 rfl rfl) mdX3_mostBorne (hall_lt e0) (ceX3 e0 _) rfl rfl rfl hsz rfl hW hR hR2 hdg kk
end QX10_bears
set_option maxHeartbeats 4000000 in
set_option maxRecDepth 100000 in
theorem kX10_bears (l : Launch) (X : Cx) (t : St) (x1 : Int32) (x2 : Int32) (x3 : Int32) (r : Int32) (hrun : fX10_bears t x1 x2 x3 = some r) : Ci l X t yX10_bears cX10_bears 5 .int 4 96 [.ref (X.2.1 0), .int x1, .int x2, .int x3] r t := by
  refine Ci_of (by decide) (Nat.le_of_ble_eq_true rfl) ?_
  intro p e s m args below meth c Q B hret hS ls hl
  have hx := B.1
  have hb := B.2.1
  have hown := B.2.2.2.1
  have hts := B.2.2.2.2.1
  have hl : lv_has ls 5 [(0, .ref (X.2.1 0)), (1, .int x1), (2, .int x2), (3, .int x3)] := hl
  unfold fX10_bears at hrun
  refine lv_aload_n hx hb dX10_bears_0 rfl (lv_at hl 0 rfl) ?_
  refine gX10_28 B hS dX10_bears_1 ?_
  refine lv_iload_n hx hb dX10_bears_4 rfl (lv_at hl 1 rfl) ?_
  obtain ⟨r_2, hc_1, hrun⟩ := bdE hrun
  refine qX10_263 B hS reg_3 hc_1 hl.1 (Nat.le_of_ble_eq_true rfl) ⟨Nat.le_of_ble_eq_true rfl, Nat.le_of_ble_eq_true rfl⟩ ⟨Nat.zero_le _, Nat.zero_le _⟩ dX10_bears_5 (fun H locs hS => ?_)
  refine lv_if_eq (tgt := 22) hx hb dX10_bears_8 (by decide) (fun hc => ?_) (fun hc => ?_)
  · have hrun := ip hc hrun
    refine lv_ldc (v := -1000000001) hx hb hown (hts _ (tw_3 51 rfl rfl)) dX10_bears_22 ?_
    exact hret _ _ _ _ _ _ (congrArg (Option.map (fun w => (w, t))) hrun) rfl hS dX10_bears_24
  · have hrun := iq hc hrun
    refine lv_aload_n hx hb dX10_bears_11 rfl (lv_at hl 0 rfl) ?_
    refine gX10_28 B hS dX10_bears_12 ?_
    refine lv_iload_n hx hb dX10_bears_15 rfl (lv_at hl 2 rfl) ?_
    obtain ⟨r_4, hc_3, hrun⟩ := bdE hrun
    refine qX10_197 B hS reg_3 hc_3 hl.1 (Nat.le_of_ble_eq_true rfl) ⟨Nat.le_of_ble_eq_true rfl, Nat.le_of_ble_eq_true rfl⟩ ⟨Nat.zero_le _, Nat.zero_le _⟩ dX10_bears_16 (fun H locs hS => ?_)
    refine lv_if_ne (tgt := 25) hx hb dX10_bears_19 (by decide) (fun hc => ?_) (fun hc => ?_)
    · have hrun := iq hc hrun
      refine lv_iload_n hx hb dX10_bears_25 rfl (lv_at hl 3 rfl) ?_
      refine lv_if_lt (tgt := 34) hx hb dX10_bears_26 (by decide) (fun hc => ?_) (fun hc => ?_)
      · have hrun := ip hc hrun
        refine lv_ldc (v := -1000000002) hx hb hown (hts _ (tw_2 105 rfl rfl)) dX10_bears_34 ?_
        exact hret _ _ _ _ _ _ (congrArg (Option.map (fun w => (w, t))) hrun) rfl hS dX10_bears_36
      · have hrun := iq hc hrun
        refine lv_iload_n hx hb dX10_bears_29 rfl (lv_at hl 3 rfl) ?_
        refine lv_iconst (v := 1) hx hb dX10_bears_30 (by decide) ?_
        refine lv_icmp_le (tgt := 37) hx hb dX10_bears_31 (by decide) (fun hc => ?_) (fun hc => ?_)
        · have hrun := ip hc hrun
          refine lv_aload_n hx hb dX10_bears_37 rfl (lv_at hl 0 rfl) ?_
          refine gX10_34 B hS dX10_bears_38 ?_
          refine lv_iload_n hx hb dX10_bears_41 rfl (lv_at hl 1 rfl) ?_
          refine lv_iload_n hx hb dX10_bears_42 rfl (lv_at hl 2 rfl) ?_
          obtain ⟨r_6, hc_5, hrun⟩ := bdE hrun
          refine qX10_266 B hS hall_now hc_5 hl.1 (Nat.le_of_ble_eq_true rfl) ⟨Nat.le_of_ble_eq_true rfl, Nat.le_of_ble_eq_true rfl⟩ ⟨Nat.zero_le _, Nat.zero_le _⟩ dX10_bears_43 (fun H locs hS => ?_)
          refine lv_istore (lv' := [(4, .int r_6), (0, .ref (X.2.1 0)), (1, .int x1), (2, .int x2), (3, .int x3)]) hx hb dX10_bears_46 hl (by decide) rfl (fun ls hl => ?_)
          refine lv_iload_n hx hb dX10_bears_48 rfl (lv_at hl 4 rfl) ?_
          refine lv_if_ne (tgt := 60) hx hb dX10_bears_49 (by decide) (fun hc => ?_) (fun hc => ?_)
          · have hrun := iq hc hrun
            refine lv_iload hx hb dX10_bears_60 (lv_at hl 0 rfl) ?_
            exact hret _ _ _ _ _ _ (congrArg (Option.map (fun w => (w, t))) hrun) rfl hS dX10_bears_62
          · have hrun := ip hc hrun
            refine lv_iload hx hb dX10_bears_52 (lv_at hl 0 rfl) ?_
            obtain ⟨r_8, hc_7, hrun⟩ := bdE hrun
            refine qX10_269 B hS hc_7 hl.1 (Nat.le_of_ble_eq_true rfl) ⟨Nat.le_of_ble_eq_true rfl, Nat.le_of_ble_eq_true rfl⟩ ⟨Nat.zero_le _, Nat.zero_le _⟩ dX10_bears_54 (fun H locs hS => ?_)
            refine lv_goto (tgt := 62) hx hb dX10_bears_57 (by decide) ?_
            exact hret _ _ _ _ _ _ (congrArg (Option.map (fun w => (w, t))) hrun) rfl hS dX10_bears_62
        · have hrun := iq hc hrun
          refine lv_ldc (v := -1000000002) hx hb hown (hts _ (tw_2 105 rfl rfl)) dX10_bears_34 ?_
          exact hret _ _ _ _ _ _ (congrArg (Option.map (fun w => (w, t))) hrun) rfl hS dX10_bears_36
    · have hrun := ip hc hrun
      refine lv_ldc (v := -1000000001) hx hb hown (hts _ (tw_3 51 rfl rfl)) dX10_bears_22 ?_
      exact hret _ _ _ _ _ _ (congrArg (Option.map (fun w => (w, t))) hrun) rfl hS dX10_bears_24
theorem mdX10_shared : MD yX10_shared 2 := ⟨by decide +kernel, by decide +kernel, by decide +kernel⟩
section QX10_shared
variable {p : Program} {l : Launch} {e : Env} {R : Room} {s : State} {m : MethodId} {args : Array Value} {below : List Frame} {meth : Method} {c : Code} {H : Heap} {locs : List Loc} {cells slots : Nat} {Q : State → Prop}
variable {cc : ByteArray} {pc : Nat} {ls : Array Slot} {rest : List Value} {X : Cx} {t : St} {H0 : Heap} {nL : Nat}
theorem qX10_274 (B : Bx p s m args c cc nL X RX10) (hS : SS X t H0 H locs) {h0 : Nat} (e0 : isReg h0) {x1 : Int32} {r : Int32} (hM : fX8_hasWord h0 t x1 = some r) (hsz : ls.size = nL) (hW : (rest.map fun v => v.category).sum ≤ 8) (hR : 0 + 1 ≤ R.frames ∧ 8 + (2 + 11) + 0 ≤ R.locals) (hR2 : cells ≤ R.cells ∧ slots ≤ R.slots) (hdg : decode cc pc = .ok (.invokevirtual 274, 3)) (kk : ∀ (H1 : Heap) (locs1 : List Loc), SS X t H0 H1 locs1 → W p l e R s m args below meth c H1 locs1 cells slots Q (F0 m (pc + 3) ls (.int r :: rest))) : W p l e R s m args below meth c H locs cells slots Q (F0 m pc ls (.int x1 :: .ref (X.2.1 h0) :: rest)) :=
  xVi B hS (kX8_hasWord l X t h0 e0 x1 r hM) (tw_3 218 rfl rfl) (tw_3 219 rfl rfl) (tw_3 220 rfl rfl) (tw_1 2 rfl rfl) (tw_3 221 rfl rfl) mdX8_hasWord (reg_lt e0) (ceX8 e0 _) rfl rfl rfl hsz rfl hW hR hR2 hdg kk
theorem qX10_283 (B : Bx p s m args c cc nL X RX10) (hS : SS X t H0 H locs) {x1 : Int32} {t' : St} (hM : fX9_share t x1 = some t') (hsz : ls.size = nL) (hW : (rest.map fun v => v.category).sum ≤ 8) (hR : 3 + 1 ≤ R.frames ∧ 8 + (5 + 11) + 72 ≤ R.locals) (hR2 : cells ≤ R.cells ∧ slots ≤ R.slots) (hdg : decode cc pc = .ok (.invokevirtual 283, 3)) (kk : ∀ (H1 : Heap) (locs1 : List Loc), SS X t' H0 H1 locs1 → W p l e R s m args below meth c H1 locs1 cells slots Q (F0 m (pc + 3) ls (rest))) : W p l e R s m args below meth c H locs cells slots Q (F0 m pc ls (.int x1 :: .ref (X.2.1 27) :: rest)) :=
  xVv B hS (kX9_share l X t x1 t' hM) (tw_3 222 rfl rfl) (tw_3 223 rfl rfl) (tw_3 224 rfl rfl) (tw_1 9 rfl rfl) (tw_3 225 rfl rfl) mdX9_share (by decide) (ceX9 _) rfl rfl rfl hsz rfl hW hR hR2 hdg kk
end QX10_shared
set_option maxHeartbeats 4000000 in
set_option maxRecDepth 100000 in
theorem kX10_shared (l : Launch) (X : Cx) (t : St) (x1 : Int32) (x2 : Int32) (r : Int32) (t' : St) (hrun : fX10_shared t x1 x2 = some (r, t')) : Ci l X t yX10_shared cX10_shared 3 .int 4 96 [.ref (X.2.1 0), .int x1, .int x2] r t' := by
  refine Ci_of (by decide) (Nat.le_of_ble_eq_true rfl) ?_
  intro p e s m args below meth c Q B hret hS ls hl
  have hx := B.1
  have hb := B.2.1
  have hown := B.2.2.2.1
  have hts := B.2.2.2.2.1
  have hl : lv_has ls 3 [(0, .ref (X.2.1 0)), (1, .int x1), (2, .int x2)] := hl
  have hB33 : ∀ (t : St) (x1 : Int32) (x2 : Int32) (H : Heap) (locs : List Loc) (ls : Array Slot), SS X t s.heap H locs → lv_has ls 3 [(0, .ref (X.2.1 0)), (1, .int x1), (2, .int x2)] → fX10_shared_33 t x1 x2 = some (r, t') → W p l e ({ frames := 4, cells := 0, slots := 0, locals := 96 } : Room) s m args below meth c H locs 0 0 Q (F0 m 33 ls []) := by
    intro t x1 x2 H locs ls hS hl hrun
    unfold fX10_shared_33 at hrun
    refine lv_aload_n hx hb dX10_shared_33 rfl (lv_at hl 0 rfl) ?_
    refine gX10_28 B hS dX10_shared_34 ?_
    obtain ⟨r_1035, hc_1034, hrun⟩ := bdE hrun
    refine qX10_240 B hS reg_3 hc_1034 hl.1 (Nat.le_of_ble_eq_true rfl) ⟨Nat.le_of_ble_eq_true rfl, Nat.le_of_ble_eq_true rfl⟩ ⟨Nat.zero_le _, Nat.zero_le _⟩ dX10_shared_37 (fun H locs hS => ?_)
    refine lv_if_eq (tgt := 46) hx hb dX10_shared_40 (by decide) (fun hc => ?_) (fun hc => ?_)
    · have hrun := ip hc hrun
      refine lv_aload_n hx hb dX10_shared_46 rfl (lv_at hl 0 rfl) ?_
      refine gX10_28 B hS dX10_shared_47 ?_
      refine lv_iload_n hx hb dX10_shared_50 rfl (lv_at hl 1 rfl) ?_
      obtain ⟨r_1037, hc_1036, hrun⟩ := bdE hrun
      refine qX10_277 B hS reg_3 hc_1036 hl.1 (Nat.le_of_ble_eq_true rfl) ⟨Nat.le_of_ble_eq_true rfl, Nat.le_of_ble_eq_true rfl⟩ ⟨Nat.zero_le _, Nat.zero_le _⟩ dX10_shared_51 (fun H locs hS => ?_)
      refine lv_aload_n hx hb dX10_shared_54 rfl (lv_at hl 0 rfl) ?_
      refine gX10_28 B hS dX10_shared_55 ?_
      obtain ⟨r_1039, hc_1038, hrun⟩ := bdE hrun
      refine qX10_280 B hS reg_3 hc_1038 hl.1 (Nat.le_of_ble_eq_true rfl) ⟨Nat.le_of_ble_eq_true rfl, Nat.le_of_ble_eq_true rfl⟩ ⟨Nat.zero_le _, Nat.zero_le _⟩ dX10_shared_58 (fun H locs hS => ?_)
      refine lv_icmp_eq (tgt := 66) hx hb dX10_shared_61 (by decide) (fun hc => ?_) (fun hc => ?_)
      · have hrun := ip hc hrun
        refine lv_aload_n hx hb dX10_shared_66 rfl (lv_at hl 0 rfl) ?_
        refine gX10_69 B hS dX10_shared_67 ?_
        refine lv_iload_n hx hb dX10_shared_70 rfl (lv_at hl 1 rfl) ?_
        obtain ⟨t_1041, hc_1040, hrun⟩ := bdE hrun
        refine qX10_283 B hS hc_1040 hl.1 (Nat.le_of_ble_eq_true rfl) ⟨Nat.le_of_ble_eq_true rfl, Nat.le_of_ble_eq_true rfl⟩ ⟨Nat.zero_le _, Nat.zero_le _⟩ dX10_shared_71 (fun H locs hS => ?_)
        refine lv_iload_n hx hb dX10_shared_74 rfl (lv_at hl 2 rfl) ?_
        refine lv_iconst (v := -1) hx hb dX10_shared_75 (by decide) ?_
        refine lv_icmp_ne (tgt := 89) hx hb dX10_shared_76 (by decide) (fun hc => ?_) (fun hc => ?_)
        · have hrun := iq hc hrun
          refine lv_aload_n hx hb dX10_shared_89 rfl (lv_at hl 0 rfl) ?_
          refine gX10_69 B hS dX10_shared_90 ?_
          refine gX10_289 B hS dX10_shared_93 ?_
          refine lv_iload_n hx hb dX10_shared_96 rfl (lv_at hl 2 rfl) ?_
          obtain ⟨hi_1042, hrun⟩ := gdE hrun
          refine xa B hS ia_38 hi_1042 dX10_shared_97 ?_
          exact hret _ _ _ _ _ _ hrun rfl hS dX10_shared_98
        · have hrun := ip hc hrun
          refine lv_aload_n hx hb dX10_shared_79 rfl (lv_at hl 0 rfl) ?_
          refine gX10_69 B hS dX10_shared_80 ?_
          refine gX10_286 B hS dX10_shared_83 ?_
          refine lv_goto (tgt := 98) hx hb dX10_shared_86 (by decide) ?_
          exact hret _ _ _ _ _ _ hrun rfl hS dX10_shared_98
      · have hrun := iq hc hrun
        refine lv_iconst (v := -1) hx hb dX10_shared_64 (by decide) ?_
        exact hret _ _ _ _ _ _ hrun rfl hS dX10_shared_65
    · have hrun := iq hc hrun
      refine lv_ldc (v := -1000000003) hx hb hown (hts _ (tw_3 78 rfl rfl)) dX10_shared_43 ?_
      exact hret _ _ _ _ _ _ hrun rfl hS dX10_shared_45
  unfold fX10_shared at hrun
  refine lv_aload_n hx hb dX10_shared_0 rfl (lv_at hl 0 rfl) ?_
  refine gX10_28 B hS dX10_shared_1 ?_
  refine lv_iload_n hx hb dX10_shared_4 rfl (lv_at hl 1 rfl) ?_
  obtain ⟨r_2, hc_1, hrun⟩ := bdE hrun
  refine qX10_263 B hS reg_3 hc_1 hl.1 (Nat.le_of_ble_eq_true rfl) ⟨Nat.le_of_ble_eq_true rfl, Nat.le_of_ble_eq_true rfl⟩ ⟨Nat.zero_le _, Nat.zero_le _⟩ dX10_shared_5 (fun H locs hS => ?_)
  refine lv_if_ne (tgt := 14) hx hb dX10_shared_8 (by decide) (fun hc => ?_) (fun hc => ?_)
  · have hrun := iq hc hrun
    refine lv_iload_n hx hb dX10_shared_14 rfl (lv_at hl 2 rfl) ?_
    refine lv_iconst (v := -1) hx hb dX10_shared_15 (by decide) ?_
    refine lv_icmp_eq (tgt := 33) hx hb dX10_shared_16 (by decide) (fun hc => ?_) (fun hc => ?_)
    · have hrun := ip hc hrun
      exact hB33 t x1 x2 _ _ _ hS (lv_sub hl [0, 1, 2] rfl) hrun
    · have hrun := iq hc hrun
      refine lv_aload_n hx hb dX10_shared_19 rfl (lv_at hl 0 rfl) ?_
      refine gX10_28 B hS dX10_shared_20 ?_
      refine lv_iload_n hx hb dX10_shared_23 rfl (lv_at hl 2 rfl) ?_
      obtain ⟨r_4, hc_3, hrun⟩ := bdE hrun
      refine qX10_274 B hS reg_3 hc_3 hl.1 (Nat.le_of_ble_eq_true rfl) ⟨Nat.le_of_ble_eq_true rfl, Nat.le_of_ble_eq_true rfl⟩ ⟨Nat.zero_le _, Nat.zero_le _⟩ dX10_shared_24 (fun H locs hS => ?_)
      refine lv_if_ne (tgt := 33) hx hb dX10_shared_27 (by decide) (fun hc => ?_) (fun hc => ?_)
      · have hrun := iq hc hrun
        exact hB33 t x1 x2 _ _ _ hS (lv_sub hl [0, 1, 2] rfl) hrun
      · have hrun := ip hc hrun
        refine lv_ldc (v := -1000000002) hx hb hown (hts _ (tw_2 105 rfl rfl)) dX10_shared_30 ?_
        exact hret _ _ _ _ _ _ hrun rfl hS dX10_shared_32
  · have hrun := ip hc hrun
    refine lv_ldc (v := -1000000001) hx hb hown (hts _ (tw_3 51 rfl rfl)) dX10_shared_11 ?_
    exact hret _ _ _ _ _ _ hrun rfl hS dX10_shared_13
theorem mdX10_groups : MD yX10_groups 2 := ⟨by decide +kernel, by decide +kernel, by decide +kernel⟩
section QX10_groups
variable {p : Program} {l : Launch} {e : Env} {R : Room} {s : State} {m : MethodId} {args : Array Value} {below : List Frame} {meth : Method} {c : Code} {H : Heap} {locs : List Loc} {cells slots : Nat} {Q : State → Prop}
variable {cc : ByteArray} {pc : Nat} {ls : Array Slot} {rest : List Value} {X : Cx} {t : St} {H0 : Heap} {nL : Nat}
theorem qX10_292 (B : Bx p s m args c cc nL X RX10) (hS : SS X t H0 H locs) {h2 : Nat} (e2 : isHall h2) {x1 : Int32} {t' : St} (hM : fX2_group h2 t x1 = some t') (hsz : ls.size = nL) (hW : (rest.map fun v => v.category).sum ≤ 8) (hR : 5 + 1 ≤ R.frames ∧ 8 + (6 + 11) + 123 ≤ R.locals) (hR2 : cells ≤ R.cells ∧ slots ≤ R.slots) (hdg : decode cc pc = .ok (.invokevirtual 292, 3)) (kk : ∀ (H1 : Heap) (locs1 : List Loc), SS X t' H0 H1 locs1 → W p l e R s m args below meth c H1 locs1 cells slots Q (F0 m (pc + 3) ls (rest))) : W p l e R s m args below meth c H locs cells slots Q (F0 m pc ls (.ref (X.2.1 h2) :: .int x1 :: .ref (X.2.1 39) :: rest)) :=
  xVv B hS (kX2_group l X t h2 e2 x1 t' hM) (tw_4 6 rfl rfl) (tw_4 7 rfl rfl) (tw_4 8 rfl rfl) (tw_1 10 rfl rfl) (tw_4 9 rfl rfl) mdX2_group (by decide) (ceX2 _) rfl rfl rfl hsz rfl hW hR hR2 hdg kk
end QX10_groups
set_option maxHeartbeats 4000000 in
set_option maxRecDepth 100000 in
theorem kX10_groups (l : Launch) (X : Cx) (t : St) (x1 : Int32) (x2 : Int32) (r : Int32) (t' : St) (hrun : fX10_groups t x1 x2 = some (r, t')) : Ci l X t yX10_groups cX10_groups 3 .int 6 148 [.ref (X.2.1 0), .int x1, .int x2] r t' := by
  refine Ci_of (by decide) (Nat.le_of_ble_eq_true rfl) ?_
  intro p e s m args below meth c Q B hret hS ls hl
  have hx := B.1
  have hb := B.2.1
  have hown := B.2.2.2.1
  have hts := B.2.2.2.2.1
  have hl : lv_has ls 3 [(0, .ref (X.2.1 0)), (1, .int x1), (2, .int x2)] := hl
  have hB30 : ∀ (t : St) (x1 : Int32) (x2 : Int32) (H : Heap) (locs : List Loc) (ls : Array Slot), SS X t s.heap H locs → lv_has ls 3 [(0, .ref (X.2.1 0)), (1, .int x1), (2, .int x2)] → fX10_groups_30 t x1 x2 = some (r, t') → W p l e ({ frames := 6, cells := 0, slots := 0, locals := 148 } : Room) s m args below meth c H locs 0 0 Q (F0 m 30 ls []) := by
    intro t x1 x2 H locs ls hS hl hrun
    unfold fX10_groups_30 at hrun
    refine lv_aload_n hx hb dX10_groups_30 rfl (lv_at hl 0 rfl) ?_
    refine gX10_28 B hS dX10_groups_31 ?_
    obtain ⟨r_1032, hc_1031, hrun⟩ := bdE hrun
    refine qX10_240 B hS reg_3 hc_1031 hl.1 (Nat.le_of_ble_eq_true rfl) ⟨Nat.le_of_ble_eq_true rfl, Nat.le_of_ble_eq_true rfl⟩ ⟨Nat.zero_le _, Nat.zero_le _⟩ dX10_groups_34 (fun H locs hS => ?_)
    refine lv_if_eq (tgt := 43) hx hb dX10_groups_37 (by decide) (fun hc => ?_) (fun hc => ?_)
    · have hrun := ip hc hrun
      refine lv_aload_n hx hb dX10_groups_43 rfl (lv_at hl 0 rfl) ?_
      refine gX10_76 B hS dX10_groups_44 ?_
      refine lv_iload_n hx hb dX10_groups_47 rfl (lv_at hl 1 rfl) ?_
      refine lv_aload_n hx hb dX10_groups_48 rfl (lv_at hl 0 rfl) ?_
      refine gX10_34 B hS dX10_groups_49 ?_
      obtain ⟨t_1034, hc_1033, hrun⟩ := bdE hrun
      refine qX10_292 B hS hall_now hc_1033 hl.1 (Nat.le_of_ble_eq_true rfl) ⟨Nat.le_of_ble_eq_true rfl, Nat.le_of_ble_eq_true rfl⟩ ⟨Nat.zero_le _, Nat.zero_le _⟩ dX10_groups_52 (fun H locs hS => ?_)
      refine lv_iload_n hx hb dX10_groups_55 rfl (lv_at hl 2 rfl) ?_
      refine lv_iconst (v := -1) hx hb dX10_groups_56 (by decide) ?_
      refine lv_icmp_ne (tgt := 70) hx hb dX10_groups_57 (by decide) (fun hc => ?_) (fun hc => ?_)
      · have hrun := iq hc hrun
        refine lv_aload_n hx hb dX10_groups_70 rfl (lv_at hl 0 rfl) ?_
        refine gX10_76 B hS dX10_groups_71 ?_
        refine gX10_299 B hS dX10_groups_74 ?_
        refine lv_iload_n hx hb dX10_groups_77 rfl (lv_at hl 2 rfl) ?_
        obtain ⟨hi_1035, hrun⟩ := gdE hrun
        refine xa B hS ia_42 hi_1035 dX10_groups_78 ?_
        exact hret _ _ _ _ _ _ hrun rfl hS dX10_groups_79
      · have hrun := ip hc hrun
        refine lv_aload_n hx hb dX10_groups_60 rfl (lv_at hl 0 rfl) ?_
        refine gX10_76 B hS dX10_groups_61 ?_
        refine gX10_296 B hS dX10_groups_64 ?_
        refine lv_goto (tgt := 79) hx hb dX10_groups_67 (by decide) ?_
        exact hret _ _ _ _ _ _ hrun rfl hS dX10_groups_79
    · have hrun := iq hc hrun
      refine lv_ldc (v := -1000000003) hx hb hown (hts _ (tw_3 78 rfl rfl)) dX10_groups_40 ?_
      exact hret _ _ _ _ _ _ hrun rfl hS dX10_groups_42
  unfold fX10_groups at hrun
  refine lv_aload_n hx hb dX10_groups_0 rfl (lv_at hl 0 rfl) ?_
  refine gX10_28 B hS dX10_groups_1 ?_
  refine lv_iload_n hx hb dX10_groups_4 rfl (lv_at hl 1 rfl) ?_
  obtain ⟨r_2, hc_1, hrun⟩ := bdE hrun
  refine qX10_263 B hS reg_3 hc_1 hl.1 (Nat.le_of_ble_eq_true rfl) ⟨Nat.le_of_ble_eq_true rfl, Nat.le_of_ble_eq_true rfl⟩ ⟨Nat.zero_le _, Nat.zero_le _⟩ dX10_groups_5 (fun H locs hS => ?_)
  refine lv_if_eq (tgt := 27) hx hb dX10_groups_8 (by decide) (fun hc => ?_) (fun hc => ?_)
  · have hrun := ip hc hrun
    refine lv_ldc (v := -1000000001) hx hb hown (hts _ (tw_3 51 rfl rfl)) dX10_groups_27 ?_
    exact hret _ _ _ _ _ _ hrun rfl hS dX10_groups_29
  · have hrun := iq hc hrun
    refine lv_iload_n hx hb dX10_groups_11 rfl (lv_at hl 2 rfl) ?_
    refine lv_iconst (v := -1) hx hb dX10_groups_12 (by decide) ?_
    refine lv_icmp_eq (tgt := 30) hx hb dX10_groups_13 (by decide) (fun hc => ?_) (fun hc => ?_)
    · have hrun := ip hc hrun
      exact hB30 t x1 x2 _ _ _ hS (lv_sub hl [0, 1, 2] rfl) hrun
    · have hrun := iq hc hrun
      refine lv_aload_n hx hb dX10_groups_16 rfl (lv_at hl 0 rfl) ?_
      refine gX10_28 B hS dX10_groups_17 ?_
      refine lv_iload_n hx hb dX10_groups_20 rfl (lv_at hl 2 rfl) ?_
      obtain ⟨r_4, hc_3, hrun⟩ := bdE hrun
      refine qX10_173 B hS reg_3 hc_3 hl.1 (Nat.le_of_ble_eq_true rfl) ⟨Nat.le_of_ble_eq_true rfl, Nat.le_of_ble_eq_true rfl⟩ ⟨Nat.zero_le _, Nat.zero_le _⟩ dX10_groups_21 (fun H locs hS => ?_)
      refine lv_if_ne (tgt := 30) hx hb dX10_groups_24 (by decide) (fun hc => ?_) (fun hc => ?_)
      · have hrun := iq hc hrun
        exact hB30 t x1 x2 _ _ _ hS (lv_sub hl [0, 1, 2] rfl) hrun
      · have hrun := ip hc hrun
        refine lv_ldc (v := -1000000001) hx hb hown (hts _ (tw_3 51 rfl rfl)) dX10_groups_27 ?_
        exact hret _ _ _ _ _ _ hrun rfl hS dX10_groups_29
theorem mdX10_rates : MD yX10_rates 1 := ⟨by decide +kernel, by decide +kernel, by decide +kernel⟩
section QX10_rates
variable {p : Program} {l : Launch} {e : Env} {R : Room} {s : State} {m : MethodId} {args : Array Value} {below : List Frame} {meth : Method} {c : Code} {H : Heap} {locs : List Loc} {cells slots : Nat} {Q : State → Prop}
variable {cc : ByteArray} {pc : Nat} {ls : Array Slot} {rest : List Value} {X : Cx} {t : St} {H0 : Heap} {nL : Nat}
theorem qX10_303 (B : Bx p s m args c cc nL X RX10) (hS : SS X t H0 H locs) {h0 : Nat} (e0 : isHall h0) {x1 : Int32} {r : Int32} (hM : fX3_paidByAll h0 t x1 = some r) (hsz : ls.size = nL) (hW : (rest.map fun v => v.category).sum ≤ 8) (hR : 3 + 1 ≤ R.frames ∧ 8 + (4 + 11) + 70 ≤ R.locals) (hR2 : cells ≤ R.cells ∧ slots ≤ R.slots) (hdg : decode cc pc = .ok (.invokevirtual 303, 3)) (kk : ∀ (H1 : Heap) (locs1 : List Loc), SS X t H0 H1 locs1 → W p l e R s m args below meth c H1 locs1 cells slots Q (F0 m (pc + 3) ls (.int r :: rest))) : W p l e R s m args below meth c H locs cells slots Q (F0 m pc ls (.int x1 :: .ref (X.2.1 h0) :: rest)) :=
  xVi B hS (kX3_paidByAll l X t h0 e0 x1 r hM) (tw_4 33 rfl rfl) (tw_4 34 rfl rfl) (tw_4 35 rfl rfl) (tw_1 4 rfl rfl) (tw_4 36 rfl rfl) mdX3_paidByAll (hall_lt e0) (ceX3 e0 _) rfl rfl rfl hsz rfl hW hR hR2 hdg kk
end QX10_rates
set_option maxHeartbeats 4000000 in
set_option maxRecDepth 100000 in
theorem kX10_rates (l : Launch) (X : Cx) (t : St) (x1 : Int32) (r : Int32) (hrun : fX10_rates t x1 = some r) : Ci l X t yX10_rates cX10_rates 3 .int 4 93 [.ref (X.2.1 0), .int x1] r t := by
  refine Ci_of (by decide) (Nat.le_of_ble_eq_true rfl) ?_
  intro p e s m args below meth c Q B hret hS ls hl
  have hx := B.1
  have hb := B.2.1
  have hown := B.2.2.2.1
  have hts := B.2.2.2.2.1
  have hl : lv_has ls 3 [(0, .ref (X.2.1 0)), (1, .int x1)] := hl
  have hB16 : ∀ (n16 : Nat) (x1 : Int32) (x2 : Int32) (H : Heap) (locs : List Loc) (ls : Array Slot), SS X t s.heap H locs → lv_has ls 3 [(0, .ref (X.2.1 0)), (1, .int x1), (2, .int x2)] → fX10_rates_16 t n16 x1 x2 = some r → W p l e ({ frames := 4, cells := 0, slots := 0, locals := 93 } : Room) s m args below meth c H locs 0 0 Q (F0 m 16 ls []) := by
    intro n16
    induction n16 with
    | zero =>
      intro x1 x2 H locs ls hS hl hrun
      cases (show (none : Option (Int32)) = some r from hrun)
    | succ n16 ih16 =>
      intro x1 x2 H locs ls hS hl hrun
      rw [fX10_rates_16_s] at hrun
      refine lv_iload_n hx hb dX10_rates_16 rfl (lv_at hl 2 rfl) ?_
      refine lv_bipush (v := 9) hx hb dX10_rates_17 (by decide) ?_
      refine lv_icmp_gt (tgt := 42) hx hb dX10_rates_19 (by decide) (fun hc => ?_) (fun hc => ?_)
      · have hrun := ip hc hrun
        refine lv_iconst (v := -1) hx hb dX10_rates_42 (by decide) ?_
        exact hret _ _ _ _ _ _ (congrArg (Option.map (fun w => (w, t))) hrun) rfl hS dX10_rates_43
      · have hrun := iq hc hrun
        refine lv_aload_n hx hb dX10_rates_22 rfl (lv_at hl 0 rfl) ?_
        refine gX10_34 B hS dX10_rates_23 ?_
        refine lv_iload_n hx hb dX10_rates_26 rfl (lv_at hl 2 rfl) ?_
        obtain ⟨r_1018, hc_1017, hrun⟩ := bdE hrun
        refine qX10_303 B hS hall_now hc_1017 hl.1 (Nat.le_of_ble_eq_true rfl) ⟨Nat.le_of_ble_eq_true rfl, Nat.le_of_ble_eq_true rfl⟩ ⟨Nat.zero_le _, Nat.zero_le _⟩ dX10_rates_27 (fun H locs hS => ?_)
        refine lv_iload_n hx hb dX10_rates_30 rfl (lv_at hl 1 rfl) ?_
        refine lv_icmp_lt (tgt := 36) hx hb dX10_rates_31 (by decide) (fun hc => ?_) (fun hc => ?_)
        · have hrun := ip hc hrun
          refine lv_iinc (v := x2 + (1 : Int32)) (k := 2) (lv' := [(2, .int (x2 + (1 : Int32))), (0, .ref (X.2.1 0)), (1, .int x1)]) hx hb dX10_rates_36 hl rfl rfl (by decide) rfl (fun ls hl => ?_)
          refine lv_goto (tgt := 16) hx hb dX10_rates_39 (by decide) ?_
          exact ih16 x1 (x2 + (1 : Int32)) _ _ _ hS (lv_sub hl [1, 2, 0] rfl) hrun
        · have hrun := iq hc hrun
          refine lv_iload_n hx hb dX10_rates_34 rfl (lv_at hl 2 rfl) ?_
          exact hret _ _ _ _ _ _ (congrArg (Option.map (fun w => (w, t))) hrun) rfl hS dX10_rates_35
  unfold fX10_rates at hrun
  refine lv_iload_n hx hb dX10_rates_0 rfl (lv_at hl 1 rfl) ?_
  refine lv_if_lt (tgt := 11) hx hb dX10_rates_1 (by decide) (fun hc => ?_) (fun hc => ?_)
  · have hrun := ip hc hrun
    refine lv_ldc (v := -1000000002) hx hb hown (hts _ (tw_2 105 rfl rfl)) dX10_rates_11 ?_
    exact hret _ _ _ _ _ _ (congrArg (Option.map (fun w => (w, t))) hrun) rfl hS dX10_rates_13
  · have hrun := iq hc hrun
    refine lv_iload_n hx hb dX10_rates_4 rfl (lv_at hl 1 rfl) ?_
    refine lv_ldcw (v := 999999) hx hb hown (hts _ (tw_4 32 rfl rfl)) dX10_rates_5 ?_
    refine lv_icmp_le (tgt := 14) hx hb dX10_rates_8 (by decide) (fun hc => ?_) (fun hc => ?_)
    · have hrun := ip hc hrun
      refine lv_iconst (v := 1) hx hb dX10_rates_14 (by decide) ?_
      refine lv_istore_n (lv' := [(2, .int (1 : Int32)), (0, .ref (X.2.1 0)), (1, .int x1)]) hx hb dX10_rates_15 rfl hl (by decide) rfl (fun ls hl => ?_)
      exact hB16 fuelN x1 (1 : Int32) _ _ _ hS (lv_sub hl [1, 2, 0] rfl) hrun
    · have hrun := iq hc hrun
      refine lv_ldc (v := -1000000002) hx hb hown (hts _ (tw_2 105 rfl rfl)) dX10_rates_11 ?_
      exact hret _ _ _ _ _ _ (congrArg (Option.map (fun w => (w, t))) hrun) rfl hS dX10_rates_13
theorem mdX10_dry : MD yX10_dry 2 := ⟨by decide +kernel, by decide +kernel, by decide +kernel⟩
set_option maxHeartbeats 4000000 in
set_option maxRecDepth 100000 in
theorem kX10_dry (l : Launch) (X : Cx) (t : St) (x1 : Int32) (x2 : Int32) (r : Int32) (hrun : fX10_dry t x1 x2 = some r) : Ci l X t yX10_dry cX10_dry 6 .int 0 0 [.ref (X.2.1 0), .int x1, .int x2] r t := by
  refine Ci_of (by decide) (Nat.le_of_ble_eq_true rfl) ?_
  intro p e s m args below meth c Q B hret hS ls hl
  have hx := B.1
  have hb := B.2.1
  have hown := B.2.2.2.1
  have hts := B.2.2.2.2.1
  have hl : lv_has ls 6 [(0, .ref (X.2.1 0)), (1, .int x1), (2, .int x2)] := hl
  have hB30 : ∀ (n30 : Nat) (x1 : Int32) (x2 : Int32) (x3 : Int64) (x5 : Int32) (H : Heap) (locs : List Loc) (ls : Array Slot), SS X t s.heap H locs → lv_has ls 6 [(1, .int x1), (2, .int x2), (3, .long x3), (5, .int x5)] → fX10_dry_30 t n30 x1 x2 x3 x5 = some r → W p l e ({ frames := 0, cells := 0, slots := 0, locals := 0 } : Room) s m args below meth c H locs 0 0 Q (F0 m 30 ls []) := by
    intro n30
    induction n30 with
    | zero =>
      intro x1 x2 x3 x5 H locs ls hS hl hrun
      cases (show (none : Option (Int32)) = some r from hrun)
    | succ n30 ih30 =>
      intro x1 x2 x3 x5 H locs ls hS hl hrun
      rw [fX10_dry_30_s] at hrun
      refine lv_iload hx hb dX10_dry_30 (lv_at hl 3 rfl) ?_
      refine lv_iload_n hx hb dX10_dry_32 rfl (lv_at hl 0 rfl) ?_
      refine lv_icmp_ge (tgt := 51) hx hb dX10_dry_33 (by decide) (fun hc => ?_) (fun hc => ?_)
      · have hrun := ip hc hrun
        refine lv_lload_n hx hb dX10_dry_51 rfl (lv_at hl 2 rfl) ?_
        refine lv_l2i hx hb dX10_dry_52 rfl ?_
        exact hret _ _ _ _ _ _ (congrArg (Option.map (fun w => (w, t))) hrun) rfl hS dX10_dry_53
      · have hrun := iq hc hrun
        refine lv_lload_n hx hb dX10_dry_36 rfl (lv_at hl 2 rfl) ?_
        refine lv_iload_n hx hb dX10_dry_37 rfl (lv_at hl 1 rfl) ?_
        refine lv_i2l hx hb dX10_dry_38 rfl ?_
        refine lv_lmul hx hb dX10_dry_39 ?_
        refine lv_ldc2 (v := 100) hx hb hown (hts _ (tw_4 42 rfl rfl)) dX10_dry_40 ?_
        refine lv_ldiv hx hb dX10_dry_43 (by decide) ?_
        refine lv_topl (fun x3_1031 ex => ?_)
        obtain ⟨z, ez, hrun⟩ := bsE hrun
        obtain rfl : x3_1031 = z := ex.trans ez.symm
        clear ex ez
        refine lv_lstore_n (lv' := [(3, .long x3_1031), (1, .int x1), (2, .int x2), (5, .int x5)]) hx hb dX10_dry_44 rfl hl (by decide) rfl (fun ls hl => ?_)
        refine lv_iinc (v := x5 + (1 : Int32)) (k := 3) (lv' := [(5, .int (x5 + (1 : Int32))), (3, .long x3_1031), (1, .int x1), (2, .int x2)]) hx hb dX10_dry_45 hl rfl rfl (by decide) rfl (fun ls hl => ?_)
        refine lv_goto (tgt := 30) hx hb dX10_dry_48 (by decide) ?_
        exact ih30 x1 x2 x3_1031 (x5 + (1 : Int32)) _ _ _ hS (lv_sub hl [2, 3, 1, 0] rfl) hrun
  unfold fX10_dry at hrun
  refine lv_iload_n hx hb dX10_dry_0 rfl (lv_at hl 1 rfl) ?_
  refine lv_if_lt (tgt := 20) hx hb dX10_dry_1 (by decide) (fun hc => ?_) (fun hc => ?_)
  · have hrun := ip hc hrun
    refine lv_ldc (v := -1000000002) hx hb hown (hts _ (tw_2 105 rfl rfl)) dX10_dry_20 ?_
    exact hret _ _ _ _ _ _ (congrArg (Option.map (fun w => (w, t))) hrun) rfl hS dX10_dry_22
  · have hrun := iq hc hrun
    refine lv_iload_n hx hb dX10_dry_4 rfl (lv_at hl 1 rfl) ?_
    refine lv_bipush (v := 60) hx hb dX10_dry_5 (by decide) ?_
    refine lv_icmp_gt (tgt := 20) hx hb dX10_dry_7 (by decide) (fun hc => ?_) (fun hc => ?_)
    · have hrun := ip hc hrun
      refine lv_ldc (v := -1000000002) hx hb hown (hts _ (tw_2 105 rfl rfl)) dX10_dry_20 ?_
      exact hret _ _ _ _ _ _ (congrArg (Option.map (fun w => (w, t))) hrun) rfl hS dX10_dry_22
    · have hrun := iq hc hrun
      refine lv_iload_n hx hb dX10_dry_10 rfl (lv_at hl 2 rfl) ?_
      refine lv_if_lt (tgt := 20) hx hb dX10_dry_11 (by decide) (fun hc => ?_) (fun hc => ?_)
      · have hrun := ip hc hrun
        refine lv_ldc (v := -1000000002) hx hb hown (hts _ (tw_2 105 rfl rfl)) dX10_dry_20 ?_
        exact hret _ _ _ _ _ _ (congrArg (Option.map (fun w => (w, t))) hrun) rfl hS dX10_dry_22
      · have hrun := iq hc hrun
        refine lv_iload_n hx hb dX10_dry_14 rfl (lv_at hl 2 rfl) ?_
        refine lv_bipush (v := 100) hx hb dX10_dry_15 (by decide) ?_
        refine lv_icmp_le (tgt := 23) hx hb dX10_dry_17 (by decide) (fun hc => ?_) (fun hc => ?_)
        · have hrun := ip hc hrun
          refine lv_ldc2 (v := 1000000000) hx hb hown (hts _ (tw_4 41 rfl rfl)) dX10_dry_23 ?_
          refine lv_lstore_n (lv' := [(3, .long (1000000000 : Int64)), (0, .ref (X.2.1 0)), (1, .int x1), (2, .int x2)]) hx hb dX10_dry_26 rfl hl (by decide) rfl (fun ls hl => ?_)
          refine lv_iconst (v := 0) hx hb dX10_dry_27 (by decide) ?_
          refine lv_istore (lv' := [(5, .int (0 : Int32)), (3, .long (1000000000 : Int64)), (0, .ref (X.2.1 0)), (1, .int x1), (2, .int x2)]) hx hb dX10_dry_28 hl (by decide) rfl (fun ls hl => ?_)
          exact hB30 fuelN x1 x2 (1000000000 : Int64) (0 : Int32) _ _ _ hS (lv_sub hl [3, 4, 1, 0] rfl) hrun
        · have hrun := iq hc hrun
          refine lv_ldc (v := -1000000002) hx hb hown (hts _ (tw_2 105 rfl rfl)) dX10_dry_20 ?_
          exact hret _ _ _ _ _ _ (congrArg (Option.map (fun w => (w, t))) hrun) rfl hS dX10_dry_22
theorem mdX10_pay : MD yX10_pay 2 := ⟨by decide +kernel, by decide +kernel, by decide +kernel⟩
section QX10_pay
variable {p : Program} {l : Launch} {e : Env} {R : Room} {s : State} {m : MethodId} {args : Array Value} {below : List Frame} {meth : Method} {c : Code} {H : Heap} {locs : List Loc} {cells slots : Nat} {Q : State → Prop}
variable {cc : ByteArray} {pc : Nat} {ls : Array Slot} {rest : List Value} {X : Cx} {t : St} {H0 : Heap} {nL : Nat}
theorem qX10_310 (B : Bx p s m args c cc nL X RX10) (hS : SS X t H0 H locs) {x1 : Int32} {x2 : Int32} {r : Int32} {t' : St} (hM : fX5_addPayment t x1 x2 = some (r, t')) (hsz : ls.size = nL) (hW : (rest.map fun v => v.category).sum ≤ 8) (hR : 0 + 1 ≤ R.frames ∧ 8 + (3 + 11) + 0 ≤ R.locals) (hR2 : cells ≤ R.cells ∧ slots ≤ R.slots) (hdg : decode cc pc = .ok (.invokevirtual 310, 3)) (kk : ∀ (H1 : Heap) (locs1 : List Loc), SS X t' H0 H1 locs1 → W p l e R s m args below meth c H1 locs1 cells slots Q (F0 m (pc + 3) ls (.int r :: rest))) : W p l e R s m args below meth c H locs cells slots Q (F0 m pc ls (.int x2 :: .int x1 :: .ref (X.2.1 20) :: rest)) :=
  xVi B hS (kX5_addPayment l X t x1 x2 r t' hM) (tw_4 47 rfl rfl) (tw_4 48 rfl rfl) (tw_4 49 rfl rfl) (tw_1 7 rfl rfl) (tw_4 50 rfl rfl) mdX5_addPayment (by decide) (ceX5 _) rfl rfl rfl hsz rfl hW hR hR2 hdg kk
end QX10_pay
set_option maxHeartbeats 4000000 in
set_option maxRecDepth 100000 in
theorem kX10_pay (l : Launch) (X : Cx) (t : St) (x1 : Int32) (x2 : Int32) (r : Int32) (t' : St) (hrun : fX10_pay t x1 x2 = some (r, t')) : Ci l X t yX10_pay cX10_pay 3 .int 1 22 [.ref (X.2.1 0), .int x1, .int x2] r t' := by
  refine Ci_of (by decide) (Nat.le_of_ble_eq_true rfl) ?_
  intro p e s m args below meth c Q B hret hS ls hl
  have hx := B.1
  have hb := B.2.1
  have hown := B.2.2.2.1
  have hts := B.2.2.2.2.1
  have hl : lv_has ls 3 [(0, .ref (X.2.1 0)), (1, .int x1), (2, .int x2)] := hl
  unfold fX10_pay at hrun
  refine lv_aload_n hx hb dX10_pay_0 rfl (lv_at hl 0 rfl) ?_
  refine gX10_28 B hS dX10_pay_1 ?_
  refine lv_iload_n hx hb dX10_pay_4 rfl (lv_at hl 1 rfl) ?_
  obtain ⟨r_2, hc_1, hrun⟩ := bdE hrun
  refine qX10_197 B hS reg_3 hc_1 hl.1 (Nat.le_of_ble_eq_true rfl) ⟨Nat.le_of_ble_eq_true rfl, Nat.le_of_ble_eq_true rfl⟩ ⟨Nat.zero_le _, Nat.zero_le _⟩ dX10_pay_5 (fun H locs hS => ?_)
  refine lv_if_ne (tgt := 14) hx hb dX10_pay_8 (by decide) (fun hc => ?_) (fun hc => ?_)
  · have hrun := iq hc hrun
    refine lv_iload_n hx hb dX10_pay_14 rfl (lv_at hl 2 rfl) ?_
    refine lv_if_lt (tgt := 25) hx hb dX10_pay_15 (by decide) (fun hc => ?_) (fun hc => ?_)
    · have hrun := ip hc hrun
      refine lv_ldc (v := -1000000002) hx hb hown (hts _ (tw_2 105 rfl rfl)) dX10_pay_25 ?_
      exact hret _ _ _ _ _ _ hrun rfl hS dX10_pay_27
    · have hrun := iq hc hrun
      refine lv_iload_n hx hb dX10_pay_18 rfl (lv_at hl 2 rfl) ?_
      refine lv_sipush (v := 9999) hx hb dX10_pay_19 (by decide) ?_
      refine lv_icmp_le (tgt := 28) hx hb dX10_pay_22 (by decide) (fun hc => ?_) (fun hc => ?_)
      · have hrun := ip hc hrun
        refine lv_aload_n hx hb dX10_pay_28 rfl (lv_at hl 0 rfl) ?_
        refine gX10_55 B hS dX10_pay_29 ?_
        refine lv_iload_n hx hb dX10_pay_32 rfl (lv_at hl 1 rfl) ?_
        refine lv_iload_n hx hb dX10_pay_33 rfl (lv_at hl 2 rfl) ?_
        obtain ⟨r_4, t_5, hc_3, hrun⟩ := bd2E hrun
        refine qX10_310 B hS hc_3 hl.1 (Nat.le_of_ble_eq_true rfl) ⟨Nat.le_of_ble_eq_true rfl, Nat.le_of_ble_eq_true rfl⟩ ⟨Nat.zero_le _, Nat.zero_le _⟩ dX10_pay_34 (fun H locs hS => ?_)
        refine lv_if_eq (tgt := 50) hx hb dX10_pay_37 (by decide) (fun hc => ?_) (fun hc => ?_)
        · have hrun := ip hc hrun
          refine lv_ldc (v := -1000000004) hx hb hown (hts _ (tw_2 110 rfl rfl)) dX10_pay_50 ?_
          exact hret _ _ _ _ _ _ hrun rfl hS dX10_pay_52
        · have hrun := iq hc hrun
          refine lv_aload_n hx hb dX10_pay_40 rfl (lv_at hl 0 rfl) ?_
          refine gX10_55 B hS dX10_pay_41 ?_
          refine gX10_160 B hS dX10_pay_44 ?_
          refine lv_goto (tgt := 52) hx hb dX10_pay_47 (by decide) ?_
          exact hret _ _ _ _ _ _ hrun rfl hS dX10_pay_52
      · have hrun := iq hc hrun
        refine lv_ldc (v := -1000000002) hx hb hown (hts _ (tw_2 105 rfl rfl)) dX10_pay_25 ?_
        exact hret _ _ _ _ _ _ hrun rfl hS dX10_pay_27
  · have hrun := ip hc hrun
    refine lv_ldc (v := -1000000001) hx hb hown (hts _ (tw_3 51 rfl rfl)) dX10_pay_11 ?_
    exact hret _ _ _ _ _ _ hrun rfl hS dX10_pay_13
theorem mdX10_write : MD yX10_write 2 := ⟨by decide +kernel, by decide +kernel, by decide +kernel⟩
section QX10_write
variable {p : Program} {l : Launch} {e : Env} {R : Room} {s : State} {m : MethodId} {args : Array Value} {below : List Frame} {meth : Method} {c : Code} {H : Heap} {locs : List Loc} {cells slots : Nat} {Q : State → Prop}
variable {cc : ByteArray} {pc : Nat} {ls : Array Slot} {rest : List Value} {X : Cx} {t : St} {H0 : Heap} {nL : Nat}
theorem qX10_314 (B : Bx p s m args c cc nL X RX10) (hS : SS X t H0 H locs) {x1 : Int32} {x2 : Int32} {r : Int32} {t' : St} (hM : fX5_addEntry t x1 x2 = some (r, t')) (hsz : ls.size = nL) (hW : (rest.map fun v => v.category).sum ≤ 8) (hR : 0 + 1 ≤ R.frames ∧ 8 + (3 + 11) + 0 ≤ R.locals) (hR2 : cells ≤ R.cells ∧ slots ≤ R.slots) (hdg : decode cc pc = .ok (.invokevirtual 314, 3)) (kk : ∀ (H1 : Heap) (locs1 : List Loc), SS X t' H0 H1 locs1 → W p l e R s m args below meth c H1 locs1 cells slots Q (F0 m (pc + 3) ls (.int r :: rest))) : W p l e R s m args below meth c H locs cells slots Q (F0 m pc ls (.int x2 :: .int x1 :: .ref (X.2.1 20) :: rest)) :=
  xVi B hS (kX5_addEntry l X t x1 x2 r t' hM) (tw_4 55 rfl rfl) (tw_4 56 rfl rfl) (tw_4 57 rfl rfl) (tw_1 7 rfl rfl) (tw_4 58 rfl rfl) mdX5_addEntry (by decide) (ceX5 _) rfl rfl rfl hsz rfl hW hR hR2 hdg kk
end QX10_write
set_option maxHeartbeats 4000000 in
set_option maxRecDepth 100000 in
theorem kX10_write (l : Launch) (X : Cx) (t : St) (x1 : Int32) (x2 : Int32) (r : Int32) (t' : St) (hrun : fX10_write t x1 x2 = some (r, t')) : Ci l X t yX10_write cX10_write 3 .int 1 22 [.ref (X.2.1 0), .int x1, .int x2] r t' := by
  refine Ci_of (by decide) (Nat.le_of_ble_eq_true rfl) ?_
  intro p e s m args below meth c Q B hret hS ls hl
  have hx := B.1
  have hb := B.2.1
  have hown := B.2.2.2.1
  have hts := B.2.2.2.2.1
  have hl : lv_has ls 3 [(0, .ref (X.2.1 0)), (1, .int x1), (2, .int x2)] := hl
  unfold fX10_write at hrun
  refine lv_aload_n hx hb dX10_write_0 rfl (lv_at hl 0 rfl) ?_
  refine gX10_28 B hS dX10_write_1 ?_
  refine lv_iload_n hx hb dX10_write_4 rfl (lv_at hl 1 rfl) ?_
  obtain ⟨r_2, hc_1, hrun⟩ := bdE hrun
  refine qX10_173 B hS reg_3 hc_1 hl.1 (Nat.le_of_ble_eq_true rfl) ⟨Nat.le_of_ble_eq_true rfl, Nat.le_of_ble_eq_true rfl⟩ ⟨Nat.zero_le _, Nat.zero_le _⟩ dX10_write_5 (fun H locs hS => ?_)
  refine lv_if_ne (tgt := 14) hx hb dX10_write_8 (by decide) (fun hc => ?_) (fun hc => ?_)
  · have hrun := iq hc hrun
    refine lv_iload_n hx hb dX10_write_14 rfl (lv_at hl 2 rfl) ?_
    refine lv_if_lt (tgt := 25) hx hb dX10_write_15 (by decide) (fun hc => ?_) (fun hc => ?_)
    · have hrun := ip hc hrun
      refine lv_ldc (v := -1000000002) hx hb hown (hts _ (tw_2 105 rfl rfl)) dX10_write_25 ?_
      exact hret _ _ _ _ _ _ hrun rfl hS dX10_write_27
    · have hrun := iq hc hrun
      refine lv_iload_n hx hb dX10_write_18 rfl (lv_at hl 2 rfl) ?_
      refine lv_sipush (v := 9999) hx hb dX10_write_19 (by decide) ?_
      refine lv_icmp_le (tgt := 28) hx hb dX10_write_22 (by decide) (fun hc => ?_) (fun hc => ?_)
      · have hrun := ip hc hrun
        refine lv_aload_n hx hb dX10_write_28 rfl (lv_at hl 0 rfl) ?_
        refine gX10_55 B hS dX10_write_29 ?_
        refine lv_iload_n hx hb dX10_write_32 rfl (lv_at hl 1 rfl) ?_
        refine lv_iload_n hx hb dX10_write_33 rfl (lv_at hl 2 rfl) ?_
        obtain ⟨r_4, t_5, hc_3, hrun⟩ := bd2E hrun
        refine qX10_314 B hS hc_3 hl.1 (Nat.le_of_ble_eq_true rfl) ⟨Nat.le_of_ble_eq_true rfl, Nat.le_of_ble_eq_true rfl⟩ ⟨Nat.zero_le _, Nat.zero_le _⟩ dX10_write_34 (fun H locs hS => ?_)
        refine lv_if_eq (tgt := 50) hx hb dX10_write_37 (by decide) (fun hc => ?_) (fun hc => ?_)
        · have hrun := ip hc hrun
          refine lv_ldc (v := -1000000004) hx hb hown (hts _ (tw_2 110 rfl rfl)) dX10_write_50 ?_
          exact hret _ _ _ _ _ _ hrun rfl hS dX10_write_52
        · have hrun := iq hc hrun
          refine lv_aload_n hx hb dX10_write_40 rfl (lv_at hl 0 rfl) ?_
          refine gX10_55 B hS dX10_write_41 ?_
          refine gX10_167 B hS dX10_write_44 ?_
          refine lv_goto (tgt := 52) hx hb dX10_write_47 (by decide) ?_
          exact hret _ _ _ _ _ _ hrun rfl hS dX10_write_52
      · have hrun := iq hc hrun
        refine lv_ldc (v := -1000000002) hx hb hown (hts _ (tw_2 105 rfl rfl)) dX10_write_25 ?_
        exact hret _ _ _ _ _ _ hrun rfl hS dX10_write_27
  · have hrun := ip hc hrun
    refine lv_ldc (v := -1000000001) hx hb hown (hts _ (tw_3 51 rfl rfl)) dX10_write_11 ?_
    exact hret _ _ _ _ _ _ hrun rfl hS dX10_write_13
theorem mdX10_tear : MD yX10_tear 0 := ⟨by decide +kernel, by decide +kernel, by decide +kernel⟩
set_option maxHeartbeats 4000000 in
set_option maxRecDepth 100000 in
theorem kX10_tear (l : Launch) (X : Cx) (t : St) (r : Int32) (t' : St) (hrun : fX10_tear t = some (r, t')) : Ci l X t yX10_tear cX10_tear 2 .int 1 20 [.ref (X.2.1 0)] r t' := by
  refine Ci_of (by decide) (Nat.le_of_ble_eq_true rfl) ?_
  intro p e s m args below meth c Q B hret hS ls hl
  have hx := B.1
  have hb := B.2.1
  have hown := B.2.2.2.1
  have hts := B.2.2.2.2.1
  have hl : lv_has ls 2 [(0, .ref (X.2.1 0))] := hl
  unfold fX10_tear at hrun
  refine lv_aload_n hx hb dX10_tear_0 rfl (lv_at hl 0 rfl) ?_
  refine gX10_55 B hS dX10_tear_1 ?_
  refine gX10_160 B hS dX10_tear_4 ?_
  refine lv_aload_n hx hb dX10_tear_7 rfl (lv_at hl 0 rfl) ?_
  refine gX10_55 B hS dX10_tear_8 ?_
  refine gX10_167 B hS dX10_tear_11 ?_
  refine lv_iadd hx hb dX10_tear_14 ?_
  refine lv_topi (fun x1_1 ex => ?_)
  obtain ⟨z, ez, hrun⟩ := bsE hrun
  obtain rfl : x1_1 = z := ex.trans ez.symm
  clear ex ez
  refine lv_istore_n (lv' := [(1, .int x1_1), (0, .ref (X.2.1 0))]) hx hb dX10_tear_15 rfl hl (by decide) rfl (fun ls hl => ?_)
  refine lv_aload_n hx hb dX10_tear_16 rfl (lv_at hl 1 rfl) ?_
  refine gX10_55 B hS dX10_tear_17 ?_
  obtain ⟨t_3, hc_2, hrun⟩ := bdE hrun
  refine qX10_107 B hS hc_2 hl.1 (Nat.le_of_ble_eq_true rfl) ⟨Nat.le_of_ble_eq_true rfl, Nat.le_of_ble_eq_true rfl⟩ ⟨Nat.zero_le _, Nat.zero_le _⟩ dX10_tear_20 (fun H locs hS => ?_)
  refine lv_iload_n hx hb dX10_tear_23 rfl (lv_at hl 0 rfl) ?_
  exact hret _ _ _ _ _ _ hrun rfl hS dX10_tear_24
theorem mdX10_judge : MD yX10_judge 0 := ⟨by decide +kernel, by decide +kernel, by decide +kernel⟩
section QX10_judge
variable {p : Program} {l : Launch} {e : Env} {R : Room} {s : State} {m : MethodId} {args : Array Value} {below : List Frame} {meth : Method} {c : Code} {H : Heap} {locs : List Loc} {cells slots : Nat} {Q : State → Prop}
variable {cc : ByteArray} {pc : Nat} {ls : Array Slot} {rest : List Value} {X : Cx} {t : St} {H0 : Heap} {nL : Nat}
theorem qX10_317 (B : Bx p s m args c cc nL X RX10) (hS : SS X t H0 H locs) {h1 : Nat} (e1 : isHall h1) {r : Int32} (hM : fX5_firstWrong h1 t = some r) (hsz : ls.size = nL) (hW : (rest.map fun v => v.category).sum ≤ 8) (hR : 1 + 1 ≤ R.frames ∧ 8 + (4 + 11) + 21 ≤ R.locals) (hR2 : cells ≤ R.cells ∧ slots ≤ R.slots) (hdg : decode cc pc = .ok (.invokevirtual 317, 3)) (kk : ∀ (H1 : Heap) (locs1 : List Loc), SS X t H0 H1 locs1 → W p l e R s m args below meth c H1 locs1 cells slots Q (F0 m (pc + 3) ls (.int r :: rest))) : W p l e R s m args below meth c H locs cells slots Q (F0 m pc ls (.ref (X.2.1 h1) :: .ref (X.2.1 20) :: rest)) :=
  xVi B hS (kX5_firstWrong l X t h1 e1 r hM) (tw_4 67 rfl rfl) (tw_4 68 rfl rfl) (tw_4 69 rfl rfl) (tw_1 7 rfl rfl) (tw_4 70 rfl rfl) mdX5_firstWrong (by decide) (ceX5 _) rfl rfl rfl hsz rfl hW hR hR2 hdg kk
end QX10_judge
set_option maxHeartbeats 4000000 in
set_option maxRecDepth 100000 in
theorem kX10_judge (l : Launch) (X : Cx) (t : St) (r : Int32) (hrun : fX10_judge t = some r) : Ci l X t yX10_judge cX10_judge 1 .int 2 44 [.ref (X.2.1 0)] r t := by
  refine Ci_of (by decide) (Nat.le_of_ble_eq_true rfl) ?_
  intro p e s m args below meth c Q B hret hS ls hl
  have hx := B.1
  have hb := B.2.1
  have hown := B.2.2.2.1
  have hts := B.2.2.2.2.1
  have hl : lv_has ls 1 [(0, .ref (X.2.1 0))] := hl
  unfold fX10_judge at hrun
  refine lv_aload_n hx hb dX10_judge_0 rfl (lv_at hl 0 rfl) ?_
  refine gX10_55 B hS dX10_judge_1 ?_
  refine lv_aload_n hx hb dX10_judge_4 rfl (lv_at hl 0 rfl) ?_
  refine gX10_34 B hS dX10_judge_5 ?_
  obtain ⟨r_2, hc_1, hrun⟩ := bdE hrun
  refine qX10_317 B hS hall_now hc_1 hl.1 (Nat.le_of_ble_eq_true rfl) ⟨Nat.le_of_ble_eq_true rfl, Nat.le_of_ble_eq_true rfl⟩ ⟨Nat.zero_le _, Nat.zero_le _⟩ dX10_judge_8 (fun H locs hS => ?_)
  exact hret _ _ _ _ _ _ (congrArg (Option.map (fun w => (w, t))) hrun) rfl hS dX10_judge_11
theorem mdX10_seed : MD yX10_seed 1 := ⟨by decide +kernel, by decide +kernel, by decide +kernel⟩
set_option maxHeartbeats 4000000 in
set_option maxRecDepth 100000 in
theorem kX10_seed (l : Launch) (X : Cx) (t : St) (x1 : Int32) (r : Int32) (t' : St) (hrun : fX10_seed t x1 = some (r, t')) : Ci l X t yX10_seed cX10_seed 3 .int 0 0 [.ref (X.2.1 0), .int x1] r t' := by
  refine Ci_of (by decide) (Nat.le_of_ble_eq_true rfl) ?_
  intro p e s m args below meth c Q B hret hS ls hl
  have hx := B.1
  have hb := B.2.1
  have hown := B.2.2.2.1
  have hts := B.2.2.2.2.1
  have hl : lv_has ls 3 [(0, .ref (X.2.1 0)), (1, .int x1)] := hl
  unfold fX10_seed at hrun
  refine lv_iload_n hx hb dX10_seed_0 rfl (lv_at hl 1 rfl) ?_
  refine lv_if_ge (tgt := 7) hx hb dX10_seed_1 (by decide) (fun hc => ?_) (fun hc => ?_)
  · have hrun := ip hc hrun
    refine lv_aload_n hx hb dX10_seed_7 rfl (lv_at hl 0 rfl) ?_
    refine gX10_83 B hS dX10_seed_8 ?_
    refine gX10_321 B hS dX10_seed_11 ?_
    refine lv_topi (fun x2_1 ex => ?_)
    obtain ⟨z, ez, hrun⟩ := bsE hrun
    obtain rfl : x2_1 = z := ex.trans ez.symm
    clear ex ez
    refine lv_istore_n (lv' := [(2, .int x2_1), (0, .ref (X.2.1 0)), (1, .int x1)]) hx hb dX10_seed_14 rfl hl (by decide) rfl (fun ls hl => ?_)
    refine lv_aload_n hx hb dX10_seed_15 rfl (lv_at hl 1 rfl) ?_
    refine gX10_83 B hS dX10_seed_16 ?_
    refine lv_iload_n hx hb dX10_seed_19 rfl (lv_at hl 2 rfl) ?_
    refine pX10_321 B hS dX10_seed_20 (fun H locs hS => ?_)
    obtain ⟨t_2, et, hrun⟩ := bsE hrun
    have hS : SS X t_2 s.heap H locs := by rw [et]; exact hS
    clear et
    refine lv_iload_n hx hb dX10_seed_23 rfl (lv_at hl 0 rfl) ?_
    exact hret _ _ _ _ _ _ hrun rfl hS dX10_seed_24
  · have hrun := iq hc hrun
    refine lv_ldc (v := -1000000002) hx hb hown (hts _ (tw_2 105 rfl rfl)) dX10_seed_4 ?_
    exact hret _ _ _ _ _ _ hrun rfl hS dX10_seed_6
theorem mdX10_keep : MD yX10_keep 1 := ⟨by decide +kernel, by decide +kernel, by decide +kernel⟩
set_option maxHeartbeats 4000000 in
set_option maxRecDepth 100000 in
theorem kX10_keep (l : Launch) (X : Cx) (t : St) (x1 : Int32) (r : Int32) (t' : St) (hrun : fX10_keep t x1 = some (r, t')) : Ci l X t yX10_keep cX10_keep 2 .int 2 81 [.ref (X.2.1 0), .int x1] r t' := by
  refine Ci_of (by decide) (Nat.le_of_ble_eq_true rfl) ?_
  intro p e s m args below meth c Q B hret hS ls hl
  have hx := B.1
  have hb := B.2.1
  have hown := B.2.2.2.1
  have hts := B.2.2.2.2.1
  have hl : lv_has ls 2 [(0, .ref (X.2.1 0)), (1, .int x1)] := hl
  unfold fX10_keep at hrun
  refine lv_iload_n hx hb dX10_keep_0 rfl (lv_at hl 1 rfl) ?_
  refine lv_if_lt (tgt := 9) hx hb dX10_keep_1 (by decide) (fun hc => ?_) (fun hc => ?_)
  · have hrun := ip hc hrun
    refine lv_ldc (v := -1000000001) hx hb hown (hts _ (tw_3 51 rfl rfl)) dX10_keep_9 ?_
    exact hret _ _ _ _ _ _ hrun rfl hS dX10_keep_11
  · have hrun := iq hc hrun
    refine lv_iload_n hx hb dX10_keep_4 rfl (lv_at hl 1 rfl) ?_
    refine lv_iconst (v := 2) hx hb dX10_keep_5 (by decide) ?_
    refine lv_icmp_lt (tgt := 12) hx hb dX10_keep_6 (by decide) (fun hc => ?_) (fun hc => ?_)
    · have hrun := ip hc hrun
      refine lv_aload_n hx hb dX10_keep_12 rfl (lv_at hl 0 rfl) ?_
      refine gX10_48 B hS dX10_keep_13 ?_
      refine lv_iload_n hx hb dX10_keep_16 rfl (lv_at hl 1 rfl) ?_
      obtain ⟨hi_1, hrun⟩ := gdE hrun
      refine xq B hS qa_17 rfl hi_1 dX10_keep_17 ?_
      refine gX10_324 B hS (img_at hi_1) dX10_keep_18 ?_
      refine lv_aload_n hx hb dX10_keep_21 rfl (lv_at hl 0 rfl) ?_
      refine gX10_34 B hS dX10_keep_22 ?_
      obtain ⟨t_3, hc_2, hrun⟩ := bdE hrun
      refine qX10_257 B hS (img_hall (img_at hi_1)) hall_now hc_2 hl.1 (Nat.le_of_ble_eq_true rfl) ⟨Nat.le_of_ble_eq_true rfl, Nat.le_of_ble_eq_true rfl⟩ ⟨Nat.zero_le _, Nat.zero_le _⟩ dX10_keep_25 (fun H locs hS => ?_)
      refine lv_aload_n hx hb dX10_keep_28 rfl (lv_at hl 0 rfl) ?_
      refine gX10_48 B hS dX10_keep_29 ?_
      refine lv_iload_n hx hb dX10_keep_32 rfl (lv_at hl 1 rfl) ?_
      obtain ⟨hi_4, hrun⟩ := gdE hrun
      refine xq B hS qa_17 rfl hi_4 dX10_keep_33 ?_
      refine lv_aload_n hx hb dX10_keep_34 rfl (lv_at hl 0 rfl) ?_
      refine gX10_83 B hS dX10_keep_35 ?_
      refine gX10_321 B hS dX10_keep_38 ?_
      refine pX10_327 B hS (img_at hi_4) dX10_keep_41 (fun H locs hS => ?_)
      obtain ⟨t_5, et, hrun⟩ := bsE hrun
      have hS : SS X t_5 s.heap H locs := by rw [et]; exact hS
      clear et
      refine lv_aload_n hx hb dX10_keep_44 rfl (lv_at hl 0 rfl) ?_
      refine gX10_48 B hS dX10_keep_45 ?_
      refine lv_iload_n hx hb dX10_keep_48 rfl (lv_at hl 1 rfl) ?_
      obtain ⟨hi_6, hrun⟩ := gdE hrun
      refine xq B hS qa_17 rfl hi_6 dX10_keep_49 ?_
      refine lv_iconst (v := 1) hx hb dX10_keep_50 (by decide) ?_
      refine pX10_113 B hS (img_at hi_6) rfl rfl dX10_keep_51 (fun H locs hS => ?_)
      obtain ⟨t_7, et, hrun⟩ := bsE hrun
      have hS : SS X t_7 s.heap H locs := by rw [et]; exact hS
      clear et
      refine lv_aload_n hx hb dX10_keep_54 rfl (lv_at hl 0 rfl) ?_
      refine gX10_44 B hS dX10_keep_55 ?_
      obtain ⟨t_9, hc_8, hrun⟩ := bdE hrun
      refine qX10_110 B hS hc_8 hl.1 (Nat.le_of_ble_eq_true rfl) ⟨Nat.le_of_ble_eq_true rfl, Nat.le_of_ble_eq_true rfl⟩ ⟨Nat.zero_le _, Nat.zero_le _⟩ dX10_keep_58 (fun H locs hS => ?_)
      refine lv_iconst (v := 1) hx hb dX10_keep_61 (by decide) ?_
      exact hret _ _ _ _ _ _ hrun rfl hS dX10_keep_62
    · have hrun := iq hc hrun
      refine lv_ldc (v := -1000000001) hx hb hown (hts _ (tw_3 51 rfl rfl)) dX10_keep_9 ?_
      exact hret _ _ _ _ _ _ hrun rfl hS dX10_keep_11
theorem mdX10_goBack : MD yX10_goBack 1 := ⟨by decide +kernel, by decide +kernel, by decide +kernel⟩
set_option maxHeartbeats 4000000 in
set_option maxRecDepth 100000 in
theorem kX10_goBack (l : Launch) (X : Cx) (t : St) (x1 : Int32) (r : Int32) (t' : St) (hrun : fX10_goBack t x1 = some (r, t')) : Ci l X t yX10_goBack cX10_goBack 2 .int 2 81 [.ref (X.2.1 0), .int x1] r t' := by
  refine Ci_of (by decide) (Nat.le_of_ble_eq_true rfl) ?_
  intro p e s m args below meth c Q B hret hS ls hl
  have hx := B.1
  have hb := B.2.1
  have hown := B.2.2.2.1
  have hts := B.2.2.2.2.1
  have hl : lv_has ls 2 [(0, .ref (X.2.1 0)), (1, .int x1)] := hl
  unfold fX10_goBack at hrun
  refine lv_iload_n hx hb dX10_goBack_0 rfl (lv_at hl 1 rfl) ?_
  refine lv_if_lt (tgt := 9) hx hb dX10_goBack_1 (by decide) (fun hc => ?_) (fun hc => ?_)
  · have hrun := ip hc hrun
    refine lv_ldc (v := -1000000001) hx hb hown (hts _ (tw_3 51 rfl rfl)) dX10_goBack_9 ?_
    exact hret _ _ _ _ _ _ hrun rfl hS dX10_goBack_11
  · have hrun := iq hc hrun
    refine lv_iload_n hx hb dX10_goBack_4 rfl (lv_at hl 1 rfl) ?_
    refine lv_iconst (v := 2) hx hb dX10_goBack_5 (by decide) ?_
    refine lv_icmp_lt (tgt := 12) hx hb dX10_goBack_6 (by decide) (fun hc => ?_) (fun hc => ?_)
    · have hrun := ip hc hrun
      refine lv_aload_n hx hb dX10_goBack_12 rfl (lv_at hl 0 rfl) ?_
      refine gX10_48 B hS dX10_goBack_13 ?_
      refine lv_iload_n hx hb dX10_goBack_16 rfl (lv_at hl 1 rfl) ?_
      obtain ⟨hi_1, hrun⟩ := gdE hrun
      refine xq B hS qa_17 rfl hi_1 dX10_goBack_17 ?_
      refine gX10_113 B hS (img_at hi_1) dX10_goBack_18 ?_
      refine lv_if_ne (tgt := 27) hx hb dX10_goBack_21 (by decide) (fun hc => ?_) (fun hc => ?_)
      · have hrun := iq hc hrun
        refine lv_aload_n hx hb dX10_goBack_27 rfl (lv_at hl 0 rfl) ?_
        refine gX10_34 B hS dX10_goBack_28 ?_
        refine lv_aload_n hx hb dX10_goBack_31 rfl (lv_at hl 0 rfl) ?_
        refine gX10_48 B hS dX10_goBack_32 ?_
        refine lv_iload_n hx hb dX10_goBack_35 rfl (lv_at hl 1 rfl) ?_
        obtain ⟨hi_2, hrun⟩ := gdE hrun
        refine xq B hS qa_17 rfl hi_2 dX10_goBack_36 ?_
        refine gX10_324 B hS (img_at hi_2) dX10_goBack_37 ?_
        obtain ⟨t_4, hc_3, hrun⟩ := bdE hrun
        refine qX10_257 B hS hall_now (img_hall (img_at hi_2)) hc_3 hl.1 (Nat.le_of_ble_eq_true rfl) ⟨Nat.le_of_ble_eq_true rfl, Nat.le_of_ble_eq_true rfl⟩ ⟨Nat.zero_le _, Nat.zero_le _⟩ dX10_goBack_40 (fun H locs hS => ?_)
        refine lv_aload_n hx hb dX10_goBack_43 rfl (lv_at hl 0 rfl) ?_
        refine gX10_83 B hS dX10_goBack_44 ?_
        refine lv_aload_n hx hb dX10_goBack_47 rfl (lv_at hl 0 rfl) ?_
        refine gX10_48 B hS dX10_goBack_48 ?_
        refine lv_iload_n hx hb dX10_goBack_51 rfl (lv_at hl 1 rfl) ?_
        obtain ⟨hi_5, hrun⟩ := gdE hrun
        refine xq B hS qa_17 rfl hi_5 dX10_goBack_52 ?_
        refine gX10_327 B hS (img_at hi_5) dX10_goBack_53 ?_
        refine pX10_321 B hS dX10_goBack_56 (fun H locs hS => ?_)
        obtain ⟨t_6, et, hrun⟩ := bsE hrun
        have hS : SS X t_6 s.heap H locs := by rw [et]; exact hS
        clear et
        refine lv_aload_n hx hb dX10_goBack_59 rfl (lv_at hl 0 rfl) ?_
        refine gX10_44 B hS dX10_goBack_60 ?_
        obtain ⟨t_8, hc_7, hrun⟩ := bdE hrun
        refine qX10_110 B hS hc_7 hl.1 (Nat.le_of_ble_eq_true rfl) ⟨Nat.le_of_ble_eq_true rfl, Nat.le_of_ble_eq_true rfl⟩ ⟨Nat.zero_le _, Nat.zero_le _⟩ dX10_goBack_63 (fun H locs hS => ?_)
        refine lv_iconst (v := 1) hx hb dX10_goBack_66 (by decide) ?_
        exact hret _ _ _ _ _ _ hrun rfl hS dX10_goBack_67
      · have hrun := ip hc hrun
        refine lv_ldc (v := -1000000003) hx hb hown (hts _ (tw_3 78 rfl rfl)) dX10_goBack_24 ?_
        exact hret _ _ _ _ _ _ hrun rfl hS dX10_goBack_26
    · have hrun := iq hc hrun
      refine lv_ldc (v := -1000000001) hx hb hown (hts _ (tw_3 51 rfl rfl)) dX10_goBack_9 ?_
      exact hret _ _ _ _ _ _ hrun rfl hS dX10_goBack_11
