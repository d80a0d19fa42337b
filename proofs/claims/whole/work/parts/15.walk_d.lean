theorem mdX11_place : MD yX11_place 2 := ⟨by decide +kernel, by decide +kernel, by decide +kernel⟩
section QX11_place
variable {p : Program} {l : Launch} {e : Env} {R : Room} {s : State} {m : MethodId} {args : Array Value} {below : List Frame} {meth : Method} {c : Code} {H : Heap} {locs : List Loc} {cells slots : Nat} {Q : State → Prop}
variable {cc : ByteArray} {pc : Nat} {ls : Array Slot} {rest : List Value} {X : Cx} {t : St} {H0 : Heap} {nL : Nat}
theorem qX11_232 (B : Bx p s m args c cc nL X RX11) (hS : SS X t H0 H locs) {x1 : Int32} {r : Int32} (hM : fX11_isPlace t x1 = some r) (hsz : ls.size = nL) (hW : (rest.map fun v => v.category).sum ≤ 8) (hR : 1 + 1 ≤ R.frames ∧ 8 + (2 + 11) + 25 ≤ R.locals) (hR2 : cells ≤ R.cells ∧ slots ≤ R.slots) (hdg : decode cc pc = .ok (.invokevirtual 232, 3)) (kk : ∀ (H1 : Heap) (locs1 : List Loc), SS X t H0 H1 locs1 → W p l e R s m args below meth c H1 locs1 cells slots Q (F0 m (pc + 3) ls (.int r :: rest))) : W p l e R s m args below meth c H locs cells slots Q (F0 m pc ls (.int x1 :: .ref (X.2.1 144) :: rest)) :=
  xVi B hS (kX11_isPlace l X t x1 r hM) (tw_5 116 rfl rfl) (tw_5 118 rfl rfl) (tw_0 46 rfl rfl) (tw_1 12 rfl rfl) (tw_5 119 rfl rfl) mdX11_isPlace (by decide) (ceX11 _) rfl rfl rfl hsz rfl hW hR hR2 hdg kk
theorem qX11_235 (B : Bx p s m args c cc nL X RX11) (hS : SS X t H0 H locs) {x1 : Int32} {r : Int32} (hM : fX11_owedIn t x1 = some r) (hsz : ls.size = nL) (hW : (rest.map fun v => v.category).sum ≤ 8) (hR : 3 + 1 ≤ R.frames ∧ 8 + (4 + 11) + 69 ≤ R.locals) (hR2 : cells ≤ R.cells ∧ slots ≤ R.slots) (hdg : decode cc pc = .ok (.invokevirtual 235, 3)) (kk : ∀ (H1 : Heap) (locs1 : List Loc), SS X t H0 H1 locs1 → W p l e R s m args below meth c H1 locs1 cells slots Q (F0 m (pc + 3) ls (.int r :: rest))) : W p l e R s m args below meth c H locs cells slots Q (F0 m pc ls (.int x1 :: .ref (X.2.1 144) :: rest)) :=
  xVi B hS (kX11_owedIn l X t x1 r hM) (tw_5 124 rfl rfl) (tw_5 126 rfl rfl) (tw_0 48 rfl rfl) (tw_1 12 rfl rfl) (tw_5 127 rfl rfl) mdX11_owedIn (by decide) (ceX11 _) rfl rfl rfl hsz rfl hW hR hR2 hdg kk
end QX11_place
set_option maxHeartbeats 4000000 in
set_option maxRecDepth 100000 in
theorem kX11_place (l : Launch) (X : Cx) (t : St) (x1 : Int32) (x2 : Int32) (r : Int32) (hrun : fX11_place t x1 x2 = some r) : Ci l X t yX11_place cX11_place 3 .int 4 92 [.ref (X.2.1 144), .int x1, .int x2] r t := by
  refine Ci_of (by decide) (Nat.le_of_ble_eq_true rfl) ?_
  intro p e s m args below meth c Q B hret hS ls hl
  have hx := B.1
  have hb := B.2.1
  have hown := B.2.2.2.1
  have hts := B.2.2.2.2.1
  have hl : lv_has ls 3 [(0, .ref (X.2.1 144)), (1, .int x1), (2, .int x2)] := hl
  unfold fX11_place at hrun
  refine lv_aload_n hx hb dX11_place_0 rfl (lv_at hl 0 rfl) ?_
  refine lv_iload_n hx hb dX11_place_1 rfl (lv_at hl 1 rfl) ?_
  obtain ⟨r_2, hc_1, hrun⟩ := bdE hrun
  refine qX11_232 B hS hc_1 hl.1 (Nat.le_of_ble_eq_true rfl) ⟨Nat.le_of_ble_eq_true rfl, Nat.le_of_ble_eq_true rfl⟩ ⟨Nat.zero_le _, Nat.zero_le _⟩ dX11_place_2 (fun H locs hS => ?_)
  refine lv_if_ne (tgt := 11) hx hb dX11_place_5 (by decide) (fun hc => ?_) (fun hc => ?_)
  · have hrun := iq hc hrun
    refine lv_iload_n hx hb dX11_place_11 rfl (lv_at hl 2 rfl) ?_
    by_cases hw_3 : x2 = (0 : Int32)
    · have hrun := ip hw_3 hrun
      refine lv_tableIn (off := 32) (tgt := 44) hx hb dX11_place_12 (by rw [hw_3]; decide) (by rw [hw_3]; decide) (by rw [hw_3]; rfl) (by decide) ?_
      refine lv_aload_n hx hb dX11_place_44 rfl (lv_at hl 0 rfl) ?_
      refine lv_iload_n hx hb dX11_place_45 rfl (lv_at hl 1 rfl) ?_
      obtain ⟨r_5, hc_4, hrun⟩ := bdE hrun
      refine qX11_191 B hS hc_4 hl.1 (Nat.le_of_ble_eq_true rfl) ⟨Nat.le_of_ble_eq_true rfl, Nat.le_of_ble_eq_true rfl⟩ ⟨Nat.zero_le _, Nat.zero_le _⟩ dX11_place_46 (fun H locs hS => ?_)
      exact hret _ _ _ _ _ _ (congrArg (Option.map (fun w => (w, t))) hrun) rfl hS dX11_place_49
    have hrun := iq hw_3 hrun
    by_cases hw_6 : x2 = (1 : Int32)
    · have hrun := ip hw_6 hrun
      refine lv_tableIn (off := 38) (tgt := 50) hx hb dX11_place_12 (by rw [hw_6]; decide) (by rw [hw_6]; decide) (by rw [hw_6]; rfl) (by decide) ?_
      refine lv_aload_n hx hb dX11_place_50 rfl (lv_at hl 0 rfl) ?_
      refine lv_iload_n hx hb dX11_place_51 rfl (lv_at hl 1 rfl) ?_
      obtain ⟨r_8, hc_7, hrun⟩ := bdE hrun
      refine qX11_191 B hS hc_7 hl.1 (Nat.le_of_ble_eq_true rfl) ⟨Nat.le_of_ble_eq_true rfl, Nat.le_of_ble_eq_true rfl⟩ ⟨Nat.zero_le _, Nat.zero_le _⟩ dX11_place_52 (fun H locs hS => ?_)
      refine lv_aload_n hx hb dX11_place_55 rfl (lv_at hl 0 rfl) ?_
      obtain ⟨r_10, hc_9, hrun⟩ := bdE hrun
      refine qX11_194 B hS hc_9 hl.1 (Nat.le_of_ble_eq_true rfl) ⟨Nat.le_of_ble_eq_true rfl, Nat.le_of_ble_eq_true rfl⟩ ⟨Nat.zero_le _, Nat.zero_le _⟩ dX11_place_56 (fun H locs hS => ?_)
      refine lv_iand hx hb dX11_place_59 ?_
      exact hret _ _ _ _ _ _ (congrArg (Option.map (fun w => (w, t))) hrun) rfl hS dX11_place_60
    have hrun := iq hw_6 hrun
    by_cases hw_11 : x2 = (2 : Int32)
    · have hrun := ip hw_11 hrun
      refine lv_tableIn (off := 49) (tgt := 61) hx hb dX11_place_12 (by rw [hw_11]; decide) (by rw [hw_11]; decide) (by rw [hw_11]; rfl) (by decide) ?_
      refine lv_aload_n hx hb dX11_place_61 rfl (lv_at hl 0 rfl) ?_
      refine lv_iload_n hx hb dX11_place_62 rfl (lv_at hl 1 rfl) ?_
      obtain ⟨r_13, hc_12, hrun⟩ := bdE hrun
      refine qX11_235 B hS hc_12 hl.1 (Nat.le_of_ble_eq_true rfl) ⟨Nat.le_of_ble_eq_true rfl, Nat.le_of_ble_eq_true rfl⟩ ⟨Nat.zero_le _, Nat.zero_le _⟩ dX11_place_63 (fun H locs hS => ?_)
      exact hret _ _ _ _ _ _ (congrArg (Option.map (fun w => (w, t))) hrun) rfl hS dX11_place_66
    have hrun := iq hw_11 hrun
    by_cases hw_14 : x2 = (3 : Int32)
    · have hrun := ip hw_14 hrun
      refine lv_tableIn (off := 55) (tgt := 67) hx hb dX11_place_12 (by rw [hw_14]; decide) (by rw [hw_14]; decide) (by rw [hw_14]; rfl) (by decide) ?_
      refine lv_aload_n hx hb dX11_place_67 rfl (lv_at hl 0 rfl) ?_
      refine lv_iload_n hx hb dX11_place_68 rfl (lv_at hl 1 rfl) ?_
      obtain ⟨r_16, hc_15, hrun⟩ := bdE hrun
      refine qX11_179 B hS hc_15 hl.1 (Nat.le_of_ble_eq_true rfl) ⟨Nat.le_of_ble_eq_true rfl, Nat.le_of_ble_eq_true rfl⟩ ⟨Nat.zero_le _, Nat.zero_le _⟩ dX11_place_69 (fun H locs hS => ?_)
      exact hret _ _ _ _ _ _ (congrArg (Option.map (fun w => (w, t))) hrun) rfl hS dX11_place_72
    have hrun := iq hw_14 hrun
    have hw_3 := lv_neT (a := 0) hw_3 (by decide)
    have hw_6 := lv_neT (a := 1) hw_6 (by decide)
    have hw_11 := lv_neT (a := 2) hw_11 (by decide)
    have hw_14 := lv_neT (a := 3) hw_14 (by decide)
    refine lv_tableOut (tgt := 73) hx hb dX11_place_12 (by omega) (by decide) ?_
    refine lv_ldc (v := -1000000002) hx hb hown (hts _ (tw_4 220 rfl rfl)) dX11_place_73 ?_
    exact hret _ _ _ _ _ _ (congrArg (Option.map (fun w => (w, t))) hrun) rfl hS dX11_place_75
  · have hrun := ip hc hrun
    refine lv_ldc (v := -1000000001) hx hb hown (hts _ (tw_5 111 rfl rfl)) dX11_place_8 ?_
    exact hret _ _ _ _ _ _ (congrArg (Option.map (fun w => (w, t))) hrun) rfl hS dX11_place_10
theorem mdX11_remember : MD yX11_remember 0 := ⟨by decide +kernel, by decide +kernel, by decide +kernel⟩
set_option maxHeartbeats 4000000 in
set_option maxRecDepth 100000 in
theorem kX11_remember (l : Launch) (X : Cx) (t : St) (t' : St) (hrun : fX11_remember t = some t') : Cv l X t yX11_remember cX11_remember 2 0 0 [.ref (X.2.1 144)] t' := by
  refine Cv_of (by decide) (Nat.le_of_ble_eq_true rfl) ?_
  intro p e s m args below meth c Q B hret hS ls hl
  have hx := B.1
  have hb := B.2.1
  have hown := B.2.2.2.1
  have hts := B.2.2.2.2.1
  have hl : lv_has ls 2 [(0, .ref (X.2.1 144))] := hl
  have hB84 : ∀ (t : St) (H : Heap) (locs : List Loc) (ls : Array Slot), SS X t s.heap H locs → lv_has ls 2 [(0, .ref (X.2.1 144))] → fX11_remember_84 t = some t' → W p l e ({ frames := 0, cells := 0, slots := 0, locals := 0 } : Room) s m args below meth c H locs 0 0 Q (F0 m 84 ls []) := by
    intro t H locs ls hS hl hrun
    unfold fX11_remember_84 at hrun
    refine lv_aload_n hx hb dX11_remember_84 rfl (lv_at hl 0 rfl) ?_
    refine lv_dup hx hb dX11_remember_85 rfl ?_
    refine gX11_176 B hS dX11_remember_86 ?_
    refine lv_iconst (v := 1) hx hb dX11_remember_89 (by decide) ?_
    refine lv_iadd hx hb dX11_remember_90 ?_
    refine pX11_176 B hS dX11_remember_91 (fun H locs hS => ?_)
    obtain ⟨t_1085, et, hrun⟩ := bsE hrun
    have hS : SS X t_1085 s.heap H locs := by rw [et]; exact hS
    clear et
    exact hret _ _ _ _ _ hrun hS dX11_remember_94
  have hB52 : ∀ (n52 : Nat) (t : St) (x1 : Int32) (H : Heap) (locs : List Loc) (ls : Array Slot), SS X t s.heap H locs → lv_has ls 2 [(0, .ref (X.2.1 144)), (1, .int x1)] → fX11_remember_52 n52 t x1 = some t' → W p l e ({ frames := 0, cells := 0, slots := 0, locals := 0 } : Room) s m args below meth c H locs 0 0 Q (F0 m 52 ls []) := by
    intro n52
    induction n52 with
    | zero =>
      intro t x1 H locs ls hS hl hrun
      cases (show (none : Option (St)) = some t' from hrun)
    | succ n52 ih52 =>
      intro t x1 H locs ls hS hl hrun
      rw [fX11_remember_52_s] at hrun
      refine lv_iload_n hx hb dX11_remember_52 rfl (lv_at hl 1 rfl) ?_
      refine lv_bipush (v := 29) hx hb dX11_remember_53 (by decide) ?_
      refine lv_icmp_ge (tgt := 84) hx hb dX11_remember_55 (by decide) (fun hc => ?_) (fun hc => ?_)
      · have hrun := ip hc hrun
        exact hB84 t _ _ _ hS (lv_sub hl [0] rfl) hrun
      · have hrun := iq hc hrun
        refine lv_aload_n hx hb dX11_remember_58 rfl (lv_at hl 0 rfl) ?_
        refine gX11_50 B hS dX11_remember_59 ?_
        refine lv_bipush (v := 29) hx hb dX11_remember_62 (by decide) ?_
        refine lv_aload_n hx hb dX11_remember_64 rfl (lv_at hl 0 rfl) ?_
        refine gX11_176 B hS dX11_remember_65 ?_
        refine lv_imul hx hb dX11_remember_68 ?_
        refine lv_iload_n hx hb dX11_remember_69 rfl (lv_at hl 1 rfl) ?_
        refine lv_iadd hx hb dX11_remember_70 ?_
        refine lv_aload_n hx hb dX11_remember_71 rfl (lv_at hl 0 rfl) ?_
        refine gX11_25 B hS dX11_remember_72 ?_
        refine lv_iload_n hx hb dX11_remember_75 rfl (lv_at hl 1 rfl) ?_
        obtain ⟨hi_1053, hrun⟩ := gdE hrun
        refine xa B hS ia_150 hi_1053 dX11_remember_76 ?_
        obtain ⟨hi_1054, hrun⟩ := gdE hrun
        refine xs B hS ia_157 hi_1054 dX11_remember_77 (fun H locs hS => ?_)
        obtain ⟨t_1055, et, hrun⟩ := bsE hrun
        have hS : SS X t_1055 s.heap H locs := by rw [et]; exact hS
        clear et
        refine lv_iinc (v := x1 + (1 : Int32)) (k := 1) (lv' := [(1, .int (x1 + (1 : Int32))), (0, .ref (X.2.1 144))]) hx hb dX11_remember_78 hl rfl rfl (by decide) rfl (fun ls hl => ?_)
        refine lv_goto (tgt := 52) hx hb dX11_remember_81 (by decide) ?_
        exact ih52 t_1055 (x1 + (1 : Int32)) _ _ _ hS (lv_sub hl [1, 0] rfl) hrun
  have hB40 : ∀ (t : St) (H : Heap) (locs : List Loc) (ls : Array Slot), SS X t s.heap H locs → lv_has ls 2 [(0, .ref (X.2.1 144))] → fX11_remember_40 t = some t' → W p l e ({ frames := 0, cells := 0, slots := 0, locals := 0 } : Room) s m args below meth c H locs 0 0 Q (F0 m 40 ls []) := by
    intro t H locs ls hS hl hrun
    unfold fX11_remember_40 at hrun
    refine lv_aload_n hx hb dX11_remember_40 rfl (lv_at hl 0 rfl) ?_
    refine lv_dup hx hb dX11_remember_41 rfl ?_
    refine gX11_176 B hS dX11_remember_42 ?_
    refine lv_iconst (v := 1) hx hb dX11_remember_45 (by decide) ?_
    refine lv_isub hx hb dX11_remember_46 ?_
    refine pX11_176 B hS dX11_remember_47 (fun H locs hS => ?_)
    obtain ⟨t_1041, et, hrun⟩ := bsE hrun
    have hS : SS X t_1041 s.heap H locs := by rw [et]; exact hS
    clear et
    refine lv_iconst (v := 0) hx hb dX11_remember_50 (by decide) ?_
    refine lv_istore_n (lv' := [(1, .int (0 : Int32)), (0, .ref (X.2.1 144))]) hx hb dX11_remember_51 rfl hl (by decide) rfl (fun ls hl => ?_)
    exact hB52 fuelN t_1041 (0 : Int32) _ _ _ hS (lv_sub hl [1, 0] rfl) hrun
  have hB12 : ∀ (n12 : Nat) (t : St) (x1 : Int32) (H : Heap) (locs : List Loc) (ls : Array Slot), SS X t s.heap H locs → lv_has ls 2 [(0, .ref (X.2.1 144)), (1, .int x1)] → fX11_remember_12 n12 t x1 = some t' → W p l e ({ frames := 0, cells := 0, slots := 0, locals := 0 } : Room) s m args below meth c H locs 0 0 Q (F0 m 12 ls []) := by
    intro n12
    induction n12 with
    | zero =>
      intro t x1 H locs ls hS hl hrun
      cases (show (none : Option (St)) = some t' from hrun)
    | succ n12 ih12 =>
      intro t x1 H locs ls hS hl hrun
      rw [fX11_remember_12_s] at hrun
      refine lv_iload_n hx hb dX11_remember_12 rfl (lv_at hl 1 rfl) ?_
      refine lv_sipush (v := 464) hx hb dX11_remember_13 (by decide) ?_
      refine lv_icmp_ge (tgt := 40) hx hb dX11_remember_16 (by decide) (fun hc => ?_) (fun hc => ?_)
      · have hrun := ip hc hrun
        exact hB40 t _ _ _ hS (lv_sub hl [0] rfl) hrun
      · have hrun := iq hc hrun
        refine lv_aload_n hx hb dX11_remember_19 rfl (lv_at hl 0 rfl) ?_
        refine gX11_50 B hS dX11_remember_20 ?_
        refine lv_iload_n hx hb dX11_remember_23 rfl (lv_at hl 1 rfl) ?_
        refine lv_bipush (v := 29) hx hb dX11_remember_24 (by decide) ?_
        refine lv_isub hx hb dX11_remember_26 ?_
        refine lv_aload_n hx hb dX11_remember_27 rfl (lv_at hl 0 rfl) ?_
        refine gX11_50 B hS dX11_remember_28 ?_
        refine lv_iload_n hx hb dX11_remember_31 rfl (lv_at hl 1 rfl) ?_
        obtain ⟨hi_1013, hrun⟩ := gdE hrun
        refine xa B hS ia_157 hi_1013 dX11_remember_32 ?_
        obtain ⟨hi_1014, hrun⟩ := gdE hrun
        refine xs B hS ia_157 hi_1014 dX11_remember_33 (fun H locs hS => ?_)
        obtain ⟨t_1015, et, hrun⟩ := bsE hrun
        have hS : SS X t_1015 s.heap H locs := by rw [et]; exact hS
        clear et
        refine lv_iinc (v := x1 + (1 : Int32)) (k := 1) (lv' := [(1, .int (x1 + (1 : Int32))), (0, .ref (X.2.1 144))]) hx hb dX11_remember_34 hl rfl rfl (by decide) rfl (fun ls hl => ?_)
        refine lv_goto (tgt := 12) hx hb dX11_remember_37 (by decide) ?_
        exact ih12 t_1015 (x1 + (1 : Int32)) _ _ _ hS (lv_sub hl [1, 0] rfl) hrun
  unfold fX11_remember at hrun
  refine lv_aload_n hx hb dX11_remember_0 rfl (lv_at hl 0 rfl) ?_
  refine gX11_176 B hS dX11_remember_1 ?_
  refine lv_bipush (v := 16) hx hb dX11_remember_4 (by decide) ?_
  refine lv_icmp_ne (tgt := 50) hx hb dX11_remember_6 (by decide) (fun hc => ?_) (fun hc => ?_)
  · have hrun := iq hc hrun
    refine lv_iconst (v := 0) hx hb dX11_remember_50 (by decide) ?_
    refine lv_istore_n (lv' := [(1, .int (0 : Int32)), (0, .ref (X.2.1 144))]) hx hb dX11_remember_51 rfl hl (by decide) rfl (fun ls hl => ?_)
    exact hB52 fuelN t (0 : Int32) _ _ _ hS (lv_sub hl [1, 0] rfl) hrun
  · have hrun := ip hc hrun
    refine lv_bipush (v := 29) hx hb dX11_remember_9 (by decide) ?_
    refine lv_istore_n (lv' := [(1, .int (29 : Int32)), (0, .ref (X.2.1 144))]) hx hb dX11_remember_11 rfl hl (by decide) rfl (fun ls hl => ?_)
    exact hB12 fuelN t (29 : Int32) _ _ _ hS (lv_sub hl [1, 0] rfl) hrun
theorem mdX11_hushNow : MD yX11_hushNow 1 := ⟨by decide +kernel, by decide +kernel, by decide +kernel⟩
set_option maxHeartbeats 4000000 in
set_option maxRecDepth 100000 in
theorem kX11_hushNow (l : Launch) (X : Cx) (t : St) (x1 : Int32) (t' : St) (hrun : fX11_hushNow t x1 = some t') : Cv l X t yX11_hushNow cX11_hushNow 4 0 0 [.ref (X.2.1 144), .int x1] t' := by
  refine Cv_of (by decide) (Nat.le_of_ble_eq_true rfl) ?_
  intro p e s m args below meth c Q B hret hS ls hl
  have hx := B.1
  have hb := B.2.1
  have hown := B.2.2.2.1
  have hts := B.2.2.2.2.1
  have hl : lv_has ls 4 [(0, .ref (X.2.1 144)), (1, .int x1)] := hl
  have hB76 : ∀ (t : St) (x1 : Int32) (H : Heap) (locs : List Loc) (ls : Array Slot), SS X t s.heap H locs → lv_has ls 4 [(0, .ref (X.2.1 144)), (1, .int x1)] → fX11_hushNow_76 t x1 = some t' → W p l e ({ frames := 0, cells := 0, slots := 0, locals := 0 } : Room) s m args below meth c H locs 0 0 Q (F0 m 76 ls []) := by
    intro t x1 H locs ls hS hl hrun
    unfold fX11_hushNow_76 at hrun
    refine lv_aload_n hx hb dX11_hushNow_76 rfl (lv_at hl 0 rfl) ?_
    refine gX11_25 B hS dX11_hushNow_77 ?_
    refine lv_bipush (v := 14) hx hb dX11_hushNow_80 (by decide) ?_
    refine lv_iload_n hx hb dX11_hushNow_82 rfl (lv_at hl 1 rfl) ?_
    refine lv_iadd hx hb dX11_hushNow_83 ?_
    refine lv_iconst (v := -1) hx hb dX11_hushNow_84 (by decide) ?_
    obtain ⟨hi_1077, hrun⟩ := gdE hrun
    refine xs B hS ia_150 hi_1077 dX11_hushNow_85 (fun H locs hS => ?_)
    obtain ⟨t_1078, et, hrun⟩ := bsE hrun
    have hS : SS X t_1078 s.heap H locs := by rw [et]; exact hS
    clear et
    exact hret _ _ _ _ _ hrun hS dX11_hushNow_86
  have hB12 : ∀ (n12 : Nat) (t : St) (x1 : Int32) (x2 : Int32) (x3 : Int32) (H : Heap) (locs : List Loc) (ls : Array Slot), SS X t s.heap H locs → lv_has ls 4 [(0, .ref (X.2.1 144)), (1, .int x1), (2, .int x2), (3, .int x3)] → fX11_hushNow_12 n12 t x1 x2 x3 = some t' → W p l e ({ frames := 0, cells := 0, slots := 0, locals := 0 } : Room) s m args below meth c H locs 0 0 Q (F0 m 12 ls []) := by
    intro n12
    induction n12 with
    | zero =>
      intro t x1 x2 x3 H locs ls hS hl hrun
      cases (show (none : Option (St)) = some t' from hrun)
    | succ n12 ih12 =>
      have hB68 : ∀ (t : St) (x1 : Int32) (x2 : Int32) (x3 : Int32) (y1 : Int32) (y2 : Int32) (y3 : Int32) (H : Heap) (locs : List Loc) (ls : Array Slot), SS X t s.heap H locs → lv_has ls 4 [(0, .ref (X.2.1 144)), (1, .int x1), (2, .int x2), (3, .int x3)] → fX11_hushNow_68 (fX11_hushNow_12 n12) t x1 x2 x3 y1 y2 y3 = some t' → W p l e ({ frames := 0, cells := 0, slots := 0, locals := 0 } : Room) s m args below meth c H locs 0 0 Q (F0 m 68 ls [.int y3, .int y2, .int y1, .ref (X.2.1 150)]) := by
        intro t x1 x2 x3 y1 y2 y3 H locs ls hS hl hrun
        unfold fX11_hushNow_68 at hrun
        refine lv_isub hx hb dX11_hushNow_68 ?_
        obtain ⟨hi_1069, hrun⟩ := gdE hrun
        refine xs B hS ia_150 hi_1069 dX11_hushNow_69 (fun H locs hS => ?_)
        obtain ⟨t_1070, et, hrun⟩ := bsE hrun
        have hS : SS X t_1070 s.heap H locs := by rw [et]; exact hS
        clear et
        refine lv_iinc (v := x3 + (1 : Int32)) (k := 3) (lv' := [(3, .int (x3 + (1 : Int32))), (0, .ref (X.2.1 144)), (1, .int x1), (2, .int x2)]) hx hb dX11_hushNow_70 hl rfl rfl (by decide) rfl (fun ls hl => ?_)
        refine lv_goto (tgt := 12) hx hb dX11_hushNow_73 (by decide) ?_
        exact ih12 t_1070 x1 x2 (x3 + (1 : Int32)) _ _ _ hS (lv_sub hl [1, 2, 3, 0] rfl) hrun
      have hB67 : ∀ (t : St) (x1 : Int32) (x2 : Int32) (x3 : Int32) (y1 : Int32) (y2 : Int32) (H : Heap) (locs : List Loc) (ls : Array Slot), SS X t s.heap H locs → lv_has ls 4 [(0, .ref (X.2.1 144)), (1, .int x1), (2, .int x2), (3, .int x3)] → fX11_hushNow_67 (fX11_hushNow_12 n12) t x1 x2 x3 y1 y2 = some t' → W p l e ({ frames := 0, cells := 0, slots := 0, locals := 0 } : Room) s m args below meth c H locs 0 0 Q (F0 m 67 ls [.int y2, .int y1, .ref (X.2.1 150)]) := by
        intro t x1 x2 x3 y1 y2 H locs ls hS hl hrun
        unfold fX11_hushNow_67 at hrun
        refine lv_iconst (v := 0) hx hb dX11_hushNow_67 (by decide) ?_
        exact hB68 t x1 x2 x3 y1 y2 (0 : Int32) _ _ _ hS (lv_sub hl [0, 1, 2, 3] rfl) hrun
      intro t x1 x2 x3 H locs ls hS hl hrun
      rw [fX11_hushNow_12_s] at hrun
      refine lv_iload_n hx hb dX11_hushNow_12 rfl (lv_at hl 3 rfl) ?_
      refine lv_aload_n hx hb dX11_hushNow_13 rfl (lv_at hl 0 rfl) ?_
      refine gX11_81 B hS dX11_hushNow_14 ?_
      refine lv_icmp_ge (tgt := 76) hx hb dX11_hushNow_17 (by decide) (fun hc => ?_) (fun hc => ?_)
      · have hrun := ip hc hrun
        exact hB76 t x1 _ _ _ hS (lv_sub hl [0, 1] rfl) hrun
      · have hrun := iq hc hrun
        refine lv_iload_n hx hb dX11_hushNow_20 rfl (lv_at hl 2 rfl) ?_
        refine lv_iconst (v := -1) hx hb dX11_hushNow_21 (by decide) ?_
        refine lv_icmp_eq (tgt := 76) hx hb dX11_hushNow_22 (by decide) (fun hc => ?_) (fun hc => ?_)
        · have hrun := ip hc hrun
          exact hB76 t x1 _ _ _ hS (lv_sub hl [0, 1] rfl) hrun
        · have hrun := iq hc hrun
          refine lv_aload_n hx hb dX11_hushNow_25 rfl (lv_at hl 0 rfl) ?_
          refine gX11_25 B hS dX11_hushNow_26 ?_
          refine lv_bipush (v := 14) hx hb dX11_hushNow_29 (by decide) ?_
          refine lv_iload_n hx hb dX11_hushNow_31 rfl (lv_at hl 3 rfl) ?_
          refine lv_iadd hx hb dX11_hushNow_32 ?_
          refine lv_dup2_11 hx hb dX11_hushNow_33 rfl rfl ?_
          obtain ⟨hi_1013, hrun⟩ := gdE hrun
          refine xa B hS ia_150 hi_1013 dX11_hushNow_34 ?_
          refine lv_aload_n hx hb dX11_hushNow_35 rfl (lv_at hl 0 rfl) ?_
          refine gX11_25 B hS dX11_hushNow_36 ?_
          refine lv_iload_n hx hb dX11_hushNow_39 rfl (lv_at hl 3 rfl) ?_
          obtain ⟨hi_1014, hrun⟩ := gdE hrun
          refine xa B hS ia_150 hi_1014 dX11_hushNow_40 ?_
          refine lv_aload_n hx hb dX11_hushNow_41 rfl (lv_at hl 0 rfl) ?_
          refine gX11_25 B hS dX11_hushNow_42 ?_
          refine lv_iload_n hx hb dX11_hushNow_45 rfl (lv_at hl 1 rfl) ?_
          obtain ⟨hi_1015, hrun⟩ := gdE hrun
          refine xa B hS ia_150 hi_1015 dX11_hushNow_46 ?_
          refine lv_icmp_ne (tgt := 67) hx hb dX11_hushNow_47 (by decide) (fun hc => ?_) (fun hc => ?_)
          · have hrun := iq hc hrun
            exact hB67 t x1 x2 x3 ((14 : Int32) + x3) (t 150 ((14 : Int32) + x3).toNatClampNeg) _ _ _ hS (lv_sub hl [0, 1, 2, 3] rfl) hrun
          · have hrun := ip hc hrun
            refine lv_aload_n hx hb dX11_hushNow_50 rfl (lv_at hl 0 rfl) ?_
            refine gX11_25 B hS dX11_hushNow_51 ?_
            refine lv_bipush (v := 14) hx hb dX11_hushNow_54 (by decide) ?_
            refine lv_iload_n hx hb dX11_hushNow_56 rfl (lv_at hl 3 rfl) ?_
            refine lv_iadd hx hb dX11_hushNow_57 ?_
            obtain ⟨hi_1016, hrun⟩ := gdE hrun
            refine xa B hS ia_150 hi_1016 dX11_hushNow_58 ?_
            refine lv_iload_n hx hb dX11_hushNow_59 rfl (lv_at hl 2 rfl) ?_
            refine lv_icmp_le (tgt := 67) hx hb dX11_hushNow_60 (by decide) (fun hc => ?_) (fun hc => ?_)
            · have hrun := ip hc hrun
              exact hB67 t x1 x2 x3 ((14 : Int32) + x3) (t 150 ((14 : Int32) + x3).toNatClampNeg) _ _ _ hS (lv_sub hl [0, 1, 2, 3] rfl) hrun
            · have hrun := iq hc hrun
              refine lv_iconst (v := 1) hx hb dX11_hushNow_63 (by decide) ?_
              refine lv_goto (tgt := 68) hx hb dX11_hushNow_64 (by decide) ?_
              exact hB68 t x1 x2 x3 ((14 : Int32) + x3) (t 150 ((14 : Int32) + x3).toNatClampNeg) (1 : Int32) _ _ _ hS (lv_sub hl [0, 1, 2, 3] rfl) hrun
  unfold fX11_hushNow at hrun
  refine lv_aload_n hx hb dX11_hushNow_0 rfl (lv_at hl 0 rfl) ?_
  refine gX11_25 B hS dX11_hushNow_1 ?_
  refine lv_bipush (v := 14) hx hb dX11_hushNow_4 (by decide) ?_
  refine lv_iload_n hx hb dX11_hushNow_6 rfl (lv_at hl 1 rfl) ?_
  refine lv_iadd hx hb dX11_hushNow_7 ?_
  obtain ⟨hi_1, hrun⟩ := gdE hrun
  refine xa B hS ia_150 hi_1 dX11_hushNow_8 ?_
  refine lv_topi (fun x2_2 ex => ?_)
  obtain ⟨z, ez, hrun⟩ := bsE hrun
  obtain rfl : x2_2 = z := ex.trans ez.symm
  clear ex ez
  refine lv_istore_n (lv' := [(2, .int x2_2), (0, .ref (X.2.1 144)), (1, .int x1)]) hx hb dX11_hushNow_9 rfl hl (by decide) rfl (fun ls hl => ?_)
  refine lv_iconst (v := 0) hx hb dX11_hushNow_10 (by decide) ?_
  refine lv_istore_n (lv' := [(3, .int (0 : Int32)), (2, .int x2_2), (0, .ref (X.2.1 144)), (1, .int x1)]) hx hb dX11_hushNow_11 rfl hl (by decide) rfl (fun ls hl => ?_)
  exact hB12 fuelN t x1 x2_2 (0 : Int32) _ _ _ hS (lv_sub hl [2, 3, 1, 0] rfl) hrun
theorem mdX11_pass : MD yX11_pass 0 := ⟨by decide +kernel, by decide +kernel, by decide +kernel⟩
section QX11_pass
variable {p : Program} {l : Launch} {e : Env} {R : Room} {s : State} {m : MethodId} {args : Array Value} {below : List Frame} {meth : Method} {c : Code} {H : Heap} {locs : List Loc} {cells slots : Nat} {Q : State → Prop}
variable {cc : ByteArray} {pc : Nat} {ls : Array Slot} {rest : List Value} {X : Cx} {t : St} {H0 : Heap} {nL : Nat}
theorem qX11_239 (B : Bx p s m args c cc nL X RX11) (hS : SS X t H0 H locs) {x1 : Int32} {t' : St} (hM : fX11_hushNow t x1 = some t') (hsz : ls.size = nL) (hW : (rest.map fun v => v.category).sum ≤ 8) (hR : 0 + 1 ≤ R.frames ∧ 8 + (4 + 11) + 0 ≤ R.locals) (hR2 : cells ≤ R.cells ∧ slots ≤ R.slots) (hdg : decode cc pc = .ok (.invokevirtual 239, 3)) (kk : ∀ (H1 : Heap) (locs1 : List Loc), SS X t' H0 H1 locs1 → W p l e R s m args below meth c H1 locs1 cells slots Q (F0 m (pc + 3) ls (rest))) : W p l e R s m args below meth c H locs cells slots Q (F0 m pc ls (.int x1 :: .ref (X.2.1 144) :: rest)) :=
  xVv B hS (kX11_hushNow l X t x1 t' hM) (tw_5 147 rfl rfl) (tw_5 149 rfl rfl) (tw_0 52 rfl rfl) (tw_1 12 rfl rfl) (tw_5 150 rfl rfl) mdX11_hushNow (by decide) (ceX11 _) rfl rfl rfl hsz rfl hW hR hR2 hdg kk
end QX11_pass
set_option maxHeartbeats 4000000 in
set_option maxRecDepth 100000 in
theorem kX11_pass (l : Launch) (X : Cx) (t : St) (t' : St) (hrun : fX11_pass t = some t') : Cv l X t yX11_pass cX11_pass 7 3 69 [.ref (X.2.1 144)] t' := by
  refine Cv_of (by decide) (Nat.le_of_ble_eq_true rfl) ?_
  intro p e s m args below meth c Q B hret hS ls hl
  have hx := B.1
  have hb := B.2.1
  have hown := B.2.2.2.1
  have hts := B.2.2.2.2.1
  have hl : lv_has ls 7 [(0, .ref (X.2.1 144))] := hl
  have hB225 : ∀ (t : St) (H : Heap) (locs : List Loc) (ls : Array Slot), SS X t s.heap H locs → lv_has ls 7 [(0, .ref (X.2.1 144))] → fX11_pass_225 t = some t' → W p l e ({ frames := 3, cells := 0, slots := 0, locals := 69 } : Room) s m args below meth c H locs 0 0 Q (F0 m 225 ls []) := by
    intro t H locs ls hS hl hrun
    unfold fX11_pass_225 at hrun
    refine lv_aload_n hx hb dX11_pass_225 rfl (lv_at hl 0 rfl) ?_
    refine gX11_25 B hS dX11_pass_226 ?_
    refine lv_bipush (v := 28) hx hb dX11_pass_229 (by decide) ?_
    refine lv_dup2_11 hx hb dX11_pass_231 rfl rfl ?_
    refine xa B hS ia_150 (by unfold vp_in; decide) dX11_pass_232 ?_
    refine lv_iconst (v := 1) hx hb dX11_pass_233 (by decide) ?_
    refine lv_iadd hx hb dX11_pass_234 ?_
    refine xs B hS ia_150 (by unfold vp_in; decide) dX11_pass_235 (fun H locs hS => ?_)
    obtain ⟨t_1226, et, hrun⟩ := bsE hrun
    have hS : SS X t_1226 s.heap H locs := by rw [et]; exact hS
    clear et
    exact hret _ _ _ _ _ hrun hS dX11_pass_236
  have hB198 : ∀ (n198 : Nat) (t : St) (x1 : Int32) (x3 : Int32) (H : Heap) (locs : List Loc) (ls : Array Slot), SS X t s.heap H locs → lv_has ls 7 [(0, .ref (X.2.1 144)), (1, .int x1), (3, .int x3)] → fX11_pass_198 n198 t x1 x3 = some t' → W p l e ({ frames := 3, cells := 0, slots := 0, locals := 69 } : Room) s m args below meth c H locs 0 0 Q (F0 m 198 ls []) := by
    intro n198
    induction n198 with
    | zero =>
      intro t x1 x3 H locs ls hS hl hrun
      cases (show (none : Option (St)) = some t' from hrun)
    | succ n198 ih198 =>
      intro t x1 x3 H locs ls hS hl hrun
      rw [fX11_pass_198_s] at hrun
      refine lv_iload_n hx hb dX11_pass_198 rfl (lv_at hl 2 rfl) ?_
      refine lv_aload_n hx hb dX11_pass_199 rfl (lv_at hl 0 rfl) ?_
      refine gX11_81 B hS dX11_pass_200 ?_
      refine lv_icmp_ge (tgt := 225) hx hb dX11_pass_203 (by decide) (fun hc => ?_) (fun hc => ?_)
      · have hrun := ip hc hrun
        exact hB225 t _ _ _ hS (lv_sub hl [0] rfl) hrun
      · have hrun := iq hc hrun
        refine lv_iload_n hx hb dX11_pass_206 rfl (lv_at hl 1 rfl) ?_
        refine lv_iload_n hx hb dX11_pass_207 rfl (lv_at hl 2 rfl) ?_
        obtain ⟨r_1200, hc_1199, hrun⟩ := bdE hrun
        refine qX11_203 B hS hc_1199 hl.1 (Nat.le_of_ble_eq_true rfl) ⟨Nat.le_of_ble_eq_true rfl, Nat.le_of_ble_eq_true rfl⟩ ⟨Nat.zero_le _, Nat.zero_le _⟩ dX11_pass_208 (fun H locs hS => ?_)
        refine lv_if_eq (tgt := 219) hx hb dX11_pass_211 (by decide) (fun hc => ?_) (fun hc => ?_)
        · have hrun := ip hc hrun
          refine lv_iinc (v := x3 + (1 : Int32)) (k := 2) (lv' := [(3, .int (x3 + (1 : Int32))), (0, .ref (X.2.1 144)), (1, .int x1)]) hx hb dX11_pass_219 hl rfl rfl (by decide) rfl (fun ls hl => ?_)
          refine lv_goto (tgt := 198) hx hb dX11_pass_222 (by decide) ?_
          exact ih198 t x1 (x3 + (1 : Int32)) _ _ _ hS (lv_sub hl [1, 2, 0] rfl) hrun
        · have hrun := iq hc hrun
          refine lv_aload_n hx hb dX11_pass_214 rfl (lv_at hl 0 rfl) ?_
          refine lv_iload_n hx hb dX11_pass_215 rfl (lv_at hl 2 rfl) ?_
          obtain ⟨t_1202, hc_1201, hrun⟩ := bdE hrun
          refine qX11_239 B hS hc_1201 hl.1 (Nat.le_of_ble_eq_true rfl) ⟨Nat.le_of_ble_eq_true rfl, Nat.le_of_ble_eq_true rfl⟩ ⟨Nat.zero_le _, Nat.zero_le _⟩ dX11_pass_216 (fun H locs hS => ?_)
          refine lv_iinc (v := x3 + (1 : Int32)) (k := 2) (lv' := [(3, .int (x3 + (1 : Int32))), (0, .ref (X.2.1 144)), (1, .int x1)]) hx hb dX11_pass_219 hl rfl rfl (by decide) rfl (fun ls hl => ?_)
          refine lv_goto (tgt := 198) hx hb dX11_pass_222 (by decide) ?_
          exact ih198 t_1202 x1 (x3 + (1 : Int32)) _ _ _ hS (lv_sub hl [1, 2, 0] rfl) hrun
  have hB195 : ∀ (t : St) (x1 : Int32) (y1 : Int32) (y2 : Int32) (H : Heap) (locs : List Loc) (ls : Array Slot), SS X t s.heap H locs → lv_has ls 7 [(0, .ref (X.2.1 144)), (1, .int x1)] → fX11_pass_195 t x1 y1 y2 = some t' → W p l e ({ frames := 3, cells := 0, slots := 0, locals := 69 } : Room) s m args below meth c H locs 0 0 Q (F0 m 195 ls [.int y2, .int y1, .ref (X.2.1 150)]) := by
    intro t x1 y1 y2 H locs ls hS hl hrun
    unfold fX11_pass_195 at hrun
    obtain ⟨hi_1196, hrun⟩ := gdE hrun
    refine xs B hS ia_150 hi_1196 dX11_pass_195 (fun H locs hS => ?_)
    obtain ⟨t_1197, et, hrun⟩ := bsE hrun
    have hS : SS X t_1197 s.heap H locs := by rw [et]; exact hS
    clear et
    refine lv_iconst (v := 0) hx hb dX11_pass_196 (by decide) ?_
    refine lv_istore_n (lv' := [(3, .int (0 : Int32)), (0, .ref (X.2.1 144)), (1, .int x1)]) hx hb dX11_pass_197 rfl hl (by decide) rfl (fun ls hl => ?_)
    exact hB198 fuelN t_1197 x1 (0 : Int32) _ _ _ hS (lv_sub hl [1, 2, 0] rfl) hrun
  have hB161 : ∀ (t : St) (x1 : Int32) (x2 : Int32) (H : Heap) (locs : List Loc) (ls : Array Slot), SS X t s.heap H locs → lv_has ls 7 [(0, .ref (X.2.1 144)), (1, .int x1), (2, .int x2)] → fX11_pass_161 t x1 x2 = some t' → W p l e ({ frames := 3, cells := 0, slots := 0, locals := 69 } : Room) s m args below meth c H locs 0 0 Q (F0 m 161 ls []) := by
    intro t x1 x2 H locs ls hS hl hrun
    unfold fX11_pass_161 at hrun
    refine lv_aload_n hx hb dX11_pass_161 rfl (lv_at hl 0 rfl) ?_
    refine gX11_25 B hS dX11_pass_162 ?_
    refine lv_bipush (v := 26) hx hb dX11_pass_165 (by decide) ?_
    refine lv_aload_n hx hb dX11_pass_167 rfl (lv_at hl 0 rfl) ?_
    refine gX11_25 B hS dX11_pass_168 ?_
    refine lv_bipush (v := 26) hx hb dX11_pass_171 (by decide) ?_
    refine xa B hS ia_150 (by unfold vp_in; decide) dX11_pass_173 ?_
    refine lv_iload_n hx hb dX11_pass_174 rfl (lv_at hl 2 rfl) ?_
    refine lv_iadd hx hb dX11_pass_175 ?_
    refine lv_ldc (v := 999999) hx hb hown (hts _ (tw_5 146 rfl rfl)) dX11_pass_176 ?_
    refine lv_icmp_ge (tgt := 193) hx hb dX11_pass_178 (by decide) (fun hc => ?_) (fun hc => ?_)
    · have hrun := ip hc hrun
      refine lv_ldc (v := 999999) hx hb hown (hts _ (tw_5 146 rfl rfl)) dX11_pass_193 ?_
      exact hB195 t x1 (26 : Int32) (999999 : Int32) _ _ _ hS (lv_sub hl [0, 1] rfl) hrun
    · have hrun := iq hc hrun
      refine lv_aload_n hx hb dX11_pass_181 rfl (lv_at hl 0 rfl) ?_
      refine gX11_25 B hS dX11_pass_182 ?_
      refine lv_bipush (v := 26) hx hb dX11_pass_185 (by decide) ?_
      refine xa B hS ia_150 (by unfold vp_in; decide) dX11_pass_187 ?_
      refine lv_iload_n hx hb dX11_pass_188 rfl (lv_at hl 2 rfl) ?_
      refine lv_iadd hx hb dX11_pass_189 ?_
      refine lv_goto (tgt := 195) hx hb dX11_pass_190 (by decide) ?_
      exact hB195 t x1 (26 : Int32) (t 150 (26 : Int32).toNatClampNeg + x2) _ _ _ hS (lv_sub hl [0, 1] rfl) hrun
  have hB6 : ∀ (n6 : Nat) (t : St) (x1 : Int32) (x2 : Int32) (x3 : Int32) (H : Heap) (locs : List Loc) (ls : Array Slot), SS X t s.heap H locs → lv_has ls 7 [(0, .ref (X.2.1 144)), (1, .int x1), (2, .int x2), (3, .int x3)] → fX11_pass_6 n6 t x1 x2 x3 = some t' → W p l e ({ frames := 3, cells := 0, slots := 0, locals := 69 } : Room) s m args below meth c H locs 0 0 Q (F0 m 6 ls []) := by
    intro n6
    induction n6 with
    | zero =>
      intro t x1 x2 x3 H locs ls hS hl hrun
      cases (show (none : Option (St)) = some t' from hrun)
    | succ n6 ih6 =>
      have hB134 : ∀ (t : St) (x1 : Int32) (x2 : Int32) (x3 : Int32) (x5 : Int32) (y1 : Int32) (y2 : Int32) (y3 : Int32) (H : Heap) (locs : List Loc) (ls : Array Slot), SS X t s.heap H locs → lv_has ls 7 [(0, .ref (X.2.1 144)), (1, .int x1), (2, .int x2), (3, .int x3), (5, .int x5)] → fX11_pass_134 (fX11_pass_6 n6) t x1 x2 x3 x5 y1 y2 y3 = some t' → W p l e ({ frames := 3, cells := 0, slots := 0, locals := 69 } : Room) s m args below meth c H locs 0 0 Q (F0 m 134 ls [.int y3, .int y2, .int y1, .ref (X.2.1 150)]) := by
        intro t x1 x2 x3 x5 y1 y2 y3 H locs ls hS hl hrun
        unfold fX11_pass_134 at hrun
        refine lv_iadd hx hb dX11_pass_134 ?_
        obtain ⟨hi_1135, hrun⟩ := gdE hrun
        refine xs B hS ia_150 hi_1135 dX11_pass_135 (fun H locs hS => ?_)
        obtain ⟨t_1136, et, hrun⟩ := bsE hrun
        have hS : SS X t_1136 s.heap H locs := by rw [et]; exact hS
        clear et
        refine lv_aload_n hx hb dX11_pass_136 rfl (lv_at hl 0 rfl) ?_
        refine gX11_25 B hS dX11_pass_137 ?_
        refine lv_bipush (v := 7) hx hb dX11_pass_140 (by decide) ?_
        refine lv_iload_n hx hb dX11_pass_142 rfl (lv_at hl 3 rfl) ?_
        refine lv_iadd hx hb dX11_pass_143 ?_
        refine lv_dup2_11 hx hb dX11_pass_144 rfl rfl ?_
        obtain ⟨hi_1137, hrun⟩ := gdE hrun
        refine xa B hS ia_150 hi_1137 dX11_pass_145 ?_
        refine lv_iload hx hb dX11_pass_146 (lv_at hl 4 rfl) ?_
        refine lv_isub hx hb dX11_pass_148 ?_
        obtain ⟨hi_1138, hrun⟩ := gdE hrun
        refine xs B hS ia_150 hi_1138 dX11_pass_149 (fun H locs hS => ?_)
        obtain ⟨t_1139, et, hrun⟩ := bsE hrun
        have hS : SS X t_1139 s.heap H locs := by rw [et]; exact hS
        clear et
        refine lv_iload_n hx hb dX11_pass_150 rfl (lv_at hl 2 rfl) ?_
        refine lv_iload hx hb dX11_pass_151 (lv_at hl 4 rfl) ?_
        refine lv_iadd hx hb dX11_pass_153 ?_
        refine lv_topi (fun x2_1140 ex => ?_)
        obtain ⟨z, ez, hrun⟩ := bsE hrun
        obtain rfl : x2_1140 = z := ex.trans ez.symm
        clear ex ez
        refine lv_istore_n (lv' := [(2, .int x2_1140), (0, .ref (X.2.1 144)), (1, .int x1), (3, .int x3), (5, .int x5)]) hx hb dX11_pass_154 rfl hl (by decide) rfl (fun ls hl => ?_)
        refine lv_iinc (v := x3 + (1 : Int32)) (k := 3) (lv' := [(3, .int (x3 + (1 : Int32))), (2, .int x2_1140), (0, .ref (X.2.1 144)), (1, .int x1), (5, .int x5)]) hx hb dX11_pass_155 hl rfl rfl (by decide) rfl (fun ls hl => ?_)
        refine lv_goto (tgt := 6) hx hb dX11_pass_158 (by decide) ?_
        exact ih6 t_1139 x1 x2_1140 (x3 + (1 : Int32)) _ _ _ hS (lv_sub hl [2, 3, 1, 0] rfl) hrun
      have hB133 : ∀ (t : St) (x1 : Int32) (x2 : Int32) (x3 : Int32) (x5 : Int32) (y1 : Int32) (y2 : Int32) (H : Heap) (locs : List Loc) (ls : Array Slot), SS X t s.heap H locs → lv_has ls 7 [(0, .ref (X.2.1 144)), (1, .int x1), (2, .int x2), (3, .int x3), (5, .int x5)] → fX11_pass_133 (fX11_pass_6 n6) t x1 x2 x3 x5 y1 y2 = some t' → W p l e ({ frames := 3, cells := 0, slots := 0, locals := 69 } : Room) s m args below meth c H locs 0 0 Q (F0 m 133 ls [.int y2, .int y1, .ref (X.2.1 150)]) := by
        intro t x1 x2 x3 x5 y1 y2 H locs ls hS hl hrun
        unfold fX11_pass_133 at hrun
        refine lv_iconst (v := 0) hx hb dX11_pass_133 (by decide) ?_
        exact hB134 t x1 x2 x3 x5 y1 y2 (0 : Int32) _ _ _ hS (lv_sub hl [0, 1, 2, 3, 4] rfl) hrun
      have hB101 : ∀ (t : St) (x1 : Int32) (x2 : Int32) (x3 : Int32) (x5 : Int32) (y0 : Int32) (H : Heap) (locs : List Loc) (ls : Array Slot), SS X t s.heap H locs → lv_has ls 7 [(0, .ref (X.2.1 144)), (1, .int x1), (2, .int x2), (3, .int x3), (5, .int x5)] → fX11_pass_101 (fX11_pass_6 n6) t x1 x2 x3 x5 y0 = some t' → W p l e ({ frames := 3, cells := 0, slots := 0, locals := 69 } : Room) s m args below meth c H locs 0 0 Q (F0 m 101 ls [.int y0]) := by
        intro t x1 x2 x3 x5 y0 H locs ls hS hl hrun
        unfold fX11_pass_101 at hrun
        refine lv_istore (lv' := [(6, .int y0), (0, .ref (X.2.1 144)), (1, .int x1), (2, .int x2), (3, .int x3), (5, .int x5)]) hx hb dX11_pass_101 hl (by decide) rfl (fun ls hl => ?_)
        refine lv_aload_n hx hb dX11_pass_103 rfl (lv_at hl 1 rfl) ?_
        refine gX11_25 B hS dX11_pass_104 ?_
        refine lv_bipush (v := 27) hx hb dX11_pass_107 (by decide) ?_
        refine lv_dup2_11 hx hb dX11_pass_109 rfl rfl ?_
        refine xa B hS ia_150 (by unfold vp_in; decide) dX11_pass_110 ?_
        refine lv_iload hx hb dX11_pass_111 (lv_at hl 0 rfl) ?_
        refine lv_if_eq (tgt := 133) hx hb dX11_pass_113 (by decide) (fun hc => ?_) (fun hc => ?_)
        · have hrun := ip hc hrun
          exact hB133 t x1 x2 x3 x5 (27 : Int32) (t 150 (27 : Int32).toNatClampNeg) _ _ _ hS (lv_sub hl [1, 2, 3, 4, 5] rfl) hrun
        · have hrun := iq hc hrun
          refine lv_aload_n hx hb dX11_pass_116 rfl (lv_at hl 1 rfl) ?_
          refine gX11_25 B hS dX11_pass_117 ?_
          refine lv_bipush (v := 27) hx hb dX11_pass_120 (by decide) ?_
          refine xa B hS ia_150 (by unfold vp_in; decide) dX11_pass_122 ?_
          refine lv_sipush (v := 9999) hx hb dX11_pass_123 (by decide) ?_
          refine lv_icmp_ge (tgt := 133) hx hb dX11_pass_126 (by decide) (fun hc => ?_) (fun hc => ?_)
          · have hrun := ip hc hrun
            exact hB133 t x1 x2 x3 x5 (27 : Int32) (t 150 (27 : Int32).toNatClampNeg) _ _ _ hS (lv_sub hl [1, 2, 3, 4, 5] rfl) hrun
          · have hrun := iq hc hrun
            refine lv_iconst (v := 1) hx hb dX11_pass_129 (by decide) ?_
            refine lv_goto (tgt := 134) hx hb dX11_pass_130 (by decide) ?_
            exact hB134 t x1 x2 x3 x5 (27 : Int32) (t 150 (27 : Int32).toNatClampNeg) (1 : Int32) _ _ _ hS (lv_sub hl [1, 2, 3, 4, 5] rfl) hrun
      have hB100 : ∀ (t : St) (x1 : Int32) (x2 : Int32) (x3 : Int32) (x5 : Int32) (H : Heap) (locs : List Loc) (ls : Array Slot), SS X t s.heap H locs → lv_has ls 7 [(0, .ref (X.2.1 144)), (1, .int x1), (2, .int x2), (3, .int x3), (5, .int x5)] → fX11_pass_100 (fX11_pass_6 n6) t x1 x2 x3 x5 = some t' → W p l e ({ frames := 3, cells := 0, slots := 0, locals := 69 } : Room) s m args below meth c H locs 0 0 Q (F0 m 100 ls []) := by
        intro t x1 x2 x3 x5 H locs ls hS hl hrun
        unfold fX11_pass_100 at hrun
        refine lv_iconst (v := 0) hx hb dX11_pass_100 (by decide) ?_
        exact hB101 t x1 x2 x3 x5 (0 : Int32) _ _ _ hS (lv_sub hl [0, 1, 2, 3, 4] rfl) hrun
      have hB66 : ∀ (t : St) (x2 : Int32) (x3 : Int32) (x5 : Int32) (y0 : Int32) (y1 : Int32) (H : Heap) (locs : List Loc) (ls : Array Slot), SS X t s.heap H locs → lv_has ls 7 [(0, .ref (X.2.1 144)), (2, .int x2), (3, .int x3), (5, .int x5)] → fX11_pass_66 (fX11_pass_6 n6) t x2 x3 x5 y0 y1 = some t' → W p l e ({ frames := 3, cells := 0, slots := 0, locals := 69 } : Room) s m args below meth c H locs 0 0 Q (F0 m 66 ls [.int y1, .int y0]) := by
        intro t x2 x3 x5 y0 y1 H locs ls hS hl hrun
        unfold fX11_pass_66 at hrun
        refine lv_ior hx hb dX11_pass_66 ?_
        refine lv_topi (fun x1_1067 ex => ?_)
        obtain ⟨z, ez, hrun⟩ := bsE hrun
        obtain rfl : x1_1067 = z := ex.trans ez.symm
        clear ex ez
        refine lv_istore_n (lv' := [(1, .int x1_1067), (0, .ref (X.2.1 144)), (2, .int x2), (3, .int x3), (5, .int x5)]) hx hb dX11_pass_67 rfl hl (by decide) rfl (fun ls hl => ?_)
        refine lv_aload_n hx hb dX11_pass_68 rfl (lv_at hl 1 rfl) ?_
        refine gX11_7 B hS dX11_pass_69 ?_
        refine lv_iload_n hx hb dX11_pass_72 rfl (lv_at hl 3 rfl) ?_
        obtain ⟨hi_1068, hrun⟩ := gdE hrun
        refine xa B hS ia_145 hi_1068 dX11_pass_73 ?_
        refine lv_iconst (v := 3) hx hb dX11_pass_74 (by decide) ?_
        refine lv_icmp_ne (tgt := 100) hx hb dX11_pass_75 (by decide) (fun hc => ?_) (fun hc => ?_)
        · have hrun := iq hc hrun
          exact hB100 t x1_1067 x2 x3 x5 _ _ _ hS (lv_sub hl [1, 0, 2, 3, 4] rfl) hrun
        · have hrun := ip hc hrun
          refine lv_iload hx hb dX11_pass_78 (lv_at hl 4 rfl) ?_
          refine lv_if_le (tgt := 100) hx hb dX11_pass_80 (by decide) (fun hc => ?_) (fun hc => ?_)
          · have hrun := ip hc hrun
            exact hB100 t x1_1067 x2 x3 x5 _ _ _ hS (lv_sub hl [1, 0, 2, 3, 4] rfl) hrun
          · have hrun := iq hc hrun
            refine lv_aload_n hx hb dX11_pass_83 rfl (lv_at hl 1 rfl) ?_
            refine lv_aload_n hx hb dX11_pass_84 rfl (lv_at hl 1 rfl) ?_
            refine gX11_25 B hS dX11_pass_85 ?_
            refine lv_iload_n hx hb dX11_pass_88 rfl (lv_at hl 3 rfl) ?_
            obtain ⟨hi_1069, hrun⟩ := gdE hrun
            refine xa B hS ia_150 hi_1069 dX11_pass_89 ?_
            obtain ⟨r_1071, hc_1070, hrun⟩ := bdE hrun
            refine qX11_179 B hS hc_1070 hl.1 (Nat.le_of_ble_eq_true rfl) ⟨Nat.le_of_ble_eq_true rfl, Nat.le_of_ble_eq_true rfl⟩ ⟨Nat.zero_le _, Nat.zero_le _⟩ dX11_pass_90 (fun H locs hS => ?_)
            refine lv_if_le (tgt := 100) hx hb dX11_pass_93 (by decide) (fun hc => ?_) (fun hc => ?_)
            · have hrun := ip hc hrun
              exact hB100 t x1_1067 x2 x3 x5 _ _ _ hS (lv_sub hl [1, 0, 2, 3, 4] rfl) hrun
            · have hrun := iq hc hrun
              refine lv_iconst (v := 1) hx hb dX11_pass_96 (by decide) ?_
              refine lv_goto (tgt := 101) hx hb dX11_pass_97 (by decide) ?_
              exact hB101 t x1_1067 x2 x3 x5 (1 : Int32) _ _ _ hS (lv_sub hl [1, 0, 2, 3, 4] rfl) hrun
      have hB49 : ∀ (t : St) (x1 : Int32) (x2 : Int32) (x3 : Int32) (x4 : Int32) (y0 : Int32) (H : Heap) (locs : List Loc) (ls : Array Slot), SS X t s.heap H locs → lv_has ls 7 [(0, .ref (X.2.1 144)), (1, .int x1), (2, .int x2), (3, .int x3), (4, .int x4)] → fX11_pass_49 (fX11_pass_6 n6) t x1 x2 x3 x4 y0 = some t' → W p l e ({ frames := 3, cells := 0, slots := 0, locals := 69 } : Room) s m args below meth c H locs 0 0 Q (F0 m 49 ls [.int y0]) := by
        intro t x1 x2 x3 x4 y0 H locs ls hS hl hrun
        unfold fX11_pass_49 at hrun
        refine lv_istore (lv' := [(5, .int y0), (0, .ref (X.2.1 144)), (1, .int x1), (2, .int x2), (3, .int x3), (4, .int x4)]) hx hb dX11_pass_49 hl (by decide) rfl (fun ls hl => ?_)
        refine lv_iload_n hx hb dX11_pass_51 rfl (lv_at hl 2 rfl) ?_
        refine lv_iload hx hb dX11_pass_52 (lv_at hl 0 rfl) ?_
        refine lv_iload hx hb dX11_pass_54 (lv_at hl 5 rfl) ?_
        refine lv_icmp_ge (tgt := 65) hx hb dX11_pass_56 (by decide) (fun hc => ?_) (fun hc => ?_)
        · have hrun := ip hc hrun
          refine lv_iconst (v := 0) hx hb dX11_pass_65 (by decide) ?_
          exact hB66 t x2 x3 y0 x1 (0 : Int32) _ _ _ hS (lv_sub hl [1, 3, 4, 0] rfl) hrun
        · have hrun := iq hc hrun
          refine lv_iconst (v := 1) hx hb dX11_pass_59 (by decide) ?_
          refine lv_iload_n hx hb dX11_pass_60 rfl (lv_at hl 4 rfl) ?_
          refine lv_ishl hx hb dX11_pass_61 ?_
          refine lv_goto (tgt := 66) hx hb dX11_pass_62 (by decide) ?_
          exact hB66 t x2 x3 y0 x1 ((1 : Int32) <<< (x3 &&& 31)) _ _ _ hS (lv_sub hl [1, 3, 4, 0] rfl) hrun
      intro t x1 x2 x3 H locs ls hS hl hrun
      rw [fX11_pass_6_s] at hrun
      refine lv_iload_n hx hb dX11_pass_6 rfl (lv_at hl 3 rfl) ?_
      refine lv_aload_n hx hb dX11_pass_7 rfl (lv_at hl 0 rfl) ?_
      refine gX11_81 B hS dX11_pass_8 ?_
      refine lv_icmp_ge (tgt := 161) hx hb dX11_pass_11 (by decide) (fun hc => ?_) (fun hc => ?_)
      · have hrun := ip hc hrun
        exact hB161 t x1 x2 _ _ _ hS (lv_sub hl [0, 1, 2] rfl) hrun
      · have hrun := iq hc hrun
        refine lv_aload_n hx hb dX11_pass_14 rfl (lv_at hl 0 rfl) ?_
        refine lv_iload_n hx hb dX11_pass_15 rfl (lv_at hl 3 rfl) ?_
        obtain ⟨r_1008, hc_1007, hrun⟩ := bdE hrun
        refine qX11_200 B hS hc_1007 hl.1 (Nat.le_of_ble_eq_true rfl) ⟨Nat.le_of_ble_eq_true rfl, Nat.le_of_ble_eq_true rfl⟩ ⟨Nat.zero_le _, Nat.zero_le _⟩ dX11_pass_16 (fun H locs hS => ?_)
        refine lv_istore (lv' := [(4, .int r_1008), (0, .ref (X.2.1 144)), (1, .int x1), (2, .int x2), (3, .int x3)]) hx hb dX11_pass_19 hl (by decide) rfl (fun ls hl => ?_)
        refine lv_iload hx hb dX11_pass_21 (lv_at hl 0 rfl) ?_
        refine lv_aload_n hx hb dX11_pass_23 rfl (lv_at hl 1 rfl) ?_
        refine gX11_25 B hS dX11_pass_24 ?_
        refine lv_bipush (v := 7) hx hb dX11_pass_27 (by decide) ?_
        refine lv_iload_n hx hb dX11_pass_29 rfl (lv_at hl 4 rfl) ?_
        refine lv_iadd hx hb dX11_pass_30 ?_
        obtain ⟨hi_1009, hrun⟩ := gdE hrun
        refine xa B hS ia_150 hi_1009 dX11_pass_31 ?_
        refine lv_icmp_ge (tgt := 40) hx hb dX11_pass_32 (by decide) (fun hc => ?_) (fun hc => ?_)
        · have hrun := ip hc hrun
          refine lv_aload_n hx hb dX11_pass_40 rfl (lv_at hl 1 rfl) ?_
          refine gX11_25 B hS dX11_pass_41 ?_
          refine lv_bipush (v := 7) hx hb dX11_pass_44 (by decide) ?_
          refine lv_iload_n hx hb dX11_pass_46 rfl (lv_at hl 4 rfl) ?_
          refine lv_iadd hx hb dX11_pass_47 ?_
          obtain ⟨hi_1010, hrun⟩ := gdE hrun
          refine xa B hS ia_150 hi_1010 dX11_pass_48 ?_
          exact hB49 t x1 x2 x3 r_1008 (t 150 ((7 : Int32) + x3).toNatClampNeg) _ _ _ hS (lv_sub hl [1, 2, 3, 4, 0] rfl) hrun
        · have hrun := iq hc hrun
          refine lv_iload hx hb dX11_pass_35 (lv_at hl 0 rfl) ?_
          refine lv_goto (tgt := 49) hx hb dX11_pass_37 (by decide) ?_
          exact hB49 t x1 x2 x3 r_1008 r_1008 _ _ _ hS (lv_sub hl [1, 2, 3, 4, 0] rfl) hrun
  unfold fX11_pass at hrun
  refine lv_iconst (v := 0) hx hb dX11_pass_0 (by decide) ?_
  refine lv_istore_n (lv' := [(1, .int (0 : Int32)), (0, .ref (X.2.1 144))]) hx hb dX11_pass_1 rfl hl (by decide) rfl (fun ls hl => ?_)
  refine lv_iconst (v := 0) hx hb dX11_pass_2 (by decide) ?_
  refine lv_istore_n (lv' := [(2, .int (0 : Int32)), (1, .int (0 : Int32)), (0, .ref (X.2.1 144))]) hx hb dX11_pass_3 rfl hl (by decide) rfl (fun ls hl => ?_)
  refine lv_iconst (v := 0) hx hb dX11_pass_4 (by decide) ?_
  refine lv_istore_n (lv' := [(3, .int (0 : Int32)), (2, .int (0 : Int32)), (1, .int (0 : Int32)), (0, .ref (X.2.1 144))]) hx hb dX11_pass_5 rfl hl (by decide) rfl (fun ls hl => ?_)
  exact hB6 fuelN t (0 : Int32) (0 : Int32) (0 : Int32) _ _ _ hS (lv_sub hl [3, 2, 1, 0] rfl) hrun
theorem mdX11_versesRefused : MD yX11_versesRefused 1 := ⟨by decide +kernel, by decide +kernel, by decide +kernel⟩
set_option maxHeartbeats 4000000 in
set_option maxRecDepth 100000 in
theorem kX11_versesRefused (l : Launch) (X : Cx) (t : St) (x1 : Int32) (r : Int32) (hrun : fX11_versesRefused t x1 = some r) : Ci l X t yX11_versesRefused cX11_versesRefused 2 .int 1 25 [.ref (X.2.1 144), .int x1] r t := by
  refine Ci_of (by decide) (Nat.le_of_ble_eq_true rfl) ?_
  intro p e s m args below meth c Q B hret hS ls hl
  have hx := B.1
  have hb := B.2.1
  have hown := B.2.2.2.1
  have hts := B.2.2.2.2.1
  have hl : lv_has ls 2 [(0, .ref (X.2.1 144)), (1, .int x1)] := hl
  unfold fX11_versesRefused at hrun
  refine lv_iload_n hx hb dX11_versesRefused_0 rfl (lv_at hl 1 rfl) ?_
  refine lv_i2l hx hb dX11_versesRefused_1 rfl ?_
  refine lv_lconst (v := 1) hx hb dX11_versesRefused_2 (by decide) ?_
  refine lv_ldc2 (v := 60) hx hb hown (hts _ (tw_5 136 rfl rfl)) dX11_versesRefused_3 ?_
  obtain ⟨r_2, hc_1, hrun⟩ := bdE hrun
  refine qX11_84 B hS hc_1 hl.1 (Nat.le_of_ble_eq_true rfl) ⟨Nat.le_of_ble_eq_true rfl, Nat.le_of_ble_eq_true rfl⟩ ⟨Nat.zero_le _, Nat.zero_le _⟩ dX11_versesRefused_6 (fun H locs hS => ?_)
  refine lv_if_ne (tgt := 15) hx hb dX11_versesRefused_9 (by decide) (fun hc => ?_) (fun hc => ?_)
  · have hrun := iq hc hrun
    refine lv_aload_n hx hb dX11_versesRefused_15 rfl (lv_at hl 0 rfl) ?_
    refine gX11_88 B hS dX11_versesRefused_16 ?_
    refine lv_if_ne (tgt := 27) hx hb dX11_versesRefused_19 (by decide) (fun hc => ?_) (fun hc => ?_)
    · have hrun := iq hc hrun
      refine lv_aload_n hx hb dX11_versesRefused_27 rfl (lv_at hl 0 rfl) ?_
      refine gX11_25 B hS dX11_versesRefused_28 ?_
      refine lv_bipush (v := 28) hx hb dX11_versesRefused_31 (by decide) ?_
      refine xa B hS ia_150 (by unfold vp_in; decide) dX11_versesRefused_33 ?_
      refine lv_sipush (v := 9000) hx hb dX11_versesRefused_34 (by decide) ?_
      refine lv_icmp_le (tgt := 45) hx hb dX11_versesRefused_37 (by decide) (fun hc => ?_) (fun hc => ?_)
      · have hrun := ip hc hrun
        refine lv_iconst (v := 0) hx hb dX11_versesRefused_45 (by decide) ?_
        exact hret _ _ _ _ _ _ (congrArg (Option.map (fun w => (w, t))) hrun) rfl hS dX11_versesRefused_46
      · have hrun := iq hc hrun
        refine lv_ldc (v := -1000000004) hx hb hown (hts _ (tw_4 221 rfl rfl)) dX11_versesRefused_40 ?_
        refine lv_goto (tgt := 46) hx hb dX11_versesRefused_42 (by decide) ?_
        exact hret _ _ _ _ _ _ (congrArg (Option.map (fun w => (w, t))) hrun) rfl hS dX11_versesRefused_46
    · have hrun := ip hc hrun
      refine lv_ldc (v := -1000000003) hx hb hown (hts _ (tw_5 137 rfl rfl)) dX11_versesRefused_22 ?_
      refine lv_goto (tgt := 46) hx hb dX11_versesRefused_24 (by decide) ?_
      exact hret _ _ _ _ _ _ (congrArg (Option.map (fun w => (w, t))) hrun) rfl hS dX11_versesRefused_46
  · have hrun := ip hc hrun
    refine lv_ldc (v := -1000000002) hx hb hown (hts _ (tw_4 220 rfl rfl)) dX11_versesRefused_12 ?_
    exact hret _ _ _ _ _ _ (congrArg (Option.map (fun w => (w, t))) hrun) rfl hS dX11_versesRefused_14
theorem mdX11_verse : MD yX11_verse 1 := ⟨by decide +kernel, by decide +kernel, by decide +kernel⟩
section QX11_verse
variable {p : Program} {l : Launch} {e : Env} {R : Room} {s : State} {m : MethodId} {args : Array Value} {below : List Frame} {meth : Method} {c : Code} {H : Heap} {locs : List Loc} {cells slots : Nat} {Q : State → Prop}
variable {cc : ByteArray} {pc : Nat} {ls : Array Slot} {rest : List Value} {X : Cx} {t : St} {H0 : Heap} {nL : Nat}
theorem qX11_246 (B : Bx p s m args c cc nL X RX11) (hS : SS X t H0 H locs) {x1 : Int32} {r : Int32} (hM : fX11_versesRefused t x1 = some r) (hsz : ls.size = nL) (hW : (rest.map fun v => v.category).sum ≤ 8) (hR : 1 + 1 ≤ R.frames ∧ 8 + (2 + 11) + 25 ≤ R.locals) (hR2 : cells ≤ R.cells ∧ slots ≤ R.slots) (hdg : decode cc pc = .ok (.invokevirtual 246, 3)) (kk : ∀ (H1 : Heap) (locs1 : List Loc), SS X t H0 H1 locs1 → W p l e R s m args below meth c H1 locs1 cells slots Q (F0 m (pc + 3) ls (.int r :: rest))) : W p l e R s m args below meth c H locs cells slots Q (F0 m pc ls (.int x1 :: .ref (X.2.1 144) :: rest)) :=
  xVi B hS (kX11_versesRefused l X t x1 r hM) (tw_5 132 rfl rfl) (tw_5 134 rfl rfl) (tw_0 49 rfl rfl) (tw_1 12 rfl rfl) (tw_5 135 rfl rfl) mdX11_versesRefused (by decide) (ceX11 _) rfl rfl rfl hsz rfl hW hR hR2 hdg kk
theorem qX11_249 (B : Bx p s m args c cc nL X RX11) (hS : SS X t H0 H locs) {t' : St} (hM : fX11_remember t = some t') (hsz : ls.size = nL) (hW : (rest.map fun v => v.category).sum ≤ 8) (hR : 0 + 1 ≤ R.frames ∧ 8 + (2 + 11) + 0 ≤ R.locals) (hR2 : cells ≤ R.cells ∧ slots ≤ R.slots) (hdg : decode cc pc = .ok (.invokevirtual 249, 3)) (kk : ∀ (H1 : Heap) (locs1 : List Loc), SS X t' H0 H1 locs1 → W p l e R s m args below meth c H1 locs1 cells slots Q (F0 m (pc + 3) ls (rest))) : W p l e R s m args below meth c H locs cells slots Q (F0 m pc ls (.ref (X.2.1 144) :: rest)) :=
  xVv B hS (kX11_remember l X t t' hM) (tw_5 138 rfl rfl) (tw_5 140 rfl rfl) (tw_0 50 rfl rfl) (tw_1 12 rfl rfl) (tw_5 141 rfl rfl) mdX11_remember (by decide) (ceX11 _) rfl rfl rfl hsz rfl hW hR hR2 hdg kk
theorem qX11_252 (B : Bx p s m args c cc nL X RX11) (hS : SS X t H0 H locs) {t' : St} (hM : fX11_pass t = some t') (hsz : ls.size = nL) (hW : (rest.map fun v => v.category).sum ≤ 8) (hR : 3 + 1 ≤ R.frames ∧ 8 + (7 + 11) + 69 ≤ R.locals) (hR2 : cells ≤ R.cells ∧ slots ≤ R.slots) (hdg : decode cc pc = .ok (.invokevirtual 252, 3)) (kk : ∀ (H1 : Heap) (locs1 : List Loc), SS X t' H0 H1 locs1 → W p l e R s m args below meth c H1 locs1 cells slots Q (F0 m (pc + 3) ls (rest))) : W p l e R s m args below meth c H locs cells slots Q (F0 m pc ls (.ref (X.2.1 144) :: rest)) :=
  xVv B hS (kX11_pass l X t t' hM) (tw_5 142 rfl rfl) (tw_5 144 rfl rfl) (tw_0 51 rfl rfl) (tw_1 12 rfl rfl) (tw_5 145 rfl rfl) mdX11_pass (by decide) (ceX11 _) rfl rfl rfl hsz rfl hW hR hR2 hdg kk
end QX11_verse
set_option maxHeartbeats 4000000 in
set_option maxRecDepth 100000 in
theorem kX11_verse (l : Launch) (X : Cx) (t : St) (x1 : Int32) (r : Int32) (t' : St) (hrun : fX11_verse t x1 = some (r, t')) : Ci l X t yX11_verse cX11_verse 4 .int 4 95 [.ref (X.2.1 144), .int x1] r t' := by
  refine Ci_of (by decide) (Nat.le_of_ble_eq_true rfl) ?_
  intro p e s m args below meth c Q B hret hS ls hl
  have hx := B.1
  have hb := B.2.1
  have hown := B.2.2.2.1
  have hts := B.2.2.2.2.1
  have hl : lv_has ls 4 [(0, .ref (X.2.1 144)), (1, .int x1)] := hl
  have hB33 : ∀ (t : St) (H : Heap) (locs : List Loc) (ls : Array Slot), SS X t s.heap H locs → lv_has ls 4 [(0, .ref (X.2.1 144))] → fX11_verse_33 t = some (r, t') → W p l e ({ frames := 4, cells := 0, slots := 0, locals := 95 } : Room) s m args below meth c H locs 0 0 Q (F0 m 33 ls []) := by
    intro t H locs ls hS hl hrun
    unfold fX11_verse_33 at hrun
    refine lv_aload_n hx hb dX11_verse_33 rfl (lv_at hl 0 rfl) ?_
    refine gX11_25 B hS dX11_verse_34 ?_
    refine lv_bipush (v := 26) hx hb dX11_verse_37 (by decide) ?_
    refine xa B hS ia_150 (by unfold vp_in; decide) dX11_verse_39 ?_
    exact hret _ _ _ _ _ _ hrun rfl hS dX11_verse_40
  have hB18 : ∀ (n18 : Nat) (t : St) (x1 : Int32) (x3 : Int32) (H : Heap) (locs : List Loc) (ls : Array Slot), SS X t s.heap H locs → lv_has ls 4 [(0, .ref (X.2.1 144)), (1, .int x1), (3, .int x3)] → fX11_verse_18 n18 t x1 x3 = some (r, t') → W p l e ({ frames := 4, cells := 0, slots := 0, locals := 95 } : Room) s m args below meth c H locs 0 0 Q (F0 m 18 ls []) := by
    intro n18
    induction n18 with
    | zero =>
      intro t x1 x3 H locs ls hS hl hrun
      cases (show (none : Option (Int32 × St)) = some (r, t') from hrun)
    | succ n18 ih18 =>
      intro t x1 x3 H locs ls hS hl hrun
      rw [fX11_verse_18_s] at hrun
      refine lv_iload_n hx hb dX11_verse_18 rfl (lv_at hl 2 rfl) ?_
      refine lv_iload_n hx hb dX11_verse_19 rfl (lv_at hl 1 rfl) ?_
      refine lv_icmp_ge (tgt := 33) hx hb dX11_verse_20 (by decide) (fun hc => ?_) (fun hc => ?_)
      · have hrun := ip hc hrun
        exact hB33 t _ _ _ hS (lv_sub hl [0] rfl) hrun
      · have hrun := iq hc hrun
        refine lv_aload_n hx hb dX11_verse_23 rfl (lv_at hl 0 rfl) ?_
        obtain ⟨t_1020, hc_1019, hrun⟩ := bdE hrun
        refine qX11_252 B hS hc_1019 hl.1 (Nat.le_of_ble_eq_true rfl) ⟨Nat.le_of_ble_eq_true rfl, Nat.le_of_ble_eq_true rfl⟩ ⟨Nat.zero_le _, Nat.zero_le _⟩ dX11_verse_24 (fun H locs hS => ?_)
        refine lv_iinc (v := x3 + (1 : Int32)) (k := 2) (lv' := [(3, .int (x3 + (1 : Int32))), (0, .ref (X.2.1 144)), (1, .int x1)]) hx hb dX11_verse_27 hl rfl rfl (by decide) rfl (fun ls hl => ?_)
        refine lv_goto (tgt := 18) hx hb dX11_verse_30 (by decide) ?_
        exact ih18 t_1020 x1 (x3 + (1 : Int32)) _ _ _ hS (lv_sub hl [1, 2, 0] rfl) hrun
  unfold fX11_verse at hrun
  refine lv_aload_n hx hb dX11_verse_0 rfl (lv_at hl 0 rfl) ?_
  refine lv_iload_n hx hb dX11_verse_1 rfl (lv_at hl 1 rfl) ?_
  obtain ⟨r_2, hc_1, hrun⟩ := bdE hrun
  refine qX11_246 B hS hc_1 hl.1 (Nat.le_of_ble_eq_true rfl) ⟨Nat.le_of_ble_eq_true rfl, Nat.le_of_ble_eq_true rfl⟩ ⟨Nat.zero_le _, Nat.zero_le _⟩ dX11_verse_2 (fun H locs hS => ?_)
  refine lv_istore_n (lv' := [(2, .int r_2), (0, .ref (X.2.1 144)), (1, .int x1)]) hx hb dX11_verse_5 rfl hl (by decide) rfl (fun ls hl => ?_)
  refine lv_iload_n hx hb dX11_verse_6 rfl (lv_at hl 0 rfl) ?_
  refine lv_if_eq (tgt := 12) hx hb dX11_verse_7 (by decide) (fun hc => ?_) (fun hc => ?_)
  · have hrun := ip hc hrun
    refine lv_aload_n hx hb dX11_verse_12 rfl (lv_at hl 1 rfl) ?_
    obtain ⟨t_4, hc_3, hrun⟩ := bdE hrun
    refine qX11_249 B hS hc_3 hl.1 (Nat.le_of_ble_eq_true rfl) ⟨Nat.le_of_ble_eq_true rfl, Nat.le_of_ble_eq_true rfl⟩ ⟨Nat.zero_le _, Nat.zero_le _⟩ dX11_verse_13 (fun H locs hS => ?_)
    refine lv_iconst (v := 0) hx hb dX11_verse_16 (by decide) ?_
    refine lv_istore_n (lv' := [(3, .int (0 : Int32)), (2, .int r_2), (0, .ref (X.2.1 144)), (1, .int x1)]) hx hb dX11_verse_17 rfl hl (by decide) rfl (fun ls hl => ?_)
    exact hB18 fuelN t_4 x1 (0 : Int32) _ _ _ hS (lv_sub hl [2, 3, 0] rfl) hrun
  · have hrun := iq hc hrun
    refine lv_iload_n hx hb dX11_verse_10 rfl (lv_at hl 0 rfl) ?_
    exact hret _ _ _ _ _ _ hrun rfl hS dX11_verse_11
theorem mdX11_joinNow : MD yX11_joinNow 1 := ⟨by decide +kernel, by decide +kernel, by decide +kernel⟩
section QX11_joinNow
variable {p : Program} {l : Launch} {e : Env} {R : Room} {s : State} {m : MethodId} {args : Array Value} {below : List Frame} {meth : Method} {c : Code} {H : Heap} {locs : List Loc} {cells slots : Nat} {Q : State → Prop}
variable {cc : ByteArray} {pc : Nat} {ls : Array Slot} {rest : List Value} {X : Cx} {t : St} {H0 : Heap} {nL : Nat}
theorem qX11_255 (B : Bx p s m args c cc nL X RX11) (hS : SS X t H0 H locs) {x1 : Int32} {r : Int32} (hM : fX11_voicesIn t x1 = some r) (hsz : ls.size = nL) (hW : (rest.map fun v => v.category).sum ≤ 8) (hR : 2 + 1 ≤ R.frames ∧ 8 + (2 + 11) + 43 ≤ R.locals) (hR2 : cells ≤ R.cells ∧ slots ≤ R.slots) (hdg : decode cc pc = .ok (.invokevirtual 255, 3)) (kk : ∀ (H1 : Heap) (locs1 : List Loc), SS X t H0 H1 locs1 → W p l e R s m args below meth c H1 locs1 cells slots Q (F0 m (pc + 3) ls (.int r :: rest))) : W p l e R s m args below meth c H locs cells slots Q (F0 m pc ls (.int x1 :: .ref (X.2.1 144) :: rest)) :=
  xVi B hS (kX11_voicesIn l X t x1 r hM) (tw_5 159 rfl rfl) (tw_5 161 rfl rfl) (tw_0 54 rfl rfl) (tw_1 12 rfl rfl) (tw_5 162 rfl rfl) mdX11_voicesIn (by decide) (ceX11 _) rfl rfl rfl hsz rfl hW hR hR2 hdg kk
end QX11_joinNow
set_option maxHeartbeats 4000000 in
set_option maxRecDepth 100000 in
theorem kX11_joinNow (l : Launch) (X : Cx) (t : St) (x1 : Int32) (t' : St) (hrun : fX11_joinNow t x1 = some t') : Cv l X t yX11_joinNow cX11_joinNow 2 3 64 [.ref (X.2.1 144), .int x1] t' := by
  refine Cv_of (by decide) (Nat.le_of_ble_eq_true rfl) ?_
  intro p e s m args below meth c Q B hret hS ls hl
  have hx := B.1
  have hb := B.2.1
  have hown := B.2.2.2.1
  have hts := B.2.2.2.2.1
  have hl : lv_has ls 2 [(0, .ref (X.2.1 144)), (1, .int x1)] := hl
  unfold fX11_joinNow at hrun
  refine lv_aload_n hx hb dX11_joinNow_0 rfl (lv_at hl 0 rfl) ?_
  refine gX11_25 B hS dX11_joinNow_1 ?_
  refine lv_bipush (v := 14) hx hb dX11_joinNow_4 (by decide) ?_
  refine lv_iload_n hx hb dX11_joinNow_6 rfl (lv_at hl 1 rfl) ?_
  refine lv_iadd hx hb dX11_joinNow_7 ?_
  refine lv_aload_n hx hb dX11_joinNow_8 rfl (lv_at hl 0 rfl) ?_
  refine lv_aload_n hx hb dX11_joinNow_9 rfl (lv_at hl 0 rfl) ?_
  refine gX11_25 B hS dX11_joinNow_10 ?_
  refine lv_iload_n hx hb dX11_joinNow_13 rfl (lv_at hl 1 rfl) ?_
  obtain ⟨hi_1, hrun⟩ := gdE hrun
  refine xa B hS ia_150 hi_1 dX11_joinNow_14 ?_
  obtain ⟨r_3, hc_2, hrun⟩ := bdE hrun
  refine qX11_255 B hS hc_2 hl.1 (Nat.le_of_ble_eq_true rfl) ⟨Nat.le_of_ble_eq_true rfl, Nat.le_of_ble_eq_true rfl⟩ ⟨Nat.zero_le _, Nat.zero_le _⟩ dX11_joinNow_15 (fun H locs hS => ?_)
  obtain ⟨hi_4, hrun⟩ := gdE hrun
  refine xs B hS ia_150 hi_4 dX11_joinNow_18 (fun H locs hS => ?_)
  obtain ⟨t_5, et, hrun⟩ := bsE hrun
  have hS : SS X t_5 s.heap H locs := by rw [et]; exact hS
  clear et
  exact hret _ _ _ _ _ hrun hS dX11_joinNow_19
theorem mdX11_join : MD yX11_join 1 := ⟨by decide +kernel, by decide +kernel, by decide +kernel⟩
section QX11_join
variable {p : Program} {l : Launch} {e : Env} {R : Room} {s : State} {m : MethodId} {args : Array Value} {below : List Frame} {meth : Method} {c : Code} {H : Heap} {locs : List Loc} {cells slots : Nat} {Q : State → Prop}
variable {cc : ByteArray} {pc : Nat} {ls : Array Slot} {rest : List Value} {X : Cx} {t : St} {H0 : Heap} {nL : Nat}
theorem qX11_258 (B : Bx p s m args c cc nL X RX11) (hS : SS X t H0 H locs) {x1 : Int32} {t' : St} (hM : fX11_joinNow t x1 = some t') (hsz : ls.size = nL) (hW : (rest.map fun v => v.category).sum ≤ 8) (hR : 3 + 1 ≤ R.frames ∧ 8 + (2 + 11) + 64 ≤ R.locals) (hR2 : cells ≤ R.cells ∧ slots ≤ R.slots) (hdg : decode cc pc = .ok (.invokevirtual 258, 3)) (kk : ∀ (H1 : Heap) (locs1 : List Loc), SS X t' H0 H1 locs1 → W p l e R s m args below meth c H1 locs1 cells slots Q (F0 m (pc + 3) ls (rest))) : W p l e R s m args below meth c H locs cells slots Q (F0 m pc ls (.int x1 :: .ref (X.2.1 144) :: rest)) :=
  xVv B hS (kX11_joinNow l X t x1 t' hM) (tw_5 155 rfl rfl) (tw_5 157 rfl rfl) (tw_0 53 rfl rfl) (tw_1 12 rfl rfl) (tw_5 158 rfl rfl) mdX11_joinNow (by decide) (ceX11 _) rfl rfl rfl hsz rfl hW hR hR2 hdg kk
end QX11_join
set_option maxHeartbeats 4000000 in
set_option maxRecDepth 100000 in
theorem kX11_join (l : Launch) (X : Cx) (t : St) (x1 : Int32) (r : Int32) (t' : St) (hrun : fX11_join t x1 = some (r, t')) : Ci l X t yX11_join cX11_join 2 .int 4 85 [.ref (X.2.1 144), .int x1] r t' := by
  refine Ci_of (by decide) (Nat.le_of_ble_eq_true rfl) ?_
  intro p e s m args below meth c Q B hret hS ls hl
  have hx := B.1
  have hb := B.2.1
  have hown := B.2.2.2.1
  have hts := B.2.2.2.2.1
  have hl : lv_has ls 2 [(0, .ref (X.2.1 144)), (1, .int x1)] := hl
  unfold fX11_join at hrun
  refine lv_aload_n hx hb dX11_join_0 rfl (lv_at hl 0 rfl) ?_
  refine lv_iload_n hx hb dX11_join_1 rfl (lv_at hl 1 rfl) ?_
  obtain ⟨r_2, hc_1, hrun⟩ := bdE hrun
  refine qX11_228 B hS hc_1 hl.1 (Nat.le_of_ble_eq_true rfl) ⟨Nat.le_of_ble_eq_true rfl, Nat.le_of_ble_eq_true rfl⟩ ⟨Nat.zero_le _, Nat.zero_le _⟩ dX11_join_2 (fun H locs hS => ?_)
  refine lv_if_ne (tgt := 11) hx hb dX11_join_5 (by decide) (fun hc => ?_) (fun hc => ?_)
  · have hrun := iq hc hrun
    refine lv_aload_n hx hb dX11_join_11 rfl (lv_at hl 0 rfl) ?_
    refine lv_iload_n hx hb dX11_join_12 rfl (lv_at hl 1 rfl) ?_
    obtain ⟨r_4, hc_3, hrun⟩ := bdE hrun
    refine qX11_183 B hS hc_3 hl.1 (Nat.le_of_ble_eq_true rfl) ⟨Nat.le_of_ble_eq_true rfl, Nat.le_of_ble_eq_true rfl⟩ ⟨Nat.zero_le _, Nat.zero_le _⟩ dX11_join_13 (fun H locs hS => ?_)
    refine lv_if_eq (tgt := 22) hx hb dX11_join_16 (by decide) (fun hc => ?_) (fun hc => ?_)
    · have hrun := ip hc hrun
      refine lv_aload_n hx hb dX11_join_22 rfl (lv_at hl 0 rfl) ?_
      obtain ⟨t_6, hc_5, hrun⟩ := bdE hrun
      refine qX11_249 B hS hc_5 hl.1 (Nat.le_of_ble_eq_true rfl) ⟨Nat.le_of_ble_eq_true rfl, Nat.le_of_ble_eq_true rfl⟩ ⟨Nat.zero_le _, Nat.zero_le _⟩ dX11_join_23 (fun H locs hS => ?_)
      refine lv_aload_n hx hb dX11_join_26 rfl (lv_at hl 0 rfl) ?_
      refine lv_iload_n hx hb dX11_join_27 rfl (lv_at hl 1 rfl) ?_
      obtain ⟨t_8, hc_7, hrun⟩ := bdE hrun
      refine qX11_258 B hS hc_7 hl.1 (Nat.le_of_ble_eq_true rfl) ⟨Nat.le_of_ble_eq_true rfl, Nat.le_of_ble_eq_true rfl⟩ ⟨Nat.zero_le _, Nat.zero_le _⟩ dX11_join_28 (fun H locs hS => ?_)
      refine lv_aload_n hx hb dX11_join_31 rfl (lv_at hl 0 rfl) ?_
      refine gX11_25 B hS dX11_join_32 ?_
      refine lv_bipush (v := 14) hx hb dX11_join_35 (by decide) ?_
      refine lv_iload_n hx hb dX11_join_37 rfl (lv_at hl 1 rfl) ?_
      refine lv_iadd hx hb dX11_join_38 ?_
      obtain ⟨hi_9, hrun⟩ := gdE hrun
      refine xa B hS ia_150 hi_9 dX11_join_39 ?_
      exact hret _ _ _ _ _ _ hrun rfl hS dX11_join_40
    · have hrun := iq hc hrun
      refine lv_ldc (v := -1000000003) hx hb hown (hts _ (tw_5 137 rfl rfl)) dX11_join_19 ?_
      exact hret _ _ _ _ _ _ hrun rfl hS dX11_join_21
  · have hrun := ip hc hrun
    refine lv_ldc (v := -1000000001) hx hb hown (hts _ (tw_5 111 rfl rfl)) dX11_join_8 ?_
    exact hret _ _ _ _ _ _ hrun rfl hS dX11_join_10
theorem mdX11_hush : MD yX11_hush 1 := ⟨by decide +kernel, by decide +kernel, by decide +kernel⟩
set_option maxHeartbeats 4000000 in
set_option maxRecDepth 100000 in
theorem kX11_hush (l : Launch) (X : Cx) (t : St) (x1 : Int32) (r : Int32) (t' : St) (hrun : fX11_hush t x1 = some (r, t')) : Ci l X t yX11_hush cX11_hush 2 .int 3 64 [.ref (X.2.1 144), .int x1] r t' := by
  refine Ci_of (by decide) (Nat.le_of_ble_eq_true rfl) ?_
  intro p e s m args below meth c Q B hret hS ls hl
  have hx := B.1
  have hb := B.2.1
  have hown := B.2.2.2.1
  have hts := B.2.2.2.2.1
  have hl : lv_has ls 2 [(0, .ref (X.2.1 144)), (1, .int x1)] := hl
  unfold fX11_hush at hrun
  refine lv_aload_n hx hb dX11_hush_0 rfl (lv_at hl 0 rfl) ?_
  refine lv_iload_n hx hb dX11_hush_1 rfl (lv_at hl 1 rfl) ?_
  obtain ⟨r_2, hc_1, hrun⟩ := bdE hrun
  refine qX11_228 B hS hc_1 hl.1 (Nat.le_of_ble_eq_true rfl) ⟨Nat.le_of_ble_eq_true rfl, Nat.le_of_ble_eq_true rfl⟩ ⟨Nat.zero_le _, Nat.zero_le _⟩ dX11_hush_2 (fun H locs hS => ?_)
  refine lv_if_ne (tgt := 11) hx hb dX11_hush_5 (by decide) (fun hc => ?_) (fun hc => ?_)
  · have hrun := iq hc hrun
    refine lv_aload_n hx hb dX11_hush_11 rfl (lv_at hl 0 rfl) ?_
    refine lv_iload_n hx hb dX11_hush_12 rfl (lv_at hl 1 rfl) ?_
    obtain ⟨r_4, hc_3, hrun⟩ := bdE hrun
    refine qX11_183 B hS hc_3 hl.1 (Nat.le_of_ble_eq_true rfl) ⟨Nat.le_of_ble_eq_true rfl, Nat.le_of_ble_eq_true rfl⟩ ⟨Nat.zero_le _, Nat.zero_le _⟩ dX11_hush_13 (fun H locs hS => ?_)
    refine lv_if_ne (tgt := 22) hx hb dX11_hush_16 (by decide) (fun hc => ?_) (fun hc => ?_)
    · have hrun := iq hc hrun
      refine lv_aload_n hx hb dX11_hush_22 rfl (lv_at hl 0 rfl) ?_
      obtain ⟨t_6, hc_5, hrun⟩ := bdE hrun
      refine qX11_249 B hS hc_5 hl.1 (Nat.le_of_ble_eq_true rfl) ⟨Nat.le_of_ble_eq_true rfl, Nat.le_of_ble_eq_true rfl⟩ ⟨Nat.zero_le _, Nat.zero_le _⟩ dX11_hush_23 (fun H locs hS => ?_)
      refine lv_aload_n hx hb dX11_hush_26 rfl (lv_at hl 0 rfl) ?_
      refine lv_iload_n hx hb dX11_hush_27 rfl (lv_at hl 1 rfl) ?_
      obtain ⟨t_8, hc_7, hrun⟩ := bdE hrun
      refine qX11_239 B hS hc_7 hl.1 (Nat.le_of_ble_eq_true rfl) ⟨Nat.le_of_ble_eq_true rfl, Nat.le_of_ble_eq_true rfl⟩ ⟨Nat.zero_le _, Nat.zero_le _⟩ dX11_hush_28 (fun H locs hS => ?_)
      refine lv_aload_n hx hb dX11_hush_31 rfl (lv_at hl 0 rfl) ?_
      refine lv_aload_n hx hb dX11_hush_32 rfl (lv_at hl 0 rfl) ?_
      refine gX11_25 B hS dX11_hush_33 ?_
      refine lv_iload_n hx hb dX11_hush_36 rfl (lv_at hl 1 rfl) ?_
      obtain ⟨hi_9, hrun⟩ := gdE hrun
      refine xa B hS ia_150 hi_9 dX11_hush_37 ?_
      obtain ⟨r_11, hc_10, hrun⟩ := bdE hrun
      refine qX11_255 B hS hc_10 hl.1 (Nat.le_of_ble_eq_true rfl) ⟨Nat.le_of_ble_eq_true rfl, Nat.le_of_ble_eq_true rfl⟩ ⟨Nat.zero_le _, Nat.zero_le _⟩ dX11_hush_38 (fun H locs hS => ?_)
      exact hret _ _ _ _ _ _ hrun rfl hS dX11_hush_41
    · have hrun := ip hc hrun
      refine lv_ldc (v := -1000000003) hx hb hown (hts _ (tw_5 137 rfl rfl)) dX11_hush_19 ?_
      exact hret _ _ _ _ _ _ hrun rfl hS dX11_hush_21
  · have hrun := ip hc hrun
    refine lv_ldc (v := -1000000001) hx hb hown (hts _ (tw_5 111 rfl rfl)) dX11_hush_8 ?_
    exact hret _ _ _ _ _ _ hrun rfl hS dX11_hush_10
theorem mdX11_goNow : MD yX11_goNow 2 := ⟨by decide +kernel, by decide +kernel, by decide +kernel⟩
set_option maxHeartbeats 4000000 in
set_option maxRecDepth 100000 in
theorem kX11_goNow (l : Launch) (X : Cx) (t : St) (x1 : Int32) (x2 : Int32) (t' : St) (hrun : fX11_goNow t x1 x2 = some t') : Cv l X t yX11_goNow cX11_goNow 3 1 23 [.ref (X.2.1 144), .int x1, .int x2] t' := by
  refine Cv_of (by decide) (Nat.le_of_ble_eq_true rfl) ?_
  intro p e s m args below meth c Q B hret hS ls hl
  have hx := B.1
  have hb := B.2.1
  have hown := B.2.2.2.1
  have hts := B.2.2.2.2.1
  have hl : lv_has ls 3 [(0, .ref (X.2.1 144)), (1, .int x1), (2, .int x2)] := hl
  unfold fX11_goNow at hrun
  refine lv_aload_n hx hb dX11_goNow_0 rfl (lv_at hl 0 rfl) ?_
  refine lv_iload_n hx hb dX11_goNow_1 rfl (lv_at hl 1 rfl) ?_
  obtain ⟨t_2, hc_1, hrun⟩ := bdE hrun
  refine qX11_239 B hS hc_1 hl.1 (Nat.le_of_ble_eq_true rfl) ⟨Nat.le_of_ble_eq_true rfl, Nat.le_of_ble_eq_true rfl⟩ ⟨Nat.zero_le _, Nat.zero_le _⟩ dX11_goNow_2 (fun H locs hS => ?_)
  refine lv_aload_n hx hb dX11_goNow_5 rfl (lv_at hl 0 rfl) ?_
  refine gX11_25 B hS dX11_goNow_6 ?_
  refine lv_iload_n hx hb dX11_goNow_9 rfl (lv_at hl 1 rfl) ?_
  refine lv_iload_n hx hb dX11_goNow_10 rfl (lv_at hl 2 rfl) ?_
  obtain ⟨hi_3, hrun⟩ := gdE hrun
  refine xs B hS ia_150 hi_3 dX11_goNow_11 (fun H locs hS => ?_)
  obtain ⟨t_4, et, hrun⟩ := bsE hrun
  have hS : SS X t_4 s.heap H locs := by rw [et]; exact hS
  clear et
  exact hret _ _ _ _ _ hrun hS dX11_goNow_12
theorem mdX11_go : MD yX11_go 2 := ⟨by decide +kernel, by decide +kernel, by decide +kernel⟩
section QX11_go
variable {p : Program} {l : Launch} {e : Env} {R : Room} {s : State} {m : MethodId} {args : Array Value} {below : List Frame} {meth : Method} {c : Code} {H : Heap} {locs : List Loc} {cells slots : Nat} {Q : State → Prop}
variable {cc : ByteArray} {pc : Nat} {ls : Array Slot} {rest : List Value} {X : Cx} {t : St} {H0 : Heap} {nL : Nat}
theorem qX11_261 (B : Bx p s m args c cc nL X RX11) (hS : SS X t H0 H locs) {x1 : Int32} {x2 : Int32} {t' : St} (hM : fX11_goNow t x1 x2 = some t') (hsz : ls.size = nL) (hW : (rest.map fun v => v.category).sum ≤ 8) (hR : 1 + 1 ≤ R.frames ∧ 8 + (3 + 11) + 23 ≤ R.locals) (hR2 : cells ≤ R.cells ∧ slots ≤ R.slots) (hdg : decode cc pc = .ok (.invokevirtual 261, 3)) (kk : ∀ (H1 : Heap) (locs1 : List Loc), SS X t' H0 H1 locs1 → W p l e R s m args below meth c H1 locs1 cells slots Q (F0 m (pc + 3) ls (rest))) : W p l e R s m args below meth c H locs cells slots Q (F0 m pc ls (.int x2 :: .int x1 :: .ref (X.2.1 144) :: rest)) :=
  xVv B hS (kX11_goNow l X t x1 x2 t' hM) (tw_5 171 rfl rfl) (tw_5 173 rfl rfl) (tw_0 55 rfl rfl) (tw_1 12 rfl rfl) (tw_5 174 rfl rfl) mdX11_goNow (by decide) (ceX11 _) rfl rfl rfl hsz rfl hW hR hR2 hdg kk
end QX11_go
set_option maxHeartbeats 4000000 in
set_option maxRecDepth 100000 in
theorem kX11_go (l : Launch) (X : Cx) (t : St) (x1 : Int32) (x2 : Int32) (r : Int32) (t' : St) (hrun : fX11_go t x1 x2 = some (r, t')) : Ci l X t yX11_go cX11_go 4 .int 2 46 [.ref (X.2.1 144), .int x1, .int x2] r t' := by
  refine Ci_of (by decide) (Nat.le_of_ble_eq_true rfl) ?_
  intro p e s m args below meth c Q B hret hS ls hl
  have hx := B.1
  have hb := B.2.1
  have hown := B.2.2.2.1
  have hts := B.2.2.2.2.1
  have hl : lv_has ls 4 [(0, .ref (X.2.1 144)), (1, .int x1), (2, .int x2)] := hl
  unfold fX11_go at hrun
  refine lv_aload_n hx hb dX11_go_0 rfl (lv_at hl 0 rfl) ?_
  refine lv_iload_n hx hb dX11_go_1 rfl (lv_at hl 1 rfl) ?_
  obtain ⟨r_2, hc_1, hrun⟩ := bdE hrun
  refine qX11_228 B hS hc_1 hl.1 (Nat.le_of_ble_eq_true rfl) ⟨Nat.le_of_ble_eq_true rfl, Nat.le_of_ble_eq_true rfl⟩ ⟨Nat.zero_le _, Nat.zero_le _⟩ dX11_go_2 (fun H locs hS => ?_)
  refine lv_if_eq (tgt := 16) hx hb dX11_go_5 (by decide) (fun hc => ?_) (fun hc => ?_)
  · have hrun := ip hc hrun
    refine lv_ldc (v := -1000000001) hx hb hown (hts _ (tw_5 111 rfl rfl)) dX11_go_16 ?_
    exact hret _ _ _ _ _ _ hrun rfl hS dX11_go_18
  · have hrun := iq hc hrun
    refine lv_aload_n hx hb dX11_go_8 rfl (lv_at hl 0 rfl) ?_
    refine lv_iload_n hx hb dX11_go_9 rfl (lv_at hl 2 rfl) ?_
    obtain ⟨r_4, hc_3, hrun⟩ := bdE hrun
    refine qX11_232 B hS hc_3 hl.1 (Nat.le_of_ble_eq_true rfl) ⟨Nat.le_of_ble_eq_true rfl, Nat.le_of_ble_eq_true rfl⟩ ⟨Nat.zero_le _, Nat.zero_le _⟩ dX11_go_10 (fun H locs hS => ?_)
    refine lv_if_ne (tgt := 19) hx hb dX11_go_13 (by decide) (fun hc => ?_) (fun hc => ?_)
    · have hrun := iq hc hrun
      refine lv_aload_n hx hb dX11_go_19 rfl (lv_at hl 0 rfl) ?_
      refine gX11_25 B hS dX11_go_20 ?_
      refine lv_iload_n hx hb dX11_go_23 rfl (lv_at hl 1 rfl) ?_
      obtain ⟨hi_5, hrun⟩ := gdE hrun
      refine xa B hS ia_150 hi_5 dX11_go_24 ?_
      refine lv_iload_n hx hb dX11_go_25 rfl (lv_at hl 2 rfl) ?_
      refine lv_icmp_ne (tgt := 32) hx hb dX11_go_26 (by decide) (fun hc => ?_) (fun hc => ?_)
      · have hrun := iq hc hrun
        refine lv_aload_n hx hb dX11_go_32 rfl (lv_at hl 0 rfl) ?_
        obtain ⟨t_7, hc_6, hrun⟩ := bdE hrun
        refine qX11_249 B hS hc_6 hl.1 (Nat.le_of_ble_eq_true rfl) ⟨Nat.le_of_ble_eq_true rfl, Nat.le_of_ble_eq_true rfl⟩ ⟨Nat.zero_le _, Nat.zero_le _⟩ dX11_go_33 (fun H locs hS => ?_)
        refine lv_aload_n hx hb dX11_go_36 rfl (lv_at hl 0 rfl) ?_
        refine gX11_25 B hS dX11_go_37 ?_
        refine lv_iload_n hx hb dX11_go_40 rfl (lv_at hl 1 rfl) ?_
        obtain ⟨hi_8, hrun⟩ := gdE hrun
        refine xa B hS ia_150 hi_8 dX11_go_41 ?_
        refine lv_topi (fun x3_9 ex => ?_)
        obtain ⟨z, ez, hrun⟩ := bsE hrun
        obtain rfl : x3_9 = z := ex.trans ez.symm
        clear ex ez
        refine lv_istore_n (lv' := [(3, .int x3_9), (0, .ref (X.2.1 144)), (1, .int x1), (2, .int x2)]) hx hb dX11_go_42 rfl hl (by decide) rfl (fun ls hl => ?_)
        refine lv_aload_n hx hb dX11_go_43 rfl (lv_at hl 1 rfl) ?_
        refine lv_iload_n hx hb dX11_go_44 rfl (lv_at hl 2 rfl) ?_
        refine lv_iload_n hx hb dX11_go_45 rfl (lv_at hl 3 rfl) ?_
        obtain ⟨t_11, hc_10, hrun⟩ := bdE hrun
        refine qX11_261 B hS hc_10 hl.1 (Nat.le_of_ble_eq_true rfl) ⟨Nat.le_of_ble_eq_true rfl, Nat.le_of_ble_eq_true rfl⟩ ⟨Nat.zero_le _, Nat.zero_le _⟩ dX11_go_46 (fun H locs hS => ?_)
        refine lv_iload_n hx hb dX11_go_49 rfl (lv_at hl 0 rfl) ?_
        exact hret _ _ _ _ _ _ hrun rfl hS dX11_go_50
      · have hrun := ip hc hrun
        refine lv_ldc (v := -1000000003) hx hb hown (hts _ (tw_5 137 rfl rfl)) dX11_go_29 ?_
        exact hret _ _ _ _ _ _ hrun rfl hS dX11_go_31
    · have hrun := ip hc hrun
      refine lv_ldc (v := -1000000001) hx hb hown (hts _ (tw_5 111 rfl rfl)) dX11_go_16 ?_
      exact hret _ _ _ _ _ _ hrun rfl hS dX11_go_18
theorem mdX11_giveNow : MD yX11_giveNow 2 := ⟨by decide +kernel, by decide +kernel, by decide +kernel⟩
set_option maxHeartbeats 4000000 in
set_option maxRecDepth 100000 in
theorem kX11_giveNow (l : Launch) (X : Cx) (t : St) (x1 : Int32) (x2 : Int32) (t' : St) (hrun : fX11_giveNow t x1 x2 = some t') : Cv l X t yX11_giveNow cX11_giveNow 3 0 0 [.ref (X.2.1 144), .int x1, .int x2] t' := by
  refine Cv_of (by decide) (Nat.le_of_ble_eq_true rfl) ?_
  intro p e s m args below meth c Q B hret hS ls hl
  have hx := B.1
  have hb := B.2.1
  have hown := B.2.2.2.1
  have hts := B.2.2.2.2.1
  have hl : lv_has ls 3 [(0, .ref (X.2.1 144)), (1, .int x1), (2, .int x2)] := hl
  have hB42 : ∀ (t : St) (y1 : Int32) (y2 : Int32) (H : Heap) (locs : List Loc) (ls : Array Slot), SS X t s.heap H locs → lv_has ls 3 [] → fX11_giveNow_42 t y1 y2 = some t' → W p l e ({ frames := 0, cells := 0, slots := 0, locals := 0 } : Room) s m args below meth c H locs 0 0 Q (F0 m 42 ls [.int y2, .int y1, .ref (X.2.1 150)]) := by
    intro t y1 y2 H locs ls hS hl hrun
    unfold fX11_giveNow_42 at hrun
    obtain ⟨hi_1043, hrun⟩ := gdE hrun
    refine xs B hS ia_150 hi_1043 dX11_giveNow_42 (fun H locs hS => ?_)
    obtain ⟨t_1044, et, hrun⟩ := bsE hrun
    have hS : SS X t_1044 s.heap H locs := by rw [et]; exact hS
    clear et
    exact hret _ _ _ _ _ hrun hS dX11_giveNow_43
  unfold fX11_giveNow at hrun
  refine lv_aload_n hx hb dX11_giveNow_0 rfl (lv_at hl 0 rfl) ?_
  refine gX11_25 B hS dX11_giveNow_1 ?_
  refine lv_bipush (v := 7) hx hb dX11_giveNow_4 (by decide) ?_
  refine lv_iload_n hx hb dX11_giveNow_6 rfl (lv_at hl 1 rfl) ?_
  refine lv_iadd hx hb dX11_giveNow_7 ?_
  refine lv_aload_n hx hb dX11_giveNow_8 rfl (lv_at hl 0 rfl) ?_
  refine gX11_25 B hS dX11_giveNow_9 ?_
  refine lv_bipush (v := 7) hx hb dX11_giveNow_12 (by decide) ?_
  refine lv_iload_n hx hb dX11_giveNow_14 rfl (lv_at hl 1 rfl) ?_
  refine lv_iadd hx hb dX11_giveNow_15 ?_
  obtain ⟨hi_1, hrun⟩ := gdE hrun
  refine xa B hS ia_150 hi_1 dX11_giveNow_16 ?_
  refine lv_iload_n hx hb dX11_giveNow_17 rfl (lv_at hl 2 rfl) ?_
  refine lv_iadd hx hb dX11_giveNow_18 ?_
  refine lv_sipush (v := 9999) hx hb dX11_giveNow_19 (by decide) ?_
  refine lv_icmp_ge (tgt := 39) hx hb dX11_giveNow_22 (by decide) (fun hc => ?_) (fun hc => ?_)
  · have hrun := ip hc hrun
    refine lv_sipush (v := 9999) hx hb dX11_giveNow_39 (by decide) ?_
    exact hB42 t ((7 : Int32) + x1) (9999 : Int32) _ _ _ hS (lv_sub hl [] rfl) hrun
  · have hrun := iq hc hrun
    refine lv_aload_n hx hb dX11_giveNow_25 rfl (lv_at hl 0 rfl) ?_
    refine gX11_25 B hS dX11_giveNow_26 ?_
    refine lv_bipush (v := 7) hx hb dX11_giveNow_29 (by decide) ?_
    refine lv_iload_n hx hb dX11_giveNow_31 rfl (lv_at hl 1 rfl) ?_
    refine lv_iadd hx hb dX11_giveNow_32 ?_
    obtain ⟨hi_2, hrun⟩ := gdE hrun
    refine xa B hS ia_150 hi_2 dX11_giveNow_33 ?_
    refine lv_iload_n hx hb dX11_giveNow_34 rfl (lv_at hl 2 rfl) ?_
    refine lv_iadd hx hb dX11_giveNow_35 ?_
    refine lv_goto (tgt := 42) hx hb dX11_giveNow_36 (by decide) ?_
    exact hB42 t ((7 : Int32) + x1) (t 150 ((7 : Int32) + x1).toNatClampNeg + x2) _ _ _ hS (lv_sub hl [] rfl) hrun
theorem mdX11_give : MD yX11_give 2 := ⟨by decide +kernel, by decide +kernel, by decide +kernel⟩
section QX11_give
variable {p : Program} {l : Launch} {e : Env} {R : Room} {s : State} {m : MethodId} {args : Array Value} {below : List Frame} {meth : Method} {c : Code} {H : Heap} {locs : List Loc} {cells slots : Nat} {Q : State → Prop}
variable {cc : ByteArray} {pc : Nat} {ls : Array Slot} {rest : List Value} {X : Cx} {t : St} {H0 : Heap} {nL : Nat}
theorem qX11_267 (B : Bx p s m args c cc nL X RX11) (hS : SS X t H0 H locs) {x1 : Int32} {x2 : Int32} {t' : St} (hM : fX11_giveNow t x1 x2 = some t') (hsz : ls.size = nL) (hW : (rest.map fun v => v.category).sum ≤ 8) (hR : 0 + 1 ≤ R.frames ∧ 8 + (3 + 11) + 0 ≤ R.locals) (hR2 : cells ≤ R.cells ∧ slots ≤ R.slots) (hdg : decode cc pc = .ok (.invokevirtual 267, 3)) (kk : ∀ (H1 : Heap) (locs1 : List Loc), SS X t' H0 H1 locs1 → W p l e R s m args below meth c H1 locs1 cells slots Q (F0 m (pc + 3) ls (rest))) : W p l e R s m args below meth c H locs cells slots Q (F0 m pc ls (.int x2 :: .int x1 :: .ref (X.2.1 144) :: rest)) :=
  xVv B hS (kX11_giveNow l X t x1 x2 t' hM) (tw_5 180 rfl rfl) (tw_5 182 rfl rfl) (tw_0 56 rfl rfl) (tw_1 12 rfl rfl) (tw_5 183 rfl rfl) mdX11_giveNow (by decide) (ceX11 _) rfl rfl rfl hsz rfl hW hR hR2 hdg kk
end QX11_give
set_option maxHeartbeats 4000000 in
set_option maxRecDepth 100000 in
theorem kX11_give (l : Launch) (X : Cx) (t : St) (x1 : Int32) (x2 : Int32) (r : Int32) (t' : St) (hrun : fX11_give t x1 x2 = some (r, t')) : Ci l X t yX11_give cX11_give 3 .int 2 46 [.ref (X.2.1 144), .int x1, .int x2] r t' := by
  refine Ci_of (by decide) (Nat.le_of_ble_eq_true rfl) ?_
  intro p e s m args below meth c Q B hret hS ls hl
  have hx := B.1
  have hb := B.2.1
  have hown := B.2.2.2.1
  have hts := B.2.2.2.2.1
  have hl : lv_has ls 3 [(0, .ref (X.2.1 144)), (1, .int x1), (2, .int x2)] := hl
  unfold fX11_give at hrun
  refine lv_aload_n hx hb dX11_give_0 rfl (lv_at hl 0 rfl) ?_
  refine lv_iload_n hx hb dX11_give_1 rfl (lv_at hl 1 rfl) ?_
  obtain ⟨r_2, hc_1, hrun⟩ := bdE hrun
  refine qX11_228 B hS hc_1 hl.1 (Nat.le_of_ble_eq_true rfl) ⟨Nat.le_of_ble_eq_true rfl, Nat.le_of_ble_eq_true rfl⟩ ⟨Nat.zero_le _, Nat.zero_le _⟩ dX11_give_2 (fun H locs hS => ?_)
  refine lv_if_ne (tgt := 11) hx hb dX11_give_5 (by decide) (fun hc => ?_) (fun hc => ?_)
  · have hrun := iq hc hrun
    refine lv_iload_n hx hb dX11_give_11 rfl (lv_at hl 2 rfl) ?_
    refine lv_i2l hx hb dX11_give_12 rfl ?_
    refine lv_lconst (v := 1) hx hb dX11_give_13 (by decide) ?_
    refine lv_ldc2 (v := 999) hx hb hown (hts _ (tw_5 179 rfl rfl)) dX11_give_14 ?_
    obtain ⟨r_4, hc_3, hrun⟩ := bdE hrun
    refine qX11_84 B hS hc_3 hl.1 (Nat.le_of_ble_eq_true rfl) ⟨Nat.le_of_ble_eq_true rfl, Nat.le_of_ble_eq_true rfl⟩ ⟨Nat.zero_le _, Nat.zero_le _⟩ dX11_give_17 (fun H locs hS => ?_)
    refine lv_if_ne (tgt := 26) hx hb dX11_give_20 (by decide) (fun hc => ?_) (fun hc => ?_)
    · have hrun := iq hc hrun
      refine lv_aload_n hx hb dX11_give_26 rfl (lv_at hl 0 rfl) ?_
      obtain ⟨t_6, hc_5, hrun⟩ := bdE hrun
      refine qX11_249 B hS hc_5 hl.1 (Nat.le_of_ble_eq_true rfl) ⟨Nat.le_of_ble_eq_true rfl, Nat.le_of_ble_eq_true rfl⟩ ⟨Nat.zero_le _, Nat.zero_le _⟩ dX11_give_27 (fun H locs hS => ?_)
      refine lv_aload_n hx hb dX11_give_30 rfl (lv_at hl 0 rfl) ?_
      refine lv_iload_n hx hb dX11_give_31 rfl (lv_at hl 1 rfl) ?_
      refine lv_iload_n hx hb dX11_give_32 rfl (lv_at hl 2 rfl) ?_
      obtain ⟨t_8, hc_7, hrun⟩ := bdE hrun
      refine qX11_267 B hS hc_7 hl.1 (Nat.le_of_ble_eq_true rfl) ⟨Nat.le_of_ble_eq_true rfl, Nat.le_of_ble_eq_true rfl⟩ ⟨Nat.zero_le _, Nat.zero_le _⟩ dX11_give_33 (fun H locs hS => ?_)
      refine lv_aload_n hx hb dX11_give_36 rfl (lv_at hl 0 rfl) ?_
      refine gX11_25 B hS dX11_give_37 ?_
      refine lv_bipush (v := 7) hx hb dX11_give_40 (by decide) ?_
      refine lv_iload_n hx hb dX11_give_42 rfl (lv_at hl 1 rfl) ?_
      refine lv_iadd hx hb dX11_give_43 ?_
      obtain ⟨hi_9, hrun⟩ := gdE hrun
      refine xa B hS ia_150 hi_9 dX11_give_44 ?_
      exact hret _ _ _ _ _ _ hrun rfl hS dX11_give_45
    · have hrun := ip hc hrun
      refine lv_ldc (v := -1000000002) hx hb hown (hts _ (tw_4 220 rfl rfl)) dX11_give_23 ?_
      exact hret _ _ _ _ _ _ hrun rfl hS dX11_give_25
  · have hrun := ip hc hrun
    refine lv_ldc (v := -1000000001) hx hb hown (hts _ (tw_5 111 rfl rfl)) dX11_give_8 ?_
    exact hret _ _ _ _ _ _ hrun rfl hS dX11_give_10
theorem mdX11_rate : MD yX11_rate 1 := ⟨by decide +kernel, by decide +kernel, by decide +kernel⟩
set_option maxHeartbeats 4000000 in
set_option maxRecDepth 100000 in
theorem kX11_rate (l : Launch) (X : Cx) (t : St) (x1 : Int32) (r : Int32) (t' : St) (hrun : fX11_rate t x1 = some (r, t')) : Ci l X t yX11_rate cX11_rate 3 .int 1 25 [.ref (X.2.1 144), .int x1] r t' := by
  refine Ci_of (by decide) (Nat.le_of_ble_eq_true rfl) ?_
  intro p e s m args below meth c Q B hret hS ls hl
  have hx := B.1
  have hb := B.2.1
  have hown := B.2.2.2.1
  have hts := B.2.2.2.2.1
  have hl : lv_has ls 3 [(0, .ref (X.2.1 144)), (1, .int x1)] := hl
  unfold fX11_rate at hrun
  refine lv_iload_n hx hb dX11_rate_0 rfl (lv_at hl 1 rfl) ?_
  refine lv_i2l hx hb dX11_rate_1 rfl ?_
  refine lv_lconst (v := 1) hx hb dX11_rate_2 (by decide) ?_
  refine lv_ldc2 (v := 9) hx hb hown (hts _ (tw_5 188 rfl rfl)) dX11_rate_3 ?_
  obtain ⟨r_2, hc_1, hrun⟩ := bdE hrun
  refine qX11_84 B hS hc_1 hl.1 (Nat.le_of_ble_eq_true rfl) ⟨Nat.le_of_ble_eq_true rfl, Nat.le_of_ble_eq_true rfl⟩ ⟨Nat.zero_le _, Nat.zero_le _⟩ dX11_rate_6 (fun H locs hS => ?_)
  refine lv_if_ne (tgt := 15) hx hb dX11_rate_9 (by decide) (fun hc => ?_) (fun hc => ?_)
  · have hrun := iq hc hrun
    refine lv_aload_n hx hb dX11_rate_15 rfl (lv_at hl 0 rfl) ?_
    refine gX11_88 B hS dX11_rate_16 ?_
    refine lv_if_ne (tgt := 25) hx hb dX11_rate_19 (by decide) (fun hc => ?_) (fun hc => ?_)
    · have hrun := iq hc hrun
      refine lv_aload_n hx hb dX11_rate_25 rfl (lv_at hl 0 rfl) ?_
      obtain ⟨t_4, hc_3, hrun⟩ := bdE hrun
      refine qX11_249 B hS hc_3 hl.1 (Nat.le_of_ble_eq_true rfl) ⟨Nat.le_of_ble_eq_true rfl, Nat.le_of_ble_eq_true rfl⟩ ⟨Nat.zero_le _, Nat.zero_le _⟩ dX11_rate_26 (fun H locs hS => ?_)
      refine lv_aload_n hx hb dX11_rate_29 rfl (lv_at hl 0 rfl) ?_
      refine gX11_25 B hS dX11_rate_30 ?_
      refine lv_bipush (v := 25) hx hb dX11_rate_33 (by decide) ?_
      refine xa B hS ia_150 (by unfold vp_in; decide) dX11_rate_35 ?_
      refine lv_topi (fun x2_5 ex => ?_)
      obtain ⟨z, ez, hrun⟩ := bsE hrun
      obtain rfl : x2_5 = z := ex.trans ez.symm
      clear ex ez
      refine lv_istore_n (lv' := [(2, .int x2_5), (0, .ref (X.2.1 144)), (1, .int x1)]) hx hb dX11_rate_36 rfl hl (by decide) rfl (fun ls hl => ?_)
      refine lv_aload_n hx hb dX11_rate_37 rfl (lv_at hl 1 rfl) ?_
      refine gX11_25 B hS dX11_rate_38 ?_
      refine lv_bipush (v := 25) hx hb dX11_rate_41 (by decide) ?_
      refine lv_iload_n hx hb dX11_rate_43 rfl (lv_at hl 2 rfl) ?_
      refine xs B hS ia_150 (by unfold vp_in; decide) dX11_rate_44 (fun H locs hS => ?_)
      obtain ⟨t_6, et, hrun⟩ := bsE hrun
      have hS : SS X t_6 s.heap H locs := by rw [et]; exact hS
      clear et
      refine lv_iload_n hx hb dX11_rate_45 rfl (lv_at hl 0 rfl) ?_
      exact hret _ _ _ _ _ _ hrun rfl hS dX11_rate_46
    · have hrun := ip hc hrun
      refine lv_ldc (v := -1000000003) hx hb hown (hts _ (tw_5 137 rfl rfl)) dX11_rate_22 ?_
      exact hret _ _ _ _ _ _ hrun rfl hS dX11_rate_24
  · have hrun := ip hc hrun
    refine lv_ldc (v := -1000000002) hx hb hown (hts _ (tw_4 220 rfl rfl)) dX11_rate_12 ?_
    exact hret _ _ _ _ _ _ hrun rfl hS dX11_rate_14
theorem mdX11_inspect : MD yX11_inspect 2 := ⟨by decide +kernel, by decide +kernel, by decide +kernel⟩
set_option maxHeartbeats 4000000 in
set_option maxRecDepth 100000 in
theorem kX11_inspect (l : Launch) (X : Cx) (t : St) (x1 : Int32) (x2 : Int32) (r : Int32) (t' : St) (hrun : fX11_inspect t x1 x2 = some (r, t')) : Ci l X t yX11_inspect cX11_inspect 4 .int 2 46 [.ref (X.2.1 144), .int x1, .int x2] r t' := by
  refine Ci_of (by decide) (Nat.le_of_ble_eq_true rfl) ?_
  intro p e s m args below meth c Q B hret hS ls hl
  have hx := B.1
  have hb := B.2.1
  have hown := B.2.2.2.1
  have hts := B.2.2.2.2.1
  have hl : lv_has ls 4 [(0, .ref (X.2.1 144)), (1, .int x1), (2, .int x2)] := hl
  unfold fX11_inspect at hrun
  refine lv_iload_n hx hb dX11_inspect_0 rfl (lv_at hl 1 rfl) ?_
  refine lv_i2l hx hb dX11_inspect_1 rfl ?_
  refine lv_lconst (v := 0) hx hb dX11_inspect_2 (by decide) ?_
  refine lv_aload_n hx hb dX11_inspect_3 rfl (lv_at hl 0 rfl) ?_
  refine gX11_153 B hS dX11_inspect_4 ?_
  refine lv_iconst (v := 1) hx hb dX11_inspect_7 (by decide) ?_
  refine lv_isub hx hb dX11_inspect_8 ?_
  refine lv_i2l hx hb dX11_inspect_9 rfl ?_
  obtain ⟨r_2, hc_1, hrun⟩ := bdE hrun
  refine qX11_84 B hS hc_1 hl.1 (Nat.le_of_ble_eq_true rfl) ⟨Nat.le_of_ble_eq_true rfl, Nat.le_of_ble_eq_true rfl⟩ ⟨Nat.zero_le _, Nat.zero_le _⟩ dX11_inspect_10 (fun H locs hS => ?_)
  refine lv_if_eq (tgt := 24) hx hb dX11_inspect_13 (by decide) (fun hc => ?_) (fun hc => ?_)
  · have hrun := ip hc hrun
    refine lv_ldc (v := -1000000001) hx hb hown (hts _ (tw_5 111 rfl rfl)) dX11_inspect_24 ?_
    exact hret _ _ _ _ _ _ hrun rfl hS dX11_inspect_26
  · have hrun := iq hc hrun
    refine lv_aload_n hx hb dX11_inspect_16 rfl (lv_at hl 0 rfl) ?_
    refine lv_iload_n hx hb dX11_inspect_17 rfl (lv_at hl 2 rfl) ?_
    obtain ⟨r_4, hc_3, hrun⟩ := bdE hrun
    refine qX11_232 B hS hc_3 hl.1 (Nat.le_of_ble_eq_true rfl) ⟨Nat.le_of_ble_eq_true rfl, Nat.le_of_ble_eq_true rfl⟩ ⟨Nat.zero_le _, Nat.zero_le _⟩ dX11_inspect_18 (fun H locs hS => ?_)
    refine lv_if_ne (tgt := 27) hx hb dX11_inspect_21 (by decide) (fun hc => ?_) (fun hc => ?_)
    · have hrun := iq hc hrun
      refine lv_aload_n hx hb dX11_inspect_27 rfl (lv_at hl 0 rfl) ?_
      refine gX11_25 B hS dX11_inspect_28 ?_
      refine lv_bipush (v := 21) hx hb dX11_inspect_31 (by decide) ?_
      refine lv_iload_n hx hb dX11_inspect_33 rfl (lv_at hl 1 rfl) ?_
      refine lv_iadd hx hb dX11_inspect_34 ?_
      obtain ⟨hi_5, hrun⟩ := gdE hrun
      refine xa B hS ia_150 hi_5 dX11_inspect_35 ?_
      refine lv_iload_n hx hb dX11_inspect_36 rfl (lv_at hl 2 rfl) ?_
      refine lv_icmp_ne (tgt := 43) hx hb dX11_inspect_37 (by decide) (fun hc => ?_) (fun hc => ?_)
      · have hrun := iq hc hrun
        refine lv_aload_n hx hb dX11_inspect_43 rfl (lv_at hl 0 rfl) ?_
        obtain ⟨t_7, hc_6, hrun⟩ := bdE hrun
        refine qX11_249 B hS hc_6 hl.1 (Nat.le_of_ble_eq_true rfl) ⟨Nat.le_of_ble_eq_true rfl, Nat.le_of_ble_eq_true rfl⟩ ⟨Nat.zero_le _, Nat.zero_le _⟩ dX11_inspect_44 (fun H locs hS => ?_)
        refine lv_aload_n hx hb dX11_inspect_47 rfl (lv_at hl 0 rfl) ?_
        refine gX11_25 B hS dX11_inspect_48 ?_
        refine lv_bipush (v := 21) hx hb dX11_inspect_51 (by decide) ?_
        refine lv_iload_n hx hb dX11_inspect_53 rfl (lv_at hl 1 rfl) ?_
        refine lv_iadd hx hb dX11_inspect_54 ?_
        obtain ⟨hi_8, hrun⟩ := gdE hrun
        refine xa B hS ia_150 hi_8 dX11_inspect_55 ?_
        refine lv_topi (fun x3_9 ex => ?_)
        obtain ⟨z, ez, hrun⟩ := bsE hrun
        obtain rfl : x3_9 = z := ex.trans ez.symm
        clear ex ez
        refine lv_istore_n (lv' := [(3, .int x3_9), (0, .ref (X.2.1 144)), (1, .int x1), (2, .int x2)]) hx hb dX11_inspect_56 rfl hl (by decide) rfl (fun ls hl => ?_)
        refine lv_aload_n hx hb dX11_inspect_57 rfl (lv_at hl 1 rfl) ?_
        refine gX11_25 B hS dX11_inspect_58 ?_
        refine lv_bipush (v := 21) hx hb dX11_inspect_61 (by decide) ?_
        refine lv_iload_n hx hb dX11_inspect_63 rfl (lv_at hl 2 rfl) ?_
        refine lv_iadd hx hb dX11_inspect_64 ?_
        refine lv_iload_n hx hb dX11_inspect_65 rfl (lv_at hl 3 rfl) ?_
        obtain ⟨hi_10, hrun⟩ := gdE hrun
        refine xs B hS ia_150 hi_10 dX11_inspect_66 (fun H locs hS => ?_)
        obtain ⟨t_11, et, hrun⟩ := bsE hrun
        have hS : SS X t_11 s.heap H locs := by rw [et]; exact hS
        clear et
        refine lv_iload_n hx hb dX11_inspect_67 rfl (lv_at hl 0 rfl) ?_
        exact hret _ _ _ _ _ _ hrun rfl hS dX11_inspect_68
      · have hrun := ip hc hrun
        refine lv_ldc (v := -1000000003) hx hb hown (hts _ (tw_5 137 rfl rfl)) dX11_inspect_40 ?_
        exact hret _ _ _ _ _ _ hrun rfl hS dX11_inspect_42
    · have hrun := ip hc hrun
      refine lv_ldc (v := -1000000001) hx hb hown (hts _ (tw_5 111 rfl rfl)) dX11_inspect_24 ?_
      exact hret _ _ _ _ _ _ hrun rfl hS dX11_inspect_26
theorem mdX11_draw : MD yX11_draw 1 := ⟨by decide +kernel, by decide +kernel, by decide +kernel⟩
set_option maxHeartbeats 4000000 in
set_option maxRecDepth 100000 in
theorem kX11_draw (l : Launch) (X : Cx) (t : St) (x1 : Int32) (r : Int32) (t' : St) (hrun : fX11_draw t x1 = some (r, t')) : Ci l X t yX11_draw cX11_draw 2 .int 0 0 [.ref (X.2.1 144), .int x1] r t' := by
  refine Ci_of (by decide) (Nat.le_of_ble_eq_true rfl) ?_
  intro p e s m args below meth c Q B hret hS ls hl
  have hx := B.1
  have hb := B.2.1
  have hown := B.2.2.2.1
  have hts := B.2.2.2.2.1
  have hl : lv_has ls 2 [(0, .ref (X.2.1 144)), (1, .int x1)] := hl
  unfold fX11_draw at hrun
  refine lv_aload_n hx hb dX11_draw_0 rfl (lv_at hl 0 rfl) ?_
  refine lv_aload_n hx hb dX11_draw_1 rfl (lv_at hl 0 rfl) ?_
  refine gX11_272 B hS dX11_draw_2 ?_
  refine lv_i2l hx hb dX11_draw_5 rfl ?_
  refine lv_ldc2 (v := 1103515245) hx hb hown (hts _ (tw_5 205 rfl rfl)) dX11_draw_6 ?_
  refine lv_lmul hx hb dX11_draw_9 ?_
  refine lv_ldc2 (v := 12345) hx hb hown (hts _ (tw_5 206 rfl rfl)) dX11_draw_10 ?_
  refine lv_ladd hx hb dX11_draw_13 ?_
  refine lv_ldc2 (v := 2147483648) hx hb hown (hts _ (tw_5 207 rfl rfl)) dX11_draw_14 ?_
  refine lv_lrem hx hb dX11_draw_17 (by decide) ?_
  refine lv_l2i hx hb dX11_draw_18 rfl ?_
  refine pX11_272 B hS dX11_draw_19 (fun H locs hS => ?_)
  obtain ⟨t_1, et, hrun⟩ := bsE hrun
  have hS : SS X t_1 s.heap H locs := by rw [et]; exact hS
  clear et
  refine lv_aload_n hx hb dX11_draw_22 rfl (lv_at hl 0 rfl) ?_
  refine gX11_272 B hS dX11_draw_23 ?_
  refine lv_ldcw (v := 65536) hx hb hown (hts _ (tw_5 208 rfl rfl)) dX11_draw_26 ?_
  refine lv_idiv hx hb dX11_draw_29 (by decide) ?_
  refine lv_iload_n hx hb dX11_draw_30 rfl (lv_at hl 1 rfl) ?_
  obtain ⟨hz_2, hrun⟩ := gzE hrun
  refine lv_irem hx hb dX11_draw_31 hz_2 ?_
  exact hret _ _ _ _ _ _ hrun rfl hS dX11_draw_32
theorem mdX11_chance : MD yX11_chance 0 := ⟨by decide +kernel, by decide +kernel, by decide +kernel⟩
section QX11_chance
variable {p : Program} {l : Launch} {e : Env} {R : Room} {s : State} {m : MethodId} {args : Array Value} {below : List Frame} {meth : Method} {c : Code} {H : Heap} {locs : List Loc} {cells slots : Nat} {Q : State → Prop}
variable {cc : ByteArray} {pc : Nat} {ls : Array Slot} {rest : List Value} {X : Cx} {t : St} {H0 : Heap} {nL : Nat}
theorem qX11_282 (B : Bx p s m args c cc nL X RX11) (hS : SS X t H0 H locs) {x1 : Int32} {r : Int32} {t' : St} (hM : fX11_draw t x1 = some (r, t')) (hsz : ls.size = nL) (hW : (rest.map fun v => v.category).sum ≤ 8) (hR : 0 + 1 ≤ R.frames ∧ 8 + (2 + 11) + 0 ≤ R.locals) (hR2 : cells ≤ R.cells ∧ slots ≤ R.slots) (hdg : decode cc pc = .ok (.invokevirtual 282, 3)) (kk : ∀ (H1 : Heap) (locs1 : List Loc), SS X t' H0 H1 locs1 → W p l e R s m args below meth c H1 locs1 cells slots Q (F0 m (pc + 3) ls (.int r :: rest))) : W p l e R s m args below meth c H locs cells slots Q (F0 m pc ls (.int x1 :: .ref (X.2.1 144) :: rest)) :=
  xVi B hS (kX11_draw l X t x1 r t' hM) (tw_5 201 rfl rfl) (tw_5 203 rfl rfl) (tw_0 58 rfl rfl) (tw_1 12 rfl rfl) (tw_5 204 rfl rfl) mdX11_draw (by decide) (ceX11 _) rfl rfl rfl hsz rfl hW hR hR2 hdg kk
end QX11_chance
set_option maxHeartbeats 4000000 in
set_option maxRecDepth 100000 in
theorem kX11_chance (l : Launch) (X : Cx) (t : St) (t' : St) (hrun : fX11_chance t = some t') : Cv l X t yX11_chance cX11_chance 4 4 85 [.ref (X.2.1 144)] t' := by
  refine Cv_of (by decide) (Nat.le_of_ble_eq_true rfl) ?_
  intro p e s m args below meth c Q B hret hS ls hl
  have hx := B.1
  have hb := B.2.1
  have hown := B.2.2.2.1
  have hts := B.2.2.2.2.1
  have hl : lv_has ls 4 [(0, .ref (X.2.1 144))] := hl
  have hB35 : ∀ (t : St) (x1 : Int32) (x2 : Int32) (H : Heap) (locs : List Loc) (ls : Array Slot), SS X t s.heap H locs → lv_has ls 4 [(0, .ref (X.2.1 144)), (1, .int x1), (2, .int x2)] → fX11_chance_35 t x1 x2 = some t' → W p l e ({ frames := 4, cells := 0, slots := 0, locals := 85 } : Room) s m args below meth c H locs 0 0 Q (F0 m 35 ls []) := by
    intro t x1 x2 H locs ls hS hl hrun
    unfold fX11_chance_35 at hrun
    refine lv_iload_n hx hb dX11_chance_35 rfl (lv_at hl 1 rfl) ?_
    refine lv_iconst (v := 1) hx hb dX11_chance_36 (by decide) ?_
    refine lv_icmp_ne (tgt := 48) hx hb dX11_chance_37 (by decide) (fun hc => ?_) (fun hc => ?_)
    · have hrun := iq hc hrun
      refine lv_iload_n hx hb dX11_chance_48 rfl (lv_at hl 1 rfl) ?_
      refine lv_iconst (v := 2) hx hb dX11_chance_49 (by decide) ?_
      refine lv_icmp_ne (tgt := 81) hx hb dX11_chance_50 (by decide) (fun hc => ?_) (fun hc => ?_)
      · have hrun := iq hc hrun
        refine lv_iload_n hx hb dX11_chance_81 rfl (lv_at hl 1 rfl) ?_
        refine lv_iconst (v := 3) hx hb dX11_chance_82 (by decide) ?_
        refine lv_icmp_ne (tgt := 100) hx hb dX11_chance_83 (by decide) (fun hc => ?_) (fun hc => ?_)
        · have hrun := iq hc hrun
          refine lv_iload_n hx hb dX11_chance_100 rfl (lv_at hl 1 rfl) ?_
          refine lv_iconst (v := 4) hx hb dX11_chance_101 (by decide) ?_
          refine lv_icmp_ne (tgt := 138) hx hb dX11_chance_102 (by decide) (fun hc => ?_) (fun hc => ?_)
          · have hrun := iq hc hrun
            exact hret _ _ _ _ _ hrun hS dX11_chance_138
          · have hrun := ip hc hrun
            refine lv_aload_n hx hb dX11_chance_105 rfl (lv_at hl 0 rfl) ?_
            refine gX11_153 B hS dX11_chance_106 ?_
            refine lv_if_le (tgt := 138) hx hb dX11_chance_109 (by decide) (fun hc => ?_) (fun hc => ?_)
            · have hrun := ip hc hrun
              exact hret _ _ _ _ _ hrun hS dX11_chance_138
            · have hrun := iq hc hrun
              refine lv_aload_n hx hb dX11_chance_112 rfl (lv_at hl 0 rfl) ?_
              refine lv_aload_n hx hb dX11_chance_113 rfl (lv_at hl 0 rfl) ?_
              refine gX11_153 B hS dX11_chance_114 ?_
              obtain ⟨r_1037, t_1038, hc_1036, hrun⟩ := bd2E hrun
              refine qX11_282 B hS hc_1036 hl.1 (Nat.le_of_ble_eq_true rfl) ⟨Nat.le_of_ble_eq_true rfl, Nat.le_of_ble_eq_true rfl⟩ ⟨Nat.zero_le _, Nat.zero_le _⟩ dX11_chance_117 (fun H locs hS => ?_)
              refine lv_istore_n (lv' := [(3, .int r_1037), (0, .ref (X.2.1 144)), (1, .int x1), (2, .int x2)]) hx hb dX11_chance_120 rfl hl (by decide) rfl (fun ls hl => ?_)
              refine lv_aload_n hx hb dX11_chance_121 rfl (lv_at hl 1 rfl) ?_
              refine gX11_25 B hS dX11_chance_122 ?_
              refine lv_bipush (v := 21) hx hb dX11_chance_125 (by decide) ?_
              refine lv_iload_n hx hb dX11_chance_127 rfl (lv_at hl 0 rfl) ?_
              refine lv_iadd hx hb dX11_chance_128 ?_
              refine lv_aload_n hx hb dX11_chance_129 rfl (lv_at hl 1 rfl) ?_
              refine lv_aload_n hx hb dX11_chance_130 rfl (lv_at hl 1 rfl) ?_
              refine gX11_88 B hS dX11_chance_131 ?_
              obtain ⟨r_1040, t_1041, hc_1039, hrun⟩ := bd2E hrun
              refine qX11_282 B hS hc_1039 hl.1 (Nat.le_of_ble_eq_true rfl) ⟨Nat.le_of_ble_eq_true rfl, Nat.le_of_ble_eq_true rfl⟩ ⟨Nat.zero_le _, Nat.zero_le _⟩ dX11_chance_134 (fun H locs hS => ?_)
              obtain ⟨hi_1042, hrun⟩ := gdE hrun
              refine xs B hS ia_150 hi_1042 dX11_chance_137 (fun H locs hS => ?_)
              obtain ⟨t_1043, et, hrun⟩ := bsE hrun
              have hS : SS X t_1043 s.heap H locs := by rw [et]; exact hS
              clear et
              exact hret _ _ _ _ _ hrun hS dX11_chance_138
        · have hrun := ip hc hrun
          refine lv_aload_n hx hb dX11_chance_86 rfl (lv_at hl 0 rfl) ?_
          refine lv_iload_n hx hb dX11_chance_87 rfl (lv_at hl 2 rfl) ?_
          refine lv_aload_n hx hb dX11_chance_88 rfl (lv_at hl 0 rfl) ?_
          refine lv_bipush (v := 50) hx hb dX11_chance_89 (by decide) ?_
          obtain ⟨r_1045, t_1046, hc_1044, hrun⟩ := bd2E hrun
          refine qX11_282 B hS hc_1044 hl.1 (Nat.le_of_ble_eq_true rfl) ⟨Nat.le_of_ble_eq_true rfl, Nat.le_of_ble_eq_true rfl⟩ ⟨Nat.zero_le _, Nat.zero_le _⟩ dX11_chance_91 (fun H locs hS => ?_)
          obtain ⟨t_1048, hc_1047, hrun⟩ := bdE hrun
          refine qX11_267 B hS hc_1047 hl.1 (Nat.le_of_ble_eq_true rfl) ⟨Nat.le_of_ble_eq_true rfl, Nat.le_of_ble_eq_true rfl⟩ ⟨Nat.zero_le _, Nat.zero_le _⟩ dX11_chance_94 (fun H locs hS => ?_)
          refine lv_goto (tgt := 138) hx hb dX11_chance_97 (by decide) ?_
          exact hret _ _ _ _ _ hrun hS dX11_chance_138
      · have hrun := ip hc hrun
        refine lv_aload_n hx hb dX11_chance_53 rfl (lv_at hl 0 rfl) ?_
        refine lv_aload_n hx hb dX11_chance_54 rfl (lv_at hl 0 rfl) ?_
        refine gX11_88 B hS dX11_chance_55 ?_
        obtain ⟨r_1050, t_1051, hc_1049, hrun⟩ := bd2E hrun
        refine qX11_282 B hS hc_1049 hl.1 (Nat.le_of_ble_eq_true rfl) ⟨Nat.le_of_ble_eq_true rfl, Nat.le_of_ble_eq_true rfl⟩ ⟨Nat.zero_le _, Nat.zero_le _⟩ dX11_chance_58 (fun H locs hS => ?_)
        refine lv_istore_n (lv' := [(3, .int r_1050), (0, .ref (X.2.1 144)), (1, .int x1), (2, .int x2)]) hx hb dX11_chance_61 rfl hl (by decide) rfl (fun ls hl => ?_)
        refine lv_iload_n hx hb dX11_chance_62 rfl (lv_at hl 0 rfl) ?_
        refine lv_aload_n hx hb dX11_chance_63 rfl (lv_at hl 1 rfl) ?_
        refine gX11_25 B hS dX11_chance_64 ?_
        refine lv_iload_n hx hb dX11_chance_67 rfl (lv_at hl 3 rfl) ?_
        obtain ⟨hi_1052, hrun⟩ := gdE hrun
        refine xa B hS ia_150 hi_1052 dX11_chance_68 ?_
        refine lv_icmp_eq (tgt := 78) hx hb dX11_chance_69 (by decide) (fun hc => ?_) (fun hc => ?_)
        · have hrun := ip hc hrun
          refine lv_goto (tgt := 138) hx hb dX11_chance_78 (by decide) ?_
          exact hret _ _ _ _ _ hrun hS dX11_chance_138
        · have hrun := iq hc hrun
          refine lv_aload_n hx hb dX11_chance_72 rfl (lv_at hl 1 rfl) ?_
          refine lv_iload_n hx hb dX11_chance_73 rfl (lv_at hl 3 rfl) ?_
          refine lv_iload_n hx hb dX11_chance_74 rfl (lv_at hl 0 rfl) ?_
          obtain ⟨t_1054, hc_1053, hrun⟩ := bdE hrun
          refine qX11_261 B hS hc_1053 hl.1 (Nat.le_of_ble_eq_true rfl) ⟨Nat.le_of_ble_eq_true rfl, Nat.le_of_ble_eq_true rfl⟩ ⟨Nat.zero_le _, Nat.zero_le _⟩ dX11_chance_75 (fun H locs hS => ?_)
          refine lv_goto (tgt := 138) hx hb dX11_chance_78 (by decide) ?_
          exact hret _ _ _ _ _ hrun hS dX11_chance_138
    · have hrun := ip hc hrun
      refine lv_aload_n hx hb dX11_chance_40 rfl (lv_at hl 0 rfl) ?_
      refine lv_iload_n hx hb dX11_chance_41 rfl (lv_at hl 2 rfl) ?_
      obtain ⟨t_1056, hc_1055, hrun⟩ := bdE hrun
      refine qX11_239 B hS hc_1055 hl.1 (Nat.le_of_ble_eq_true rfl) ⟨Nat.le_of_ble_eq_true rfl, Nat.le_of_ble_eq_true rfl⟩ ⟨Nat.zero_le _, Nat.zero_le _⟩ dX11_chance_42 (fun H locs hS => ?_)
      refine lv_goto (tgt := 138) hx hb dX11_chance_45 (by decide) ?_
      exact hret _ _ _ _ _ hrun hS dX11_chance_138
  unfold fX11_chance at hrun
  refine lv_aload_n hx hb dX11_chance_0 rfl (lv_at hl 0 rfl) ?_
  refine lv_iconst (v := 5) hx hb dX11_chance_1 (by decide) ?_
  obtain ⟨r_2, t_3, hc_1, hrun⟩ := bd2E hrun
  refine qX11_282 B hS hc_1 hl.1 (Nat.le_of_ble_eq_true rfl) ⟨Nat.le_of_ble_eq_true rfl, Nat.le_of_ble_eq_true rfl⟩ ⟨Nat.zero_le _, Nat.zero_le _⟩ dX11_chance_2 (fun H locs hS => ?_)
  refine lv_istore_n (lv' := [(1, .int r_2), (0, .ref (X.2.1 144))]) hx hb dX11_chance_5 rfl hl (by decide) rfl (fun ls hl => ?_)
  refine lv_aload_n hx hb dX11_chance_6 rfl (lv_at hl 1 rfl) ?_
  refine lv_aload_n hx hb dX11_chance_7 rfl (lv_at hl 1 rfl) ?_
  refine gX11_81 B hS dX11_chance_8 ?_
  obtain ⟨r_5, t_6, hc_4, hrun⟩ := bd2E hrun
  refine qX11_282 B hS hc_4 hl.1 (Nat.le_of_ble_eq_true rfl) ⟨Nat.le_of_ble_eq_true rfl, Nat.le_of_ble_eq_true rfl⟩ ⟨Nat.zero_le _, Nat.zero_le _⟩ dX11_chance_11 (fun H locs hS => ?_)
  refine lv_istore_n (lv' := [(2, .int r_5), (1, .int r_2), (0, .ref (X.2.1 144))]) hx hb dX11_chance_14 rfl hl (by decide) rfl (fun ls hl => ?_)
  refine lv_iload_n hx hb dX11_chance_15 rfl (lv_at hl 1 rfl) ?_
  refine lv_if_ne (tgt := 35) hx hb dX11_chance_16 (by decide) (fun hc => ?_) (fun hc => ?_)
  · have hrun := iq hc hrun
    exact hB35 t_6 r_2 r_5 _ _ _ hS (lv_sub hl [2, 1, 0] rfl) hrun
  · have hrun := ip hc hrun
    refine lv_aload_n hx hb dX11_chance_19 rfl (lv_at hl 2 rfl) ?_
    refine lv_iload_n hx hb dX11_chance_20 rfl (lv_at hl 0 rfl) ?_
    obtain ⟨r_8, hc_7, hrun⟩ := bdE hrun
    refine qX11_183 B hS hc_7 hl.1 (Nat.le_of_ble_eq_true rfl) ⟨Nat.le_of_ble_eq_true rfl, Nat.le_of_ble_eq_true rfl⟩ ⟨Nat.zero_le _, Nat.zero_le _⟩ dX11_chance_21 (fun H locs hS => ?_)
    refine lv_if_ne (tgt := 35) hx hb dX11_chance_24 (by decide) (fun hc => ?_) (fun hc => ?_)
    · have hrun := iq hc hrun
      exact hB35 t_6 r_2 r_5 _ _ _ hS (lv_sub hl [2, 1, 0] rfl) hrun
    · have hrun := ip hc hrun
      refine lv_aload_n hx hb dX11_chance_27 rfl (lv_at hl 2 rfl) ?_
      refine lv_iload_n hx hb dX11_chance_28 rfl (lv_at hl 0 rfl) ?_
      obtain ⟨t_10, hc_9, hrun⟩ := bdE hrun
      refine qX11_258 B hS hc_9 hl.1 (Nat.le_of_ble_eq_true rfl) ⟨Nat.le_of_ble_eq_true rfl, Nat.le_of_ble_eq_true rfl⟩ ⟨Nat.zero_le _, Nat.zero_le _⟩ dX11_chance_29 (fun H locs hS => ?_)
      refine lv_goto (tgt := 138) hx hb dX11_chance_32 (by decide) ?_
      exact hret _ _ _ _ _ hrun hS dX11_chance_138
theorem mdX11_drift : MD yX11_drift 1 := ⟨by decide +kernel, by decide +kernel, by decide +kernel⟩
section QX11_drift
variable {p : Program} {l : Launch} {e : Env} {R : Room} {s : State} {m : MethodId} {args : Array Value} {below : List Frame} {meth : Method} {c : Code} {H : Heap} {locs : List Loc} {cells slots : Nat} {Q : State → Prop}
variable {cc : ByteArray} {pc : Nat} {ls : Array Slot} {rest : List Value} {X : Cx} {t : St} {H0 : Heap} {nL : Nat}
theorem qX11_285 (B : Bx p s m args c cc nL X RX11) (hS : SS X t H0 H locs) {t' : St} (hM : fX11_chance t = some t') (hsz : ls.size = nL) (hW : (rest.map fun v => v.category).sum ≤ 8) (hR : 4 + 1 ≤ R.frames ∧ 8 + (4 + 11) + 85 ≤ R.locals) (hR2 : cells ≤ R.cells ∧ slots ≤ R.slots) (hdg : decode cc pc = .ok (.invokevirtual 285, 3)) (kk : ∀ (H1 : Heap) (locs1 : List Loc), SS X t' H0 H1 locs1 → W p l e R s m args below meth c H1 locs1 cells slots Q (F0 m (pc + 3) ls (rest))) : W p l e R s m args below meth c H locs cells slots Q (F0 m pc ls (.ref (X.2.1 144) :: rest)) :=
  xVv B hS (kX11_chance l X t t' hM) (tw_5 197 rfl rfl) (tw_5 199 rfl rfl) (tw_0 57 rfl rfl) (tw_1 12 rfl rfl) (tw_5 200 rfl rfl) mdX11_chance (by decide) (ceX11 _) rfl rfl rfl hsz rfl hW hR hR2 hdg kk
end QX11_drift
set_option maxHeartbeats 4000000 in
set_option maxRecDepth 100000 in
theorem kX11_drift (l : Launch) (X : Cx) (t : St) (x1 : Int32) (r : Int32) (t' : St) (hrun : fX11_drift t x1 = some (r, t')) : Ci l X t yX11_drift cX11_drift 4 .int 5 108 [.ref (X.2.1 144), .int x1] r t' := by
  refine Ci_of (by decide) (Nat.le_of_ble_eq_true rfl) ?_
  intro p e s m args below meth c Q B hret hS ls hl
  have hx := B.1
  have hb := B.2.1
  have hown := B.2.2.2.1
  have hts := B.2.2.2.2.1
  have hl : lv_has ls 4 [(0, .ref (X.2.1 144)), (1, .int x1)] := hl
  have hB44 : ∀ (t : St) (H : Heap) (locs : List Loc) (ls : Array Slot), SS X t s.heap H locs → lv_has ls 4 [(0, .ref (X.2.1 144))] → fX11_drift_44 t = some (r, t') → W p l e ({ frames := 5, cells := 0, slots := 0, locals := 108 } : Room) s m args below meth c H locs 0 0 Q (F0 m 44 ls []) := by
    intro t H locs ls hS hl hrun
    unfold fX11_drift_44 at hrun
    refine lv_aload_n hx hb dX11_drift_44 rfl (lv_at hl 0 rfl) ?_
    refine gX11_25 B hS dX11_drift_45 ?_
    refine lv_bipush (v := 26) hx hb dX11_drift_48 (by decide) ?_
    refine xa B hS ia_150 (by unfold vp_in; decide) dX11_drift_50 ?_
    exact hret _ _ _ _ _ _ hrun rfl hS dX11_drift_51
  have hB18 : ∀ (n18 : Nat) (t : St) (x1 : Int32) (x3 : Int32) (H : Heap) (locs : List Loc) (ls : Array Slot), SS X t s.heap H locs → lv_has ls 4 [(0, .ref (X.2.1 144)), (1, .int x1), (3, .int x3)] → fX11_drift_18 n18 t x1 x3 = some (r, t') → W p l e ({ frames := 5, cells := 0, slots := 0, locals := 108 } : Room) s m args below meth c H locs 0 0 Q (F0 m 18 ls []) := by
    intro n18
    induction n18 with
    | zero =>
      intro t x1 x3 H locs ls hS hl hrun
      cases (show (none : Option (Int32 × St)) = some (r, t') from hrun)
    | succ n18 ih18 =>
      have hB34 : ∀ (t : St) (x1 : Int32) (x3 : Int32) (H : Heap) (locs : List Loc) (ls : Array Slot), SS X t s.heap H locs → lv_has ls 4 [(0, .ref (X.2.1 144)), (1, .int x1), (3, .int x3)] → fX11_drift_34 (fX11_drift_18 n18) t x1 x3 = some (r, t') → W p l e ({ frames := 5, cells := 0, slots := 0, locals := 108 } : Room) s m args below meth c H locs 0 0 Q (F0 m 34 ls []) := by
        intro t x1 x3 H locs ls hS hl hrun
        unfold fX11_drift_34 at hrun
        refine lv_aload_n hx hb dX11_drift_34 rfl (lv_at hl 0 rfl) ?_
        obtain ⟨t_1036, hc_1035, hrun⟩ := bdE hrun
        refine qX11_252 B hS hc_1035 hl.1 (Nat.le_of_ble_eq_true rfl) ⟨Nat.le_of_ble_eq_true rfl, Nat.le_of_ble_eq_true rfl⟩ ⟨Nat.zero_le _, Nat.zero_le _⟩ dX11_drift_35 (fun H locs hS => ?_)
        refine lv_iinc (v := x3 + (1 : Int32)) (k := 2) (lv' := [(3, .int (x3 + (1 : Int32))), (0, .ref (X.2.1 144)), (1, .int x1)]) hx hb dX11_drift_38 hl rfl rfl (by decide) rfl (fun ls hl => ?_)
        refine lv_goto (tgt := 18) hx hb dX11_drift_41 (by decide) ?_
        exact ih18 t_1036 x1 (x3 + (1 : Int32)) _ _ _ hS (lv_sub hl [1, 2, 0] rfl) hrun
      intro t x1 x3 H locs ls hS hl hrun
      rw [fX11_drift_18_s] at hrun
      refine lv_iload_n hx hb dX11_drift_18 rfl (lv_at hl 2 rfl) ?_
      refine lv_iload_n hx hb dX11_drift_19 rfl (lv_at hl 1 rfl) ?_
      refine lv_icmp_ge (tgt := 44) hx hb dX11_drift_20 (by decide) (fun hc => ?_) (fun hc => ?_)
      · have hrun := ip hc hrun
        exact hB44 t _ _ _ hS (lv_sub hl [0] rfl) hrun
      · have hrun := iq hc hrun
        refine lv_aload_n hx hb dX11_drift_23 rfl (lv_at hl 0 rfl) ?_
        refine gX11_81 B hS dX11_drift_24 ?_
        refine lv_if_le (tgt := 34) hx hb dX11_drift_27 (by decide) (fun hc => ?_) (fun hc => ?_)
        · have hrun := ip hc hrun
          exact hB34 t x1 x3 _ _ _ hS (lv_sub hl [0, 1, 2] rfl) hrun
        · have hrun := iq hc hrun
          refine lv_aload_n hx hb dX11_drift_30 rfl (lv_at hl 0 rfl) ?_
          obtain ⟨t_1020, hc_1019, hrun⟩ := bdE hrun
          refine qX11_285 B hS hc_1019 hl.1 (Nat.le_of_ble_eq_true rfl) ⟨Nat.le_of_ble_eq_true rfl, Nat.le_of_ble_eq_true rfl⟩ ⟨Nat.zero_le _, Nat.zero_le _⟩ dX11_drift_31 (fun H locs hS => ?_)
          exact hB34 t_1020 x1 x3 _ _ _ hS (lv_sub hl [0, 1, 2] rfl) hrun
  unfold fX11_drift at hrun
  refine lv_aload_n hx hb dX11_drift_0 rfl (lv_at hl 0 rfl) ?_
  refine lv_iload_n hx hb dX11_drift_1 rfl (lv_at hl 1 rfl) ?_
  obtain ⟨r_2, hc_1, hrun⟩ := bdE hrun
  refine qX11_246 B hS hc_1 hl.1 (Nat.le_of_ble_eq_true rfl) ⟨Nat.le_of_ble_eq_true rfl, Nat.le_of_ble_eq_true rfl⟩ ⟨Nat.zero_le _, Nat.zero_le _⟩ dX11_drift_2 (fun H locs hS => ?_)
  refine lv_istore_n (lv' := [(2, .int r_2), (0, .ref (X.2.1 144)), (1, .int x1)]) hx hb dX11_drift_5 rfl hl (by decide) rfl (fun ls hl => ?_)
  refine lv_iload_n hx hb dX11_drift_6 rfl (lv_at hl 0 rfl) ?_
  refine lv_if_eq (tgt := 12) hx hb dX11_drift_7 (by decide) (fun hc => ?_) (fun hc => ?_)
  · have hrun := ip hc hrun
    refine lv_aload_n hx hb dX11_drift_12 rfl (lv_at hl 1 rfl) ?_
    obtain ⟨t_4, hc_3, hrun⟩ := bdE hrun
    refine qX11_249 B hS hc_3 hl.1 (Nat.le_of_ble_eq_true rfl) ⟨Nat.le_of_ble_eq_true rfl, Nat.le_of_ble_eq_true rfl⟩ ⟨Nat.zero_le _, Nat.zero_le _⟩ dX11_drift_13 (fun H locs hS => ?_)
    refine lv_iconst (v := 0) hx hb dX11_drift_16 (by decide) ?_
    refine lv_istore_n (lv' := [(3, .int (0 : Int32)), (2, .int r_2), (0, .ref (X.2.1 144)), (1, .int x1)]) hx hb dX11_drift_17 rfl hl (by decide) rfl (fun ls hl => ?_)
    exact hB18 fuelN t_4 x1 (0 : Int32) _ _ _ hS (lv_sub hl [2, 3, 0] rfl) hrun
  · have hrun := iq hc hrun
    refine lv_iload_n hx hb dX11_drift_10 rfl (lv_at hl 0 rfl) ?_
    exact hret _ _ _ _ _ _ hrun rfl hS dX11_drift_11
theorem mdX11_undo : MD yX11_undo 0 := ⟨by decide +kernel, by decide +kernel, by decide +kernel⟩
set_option maxHeartbeats 4000000 in
set_option maxRecDepth 100000 in
theorem kX11_undo (l : Launch) (X : Cx) (t : St) (r : Int32) (t' : St) (hrun : fX11_undo t = some (r, t')) : Ci l X t yX11_undo cX11_undo 2 .int 0 0 [.ref (X.2.1 144)] r t' := by
  refine Ci_of (by decide) (Nat.le_of_ble_eq_true rfl) ?_
  intro p e s m args below meth c Q B hret hS ls hl
  have hx := B.1
  have hb := B.2.1
  have hown := B.2.2.2.1
  have hts := B.2.2.2.2.1
  have hl : lv_has ls 2 [(0, .ref (X.2.1 144))] := hl
  have hB22 : ∀ (n22 : Nat) (t : St) (x1 : Int32) (H : Heap) (locs : List Loc) (ls : Array Slot), SS X t s.heap H locs → lv_has ls 2 [(0, .ref (X.2.1 144)), (1, .int x1)] → fX11_undo_22 n22 t x1 = some (r, t') → W p l e ({ frames := 0, cells := 0, slots := 0, locals := 0 } : Room) s m args below meth c H locs 0 0 Q (F0 m 22 ls []) := by
    intro n22
    induction n22 with
    | zero =>
      intro t x1 H locs ls hS hl hrun
      cases (show (none : Option (Int32 × St)) = some (r, t') from hrun)
    | succ n22 ih22 =>
      intro t x1 H locs ls hS hl hrun
      rw [fX11_undo_22_s] at hrun
      refine lv_iload_n hx hb dX11_undo_22 rfl (lv_at hl 1 rfl) ?_
      refine lv_bipush (v := 29) hx hb dX11_undo_23 (by decide) ?_
      refine lv_icmp_ge (tgt := 54) hx hb dX11_undo_25 (by decide) (fun hc => ?_) (fun hc => ?_)
      · have hrun := ip hc hrun
        refine lv_aload_n hx hb dX11_undo_54 rfl (lv_at hl 0 rfl) ?_
        refine gX11_176 B hS dX11_undo_55 ?_
        exact hret _ _ _ _ _ _ hrun rfl hS dX11_undo_58
      · have hrun := iq hc hrun
        refine lv_aload_n hx hb dX11_undo_28 rfl (lv_at hl 0 rfl) ?_
        refine gX11_25 B hS dX11_undo_29 ?_
        refine lv_iload_n hx hb dX11_undo_32 rfl (lv_at hl 1 rfl) ?_
        refine lv_aload_n hx hb dX11_undo_33 rfl (lv_at hl 0 rfl) ?_
        refine gX11_50 B hS dX11_undo_34 ?_
        refine lv_bipush (v := 29) hx hb dX11_undo_37 (by decide) ?_
        refine lv_aload_n hx hb dX11_undo_39 rfl (lv_at hl 0 rfl) ?_
        refine gX11_176 B hS dX11_undo_40 ?_
        refine lv_imul hx hb dX11_undo_43 ?_
        refine lv_iload_n hx hb dX11_undo_44 rfl (lv_at hl 1 rfl) ?_
        refine lv_iadd hx hb dX11_undo_45 ?_
        obtain ⟨hi_1023, hrun⟩ := gdE hrun
        refine xa B hS ia_157 hi_1023 dX11_undo_46 ?_
        obtain ⟨hi_1024, hrun⟩ := gdE hrun
        refine xs B hS ia_150 hi_1024 dX11_undo_47 (fun H locs hS => ?_)
        obtain ⟨t_1025, et, hrun⟩ := bsE hrun
        have hS : SS X t_1025 s.heap H locs := by rw [et]; exact hS
        clear et
        refine lv_iinc (v := x1 + (1 : Int32)) (k := 1) (lv' := [(1, .int (x1 + (1 : Int32))), (0, .ref (X.2.1 144))]) hx hb dX11_undo_48 hl rfl rfl (by decide) rfl (fun ls hl => ?_)
        refine lv_goto (tgt := 22) hx hb dX11_undo_51 (by decide) ?_
        exact ih22 t_1025 (x1 + (1 : Int32)) _ _ _ hS (lv_sub hl [1, 0] rfl) hrun
  unfold fX11_undo at hrun
  refine lv_aload_n hx hb dX11_undo_0 rfl (lv_at hl 0 rfl) ?_
  refine gX11_176 B hS dX11_undo_1 ?_
  refine lv_if_ne (tgt := 10) hx hb dX11_undo_4 (by decide) (fun hc => ?_) (fun hc => ?_)
  · have hrun := iq hc hrun
    refine lv_aload_n hx hb dX11_undo_10 rfl (lv_at hl 0 rfl) ?_
    refine lv_dup hx hb dX11_undo_11 rfl ?_
    refine gX11_176 B hS dX11_undo_12 ?_
    refine lv_iconst (v := 1) hx hb dX11_undo_15 (by decide) ?_
    refine lv_isub hx hb dX11_undo_16 ?_
    refine pX11_176 B hS dX11_undo_17 (fun H locs hS => ?_)
    obtain ⟨t_1, et, hrun⟩ := bsE hrun
    have hS : SS X t_1 s.heap H locs := by rw [et]; exact hS
    clear et
    refine lv_iconst (v := 0) hx hb dX11_undo_20 (by decide) ?_
    refine lv_istore_n (lv' := [(1, .int (0 : Int32)), (0, .ref (X.2.1 144))]) hx hb dX11_undo_21 rfl hl (by decide) rfl (fun ls hl => ?_)
    exact hB22 fuelN t_1 (0 : Int32) _ _ _ hS (lv_sub hl [1, 0] rfl) hrun
  · have hrun := ip hc hrun
    refine lv_ldc (v := -1000000003) hx hb hown (hts _ (tw_5 137 rfl rfl)) dX11_undo_7 ?_
    exact hret _ _ _ _ _ _ hrun rfl hS dX11_undo_9
theorem mdX11_treasury : MD yX11_treasury 1 := ⟨by decide +kernel, by decide +kernel, by decide +kernel⟩
set_option maxHeartbeats 4000000 in
set_option maxRecDepth 100000 in
theorem kX11_treasury (l : Launch) (X : Cx) (t : St) (x1 : Int32) (r : Int32) (t' : St) (hrun : fX11_treasury t x1 = some (r, t')) : Ci l X t yX11_treasury cX11_treasury 3 .int 4 95 [.ref (X.2.1 144), .int x1] r t' := by
  refine Ci_of (by decide) (Nat.le_of_ble_eq_true rfl) ?_
  intro p e s m args below meth c Q B hret hS ls hl
  have hx := B.1
  have hb := B.2.1
  have hown := B.2.2.2.1
  have hts := B.2.2.2.2.1
  have hl : lv_has ls 3 [(0, .ref (X.2.1 144)), (1, .int x1)] := hl
  have hB55 : ∀ (t : St) (H : Heap) (locs : List Loc) (ls : Array Slot), SS X t s.heap H locs → lv_has ls 3 [(0, .ref (X.2.1 144))] → fX11_treasury_55 t = some (r, t') → W p l e ({ frames := 4, cells := 0, slots := 0, locals := 95 } : Room) s m args below meth c H locs 0 0 Q (F0 m 55 ls []) := by
    intro t H locs ls hS hl hrun
    unfold fX11_treasury_55 at hrun
    refine lv_aload_n hx hb dX11_treasury_55 rfl (lv_at hl 0 rfl) ?_
    refine gX11_25 B hS dX11_treasury_56 ?_
    refine lv_bipush (v := 26) hx hb dX11_treasury_59 (by decide) ?_
    refine xa B hS ia_150 (by unfold vp_in; decide) dX11_treasury_61 ?_
    refine lv_topi (fun x2_1056 ex => ?_)
    obtain ⟨z, ez, hrun⟩ := bsE hrun
    obtain rfl : x2_1056 = z := ex.trans ez.symm
    clear ex ez
    refine lv_istore_n (lv' := [(2, .int x2_1056), (0, .ref (X.2.1 144))]) hx hb dX11_treasury_62 rfl hl (by decide) rfl (fun ls hl => ?_)
    refine lv_aload_n hx hb dX11_treasury_63 rfl (lv_at hl 1 rfl) ?_
    refine gX11_53 B hS dX11_treasury_64 ?_
    refine lv_aload_n hx hb dX11_treasury_67 rfl (lv_at hl 1 rfl) ?_
    refine gX11_25 B hS dX11_treasury_68 ?_
    refine lv_bipush (v := 29) hx hb dX11_treasury_71 (by decide) ?_
    obtain ⟨t_1058, hc_1057, hrun⟩ := bdE hrun
    refine qX11_156 B hS ia_158 ia_150 hc_1057 hl.1 (Nat.le_of_ble_eq_true rfl) ⟨Nat.le_of_ble_eq_true rfl, Nat.le_of_ble_eq_true rfl⟩ ⟨Nat.zero_le _, Nat.zero_le _⟩ dX11_treasury_73 (fun H locs hS => ?_)
    refine lv_iload_n hx hb dX11_treasury_76 rfl (lv_at hl 0 rfl) ?_
    exact hret _ _ _ _ _ _ hrun rfl hS dX11_treasury_77
  have hB40 : ∀ (n40 : Nat) (t : St) (x1 : Int32) (x2 : Int32) (H : Heap) (locs : List Loc) (ls : Array Slot), SS X t s.heap H locs → lv_has ls 3 [(0, .ref (X.2.1 144)), (1, .int x1), (2, .int x2)] → fX11_treasury_40 n40 t x1 x2 = some (r, t') → W p l e ({ frames := 4, cells := 0, slots := 0, locals := 95 } : Room) s m args below meth c H locs 0 0 Q (F0 m 40 ls []) := by
    intro n40
    induction n40 with
    | zero =>
      intro t x1 x2 H locs ls hS hl hrun
      cases (show (none : Option (Int32 × St)) = some (r, t') from hrun)
    | succ n40 ih40 =>
      intro t x1 x2 H locs ls hS hl hrun
      rw [fX11_treasury_40_s] at hrun
      refine lv_iload_n hx hb dX11_treasury_40 rfl (lv_at hl 2 rfl) ?_
      refine lv_iload_n hx hb dX11_treasury_41 rfl (lv_at hl 1 rfl) ?_
      refine lv_icmp_ge (tgt := 55) hx hb dX11_treasury_42 (by decide) (fun hc => ?_) (fun hc => ?_)
      · have hrun := ip hc hrun
        exact hB55 t _ _ _ hS (lv_sub hl [0] rfl) hrun
      · have hrun := iq hc hrun
        refine lv_aload_n hx hb dX11_treasury_45 rfl (lv_at hl 0 rfl) ?_
        obtain ⟨t_1042, hc_1041, hrun⟩ := bdE hrun
        refine qX11_252 B hS hc_1041 hl.1 (Nat.le_of_ble_eq_true rfl) ⟨Nat.le_of_ble_eq_true rfl, Nat.le_of_ble_eq_true rfl⟩ ⟨Nat.zero_le _, Nat.zero_le _⟩ dX11_treasury_46 (fun H locs hS => ?_)
        refine lv_iinc (v := x2 + (1 : Int32)) (k := 2) (lv' := [(2, .int (x2 + (1 : Int32))), (0, .ref (X.2.1 144)), (1, .int x1)]) hx hb dX11_treasury_49 hl rfl rfl (by decide) rfl (fun ls hl => ?_)
        refine lv_goto (tgt := 40) hx hb dX11_treasury_52 (by decide) ?_
        exact ih40 t_1042 x1 (x2 + (1 : Int32)) _ _ _ hS (lv_sub hl [1, 2, 0] rfl) hrun
  unfold fX11_treasury at hrun
  refine lv_iload_n hx hb dX11_treasury_0 rfl (lv_at hl 1 rfl) ?_
  refine lv_i2l hx hb dX11_treasury_1 rfl ?_
  refine lv_lconst (v := 0) hx hb dX11_treasury_2 (by decide) ?_
  refine lv_ldc2 (v := 200) hx hb hown (hts _ (tw_5 217 rfl rfl)) dX11_treasury_3 ?_
  obtain ⟨r_2, hc_1, hrun⟩ := bdE hrun
  refine qX11_84 B hS hc_1 hl.1 (Nat.le_of_ble_eq_true rfl) ⟨Nat.le_of_ble_eq_true rfl, Nat.le_of_ble_eq_true rfl⟩ ⟨Nat.zero_le _, Nat.zero_le _⟩ dX11_treasury_6 (fun H locs hS => ?_)
  refine lv_if_ne (tgt := 15) hx hb dX11_treasury_9 (by decide) (fun hc => ?_) (fun hc => ?_)
  · have hrun := iq hc hrun
    refine lv_aload_n hx hb dX11_treasury_15 rfl (lv_at hl 0 rfl) ?_
    refine gX11_88 B hS dX11_treasury_16 ?_
    refine lv_if_ne (tgt := 25) hx hb dX11_treasury_19 (by decide) (fun hc => ?_) (fun hc => ?_)
    · have hrun := iq hc hrun
      refine lv_aload_n hx hb dX11_treasury_25 rfl (lv_at hl 0 rfl) ?_
      refine gX11_25 B hS dX11_treasury_26 ?_
      refine lv_aload_n hx hb dX11_treasury_29 rfl (lv_at hl 0 rfl) ?_
      refine gX11_53 B hS dX11_treasury_30 ?_
      refine lv_bipush (v := 29) hx hb dX11_treasury_33 (by decide) ?_
      obtain ⟨t_4, hc_3, hrun⟩ := bdE hrun
      refine qX11_156 B hS ia_150 ia_158 hc_3 hl.1 (Nat.le_of_ble_eq_true rfl) ⟨Nat.le_of_ble_eq_true rfl, Nat.le_of_ble_eq_true rfl⟩ ⟨Nat.zero_le _, Nat.zero_le _⟩ dX11_treasury_35 (fun H locs hS => ?_)
      refine lv_iconst (v := 0) hx hb dX11_treasury_38 (by decide) ?_
      refine lv_istore_n (lv' := [(2, .int (0 : Int32)), (0, .ref (X.2.1 144)), (1, .int x1)]) hx hb dX11_treasury_39 rfl hl (by decide) rfl (fun ls hl => ?_)
      exact hB40 fuelN t_4 x1 (0 : Int32) _ _ _ hS (lv_sub hl [1, 2, 0] rfl) hrun
    · have hrun := ip hc hrun
      refine lv_ldc (v := -1000000003) hx hb hown (hts _ (tw_5 137 rfl rfl)) dX11_treasury_22 ?_
      exact hret _ _ _ _ _ _ hrun rfl hS dX11_treasury_24
  · have hrun := ip hc hrun
    refine lv_ldc (v := -1000000002) hx hb hown (hts _ (tw_4 220 rfl rfl)) dX11_treasury_12 ?_
    exact hret _ _ _ _ _ _ hrun rfl hS dX11_treasury_14
theorem mdX11_lasts : MD yX11_lasts 1 := ⟨by decide +kernel, by decide +kernel, by decide +kernel⟩
set_option maxHeartbeats 4000000 in
set_option maxRecDepth 100000 in
theorem kX11_lasts (l : Launch) (X : Cx) (t : St) (x1 : Int32) (r : Int32) (t' : St) (hrun : fX11_lasts t x1 = some (r, t')) : Ci l X t yX11_lasts cX11_lasts 4 .int 4 95 [.ref (X.2.1 144), .int x1] r t' := by
  refine Ci_of (by decide) (Nat.le_of_ble_eq_true rfl) ?_
  intro p e s m args below meth c Q B hret hS ls hl
  have hx := B.1
  have hb := B.2.1
  have hown := B.2.2.2.1
  have hts := B.2.2.2.2.1
  have hl : lv_has ls 4 [(0, .ref (X.2.1 144)), (1, .int x1)] := hl
  have hB64 : ∀ (t : St) (y0 : Int32) (H : Heap) (locs : List Loc) (ls : Array Slot), SS X t s.heap H locs → lv_has ls 4 [(0, .ref (X.2.1 144))] → fX11_lasts_64 t y0 = some (r, t') → W p l e ({ frames := 4, cells := 0, slots := 0, locals := 95 } : Room) s m args below meth c H locs 0 0 Q (F0 m 64 ls [.int y0]) := by
    intro t y0 H locs ls hS hl hrun
    unfold fX11_lasts_64 at hrun
    refine lv_istore_n (lv' := [(3, .int y0), (0, .ref (X.2.1 144))]) hx hb dX11_lasts_64 rfl hl (by decide) rfl (fun ls hl => ?_)
    refine lv_aload_n hx hb dX11_lasts_65 rfl (lv_at hl 1 rfl) ?_
    refine gX11_53 B hS dX11_lasts_66 ?_
    refine lv_aload_n hx hb dX11_lasts_69 rfl (lv_at hl 1 rfl) ?_
    refine gX11_25 B hS dX11_lasts_70 ?_
    refine lv_bipush (v := 29) hx hb dX11_lasts_73 (by decide) ?_
    obtain ⟨t_1066, hc_1065, hrun⟩ := bdE hrun
    refine qX11_156 B hS ia_158 ia_150 hc_1065 hl.1 (Nat.le_of_ble_eq_true rfl) ⟨Nat.le_of_ble_eq_true rfl, Nat.le_of_ble_eq_true rfl⟩ ⟨Nat.zero_le _, Nat.zero_le _⟩ dX11_lasts_75 (fun H locs hS => ?_)
    refine lv_iload_n hx hb dX11_lasts_78 rfl (lv_at hl 0 rfl) ?_
    exact hret _ _ _ _ _ _ hrun rfl hS dX11_lasts_79
  have hB51 : ∀ (t : St) (x1 : Int32) (x2 : Int32) (H : Heap) (locs : List Loc) (ls : Array Slot), SS X t s.heap H locs → lv_has ls 4 [(0, .ref (X.2.1 144)), (1, .int x1), (2, .int x2)] → fX11_lasts_51 t x1 x2 = some (r, t') → W p l e ({ frames := 4, cells := 0, slots := 0, locals := 95 } : Room) s m args below meth c H locs 0 0 Q (F0 m 51 ls []) := by
    intro t x1 x2 H locs ls hS hl hrun
    unfold fX11_lasts_51 at hrun
    refine lv_aload_n hx hb dX11_lasts_51 rfl (lv_at hl 0 rfl) ?_
    refine lv_iload_n hx hb dX11_lasts_52 rfl (lv_at hl 1 rfl) ?_
    obtain ⟨r_1053, hc_1052, hrun⟩ := bdE hrun
    refine qX11_183 B hS hc_1052 hl.1 (Nat.le_of_ble_eq_true rfl) ⟨Nat.le_of_ble_eq_true rfl, Nat.le_of_ble_eq_true rfl⟩ ⟨Nat.zero_le _, Nat.zero_le _⟩ dX11_lasts_53 (fun H locs hS => ?_)
    refine lv_if_eq (tgt := 63) hx hb dX11_lasts_56 (by decide) (fun hc => ?_) (fun hc => ?_)
    · have hrun := ip hc hrun
      refine lv_iload_n hx hb dX11_lasts_63 rfl (lv_at hl 2 rfl) ?_
      exact hB64 t x2 _ _ _ hS (lv_sub hl [0] rfl) hrun
    · have hrun := iq hc hrun
      refine lv_iconst (v := -1) hx hb dX11_lasts_59 (by decide) ?_
      refine lv_goto (tgt := 64) hx hb dX11_lasts_60 (by decide) ?_
      exact hB64 t (-1 : Int32) _ _ _ hS (lv_sub hl [0] rfl) hrun
  have hB26 : ∀ (n26 : Nat) (t : St) (x1 : Int32) (x2 : Int32) (H : Heap) (locs : List Loc) (ls : Array Slot), SS X t s.heap H locs → lv_has ls 4 [(0, .ref (X.2.1 144)), (1, .int x1), (2, .int x2)] → fX11_lasts_26 n26 t x1 x2 = some (r, t') → W p l e ({ frames := 4, cells := 0, slots := 0, locals := 95 } : Room) s m args below meth c H locs 0 0 Q (F0 m 26 ls []) := by
    intro n26
    induction n26 with
    | zero =>
      intro t x1 x2 H locs ls hS hl hrun
      cases (show (none : Option (Int32 × St)) = some (r, t') from hrun)
    | succ n26 ih26 =>
      intro t x1 x2 H locs ls hS hl hrun
      rw [fX11_lasts_26_s] at hrun
      refine lv_iload_n hx hb dX11_lasts_26 rfl (lv_at hl 2 rfl) ?_
      refine lv_sipush (v := 500) hx hb dX11_lasts_27 (by decide) ?_
      refine lv_icmp_ge (tgt := 51) hx hb dX11_lasts_30 (by decide) (fun hc => ?_) (fun hc => ?_)
      · have hrun := ip hc hrun
        exact hB51 t x1 x2 _ _ _ hS (lv_sub hl [0, 1, 2] rfl) hrun
      · have hrun := iq hc hrun
        refine lv_aload_n hx hb dX11_lasts_33 rfl (lv_at hl 0 rfl) ?_
        refine lv_iload_n hx hb dX11_lasts_34 rfl (lv_at hl 1 rfl) ?_
        obtain ⟨r_1028, hc_1027, hrun⟩ := bdE hrun
        refine qX11_183 B hS hc_1027 hl.1 (Nat.le_of_ble_eq_true rfl) ⟨Nat.le_of_ble_eq_true rfl, Nat.le_of_ble_eq_true rfl⟩ ⟨Nat.zero_le _, Nat.zero_le _⟩ dX11_lasts_35 (fun H locs hS => ?_)
        refine lv_if_eq (tgt := 51) hx hb dX11_lasts_38 (by decide) (fun hc => ?_) (fun hc => ?_)
        · have hrun := ip hc hrun
          exact hB51 t x1 x2 _ _ _ hS (lv_sub hl [0, 1, 2] rfl) hrun
        · have hrun := iq hc hrun
          refine lv_aload_n hx hb dX11_lasts_41 rfl (lv_at hl 0 rfl) ?_
          obtain ⟨t_1030, hc_1029, hrun⟩ := bdE hrun
          refine qX11_252 B hS hc_1029 hl.1 (Nat.le_of_ble_eq_true rfl) ⟨Nat.le_of_ble_eq_true rfl, Nat.le_of_ble_eq_true rfl⟩ ⟨Nat.zero_le _, Nat.zero_le _⟩ dX11_lasts_42 (fun H locs hS => ?_)
          refine lv_iinc (v := x2 + (1 : Int32)) (k := 2) (lv' := [(2, .int (x2 + (1 : Int32))), (0, .ref (X.2.1 144)), (1, .int x1)]) hx hb dX11_lasts_45 hl rfl rfl (by decide) rfl (fun ls hl => ?_)
          refine lv_goto (tgt := 26) hx hb dX11_lasts_48 (by decide) ?_
          exact ih26 t_1030 x1 (x2 + (1 : Int32)) _ _ _ hS (lv_sub hl [1, 2, 0] rfl) hrun
  unfold fX11_lasts at hrun
  refine lv_aload_n hx hb dX11_lasts_0 rfl (lv_at hl 0 rfl) ?_
  refine lv_iload_n hx hb dX11_lasts_1 rfl (lv_at hl 1 rfl) ?_
  obtain ⟨r_2, hc_1, hrun⟩ := bdE hrun
  refine qX11_228 B hS hc_1 hl.1 (Nat.le_of_ble_eq_true rfl) ⟨Nat.le_of_ble_eq_true rfl, Nat.le_of_ble_eq_true rfl⟩ ⟨Nat.zero_le _, Nat.zero_le _⟩ dX11_lasts_2 (fun H locs hS => ?_)
  refine lv_if_ne (tgt := 11) hx hb dX11_lasts_5 (by decide) (fun hc => ?_) (fun hc => ?_)
  · have hrun := iq hc hrun
    refine lv_aload_n hx hb dX11_lasts_11 rfl (lv_at hl 0 rfl) ?_
    refine gX11_25 B hS dX11_lasts_12 ?_
    refine lv_aload_n hx hb dX11_lasts_15 rfl (lv_at hl 0 rfl) ?_
    refine gX11_53 B hS dX11_lasts_16 ?_
    refine lv_bipush (v := 29) hx hb dX11_lasts_19 (by decide) ?_
    obtain ⟨t_4, hc_3, hrun⟩ := bdE hrun
    refine qX11_156 B hS ia_150 ia_158 hc_3 hl.1 (Nat.le_of_ble_eq_true rfl) ⟨Nat.le_of_ble_eq_true rfl, Nat.le_of_ble_eq_true rfl⟩ ⟨Nat.zero_le _, Nat.zero_le _⟩ dX11_lasts_21 (fun H locs hS => ?_)
    refine lv_iconst (v := 0) hx hb dX11_lasts_24 (by decide) ?_
    refine lv_istore_n (lv' := [(2, .int (0 : Int32)), (0, .ref (X.2.1 144)), (1, .int x1)]) hx hb dX11_lasts_25 rfl hl (by decide) rfl (fun ls hl => ?_)
    exact hB26 fuelN t_4 x1 (0 : Int32) _ _ _ hS (lv_sub hl [1, 2, 0] rfl) hrun
  · have hrun := ip hc hrun
    refine lv_ldc (v := -1000000001) hx hb hown (hts _ (tw_5 111 rfl rfl)) dX11_lasts_8 ?_
    exact hret _ _ _ _ _ _ hrun rfl hS dX11_lasts_10
theorem mdX11_more : MD yX11_more 2 := ⟨by decide +kernel, by decide +kernel, by decide +kernel⟩
set_option maxHeartbeats 4000000 in
set_option maxRecDepth 100000 in
theorem kX11_more (l : Launch) (X : Cx) (t : St) (x1 : Int32) (x2 : Int32) (r : Int32) (hrun : fX11_more t x1 x2 = some r) : Ci l X t yX11_more cX11_more 3 .int 3 64 [.ref (X.2.1 144), .int x1, .int x2] r t := by
  refine Ci_of (by decide) (Nat.le_of_ble_eq_true rfl) ?_
  intro p e s m args below meth c Q B hret hS ls hl
  have hx := B.1
  have hb := B.2.1
  have hown := B.2.2.2.1
  have hts := B.2.2.2.2.1
  have hl : lv_has ls 3 [(0, .ref (X.2.1 144)), (1, .int x1), (2, .int x2)] := hl
  unfold fX11_more at hrun
  refine lv_aload_n hx hb dX11_more_0 rfl (lv_at hl 0 rfl) ?_
  refine lv_iload_n hx hb dX11_more_1 rfl (lv_at hl 1 rfl) ?_
  obtain ⟨r_2, hc_1, hrun⟩ := bdE hrun
  refine qX11_228 B hS hc_1 hl.1 (Nat.le_of_ble_eq_true rfl) ⟨Nat.le_of_ble_eq_true rfl, Nat.le_of_ble_eq_true rfl⟩ ⟨Nat.zero_le _, Nat.zero_le _⟩ dX11_more_2 (fun H locs hS => ?_)
  refine lv_if_eq (tgt := 16) hx hb dX11_more_5 (by decide) (fun hc => ?_) (fun hc => ?_)
  · have hrun := ip hc hrun
    refine lv_ldc (v := -1000000001) hx hb hown (hts _ (tw_5 111 rfl rfl)) dX11_more_16 ?_
    exact hret _ _ _ _ _ _ (congrArg (Option.map (fun w => (w, t))) hrun) rfl hS dX11_more_18
  · have hrun := iq hc hrun
    refine lv_aload_n hx hb dX11_more_8 rfl (lv_at hl 0 rfl) ?_
    refine lv_iload_n hx hb dX11_more_9 rfl (lv_at hl 2 rfl) ?_
    obtain ⟨r_4, hc_3, hrun⟩ := bdE hrun
    refine qX11_232 B hS hc_3 hl.1 (Nat.le_of_ble_eq_true rfl) ⟨Nat.le_of_ble_eq_true rfl, Nat.le_of_ble_eq_true rfl⟩ ⟨Nat.zero_le _, Nat.zero_le _⟩ dX11_more_10 (fun H locs hS => ?_)
    refine lv_if_ne (tgt := 19) hx hb dX11_more_13 (by decide) (fun hc => ?_) (fun hc => ?_)
    · have hrun := iq hc hrun
      refine lv_aload_n hx hb dX11_more_19 rfl (lv_at hl 0 rfl) ?_
      refine lv_iload_n hx hb dX11_more_20 rfl (lv_at hl 1 rfl) ?_
      obtain ⟨r_6, hc_5, hrun⟩ := bdE hrun
      refine qX11_183 B hS hc_5 hl.1 (Nat.le_of_ble_eq_true rfl) ⟨Nat.le_of_ble_eq_true rfl, Nat.le_of_ble_eq_true rfl⟩ ⟨Nat.zero_le _, Nat.zero_le _⟩ dX11_more_21 (fun H locs hS => ?_)
      refine lv_if_eq (tgt := 32) hx hb dX11_more_24 (by decide) (fun hc => ?_) (fun hc => ?_)
      · have hrun := ip hc hrun
        refine lv_aload_n hx hb dX11_more_32 rfl (lv_at hl 0 rfl) ?_
        refine lv_iload_n hx hb dX11_more_33 rfl (lv_at hl 1 rfl) ?_
        refine lv_iload_n hx hb dX11_more_34 rfl (lv_at hl 2 rfl) ?_
        refine lv_aload_n hx hb dX11_more_35 rfl (lv_at hl 0 rfl) ?_
        refine lv_iload_n hx hb dX11_more_36 rfl (lv_at hl 2 rfl) ?_
        obtain ⟨r_8, hc_7, hrun⟩ := bdE hrun
        refine qX11_255 B hS hc_7 hl.1 (Nat.le_of_ble_eq_true rfl) ⟨Nat.le_of_ble_eq_true rfl, Nat.le_of_ble_eq_true rfl⟩ ⟨Nat.zero_le _, Nat.zero_le _⟩ dX11_more_37 (fun H locs hS => ?_)
        refine lv_aload_n hx hb dX11_more_40 rfl (lv_at hl 0 rfl) ?_
        refine gX11_25 B hS dX11_more_41 ?_
        refine lv_bipush (v := 25) hx hb dX11_more_44 (by decide) ?_
        refine xa B hS ia_150 (by unfold vp_in; decide) dX11_more_46 ?_
        obtain ⟨r_10, hc_9, hrun⟩ := bdE hrun
        refine qX11_187 B hS hc_9 hl.1 (Nat.le_of_ble_eq_true rfl) ⟨Nat.le_of_ble_eq_true rfl, Nat.le_of_ble_eq_true rfl⟩ ⟨Nat.zero_le _, Nat.zero_le _⟩ dX11_more_47 (fun H locs hS => ?_)
        exact hret _ _ _ _ _ _ (congrArg (Option.map (fun w => (w, t))) hrun) rfl hS dX11_more_50
      · have hrun := iq hc hrun
        refine lv_ldc (v := -1000000003) hx hb hown (hts _ (tw_5 137 rfl rfl)) dX11_more_27 ?_
        refine lv_goto (tgt := 50) hx hb dX11_more_29 (by decide) ?_
        exact hret _ _ _ _ _ _ (congrArg (Option.map (fun w => (w, t))) hrun) rfl hS dX11_more_50
    · have hrun := ip hc hrun
      refine lv_ldc (v := -1000000001) hx hb hown (hts _ (tw_5 111 rfl rfl)) dX11_more_16 ?_
      exact hret _ _ _ _ _ _ (congrArg (Option.map (fun w => (w, t))) hrun) rfl hS dX11_more_18
theorem mdX11_areBorne : MD yX11_areBorne 2 := ⟨by decide +kernel, by decide +kernel, by decide +kernel⟩
set_option maxHeartbeats 4000000 in
set_option maxRecDepth 100000 in
theorem kX11_areBorne (l : Launch) (X : Cx) (t : St) (x1 : Int32) (x2 : Int32) (r : Int32) (hrun : fX11_areBorne t x1 x2 = some r) : Ci l X t yX11_areBorne cX11_areBorne 6 .boolean 2 48 [.ref (X.2.1 144), .int x1, .int x2] r t := by
  refine Ci_of (by decide) (Nat.le_of_ble_eq_true rfl) ?_
  intro p e s m args below meth c Q B hret hS ls hl
  have hx := B.1
  have hb := B.2.1
  have hown := B.2.2.2.1
  have hts := B.2.2.2.2.1
  have hl : lv_has ls 6 [(0, .ref (X.2.1 144)), (1, .int x1), (2, .int x2)] := hl
  have hB8 : ∀ (n8 : Nat) (x1 : Int32) (x2 : Int32) (x3 : Int32) (x4 : Int32) (x5 : Int32) (H : Heap) (locs : List Loc) (ls : Array Slot), SS X t s.heap H locs → lv_has ls 6 [(0, .ref (X.2.1 144)), (1, .int x1), (2, .int x2), (3, .int x3), (4, .int x4), (5, .int x5)] → fX11_areBorne_8 t n8 x1 x2 x3 x4 x5 = some r → W p l e ({ frames := 2, cells := 0, slots := 0, locals := 48 } : Room) s m args below meth c H locs 0 0 Q (F0 m 8 ls []) := by
    intro n8
    induction n8 with
    | zero =>
      intro x1 x2 x3 x4 x5 H locs ls hS hl hrun
      cases (show (none : Option (Int32)) = some r from hrun)
    | succ n8 ih8 =>
      have hB63 : ∀ (x1 : Int32) (x2 : Int32) (x4 : Int32) (x5 : Int32) (H : Heap) (locs : List Loc) (ls : Array Slot), SS X t s.heap H locs → lv_has ls 6 [(0, .ref (X.2.1 144)), (1, .int x1), (2, .int x2), (4, .int x4), (5, .int x5)] → fX11_areBorne_63 t (fX11_areBorne_8 t n8) x1 x2 x4 x5 = some r → W p l e ({ frames := 2, cells := 0, slots := 0, locals := 48 } : Room) s m args below meth c H locs 0 0 Q (F0 m 63 ls []) := by
        intro x1 x2 x4 x5 H locs ls hS hl hrun
        unfold fX11_areBorne_63 at hrun
        refine lv_iconst (v := 0) hx hb dX11_areBorne_63 (by decide) ?_
        refine lv_istore_n (lv' := [(3, .int (0 : Int32)), (0, .ref (X.2.1 144)), (1, .int x1), (2, .int x2), (4, .int x4), (5, .int x5)]) hx hb dX11_areBorne_64 rfl hl (by decide) rfl (fun ls hl => ?_)
        refine lv_iinc (v := x4 + (1 : Int32)) (k := 4) (lv' := [(4, .int (x4 + (1 : Int32))), (3, .int (0 : Int32)), (0, .ref (X.2.1 144)), (1, .int x1), (2, .int x2), (5, .int x5)]) hx hb dX11_areBorne_65 hl rfl rfl (by decide) rfl (fun ls hl => ?_)
        refine lv_iinc (v := x5 + (1 : Int32)) (k := 5) (lv' := [(5, .int (x5 + (1 : Int32))), (4, .int (x4 + (1 : Int32))), (3, .int (0 : Int32)), (0, .ref (X.2.1 144)), (1, .int x1), (2, .int x2)]) hx hb dX11_areBorne_68 hl rfl rfl (by decide) rfl (fun ls hl => ?_)
        refine lv_goto (tgt := 8) hx hb dX11_areBorne_71 (by decide) ?_
        exact ih8 x1 x2 (0 : Int32) (x4 + (1 : Int32)) (x5 + (1 : Int32)) _ _ _ hS (lv_sub hl [3, 4, 5, 2, 1, 0] rfl) hrun
      intro x1 x2 x3 x4 x5 H locs ls hS hl hrun
      rw [fX11_areBorne_8_s] at hrun
      refine lv_iload hx hb dX11_areBorne_8 (lv_at hl 5 rfl) ?_
      refine lv_aload_n hx hb dX11_areBorne_10 rfl (lv_at hl 0 rfl) ?_
      refine gX11_81 B hS dX11_areBorne_11 ?_
      refine lv_icmp_ge (tgt := 74) hx hb dX11_areBorne_14 (by decide) (fun hc => ?_) (fun hc => ?_)
      · have hrun := ip hc hrun
        refine lv_iload_n hx hb dX11_areBorne_74 rfl (lv_at hl 3 rfl) ?_
        obtain ⟨hbo_1009, hrun⟩ := gbE hrun
        exact hret _ _ _ _ _ _ (congrArg (Option.map (fun w => (w, t))) hrun) (nb hbo_1009) hS dX11_areBorne_75
      · have hrun := iq hc hrun
        refine lv_iload_n hx hb dX11_areBorne_17 rfl (lv_at hl 1 rfl) ?_
        refine lv_iload hx hb dX11_areBorne_18 (lv_at hl 5 rfl) ?_
        obtain ⟨r_1011, hc_1010, hrun⟩ := bdE hrun
        refine qX11_203 B hS hc_1010 hl.1 (Nat.le_of_ble_eq_true rfl) ⟨Nat.le_of_ble_eq_true rfl, Nat.le_of_ble_eq_true rfl⟩ ⟨Nat.zero_le _, Nat.zero_le _⟩ dX11_areBorne_20 (fun H locs hS => ?_)
        refine lv_if_eq (tgt := 68) hx hb dX11_areBorne_23 (by decide) (fun hc => ?_) (fun hc => ?_)
        · have hrun := ip hc hrun
          refine lv_iinc (v := x5 + (1 : Int32)) (k := 5) (lv' := [(5, .int (x5 + (1 : Int32))), (0, .ref (X.2.1 144)), (1, .int x1), (2, .int x2), (3, .int x3), (4, .int x4)]) hx hb dX11_areBorne_68 hl rfl rfl (by decide) rfl (fun ls hl => ?_)
          refine lv_goto (tgt := 8) hx hb dX11_areBorne_71 (by decide) ?_
          exact ih8 x1 x2 x3 x4 (x5 + (1 : Int32)) _ _ _ hS (lv_sub hl [1, 2, 3, 4, 5, 0] rfl) hrun
        · have hrun := iq hc hrun
          refine lv_iload_n hx hb dX11_areBorne_26 rfl (lv_at hl 3 rfl) ?_
          refine lv_if_eq (tgt := 63) hx hb dX11_areBorne_27 (by decide) (fun hc => ?_) (fun hc => ?_)
          · have hrun := ip hc hrun
            exact hB63 x1 x2 x4 x5 _ _ _ hS (lv_sub hl [0, 1, 2, 4, 5] rfl) hrun
          · have hrun := iq hc hrun
            refine lv_aload_n hx hb dX11_areBorne_30 rfl (lv_at hl 0 rfl) ?_
            refine gX11_25 B hS dX11_areBorne_31 ?_
            refine lv_bipush (v := 7) hx hb dX11_areBorne_34 (by decide) ?_
            refine lv_iload hx hb dX11_areBorne_36 (lv_at hl 5 rfl) ?_
            refine lv_iadd hx hb dX11_areBorne_38 ?_
            obtain ⟨hi_1012, hrun⟩ := gdE hrun
            refine xa B hS ia_150 hi_1012 dX11_areBorne_39 ?_
            refine lv_aload_n hx hb dX11_areBorne_40 rfl (lv_at hl 0 rfl) ?_
            refine lv_iload hx hb dX11_areBorne_41 (lv_at hl 5 rfl) ?_
            refine lv_iload_n hx hb dX11_areBorne_43 rfl (lv_at hl 2 rfl) ?_
            refine lv_iload hx hb dX11_areBorne_44 (lv_at hl 4 rfl) ?_
            refine lv_aload_n hx hb dX11_areBorne_46 rfl (lv_at hl 0 rfl) ?_
            refine gX11_25 B hS dX11_areBorne_47 ?_
            refine lv_bipush (v := 25) hx hb dX11_areBorne_50 (by decide) ?_
            refine xa B hS ia_150 (by unfold vp_in; decide) dX11_areBorne_52 ?_
            obtain ⟨r_1014, hc_1013, hrun⟩ := bdE hrun
            refine qX11_187 B hS hc_1013 hl.1 (Nat.le_of_ble_eq_true rfl) ⟨Nat.le_of_ble_eq_true rfl, Nat.le_of_ble_eq_true rfl⟩ ⟨Nat.zero_le _, Nat.zero_le _⟩ dX11_areBorne_53 (fun H locs hS => ?_)
            refine lv_icmp_lt (tgt := 63) hx hb dX11_areBorne_56 (by decide) (fun hc => ?_) (fun hc => ?_)
            · have hrun := ip hc hrun
              exact hB63 x1 x2 x4 x5 _ _ _ hS (lv_sub hl [0, 1, 2, 4, 5] rfl) hrun
            · have hrun := iq hc hrun
              refine lv_iconst (v := 1) hx hb dX11_areBorne_59 (by decide) ?_
              refine lv_goto (tgt := 64) hx hb dX11_areBorne_60 (by decide) ?_
              refine lv_istore_n (lv' := [(3, .int (1 : Int32)), (0, .ref (X.2.1 144)), (1, .int x1), (2, .int x2), (4, .int x4), (5, .int x5)]) hx hb dX11_areBorne_64 rfl hl (by decide) rfl (fun ls hl => ?_)
              refine lv_iinc (v := x4 + (1 : Int32)) (k := 4) (lv' := [(4, .int (x4 + (1 : Int32))), (3, .int (1 : Int32)), (0, .ref (X.2.1 144)), (1, .int x1), (2, .int x2), (5, .int x5)]) hx hb dX11_areBorne_65 hl rfl rfl (by decide) rfl (fun ls hl => ?_)
              refine lv_iinc (v := x5 + (1 : Int32)) (k := 5) (lv' := [(5, .int (x5 + (1 : Int32))), (4, .int (x4 + (1 : Int32))), (3, .int (1 : Int32)), (0, .ref (X.2.1 144)), (1, .int x1), (2, .int x2)]) hx hb dX11_areBorne_68 hl rfl rfl (by decide) rfl (fun ls hl => ?_)
              refine lv_goto (tgt := 8) hx hb dX11_areBorne_71 (by decide) ?_
              exact ih8 x1 x2 (1 : Int32) (x4 + (1 : Int32)) (x5 + (1 : Int32)) _ _ _ hS (lv_sub hl [3, 4, 5, 2, 1, 0] rfl) hrun
  unfold fX11_areBorne at hrun
  refine lv_iconst (v := 1) hx hb dX11_areBorne_0 (by decide) ?_
  refine lv_istore_n (lv' := [(3, .int (1 : Int32)), (0, .ref (X.2.1 144)), (1, .int x1), (2, .int x2)]) hx hb dX11_areBorne_1 rfl hl (by decide) rfl (fun ls hl => ?_)
  refine lv_iconst (v := 0) hx hb dX11_areBorne_2 (by decide) ?_
  refine lv_istore (lv' := [(4, .int (0 : Int32)), (3, .int (1 : Int32)), (0, .ref (X.2.1 144)), (1, .int x1), (2, .int x2)]) hx hb dX11_areBorne_3 hl (by decide) rfl (fun ls hl => ?_)
  refine lv_iconst (v := 0) hx hb dX11_areBorne_5 (by decide) ?_
  refine lv_istore (lv' := [(5, .int (0 : Int32)), (4, .int (0 : Int32)), (3, .int (1 : Int32)), (0, .ref (X.2.1 144)), (1, .int x1), (2, .int x2)]) hx hb dX11_areBorne_6 hl (by decide) rfl (fun ls hl => ?_)
  exact hB8 fuelN x1 x2 (1 : Int32) (0 : Int32) (0 : Int32) _ _ _ hS (lv_sub hl [3, 4, 5, 2, 1, 0] rfl) hrun
theorem mdX11_bears : MD yX11_bears 3 := ⟨by decide +kernel, by decide +kernel, by decide +kernel⟩
section QX11_bears
variable {p : Program} {l : Launch} {e : Env} {R : Room} {s : State} {m : MethodId} {args : Array Value} {below : List Frame} {meth : Method} {c : Code} {H : Heap} {locs : List Loc} {cells slots : Nat} {Q : State → Prop}
variable {cc : ByteArray} {pc : Nat} {ls : Array Slot} {rest : List Value} {X : Cx} {t : St} {H0 : Heap} {nL : Nat}
theorem qX11_290 (B : Bx p s m args c cc nL X RX11) (hS : SS X t H0 H locs) {x1 : Int32} {r : Int32} (hM : fX11_isSet t x1 = some r) (hsz : ls.size = nL) (hW : (rest.map fun v => v.category).sum ≤ 8) (hR : 1 + 1 ≤ R.frames ∧ 8 + (2 + 11) + 25 ≤ R.locals) (hR2 : cells ≤ R.cells ∧ slots ≤ R.slots) (hdg : decode cc pc = .ok (.invokevirtual 290, 3)) (kk : ∀ (H1 : Heap) (locs1 : List Loc), SS X t H0 H1 locs1 → W p l e R s m args below meth c H1 locs1 cells slots Q (F0 m (pc + 3) ls (.int r :: rest))) : W p l e R s m args below meth c H locs cells slots Q (F0 m pc ls (.int x1 :: .ref (X.2.1 144) :: rest)) :=
  xVi B hS (kX11_isSet l X t x1 r hM) (tw_5 230 rfl rfl) (tw_5 232 rfl rfl) (tw_0 59 rfl rfl) (tw_1 12 rfl rfl) (tw_5 233 rfl rfl) mdX11_isSet (by decide) (ceX11 _) rfl rfl rfl hsz rfl hW hR hR2 hdg kk
theorem qX11_293 (B : Bx p s m args c cc nL X RX11) (hS : SS X t H0 H locs) {x1 : Int32} {x2 : Int32} {r : Int32} (hM : fX11_areBorne t x1 x2 = some r) (hsz : ls.size = nL) (hW : (rest.map fun v => v.category).sum ≤ 8) (hR : 2 + 1 ≤ R.frames ∧ 8 + (6 + 11) + 48 ≤ R.locals) (hR2 : cells ≤ R.cells ∧ slots ≤ R.slots) (hdg : decode cc pc = .ok (.invokevirtual 293, 3)) (kk : ∀ (H1 : Heap) (locs1 : List Loc), SS X t H0 H1 locs1 → W p l e R s m args below meth c H1 locs1 cells slots Q (F0 m (pc + 3) ls (.int r :: rest))) : W p l e R s m args below meth c H locs cells slots Q (F0 m pc ls (.int x2 :: .int x1 :: .ref (X.2.1 144) :: rest)) :=
  xVi B hS (kX11_areBorne l X t x1 x2 r hM) (tw_5 234 rfl rfl) (tw_5 236 rfl rfl) (tw_0 60 rfl rfl) (tw_1 12 rfl rfl) (tw_5 237 rfl rfl) mdX11_areBorne (by decide) (ceX11 _) rfl rfl rfl hsz rfl hW hR hR2 hdg kk
end QX11_bears
set_option maxHeartbeats 4000000 in
set_option maxRecDepth 100000 in
theorem kX11_bears (l : Launch) (X : Cx) (t : St) (x1 : Int32) (x2 : Int32) (x3 : Int32) (r : Int32) (hrun : fX11_bears t x1 x2 x3 = some r) : Ci l X t yX11_bears cX11_bears 7 .int 3 73 [.ref (X.2.1 144), .int x1, .int x2, .int x3] r t := by
  refine Ci_of (by decide) (Nat.le_of_ble_eq_true rfl) ?_
  intro p e s m args below meth c Q B hret hS ls hl
  have hx := B.1
  have hb := B.2.1
  have hown := B.2.2.2.1
  have hts := B.2.2.2.2.1
  have hl : lv_has ls 7 [(0, .ref (X.2.1 144)), (1, .int x1), (2, .int x2), (3, .int x3)] := hl
  have hB103 : ∀ (x3 : Int32) (x4 : Int32) (H : Heap) (locs : List Loc) (ls : Array Slot), SS X t s.heap H locs → lv_has ls 7 [(3, .int x3), (4, .int x4)] → fX11_bears_103 t x3 x4 = some r → W p l e ({ frames := 3, cells := 0, slots := 0, locals := 73 } : Room) s m args below meth c H locs 0 0 Q (F0 m 103 ls []) := by
    intro x3 x4 H locs ls hS hl hrun
    unfold fX11_bears_103 at hrun
    refine lv_iload_n hx hb dX11_bears_103 rfl (lv_at hl 0 rfl) ?_
    refine lv_if_ne (tgt := 115) hx hb dX11_bears_104 (by decide) (fun hc => ?_) (fun hc => ?_)
    · have hrun := iq hc hrun
      refine lv_iload hx hb dX11_bears_115 (lv_at hl 1 rfl) ?_
      exact hret _ _ _ _ _ _ (congrArg (Option.map (fun w => (w, t))) hrun) rfl hS dX11_bears_117
    · have hrun := ip hc hrun
      refine lv_iload hx hb dX11_bears_107 (lv_at hl 1 rfl) ?_
      obtain ⟨r_1105, hc_1104, hrun⟩ := bdE hrun
      refine qX11_197 B hS hc_1104 hl.1 (Nat.le_of_ble_eq_true rfl) ⟨Nat.le_of_ble_eq_true rfl, Nat.le_of_ble_eq_true rfl⟩ ⟨Nat.zero_le _, Nat.zero_le _⟩ dX11_bears_109 (fun H locs hS => ?_)
      refine lv_goto (tgt := 117) hx hb dX11_bears_112 (by decide) ?_
      exact hret _ _ _ _ _ _ (congrArg (Option.map (fun w => (w, t))) hrun) rfl hS dX11_bears_117
  have hB38 : ∀ (n38 : Nat) (x1 : Int32) (x2 : Int32) (x3 : Int32) (x4 : Int32) (x5 : Int32) (H : Heap) (locs : List Loc) (ls : Array Slot), SS X t s.heap H locs → lv_has ls 7 [(0, .ref (X.2.1 144)), (1, .int x1), (2, .int x2), (3, .int x3), (4, .int x4), (5, .int x5)] → fX11_bears_38 t n38 x1 x2 x3 x4 x5 = some r → W p l e ({ frames := 3, cells := 0, slots := 0, locals := 73 } : Room) s m args below meth c H locs 0 0 Q (F0 m 38 ls []) := by
    intro n38
    induction n38 with
    | zero =>
      intro x1 x2 x3 x4 x5 H locs ls hS hl hrun
      cases (show (none : Option (Int32)) = some r from hrun)
    | succ n38 ih38 =>
      have hB71 : ∀ (x1 : Int32) (x2 : Int32) (x3 : Int32) (x4 : Int32) (x5 : Int32) (y0 : Int32) (H : Heap) (locs : List Loc) (ls : Array Slot), SS X t s.heap H locs → lv_has ls 7 [(0, .ref (X.2.1 144)), (1, .int x1), (2, .int x2), (3, .int x3), (4, .int x4), (5, .int x5)] → fX11_bears_71 t (fX11_bears_38 t n38) x1 x2 x3 x4 x5 y0 = some r → W p l e ({ frames := 3, cells := 0, slots := 0, locals := 73 } : Room) s m args below meth c H locs 0 0 Q (F0 m 71 ls [.int y0]) := by
        intro x1 x2 x3 x4 x5 y0 H locs ls hS hl hrun
        unfold fX11_bears_71 at hrun
        refine lv_istore (lv' := [(6, .int y0), (0, .ref (X.2.1 144)), (1, .int x1), (2, .int x2), (3, .int x3), (4, .int x4), (5, .int x5)]) hx hb dX11_bears_71 hl (by decide) rfl (fun ls hl => ?_)
        refine lv_iload hx hb dX11_bears_73 (lv_at hl 0 rfl) ?_
        refine lv_if_eq (tgt := 93) hx hb dX11_bears_75 (by decide) (fun hc => ?_) (fun hc => ?_)
        · have hrun := ip hc hrun
          refine lv_iload hx hb dX11_bears_93 (lv_at hl 5 rfl) ?_
          refine lv_istore (lv' := [(4, .int x4), (6, .int y0), (0, .ref (X.2.1 144)), (1, .int x1), (2, .int x2), (3, .int x3), (5, .int x5)]) hx hb dX11_bears_95 hl (by decide) rfl (fun ls hl => ?_)
          refine lv_iinc (v := x5 + (1 : Int32)) (k := 6) (lv' := [(5, .int (x5 + (1 : Int32))), (4, .int x4), (6, .int y0), (0, .ref (X.2.1 144)), (1, .int x1), (2, .int x2), (3, .int x3)]) hx hb dX11_bears_97 hl rfl rfl (by decide) rfl (fun ls hl => ?_)
          refine lv_goto (tgt := 38) hx hb dX11_bears_100 (by decide) ?_
          exact ih38 x1 x2 x3 x4 (x5 + (1 : Int32)) _ _ _ hS (lv_sub hl [3, 4, 5, 6, 1, 0] rfl) hrun
        · have hrun := iq hc hrun
          refine lv_aload_n hx hb dX11_bears_78 rfl (lv_at hl 1 rfl) ?_
          refine lv_iload hx hb dX11_bears_79 (lv_at hl 6 rfl) ?_
          refine lv_iload_n hx hb dX11_bears_81 rfl (lv_at hl 3 rfl) ?_
          obtain ⟨r_1073, hc_1072, hrun⟩ := bdE hrun
          refine qX11_293 B hS hc_1072 hl.1 (Nat.le_of_ble_eq_true rfl) ⟨Nat.le_of_ble_eq_true rfl, Nat.le_of_ble_eq_true rfl⟩ ⟨Nat.zero_le _, Nat.zero_le _⟩ dX11_bears_82 (fun H locs hS => ?_)
          refine lv_if_eq (tgt := 93) hx hb dX11_bears_85 (by decide) (fun hc => ?_) (fun hc => ?_)
          · have hrun := ip hc hrun
            refine lv_iload hx hb dX11_bears_93 (lv_at hl 5 rfl) ?_
            refine lv_istore (lv' := [(4, .int x4), (6, .int y0), (0, .ref (X.2.1 144)), (1, .int x1), (2, .int x2), (3, .int x3), (5, .int x5)]) hx hb dX11_bears_95 hl (by decide) rfl (fun ls hl => ?_)
            refine lv_iinc (v := x5 + (1 : Int32)) (k := 6) (lv' := [(5, .int (x5 + (1 : Int32))), (4, .int x4), (6, .int y0), (0, .ref (X.2.1 144)), (1, .int x1), (2, .int x2), (3, .int x3)]) hx hb dX11_bears_97 hl rfl rfl (by decide) rfl (fun ls hl => ?_)
            refine lv_goto (tgt := 38) hx hb dX11_bears_100 (by decide) ?_
            exact ih38 x1 x2 x3 x4 (x5 + (1 : Int32)) _ _ _ hS (lv_sub hl [3, 4, 5, 6, 1, 0] rfl) hrun
          · have hrun := iq hc hrun
            refine lv_iload hx hb dX11_bears_88 (lv_at hl 6 rfl) ?_
            refine lv_goto (tgt := 95) hx hb dX11_bears_90 (by decide) ?_
            refine lv_istore (lv' := [(4, .int x5), (6, .int y0), (0, .ref (X.2.1 144)), (1, .int x1), (2, .int x2), (3, .int x3), (5, .int x5)]) hx hb dX11_bears_95 hl (by decide) rfl (fun ls hl => ?_)
            refine lv_iinc (v := x5 + (1 : Int32)) (k := 6) (lv' := [(5, .int (x5 + (1 : Int32))), (4, .int x5), (6, .int y0), (0, .ref (X.2.1 144)), (1, .int x1), (2, .int x2), (3, .int x3)]) hx hb dX11_bears_97 hl rfl rfl (by decide) rfl (fun ls hl => ?_)
            refine lv_goto (tgt := 38) hx hb dX11_bears_100 (by decide) ?_
            exact ih38 x1 x2 x3 x5 (x5 + (1 : Int32)) _ _ _ hS (lv_sub hl [3, 4, 5, 6, 1, 0] rfl) hrun
      have hB70 : ∀ (x1 : Int32) (x2 : Int32) (x3 : Int32) (x4 : Int32) (x5 : Int32) (H : Heap) (locs : List Loc) (ls : Array Slot), SS X t s.heap H locs → lv_has ls 7 [(0, .ref (X.2.1 144)), (1, .int x1), (2, .int x2), (3, .int x3), (4, .int x4), (5, .int x5)] → fX11_bears_70 t (fX11_bears_38 t n38) x1 x2 x3 x4 x5 = some r → W p l e ({ frames := 3, cells := 0, slots := 0, locals := 73 } : Room) s m args below meth c H locs 0 0 Q (F0 m 70 ls []) := by
        intro x1 x2 x3 x4 x5 H locs ls hS hl hrun
        unfold fX11_bears_70 at hrun
        refine lv_iconst (v := 0) hx hb dX11_bears_70 (by decide) ?_
        exact hB71 x1 x2 x3 x4 x5 (0 : Int32) _ _ _ hS (lv_sub hl [0, 1, 2, 3, 4, 5] rfl) hrun
      intro x1 x2 x3 x4 x5 H locs ls hS hl hrun
      rw [fX11_bears_38_s] at hrun
      refine lv_iload hx hb dX11_bears_38 (lv_at hl 5 rfl) ?_
      refine lv_iload_n hx hb dX11_bears_40 rfl (lv_at hl 1 rfl) ?_
      refine lv_icmp_gt (tgt := 103) hx hb dX11_bears_41 (by decide) (fun hc => ?_) (fun hc => ?_)
      · have hrun := ip hc hrun
        exact hB103 x3 x4 _ _ _ hS (lv_sub hl [3, 4] rfl) hrun
      · have hrun := iq hc hrun
        refine lv_iload hx hb dX11_bears_44 (lv_at hl 5 rfl) ?_
        refine lv_iload_n hx hb dX11_bears_46 rfl (lv_at hl 1 rfl) ?_
        refine lv_iconst (v := -1) hx hb dX11_bears_47 (by decide) ?_
        refine lv_ixor hx hb dX11_bears_48 ?_
        refine lv_iand hx hb dX11_bears_49 ?_
        refine lv_if_ne (tgt := 70) hx hb dX11_bears_50 (by decide) (fun hc => ?_) (fun hc => ?_)
        · have hrun := iq hc hrun
          exact hB70 x1 x2 x3 x4 x5 _ _ _ hS (lv_sub hl [0, 1, 2, 3, 4, 5] rfl) hrun
        · have hrun := ip hc hrun
          refine lv_iload hx hb dX11_bears_53 (lv_at hl 5 rfl) ?_
          obtain ⟨r_1040, hc_1039, hrun⟩ := bdE hrun
          refine qX11_197 B hS hc_1039 hl.1 (Nat.le_of_ble_eq_true rfl) ⟨Nat.le_of_ble_eq_true rfl, Nat.le_of_ble_eq_true rfl⟩ ⟨Nat.zero_le _, Nat.zero_le _⟩ dX11_bears_55 (fun H locs hS => ?_)
          refine lv_iload hx hb dX11_bears_58 (lv_at hl 4 rfl) ?_
          obtain ⟨r_1042, hc_1041, hrun⟩ := bdE hrun
          refine qX11_197 B hS hc_1041 hl.1 (Nat.le_of_ble_eq_true rfl) ⟨Nat.le_of_ble_eq_true rfl, Nat.le_of_ble_eq_true rfl⟩ ⟨Nat.zero_le _, Nat.zero_le _⟩ dX11_bears_60 (fun H locs hS => ?_)
          refine lv_icmp_le (tgt := 70) hx hb dX11_bears_63 (by decide) (fun hc => ?_) (fun hc => ?_)
          · have hrun := ip hc hrun
            exact hB70 x1 x2 x3 x4 x5 _ _ _ hS (lv_sub hl [0, 1, 2, 3, 4, 5] rfl) hrun
          · have hrun := iq hc hrun
            refine lv_iconst (v := 1) hx hb dX11_bears_66 (by decide) ?_
            refine lv_goto (tgt := 71) hx hb dX11_bears_67 (by decide) ?_
            exact hB71 x1 x2 x3 x4 x5 (1 : Int32) _ _ _ hS (lv_sub hl [0, 1, 2, 3, 4, 5] rfl) hrun
  unfold fX11_bears at hrun
  refine lv_aload_n hx hb dX11_bears_0 rfl (lv_at hl 0 rfl) ?_
  refine lv_iload_n hx hb dX11_bears_1 rfl (lv_at hl 1 rfl) ?_
  obtain ⟨r_2, hc_1, hrun⟩ := bdE hrun
  refine qX11_290 B hS hc_1 hl.1 (Nat.le_of_ble_eq_true rfl) ⟨Nat.le_of_ble_eq_true rfl, Nat.le_of_ble_eq_true rfl⟩ ⟨Nat.zero_le _, Nat.zero_le _⟩ dX11_bears_2 (fun H locs hS => ?_)
  refine lv_if_eq (tgt := 16) hx hb dX11_bears_5 (by decide) (fun hc => ?_) (fun hc => ?_)
  · have hrun := ip hc hrun
    refine lv_ldc (v := -1000000001) hx hb hown (hts _ (tw_5 111 rfl rfl)) dX11_bears_16 ?_
    exact hret _ _ _ _ _ _ (congrArg (Option.map (fun w => (w, t))) hrun) rfl hS dX11_bears_18
  · have hrun := iq hc hrun
    refine lv_aload_n hx hb dX11_bears_8 rfl (lv_at hl 0 rfl) ?_
    refine lv_iload_n hx hb dX11_bears_9 rfl (lv_at hl 2 rfl) ?_
    obtain ⟨r_4, hc_3, hrun⟩ := bdE hrun
    refine qX11_232 B hS hc_3 hl.1 (Nat.le_of_ble_eq_true rfl) ⟨Nat.le_of_ble_eq_true rfl, Nat.le_of_ble_eq_true rfl⟩ ⟨Nat.zero_le _, Nat.zero_le _⟩ dX11_bears_10 (fun H locs hS => ?_)
    refine lv_if_ne (tgt := 19) hx hb dX11_bears_13 (by decide) (fun hc => ?_) (fun hc => ?_)
    · have hrun := iq hc hrun
      refine lv_iload_n hx hb dX11_bears_19 rfl (lv_at hl 3 rfl) ?_
      refine lv_i2l hx hb dX11_bears_20 rfl ?_
      refine lv_lconst (v := 0) hx hb dX11_bears_21 (by decide) ?_
      refine lv_lconst (v := 1) hx hb dX11_bears_22 (by decide) ?_
      obtain ⟨r_6, hc_5, hrun⟩ := bdE hrun
      refine qX11_84 B hS hc_5 hl.1 (Nat.le_of_ble_eq_true rfl) ⟨Nat.le_of_ble_eq_true rfl, Nat.le_of_ble_eq_true rfl⟩ ⟨Nat.zero_le _, Nat.zero_le _⟩ dX11_bears_23 (fun H locs hS => ?_)
      refine lv_if_ne (tgt := 32) hx hb dX11_bears_26 (by decide) (fun hc => ?_) (fun hc => ?_)
      · have hrun := iq hc hrun
        refine lv_iconst (v := 0) hx hb dX11_bears_32 (by decide) ?_
        refine lv_istore (lv' := [(4, .int (0 : Int32)), (0, .ref (X.2.1 144)), (1, .int x1), (2, .int x2), (3, .int x3)]) hx hb dX11_bears_33 hl (by decide) rfl (fun ls hl => ?_)
        refine lv_iconst (v := 1) hx hb dX11_bears_35 (by decide) ?_
        refine lv_istore (lv' := [(5, .int (1 : Int32)), (4, .int (0 : Int32)), (0, .ref (X.2.1 144)), (1, .int x1), (2, .int x2), (3, .int x3)]) hx hb dX11_bears_36 hl (by decide) rfl (fun ls hl => ?_)
        exact hB38 fuelN x1 x2 x3 (0 : Int32) (1 : Int32) _ _ _ hS (lv_sub hl [2, 3, 4, 5, 1, 0] rfl) hrun
      · have hrun := ip hc hrun
        refine lv_ldc (v := -1000000002) hx hb hown (hts _ (tw_4 220 rfl rfl)) dX11_bears_29 ?_
        exact hret _ _ _ _ _ _ (congrArg (Option.map (fun w => (w, t))) hrun) rfl hS dX11_bears_31
    · have hrun := ip hc hrun
      refine lv_ldc (v := -1000000001) hx hb hown (hts _ (tw_5 111 rfl rfl)) dX11_bears_16 ?_
      exact hret _ _ _ _ _ _ (congrArg (Option.map (fun w => (w, t))) hrun) rfl hS dX11_bears_18
theorem mdX11_canSing : MD yX11_canSing 3 := ⟨by decide +kernel, by decide +kernel, by decide +kernel⟩
set_option maxHeartbeats 4000000 in
set_option maxRecDepth 100000 in
theorem kX11_canSing (l : Launch) (X : Cx) (t : St) (x1 : Int32) (x2 : Int32) (x3 : Int32) (r : Int32) (hrun : fX11_canSing t x1 x2 x3 = some r) : Ci l X t yX11_canSing cX11_canSing 4 .boolean 1 21 [.ref (X.2.1 144), .int x1, .int x2, .int x3] r t := by
  refine Ci_of (by decide) (Nat.le_of_ble_eq_true rfl) ?_
  intro p e s m args below meth c Q B hret hS ls hl
  have hx := B.1
  have hb := B.2.1
  have hown := B.2.2.2.1
  have hts := B.2.2.2.2.1
  have hl : lv_has ls 4 [(0, .ref (X.2.1 144)), (1, .int x1), (2, .int x2), (3, .int x3)] := hl
  unfold fX11_canSing at hrun
  refine lv_iload_n hx hb dX11_canSing_0 rfl (lv_at hl 1 rfl) ?_
  refine lv_iload_n hx hb dX11_canSing_1 rfl (lv_at hl 3 rfl) ?_
  obtain ⟨r_2, hc_1, hrun⟩ := bdE hrun
  refine qX11_203 B hS hc_1 hl.1 (Nat.le_of_ble_eq_true rfl) ⟨Nat.le_of_ble_eq_true rfl, Nat.le_of_ble_eq_true rfl⟩ ⟨Nat.zero_le _, Nat.zero_le _⟩ dX11_canSing_2 (fun H locs hS => ?_)
  refine lv_if_eq (tgt := 25) hx hb dX11_canSing_5 (by decide) (fun hc => ?_) (fun hc => ?_)
  · have hrun := ip hc hrun
    refine lv_iconst (v := 0) hx hb dX11_canSing_25 (by decide) ?_
    exact hret _ _ _ _ _ _ (congrArg (Option.map (fun w => (w, t))) hrun) rfl hS dX11_canSing_26
  · have hrun := iq hc hrun
    refine lv_aload_n hx hb dX11_canSing_8 rfl (lv_at hl 0 rfl) ?_
    refine gX11_19 B hS dX11_canSing_9 ?_
    refine lv_iload_n hx hb dX11_canSing_12 rfl (lv_at hl 3 rfl) ?_
    obtain ⟨hi_3, hrun⟩ := gdE hrun
    refine xa B hS ia_148 hi_3 dX11_canSing_13 ?_
    refine lv_iload_n hx hb dX11_canSing_14 rfl (lv_at hl 2 rfl) ?_
    obtain ⟨r_5, hc_4, hrun⟩ := bdE hrun
    refine qX11_203 B hS hc_4 hl.1 (Nat.le_of_ble_eq_true rfl) ⟨Nat.le_of_ble_eq_true rfl, Nat.le_of_ble_eq_true rfl⟩ ⟨Nat.zero_le _, Nat.zero_le _⟩ dX11_canSing_15 (fun H locs hS => ?_)
    refine lv_if_eq (tgt := 25) hx hb dX11_canSing_18 (by decide) (fun hc => ?_) (fun hc => ?_)
    · have hrun := ip hc hrun
      refine lv_iconst (v := 0) hx hb dX11_canSing_25 (by decide) ?_
      exact hret _ _ _ _ _ _ (congrArg (Option.map (fun w => (w, t))) hrun) rfl hS dX11_canSing_26
    · have hrun := iq hc hrun
      refine lv_iconst (v := 1) hx hb dX11_canSing_21 (by decide) ?_
      refine lv_goto (tgt := 26) hx hb dX11_canSing_22 (by decide) ?_
      exact hret _ _ _ _ _ _ (congrArg (Option.map (fun w => (w, t))) hrun) rfl hS dX11_canSing_26
theorem mdX11_leastAt : MD yX11_leastAt 3 := ⟨by decide +kernel, by decide +kernel, by decide +kernel⟩
section QX11_leastAt
variable {p : Program} {l : Launch} {e : Env} {R : Room} {s : State} {m : MethodId} {args : Array Value} {below : List Frame} {meth : Method} {c : Code} {H : Heap} {locs : List Loc} {cells slots : Nat} {Q : State → Prop}
variable {cc : ByteArray} {pc : Nat} {ls : Array Slot} {rest : List Value} {X : Cx} {t : St} {H0 : Heap} {nL : Nat}
theorem qX11_297 (B : Bx p s m args c cc nL X RX11) (hS : SS X t H0 H locs) {x1 : Int32} {x2 : Int32} {x3 : Int32} {r : Int32} (hM : fX11_canSing t x1 x2 x3 = some r) (hsz : ls.size = nL) (hW : (rest.map fun v => v.category).sum ≤ 8) (hR : 1 + 1 ≤ R.frames ∧ 8 + (4 + 11) + 21 ≤ R.locals) (hR2 : cells ≤ R.cells ∧ slots ≤ R.slots) (hdg : decode cc pc = .ok (.invokevirtual 297, 3)) (kk : ∀ (H1 : Heap) (locs1 : List Loc), SS X t H0 H1 locs1 → W p l e R s m args below meth c H1 locs1 cells slots Q (F0 m (pc + 3) ls (.int r :: rest))) : W p l e R s m args below meth c H locs cells slots Q (F0 m pc ls (.int x3 :: .int x2 :: .int x1 :: .ref (X.2.1 144) :: rest)) :=
  xVi B hS (kX11_canSing l X t x1 x2 x3 r hM) (tw_6 12 rfl rfl) (tw_6 14 rfl rfl) (tw_0 63 rfl rfl) (tw_1 12 rfl rfl) (tw_6 15 rfl rfl) mdX11_canSing (by decide) (ceX11 _) rfl rfl rfl hsz rfl hW hR hR2 hdg kk
end QX11_leastAt
set_option maxHeartbeats 4000000 in
set_option maxRecDepth 100000 in
theorem kX11_leastAt (l : Launch) (X : Cx) (t : St) (x1 : Int32) (x2 : Int32) (x3 : Int32) (r : Int32) (hrun : fX11_leastAt t x1 x2 x3 = some r) : Ci l X t yX11_leastAt cX11_leastAt 7 .int 2 44 [.ref (X.2.1 144), .int x1, .int x2, .int x3] r t := by
  refine Ci_of (by decide) (Nat.le_of_ble_eq_true rfl) ?_
  intro p e s m args below meth c Q B hret hS ls hl
  have hx := B.1
  have hb := B.2.1
  have hown := B.2.2.2.1
  have hts := B.2.2.2.2.1
  have hl : lv_has ls 7 [(0, .ref (X.2.1 144)), (1, .int x1), (2, .int x2), (3, .int x3)] := hl
  have hB8 : ∀ (n8 : Nat) (x1 : Int32) (x2 : Int32) (x3 : Int32) (x4 : Int32) (x5 : Int32) (H : Heap) (locs : List Loc) (ls : Array Slot), SS X t s.heap H locs → lv_has ls 7 [(0, .ref (X.2.1 144)), (1, .int x1), (2, .int x2), (3, .int x3), (4, .int x4), (5, .int x5)] → fX11_leastAt_8 t n8 x1 x2 x3 x4 x5 = some r → W p l e ({ frames := 2, cells := 0, slots := 0, locals := 44 } : Room) s m args below meth c H locs 0 0 Q (F0 m 8 ls []) := by
    intro n8
    induction n8 with
    | zero =>
      intro x1 x2 x3 x4 x5 H locs ls hS hl hrun
      cases (show (none : Option (Int32)) = some r from hrun)
    | succ n8 ih8 =>
      have hB62 : ∀ (x1 : Int32) (x2 : Int32) (x3 : Int32) (x4 : Int32) (x5 : Int32) (y0 : Int32) (H : Heap) (locs : List Loc) (ls : Array Slot), SS X t s.heap H locs → lv_has ls 7 [(0, .ref (X.2.1 144)), (1, .int x1), (2, .int x2), (3, .int x3), (4, .int x4), (5, .int x5)] → fX11_leastAt_62 t (fX11_leastAt_8 t n8) x1 x2 x3 x4 x5 y0 = some r → W p l e ({ frames := 2, cells := 0, slots := 0, locals := 44 } : Room) s m args below meth c H locs 0 0 Q (F0 m 62 ls [.int y0]) := by
        intro x1 x2 x3 x4 x5 y0 H locs ls hS hl hrun
        unfold fX11_leastAt_62 at hrun
        refine lv_istore (lv' := [(6, .int y0), (0, .ref (X.2.1 144)), (1, .int x1), (2, .int x2), (3, .int x3), (4, .int x4), (5, .int x5)]) hx hb dX11_leastAt_62 hl (by decide) rfl (fun ls hl => ?_)
        refine lv_iload hx hb dX11_leastAt_64 (lv_at hl 0 rfl) ?_
        refine lv_iload hx hb dX11_leastAt_66 (lv_at hl 5 rfl) ?_
        refine lv_icmp_ge (tgt := 76) hx hb dX11_leastAt_68 (by decide) (fun hc => ?_) (fun hc => ?_)
        · have hrun := ip hc hrun
          refine lv_iload hx hb dX11_leastAt_76 (lv_at hl 5 rfl) ?_
          refine lv_istore (lv' := [(4, .int x4), (6, .int y0), (0, .ref (X.2.1 144)), (1, .int x1), (2, .int x2), (3, .int x3), (5, .int x5)]) hx hb dX11_leastAt_78 hl (by decide) rfl (fun ls hl => ?_)
          refine lv_iinc (v := x5 + (1 : Int32)) (k := 6) (lv' := [(5, .int (x5 + (1 : Int32))), (4, .int x4), (6, .int y0), (0, .ref (X.2.1 144)), (1, .int x1), (2, .int x2), (3, .int x3)]) hx hb dX11_leastAt_80 hl rfl rfl (by decide) rfl (fun ls hl => ?_)
          refine lv_goto (tgt := 8) hx hb dX11_leastAt_83 (by decide) ?_
          exact ih8 x1 x2 x3 x4 (x5 + (1 : Int32)) _ _ _ hS (lv_sub hl [3, 4, 5, 6, 1, 0] rfl) hrun
        · have hrun := iq hc hrun
          refine lv_iload hx hb dX11_leastAt_71 (lv_at hl 0 rfl) ?_
          refine lv_goto (tgt := 78) hx hb dX11_leastAt_73 (by decide) ?_
          refine lv_istore (lv' := [(4, .int y0), (6, .int y0), (0, .ref (X.2.1 144)), (1, .int x1), (2, .int x2), (3, .int x3), (5, .int x5)]) hx hb dX11_leastAt_78 hl (by decide) rfl (fun ls hl => ?_)
          refine lv_iinc (v := x5 + (1 : Int32)) (k := 6) (lv' := [(5, .int (x5 + (1 : Int32))), (4, .int y0), (6, .int y0), (0, .ref (X.2.1 144)), (1, .int x1), (2, .int x2), (3, .int x3)]) hx hb dX11_leastAt_80 hl rfl rfl (by decide) rfl (fun ls hl => ?_)
          refine lv_goto (tgt := 8) hx hb dX11_leastAt_83 (by decide) ?_
          exact ih8 x1 x2 x3 y0 (x5 + (1 : Int32)) _ _ _ hS (lv_sub hl [3, 4, 5, 6, 1, 0] rfl) hrun
      have hB55 : ∀ (x1 : Int32) (x2 : Int32) (x3 : Int32) (x4 : Int32) (x5 : Int32) (y0 : Int32) (y1 : Int32) (H : Heap) (locs : List Loc) (ls : Array Slot), SS X t s.heap H locs → lv_has ls 7 [(0, .ref (X.2.1 144)), (1, .int x1), (2, .int x2), (3, .int x3), (4, .int x4), (5, .int x5)] → fX11_leastAt_55 t (fX11_leastAt_8 t n8) x1 x2 x3 x4 x5 y0 y1 = some r → W p l e ({ frames := 2, cells := 0, slots := 0, locals := 44 } : Room) s m args below meth c H locs 0 0 Q (F0 m 55 ls [.int y1, .int y0]) := by
        intro x1 x2 x3 x4 x5 y0 y1 H locs ls hS hl hrun
        unfold fX11_leastAt_55 at hrun
        refine lv_iadd hx hb dX11_leastAt_55 ?_
        refine lv_goto (tgt := 62) hx hb dX11_leastAt_56 (by decide) ?_
        exact hB62 x1 x2 x3 x4 x5 (y0 + y1) _ _ _ hS (lv_sub hl [0, 1, 2, 3, 4, 5] rfl) hrun
      have hB54 : ∀ (x1 : Int32) (x2 : Int32) (x3 : Int32) (x4 : Int32) (x5 : Int32) (y0 : Int32) (H : Heap) (locs : List Loc) (ls : Array Slot), SS X t s.heap H locs → lv_has ls 7 [(0, .ref (X.2.1 144)), (1, .int x1), (2, .int x2), (3, .int x3), (4, .int x4), (5, .int x5)] → fX11_leastAt_54 t (fX11_leastAt_8 t n8) x1 x2 x3 x4 x5 y0 = some r → W p l e ({ frames := 2, cells := 0, slots := 0, locals := 44 } : Room) s m args below meth c H locs 0 0 Q (F0 m 54 ls [.int y0]) := by
        intro x1 x2 x3 x4 x5 y0 H locs ls hS hl hrun
        unfold fX11_leastAt_54 at hrun
        refine lv_iconst (v := 0) hx hb dX11_leastAt_54 (by decide) ?_
        exact hB55 x1 x2 x3 x4 x5 y0 (0 : Int32) _ _ _ hS (lv_sub hl [0, 1, 2, 3, 4, 5] rfl) hrun
      intro x1 x2 x3 x4 x5 H locs ls hS hl hrun
      rw [fX11_leastAt_8_s] at hrun
      refine lv_iload hx hb dX11_leastAt_8 (lv_at hl 5 rfl) ?_
      refine lv_aload_n hx hb dX11_leastAt_10 rfl (lv_at hl 0 rfl) ?_
      refine gX11_81 B hS dX11_leastAt_11 ?_
      refine lv_icmp_ge (tgt := 86) hx hb dX11_leastAt_14 (by decide) (fun hc => ?_) (fun hc => ?_)
      · have hrun := ip hc hrun
        refine lv_iload hx hb dX11_leastAt_86 (lv_at hl 4 rfl) ?_
        exact hret _ _ _ _ _ _ (congrArg (Option.map (fun w => (w, t))) hrun) rfl hS dX11_leastAt_88
      · have hrun := iq hc hrun
        refine lv_aload_n hx hb dX11_leastAt_17 rfl (lv_at hl 0 rfl) ?_
        refine lv_iload_n hx hb dX11_leastAt_18 rfl (lv_at hl 1 rfl) ?_
        refine lv_iload_n hx hb dX11_leastAt_19 rfl (lv_at hl 2 rfl) ?_
        refine lv_iload hx hb dX11_leastAt_20 (lv_at hl 5 rfl) ?_
        obtain ⟨r_1010, hc_1009, hrun⟩ := bdE hrun
        refine qX11_297 B hS hc_1009 hl.1 (Nat.le_of_ble_eq_true rfl) ⟨Nat.le_of_ble_eq_true rfl, Nat.le_of_ble_eq_true rfl⟩ ⟨Nat.zero_le _, Nat.zero_le _⟩ dX11_leastAt_22 (fun H locs hS => ?_)
        refine lv_if_eq (tgt := 59) hx hb dX11_leastAt_25 (by decide) (fun hc => ?_) (fun hc => ?_)
        · have hrun := ip hc hrun
          refine lv_ldcw (v := 1000000) hx hb hown (hts _ (tw_6 11 rfl rfl)) dX11_leastAt_59 ?_
          exact hB62 x1 x2 x3 x4 x5 (1000000 : Int32) _ _ _ hS (lv_sub hl [0, 1, 2, 3, 4, 5] rfl) hrun
        · have hrun := iq hc hrun
          refine lv_aload_n hx hb dX11_leastAt_28 rfl (lv_at hl 0 rfl) ?_
          refine gX11_56 B hS dX11_leastAt_29 ?_
          refine lv_bipush (v := 7) hx hb dX11_leastAt_32 (by decide) ?_
          refine lv_iload_n hx hb dX11_leastAt_34 rfl (lv_at hl 2 rfl) ?_
          refine lv_imul hx hb dX11_leastAt_35 ?_
          refine lv_iload hx hb dX11_leastAt_36 (lv_at hl 5 rfl) ?_
          refine lv_iadd hx hb dX11_leastAt_38 ?_
          obtain ⟨hi_1011, hrun⟩ := gdE hrun
          refine xa B hS ia_159 hi_1011 dX11_leastAt_39 ?_
          refine lv_iload_n hx hb dX11_leastAt_40 rfl (lv_at hl 3 rfl) ?_
          refine lv_if_lt (tgt := 54) hx hb dX11_leastAt_41 (by decide) (fun hc => ?_) (fun hc => ?_)
          · have hrun := ip hc hrun
            exact hB54 x1 x2 x3 x4 x5 (t 159 (((7 : Int32) * x2) + x5).toNatClampNeg) _ _ _ hS (lv_sub hl [0, 1, 2, 3, 4, 5] rfl) hrun
          · have hrun := iq hc hrun
            refine lv_iload hx hb dX11_leastAt_44 (lv_at hl 5 rfl) ?_
            refine lv_iload_n hx hb dX11_leastAt_46 rfl (lv_at hl 3 rfl) ?_
            refine lv_icmp_eq (tgt := 54) hx hb dX11_leastAt_47 (by decide) (fun hc => ?_) (fun hc => ?_)
            · have hrun := ip hc hrun
              exact hB54 x1 x2 x3 x4 x5 (t 159 (((7 : Int32) * x2) + x5).toNatClampNeg) _ _ _ hS (lv_sub hl [0, 1, 2, 3, 4, 5] rfl) hrun
            · have hrun := iq hc hrun
              refine lv_iconst (v := 1) hx hb dX11_leastAt_50 (by decide) ?_
              refine lv_goto (tgt := 55) hx hb dX11_leastAt_51 (by decide) ?_
              exact hB55 x1 x2 x3 x4 x5 (t 159 (((7 : Int32) * x2) + x5).toNatClampNeg) (1 : Int32) _ _ _ hS (lv_sub hl [0, 1, 2, 3, 4, 5] rfl) hrun
  unfold fX11_leastAt at hrun
  refine lv_ldcw (v := 1000000) hx hb hown (hts _ (tw_6 11 rfl rfl)) dX11_leastAt_0 ?_
  refine lv_istore (lv' := [(4, .int (1000000 : Int32)), (0, .ref (X.2.1 144)), (1, .int x1), (2, .int x2), (3, .int x3)]) hx hb dX11_leastAt_3 hl (by decide) rfl (fun ls hl => ?_)
  refine lv_iconst (v := 0) hx hb dX11_leastAt_5 (by decide) ?_
  refine lv_istore (lv' := [(5, .int (0 : Int32)), (4, .int (1000000 : Int32)), (0, .ref (X.2.1 144)), (1, .int x1), (2, .int x2), (3, .int x3)]) hx hb dX11_leastAt_6 hl (by decide) rfl (fun ls hl => ?_)
  exact hB8 fuelN x1 x2 x3 (1000000 : Int32) (0 : Int32) _ _ _ hS (lv_sub hl [2, 3, 4, 5, 1, 0] rfl) hrun
theorem mdX11_findChanges : MD yX11_findChanges 1 := ⟨by decide +kernel, by decide +kernel, by decide +kernel⟩
section QX11_findChanges
variable {p : Program} {l : Launch} {e : Env} {R : Room} {s : State} {m : MethodId} {args : Array Value} {below : List Frame} {meth : Method} {c : Code} {H : Heap} {locs : List Loc} {cells slots : Nat} {Q : State → Prop}
variable {cc : ByteArray} {pc : Nat} {ls : Array Slot} {rest : List Value} {X : Cx} {t : St} {H0 : Heap} {nL : Nat}
theorem qX11_301 (B : Bx p s m args c cc nL X RX11) (hS : SS X t H0 H locs) {x1 : Int32} {x2 : Int32} {x3 : Int32} {r : Int32} (hM : fX11_leastAt t x1 x2 x3 = some r) (hsz : ls.size = nL) (hW : (rest.map fun v => v.category).sum ≤ 8) (hR : 2 + 1 ≤ R.frames ∧ 8 + (7 + 11) + 44 ≤ R.locals) (hR2 : cells ≤ R.cells ∧ slots ≤ R.slots) (hdg : decode cc pc = .ok (.invokevirtual 301, 3)) (kk : ∀ (H1 : Heap) (locs1 : List Loc), SS X t H0 H1 locs1 → W p l e R s m args below meth c H1 locs1 cells slots Q (F0 m (pc + 3) ls (.int r :: rest))) : W p l e R s m args below meth c H locs cells slots Q (F0 m pc ls (.int x3 :: .int x2 :: .int x1 :: .ref (X.2.1 144) :: rest)) :=
  xVi B hS (kX11_leastAt l X t x1 x2 x3 r hM) (tw_6 7 rfl rfl) (tw_6 9 rfl rfl) (tw_0 62 rfl rfl) (tw_1 12 rfl rfl) (tw_6 10 rfl rfl) mdX11_leastAt (by decide) (ceX11 _) rfl rfl rfl hsz rfl hW hR hR2 hdg kk
end QX11_findChanges
set_option maxHeartbeats 4000000 in
set_option maxRecDepth 100000 in
theorem kX11_findChanges (l : Launch) (X : Cx) (t : St) (x1 : Int32) (t' : St) (hrun : fX11_findChanges t x1 = some t') : Cv l X t yX11_findChanges cX11_findChanges 4 3 70 [.ref (X.2.1 144), .int x1] t' := by
  refine Cv_of (by decide) (Nat.le_of_ble_eq_true rfl) ?_
  intro p e s m args below meth c Q B hret hS ls hl
  have hx := B.1
  have hb := B.2.1
  have hown := B.2.2.2.1
  have hts := B.2.2.2.2.1
  have hl : lv_has ls 4 [(0, .ref (X.2.1 144)), (1, .int x1)] := hl
  have hB7 : ∀ (n7 : Nat) (t : St) (x1 : Int32) (x2 : Int32) (H : Heap) (locs : List Loc) (ls : Array Slot), SS X t s.heap H locs → lv_has ls 4 [(0, .ref (X.2.1 144)), (1, .int x1), (2, .int x2)] → fX11_findChanges_7 n7 t x1 x2 = some t' → W p l e ({ frames := 3, cells := 0, slots := 0, locals := 70 } : Room) s m args below meth c H locs 0 0 Q (F0 m 7 ls []) := by
    intro n7
    induction n7 with
    | zero =>
      intro t x1 x2 H locs ls hS hl hrun
      cases (show (none : Option (St)) = some t' from hrun)
    | succ n7 ih7 =>
      have hB13 : ∀ (n13 : Nat) (t : St) (x1 : Int32) (x2 : Int32) (x3 : Int32) (H : Heap) (locs : List Loc) (ls : Array Slot), SS X t s.heap H locs → lv_has ls 4 [(0, .ref (X.2.1 144)), (1, .int x1), (2, .int x2), (3, .int x3)] → fX11_findChanges_13 (fX11_findChanges_7 n7) n13 t x1 x2 x3 = some t' → W p l e ({ frames := 3, cells := 0, slots := 0, locals := 70 } : Room) s m args below meth c H locs 0 0 Q (F0 m 13 ls []) := by
        intro n13
        induction n13 with
        | zero =>
          intro t x1 x2 x3 H locs ls hS hl hrun
          cases (show (none : Option (St)) = some t' from hrun)
        | succ n13 ih13 =>
          have hB54 : ∀ (t : St) (x1 : Int32) (x2 : Int32) (x3 : Int32) (y1 : Int32) (y2 : Int32) (H : Heap) (locs : List Loc) (ls : Array Slot), SS X t s.heap H locs → lv_has ls 4 [(0, .ref (X.2.1 144)), (1, .int x1), (2, .int x2), (3, .int x3)] → fX11_findChanges_54 (fX11_findChanges_7 n7) (fX11_findChanges_13 (fX11_findChanges_7 n7) n13) t x1 x2 x3 y1 y2 = some t' → W p l e ({ frames := 3, cells := 0, slots := 0, locals := 70 } : Room) s m args below meth c H locs 0 0 Q (F0 m 54 ls [.int y2, .int y1, .ref (X.2.1 159)]) := by
            intro t x1 x2 x3 y1 y2 H locs ls hS hl hrun
            unfold fX11_findChanges_54 at hrun
            obtain ⟨hi_1055, hrun⟩ := gdE hrun
            refine xs B hS ia_159 hi_1055 dX11_findChanges_54 (fun H locs hS => ?_)
            obtain ⟨t_1056, et, hrun⟩ := bsE hrun
            have hS : SS X t_1056 s.heap H locs := by rw [et]; exact hS
            clear et
            refine lv_iinc (v := x3 + (1 : Int32)) (k := 3) (lv' := [(3, .int (x3 + (1 : Int32))), (0, .ref (X.2.1 144)), (1, .int x1), (2, .int x2)]) hx hb dX11_findChanges_55 hl rfl rfl (by decide) rfl (fun ls hl => ?_)
            refine lv_goto (tgt := 13) hx hb dX11_findChanges_58 (by decide) ?_
            exact ih13 t_1056 x1 x2 (x3 + (1 : Int32)) _ _ _ hS (lv_sub hl [1, 2, 3, 0] rfl) hrun
          intro t x1 x2 x3 H locs ls hS hl hrun
          rw [fX11_findChanges_13_s] at hrun
          refine lv_iload_n hx hb dX11_findChanges_13 rfl (lv_at hl 3 rfl) ?_
          refine lv_aload_n hx hb dX11_findChanges_14 rfl (lv_at hl 0 rfl) ?_
          refine gX11_81 B hS dX11_findChanges_15 ?_
          refine lv_icmp_ge (tgt := 61) hx hb dX11_findChanges_18 (by decide) (fun hc => ?_) (fun hc => ?_)
          · have hrun := ip hc hrun
            refine lv_iinc (v := x2 + (-1 : Int32)) (k := 2) (lv' := [(2, .int (x2 + (-1 : Int32))), (0, .ref (X.2.1 144)), (1, .int x1), (3, .int x3)]) hx hb dX11_findChanges_61 hl rfl rfl (by decide) rfl (fun ls hl => ?_)
            refine lv_goto (tgt := 7) hx hb dX11_findChanges_64 (by decide) ?_
            exact ih7 t x1 (x2 + (-1 : Int32)) _ _ _ hS (lv_sub hl [1, 2, 0] rfl) hrun
          · have hrun := iq hc hrun
            refine lv_aload_n hx hb dX11_findChanges_21 rfl (lv_at hl 0 rfl) ?_
            refine gX11_56 B hS dX11_findChanges_22 ?_
            refine lv_bipush (v := 7) hx hb dX11_findChanges_25 (by decide) ?_
            refine lv_iload_n hx hb dX11_findChanges_27 rfl (lv_at hl 2 rfl) ?_
            refine lv_imul hx hb dX11_findChanges_28 ?_
            refine lv_iload_n hx hb dX11_findChanges_29 rfl (lv_at hl 3 rfl) ?_
            refine lv_iadd hx hb dX11_findChanges_30 ?_
            refine lv_iload_n hx hb dX11_findChanges_31 rfl (lv_at hl 2 rfl) ?_
            refine lv_aload_n hx hb dX11_findChanges_32 rfl (lv_at hl 0 rfl) ?_
            refine gX11_150 B hS dX11_findChanges_33 ?_
            refine lv_iconst (v := 1) hx hb dX11_findChanges_36 (by decide) ?_
            refine lv_isub hx hb dX11_findChanges_37 ?_
            refine lv_icmp_ne (tgt := 45) hx hb dX11_findChanges_38 (by decide) (fun hc => ?_) (fun hc => ?_)
            · have hrun := iq hc hrun
              refine lv_aload_n hx hb dX11_findChanges_45 rfl (lv_at hl 0 rfl) ?_
              refine lv_iload_n hx hb dX11_findChanges_46 rfl (lv_at hl 1 rfl) ?_
              refine lv_iload_n hx hb dX11_findChanges_47 rfl (lv_at hl 2 rfl) ?_
              refine lv_iconst (v := 1) hx hb dX11_findChanges_48 (by decide) ?_
              refine lv_iadd hx hb dX11_findChanges_49 ?_
              refine lv_iload_n hx hb dX11_findChanges_50 rfl (lv_at hl 3 rfl) ?_
              obtain ⟨r_1015, hc_1014, hrun⟩ := bdE hrun
              refine qX11_301 B hS hc_1014 hl.1 (Nat.le_of_ble_eq_true rfl) ⟨Nat.le_of_ble_eq_true rfl, Nat.le_of_ble_eq_true rfl⟩ ⟨Nat.zero_le _, Nat.zero_le _⟩ dX11_findChanges_51 (fun H locs hS => ?_)
              exact hB54 t x1 x2 x3 (((7 : Int32) * x2) + x3) r_1015 _ _ _ hS (lv_sub hl [0, 1, 2, 3] rfl) hrun
            · have hrun := ip hc hrun
              refine lv_iconst (v := 0) hx hb dX11_findChanges_41 (by decide) ?_
              refine lv_goto (tgt := 54) hx hb dX11_findChanges_42 (by decide) ?_
              exact hB54 t x1 x2 x3 (((7 : Int32) * x2) + x3) (0 : Int32) _ _ _ hS (lv_sub hl [0, 1, 2, 3] rfl) hrun
      intro t x1 x2 H locs ls hS hl hrun
      rw [fX11_findChanges_7_s] at hrun
      refine lv_iload_n hx hb dX11_findChanges_7 rfl (lv_at hl 2 rfl) ?_
      refine lv_if_lt (tgt := 67) hx hb dX11_findChanges_8 (by decide) (fun hc => ?_) (fun hc => ?_)
      · have hrun := ip hc hrun
        exact hret _ _ _ _ _ hrun hS dX11_findChanges_67
      · have hrun := iq hc hrun
        refine lv_iconst (v := 0) hx hb dX11_findChanges_11 (by decide) ?_
        refine lv_istore_n (lv' := [(3, .int (0 : Int32)), (0, .ref (X.2.1 144)), (1, .int x1), (2, .int x2)]) hx hb dX11_findChanges_12 rfl hl (by decide) rfl (fun ls hl => ?_)
        exact hB13 fuelN t x1 x2 (0 : Int32) _ _ _ hS (lv_sub hl [1, 2, 3, 0] rfl) hrun
  unfold fX11_findChanges at hrun
  refine lv_aload_n hx hb dX11_findChanges_0 rfl (lv_at hl 0 rfl) ?_
  refine gX11_150 B hS dX11_findChanges_1 ?_
  refine lv_iconst (v := 1) hx hb dX11_findChanges_4 (by decide) ?_
  refine lv_isub hx hb dX11_findChanges_5 ?_
  refine lv_topi (fun x2_1 ex => ?_)
  obtain ⟨z, ez, hrun⟩ := bsE hrun
  obtain rfl : x2_1 = z := ex.trans ez.symm
  clear ex ez
  refine lv_istore_n (lv' := [(2, .int x2_1), (0, .ref (X.2.1 144)), (1, .int x1)]) hx hb dX11_findChanges_6 rfl hl (by decide) rfl (fun ls hl => ?_)
  exact hB7 fuelN t x1 x2_1 _ _ _ hS (lv_sub hl [1, 2, 0] rfl) hrun
theorem mdX11_shared : MD yX11_shared 2 := ⟨by decide +kernel, by decide +kernel, by decide +kernel⟩
section QX11_shared
variable {p : Program} {l : Launch} {e : Env} {R : Room} {s : State} {m : MethodId} {args : Array Value} {below : List Frame} {meth : Method} {c : Code} {H : Heap} {locs : List Loc} {cells slots : Nat} {Q : State → Prop}
variable {cc : ByteArray} {pc : Nat} {ls : Array Slot} {rest : List Value} {X : Cx} {t : St} {H0 : Heap} {nL : Nat}
theorem qX11_307 (B : Bx p s m args c cc nL X RX11) (hS : SS X t H0 H locs) {x1 : Int32} {t' : St} (hM : fX11_findChanges t x1 = some t') (hsz : ls.size = nL) (hW : (rest.map fun v => v.category).sum ≤ 8) (hR : 3 + 1 ≤ R.frames ∧ 8 + (4 + 11) + 70 ≤ R.locals) (hR2 : cells ≤ R.cells ∧ slots ≤ R.slots) (hdg : decode cc pc = .ok (.invokevirtual 307, 3)) (kk : ∀ (H1 : Heap) (locs1 : List Loc), SS X t' H0 H1 locs1 → W p l e R s m args below meth c H1 locs1 cells slots Q (F0 m (pc + 3) ls (rest))) : W p l e R s m args below meth c H locs cells slots Q (F0 m pc ls (.int x1 :: .ref (X.2.1 144) :: rest)) :=
  xVv B hS (kX11_findChanges l X t x1 t' hM) (tw_6 3 rfl rfl) (tw_6 5 rfl rfl) (tw_0 61 rfl rfl) (tw_1 12 rfl rfl) (tw_6 6 rfl rfl) mdX11_findChanges (by decide) (ceX11 _) rfl rfl rfl hsz rfl hW hR hR2 hdg kk
end QX11_shared
set_option maxHeartbeats 4000000 in
set_option maxRecDepth 100000 in
theorem kX11_shared (l : Launch) (X : Cx) (t : St) (x1 : Int32) (x2 : Int32) (r : Int32) (t' : St) (hrun : fX11_shared t x1 x2 = some (r, t')) : Ci l X t yX11_shared cX11_shared 10 .int 4 93 [.ref (X.2.1 144), .int x1, .int x2] r t' := by
  refine Ci_of (by decide) (Nat.le_of_ble_eq_true rfl) ?_
  intro p e s m args below meth c Q B hret hS ls hl
  have hx := B.1
  have hb := B.2.1
  have hown := B.2.2.2.1
  have hts := B.2.2.2.2.1
  have hl : lv_has ls 10 [(0, .ref (X.2.1 144)), (1, .int x1), (2, .int x2)] := hl
  have hB86 : ∀ (n86 : Nat) (t : St) (x1 : Int32) (x2 : Int32) (x4 : Int32) (x5 : Int32) (H : Heap) (locs : List Loc) (ls : Array Slot), SS X t s.heap H locs → lv_has ls 10 [(0, .ref (X.2.1 144)), (1, .int x1), (2, .int x2), (4, .int x4), (5, .int x5)] → fX11_shared_86 n86 t x1 x2 x4 x5 = some (r, t') → W p l e ({ frames := 4, cells := 0, slots := 0, locals := 93 } : Room) s m args below meth c H locs 0 0 Q (F0 m 86 ls []) := by
    intro n86
    induction n86 with
    | zero =>
      intro t x1 x2 x4 x5 H locs ls hS hl hrun
      cases (show (none : Option (Int32 × St)) = some (r, t') from hrun)
    | succ n86 ih86 =>
      have hB115 : ∀ (n115 : Nat) (t : St) (x1 : Int32) (x2 : Int32) (x4 : Int32) (x5 : Int32) (x6 : Int32) (x7 : Int32) (x8 : Int32) (H : Heap) (locs : List Loc) (ls : Array Slot), SS X t s.heap H locs → lv_has ls 10 [(0, .ref (X.2.1 144)), (1, .int x1), (2, .int x2), (4, .int x4), (5, .int x5), (6, .int x6), (7, .int x7), (8, .int x8)] → fX11_shared_115 (fX11_shared_86 n86) n115 t x1 x2 x4 x5 x6 x7 x8 = some (r, t') → W p l e ({ frames := 4, cells := 0, slots := 0, locals := 93 } : Room) s m args below meth c H locs 0 0 Q (F0 m 115 ls []) := by
        intro n115
        induction n115 with
        | zero =>
          intro t x1 x2 x4 x5 x6 x7 x8 H locs ls hS hl hrun
          cases (show (none : Option (Int32 × St)) = some (r, t') from hrun)
        | succ n115 ih115 =>
          have hB173 : ∀ (t : St) (x1 : Int32) (x2 : Int32) (x4 : Int32) (x5 : Int32) (x6 : Int32) (x7 : Int32) (x8 : Int32) (y0 : Int32) (H : Heap) (locs : List Loc) (ls : Array Slot), SS X t s.heap H locs → lv_has ls 10 [(0, .ref (X.2.1 144)), (1, .int x1), (2, .int x2), (4, .int x4), (5, .int x5), (6, .int x6), (7, .int x7), (8, .int x8)] → fX11_shared_173 (fX11_shared_86 n86) (fX11_shared_115 (fX11_shared_86 n86) n115) t x1 x2 x4 x5 x6 x7 x8 y0 = some (r, t') → W p l e ({ frames := 4, cells := 0, slots := 0, locals := 93 } : Room) s m args below meth c H locs 0 0 Q (F0 m 173 ls [.int y0]) := by
            intro t x1 x2 x4 x5 x6 x7 x8 y0 H locs ls hS hl hrun
            unfold fX11_shared_173 at hrun
            refine lv_istore (lv' := [(9, .int y0), (0, .ref (X.2.1 144)), (1, .int x1), (2, .int x2), (4, .int x4), (5, .int x5), (6, .int x6), (7, .int x7), (8, .int x8)]) hx hb dX11_shared_173 hl (by decide) rfl (fun ls hl => ?_)
            refine lv_iload hx hb dX11_shared_175 (lv_at hl 0 rfl) ?_
            refine lv_if_eq (tgt := 185) hx hb dX11_shared_177 (by decide) (fun hc => ?_) (fun hc => ?_)
            · have hrun := ip hc hrun
              refine lv_iload hx hb dX11_shared_185 (lv_at hl 4 rfl) ?_
              refine lv_istore (lv' := [(4, .int x4), (9, .int y0), (0, .ref (X.2.1 144)), (1, .int x1), (2, .int x2), (5, .int x5), (6, .int x6), (7, .int x7), (8, .int x8)]) hx hb dX11_shared_187 hl (by decide) rfl (fun ls hl => ?_)
              refine lv_iinc (v := x8 + (-1 : Int32)) (k := 8) (lv' := [(8, .int (x8 + (-1 : Int32))), (4, .int x4), (9, .int y0), (0, .ref (X.2.1 144)), (1, .int x1), (2, .int x2), (5, .int x5), (6, .int x6), (7, .int x7)]) hx hb dX11_shared_189 hl rfl rfl (by decide) rfl (fun ls hl => ?_)
              refine lv_goto (tgt := 115) hx hb dX11_shared_192 (by decide) ?_
              exact ih115 t x1 x2 x4 x5 x6 x7 (x8 + (-1 : Int32)) _ _ _ hS (lv_sub hl [3, 4, 5, 1, 6, 7, 8, 0] rfl) hrun
            · have hrun := iq hc hrun
              refine lv_iload hx hb dX11_shared_180 (lv_at hl 8 rfl) ?_
              refine lv_goto (tgt := 187) hx hb dX11_shared_182 (by decide) ?_
              refine lv_istore (lv' := [(4, .int x8), (9, .int y0), (0, .ref (X.2.1 144)), (1, .int x1), (2, .int x2), (5, .int x5), (6, .int x6), (7, .int x7), (8, .int x8)]) hx hb dX11_shared_187 hl (by decide) rfl (fun ls hl => ?_)
              refine lv_iinc (v := x8 + (-1 : Int32)) (k := 8) (lv' := [(8, .int (x8 + (-1 : Int32))), (4, .int x8), (9, .int y0), (0, .ref (X.2.1 144)), (1, .int x1), (2, .int x2), (5, .int x5), (6, .int x6), (7, .int x7)]) hx hb dX11_shared_189 hl rfl rfl (by decide) rfl (fun ls hl => ?_)
              refine lv_goto (tgt := 115) hx hb dX11_shared_192 (by decide) ?_
              exact ih115 t x1 x2 x8 x5 x6 x7 (x8 + (-1 : Int32)) _ _ _ hS (lv_sub hl [3, 4, 5, 1, 6, 7, 8, 0] rfl) hrun
          have hB172 : ∀ (t : St) (x1 : Int32) (x2 : Int32) (x4 : Int32) (x5 : Int32) (x6 : Int32) (x7 : Int32) (x8 : Int32) (H : Heap) (locs : List Loc) (ls : Array Slot), SS X t s.heap H locs → lv_has ls 10 [(0, .ref (X.2.1 144)), (1, .int x1), (2, .int x2), (4, .int x4), (5, .int x5), (6, .int x6), (7, .int x7), (8, .int x8)] → fX11_shared_172 (fX11_shared_86 n86) (fX11_shared_115 (fX11_shared_86 n86) n115) t x1 x2 x4 x5 x6 x7 x8 = some (r, t') → W p l e ({ frames := 4, cells := 0, slots := 0, locals := 93 } : Room) s m args below meth c H locs 0 0 Q (F0 m 172 ls []) := by
            intro t x1 x2 x4 x5 x6 x7 x8 H locs ls hS hl hrun
            unfold fX11_shared_172 at hrun
            refine lv_iconst (v := 0) hx hb dX11_shared_172 (by decide) ?_
            exact hB173 t x1 x2 x4 x5 x6 x7 x8 (0 : Int32) _ _ _ hS (lv_sub hl [0, 1, 2, 3, 4, 5, 6, 7] rfl) hrun
          have hB162 : ∀ (t : St) (x1 : Int32) (x2 : Int32) (x4 : Int32) (x5 : Int32) (x6 : Int32) (x7 : Int32) (x8 : Int32) (y0 : Int32) (y1 : Int32) (H : Heap) (locs : List Loc) (ls : Array Slot), SS X t s.heap H locs → lv_has ls 10 [(0, .ref (X.2.1 144)), (1, .int x1), (2, .int x2), (4, .int x4), (5, .int x5), (6, .int x6), (7, .int x7), (8, .int x8)] → fX11_shared_162 (fX11_shared_86 n86) (fX11_shared_115 (fX11_shared_86 n86) n115) t x1 x2 x4 x5 x6 x7 x8 y0 y1 = some (r, t') → W p l e ({ frames := 4, cells := 0, slots := 0, locals := 93 } : Room) s m args below meth c H locs 0 0 Q (F0 m 162 ls [.int y1, .int y0]) := by
            intro t x1 x2 x4 x5 x6 x7 x8 y0 y1 H locs ls hS hl hrun
            unfold fX11_shared_162 at hrun
            refine lv_iadd hx hb dX11_shared_162 ?_
            refine lv_iload hx hb dX11_shared_163 (lv_at hl 6 rfl) ?_
            refine lv_icmp_ne (tgt := 172) hx hb dX11_shared_165 (by decide) (fun hc => ?_) (fun hc => ?_)
            · have hrun := iq hc hrun
              exact hB172 t x1 x2 x4 x5 x6 x7 x8 _ _ _ hS (lv_sub hl [0, 1, 2, 3, 4, 5, 6, 7] rfl) hrun
            · have hrun := ip hc hrun
              refine lv_iconst (v := 1) hx hb dX11_shared_168 (by decide) ?_
              refine lv_goto (tgt := 173) hx hb dX11_shared_169 (by decide) ?_
              exact hB173 t x1 x2 x4 x5 x6 x7 x8 (1 : Int32) _ _ _ hS (lv_sub hl [0, 1, 2, 3, 4, 5, 6, 7] rfl) hrun
          have hB161 : ∀ (t : St) (x1 : Int32) (x2 : Int32) (x4 : Int32) (x5 : Int32) (x6 : Int32) (x7 : Int32) (x8 : Int32) (y0 : Int32) (H : Heap) (locs : List Loc) (ls : Array Slot), SS X t s.heap H locs → lv_has ls 10 [(0, .ref (X.2.1 144)), (1, .int x1), (2, .int x2), (4, .int x4), (5, .int x5), (6, .int x6), (7, .int x7), (8, .int x8)] → fX11_shared_161 (fX11_shared_86 n86) (fX11_shared_115 (fX11_shared_86 n86) n115) t x1 x2 x4 x5 x6 x7 x8 y0 = some (r, t') → W p l e ({ frames := 4, cells := 0, slots := 0, locals := 93 } : Room) s m args below meth c H locs 0 0 Q (F0 m 161 ls [.int y0]) := by
            intro t x1 x2 x4 x5 x6 x7 x8 y0 H locs ls hS hl hrun
            unfold fX11_shared_161 at hrun
            refine lv_iconst (v := 0) hx hb dX11_shared_161 (by decide) ?_
            exact hB162 t x1 x2 x4 x5 x6 x7 x8 y0 (0 : Int32) _ _ _ hS (lv_sub hl [0, 1, 2, 3, 4, 5, 6, 7] rfl) hrun
          intro t x1 x2 x4 x5 x6 x7 x8 H locs ls hS hl hrun
          rw [fX11_shared_115_s] at hrun
          refine lv_iload hx hb dX11_shared_115 (lv_at hl 7 rfl) ?_
          refine lv_if_lt (tgt := 195) hx hb dX11_shared_117 (by decide) (fun hc => ?_) (fun hc => ?_)
          · have hrun := ip hc hrun
            refine lv_iinc (v := x5 + (1 : Int32)) (k := 4) (lv' := [(5, .int (x5 + (1 : Int32))), (0, .ref (X.2.1 144)), (1, .int x1), (2, .int x2), (4, .int x4), (6, .int x6), (7, .int x7), (8, .int x8)]) hx hb dX11_shared_195 hl rfl rfl (by decide) rfl (fun ls hl => ?_)
            refine lv_goto (tgt := 86) hx hb dX11_shared_198 (by decide) ?_
            exact ih86 t x1 x2 x4 (x5 + (1 : Int32)) _ _ _ hS (lv_sub hl [1, 2, 3, 4, 0] rfl) hrun
          · have hrun := iq hc hrun
            refine lv_aload_n hx hb dX11_shared_120 rfl (lv_at hl 0 rfl) ?_
            refine lv_iload_n hx hb dX11_shared_121 rfl (lv_at hl 1 rfl) ?_
            refine lv_iload hx hb dX11_shared_122 (lv_at hl 4 rfl) ?_
            refine lv_iload hx hb dX11_shared_124 (lv_at hl 7 rfl) ?_
            obtain ⟨r_1117, hc_1116, hrun⟩ := bdE hrun
            refine qX11_297 B hS hc_1116 hl.1 (Nat.le_of_ble_eq_true rfl) ⟨Nat.le_of_ble_eq_true rfl, Nat.le_of_ble_eq_true rfl⟩ ⟨Nat.zero_le _, Nat.zero_le _⟩ dX11_shared_126 (fun H locs hS => ?_)
            refine lv_if_eq (tgt := 172) hx hb dX11_shared_129 (by decide) (fun hc => ?_) (fun hc => ?_)
            · have hrun := ip hc hrun
              exact hB172 t x1 x2 x4 x5 x6 x7 x8 _ _ _ hS (lv_sub hl [0, 1, 2, 3, 4, 5, 6, 7] rfl) hrun
            · have hrun := iq hc hrun
              refine lv_aload_n hx hb dX11_shared_132 rfl (lv_at hl 0 rfl) ?_
              refine gX11_56 B hS dX11_shared_133 ?_
              refine lv_bipush (v := 7) hx hb dX11_shared_136 (by decide) ?_
              refine lv_iload hx hb dX11_shared_138 (lv_at hl 4 rfl) ?_
              refine lv_imul hx hb dX11_shared_140 ?_
              refine lv_iload hx hb dX11_shared_141 (lv_at hl 7 rfl) ?_
              refine lv_iadd hx hb dX11_shared_143 ?_
              obtain ⟨hi_1118, hrun⟩ := gdE hrun
              refine xa B hS ia_159 hi_1118 dX11_shared_144 ?_
              refine lv_iload hx hb dX11_shared_145 (lv_at hl 5 rfl) ?_
              refine lv_if_lt (tgt := 161) hx hb dX11_shared_147 (by decide) (fun hc => ?_) (fun hc => ?_)
              · have hrun := ip hc hrun
                exact hB161 t x1 x2 x4 x5 x6 x7 x8 (t 159 (((7 : Int32) * x5) + x8).toNatClampNeg) _ _ _ hS (lv_sub hl [0, 1, 2, 3, 4, 5, 6, 7] rfl) hrun
              · have hrun := iq hc hrun
                refine lv_iload hx hb dX11_shared_150 (lv_at hl 7 rfl) ?_
                refine lv_iload hx hb dX11_shared_152 (lv_at hl 5 rfl) ?_
                refine lv_icmp_eq (tgt := 161) hx hb dX11_shared_154 (by decide) (fun hc => ?_) (fun hc => ?_)
                · have hrun := ip hc hrun
                  exact hB161 t x1 x2 x4 x5 x6 x7 x8 (t 159 (((7 : Int32) * x5) + x8).toNatClampNeg) _ _ _ hS (lv_sub hl [0, 1, 2, 3, 4, 5, 6, 7] rfl) hrun
                · have hrun := iq hc hrun
                  refine lv_iconst (v := 1) hx hb dX11_shared_157 (by decide) ?_
                  refine lv_goto (tgt := 162) hx hb dX11_shared_158 (by decide) ?_
                  exact hB162 t x1 x2 x4 x5 x6 x7 x8 (t 159 (((7 : Int32) * x5) + x8).toNatClampNeg) (1 : Int32) _ _ _ hS (lv_sub hl [0, 1, 2, 3, 4, 5, 6, 7] rfl) hrun
      intro t x1 x2 x4 x5 H locs ls hS hl hrun
      rw [fX11_shared_86_s] at hrun
      refine lv_iload hx hb dX11_shared_86 (lv_at hl 4 rfl) ?_
      refine lv_iload_n hx hb dX11_shared_88 rfl (lv_at hl 2 rfl) ?_
      refine lv_icmp_gt (tgt := 201) hx hb dX11_shared_89 (by decide) (fun hc => ?_) (fun hc => ?_)
      · have hrun := ip hc hrun
        refine lv_iload hx hb dX11_shared_201 (lv_at hl 3 rfl) ?_
        exact hret _ _ _ _ _ _ hrun rfl hS dX11_shared_203
      · have hrun := iq hc hrun
        refine lv_iload hx hb dX11_shared_92 (lv_at hl 3 rfl) ?_
        refine lv_istore (lv' := [(6, .int x4), (0, .ref (X.2.1 144)), (1, .int x1), (2, .int x2), (4, .int x4), (5, .int x5)]) hx hb dX11_shared_94 hl (by decide) rfl (fun ls hl => ?_)
        refine lv_aload_n hx hb dX11_shared_96 rfl (lv_at hl 1 rfl) ?_
        refine lv_iload_n hx hb dX11_shared_97 rfl (lv_at hl 2 rfl) ?_
        refine lv_iload hx hb dX11_shared_98 (lv_at hl 5 rfl) ?_
        refine lv_iload hx hb dX11_shared_100 (lv_at hl 0 rfl) ?_
        obtain ⟨r_1088, hc_1087, hrun⟩ := bdE hrun
        refine qX11_301 B hS hc_1087 hl.1 (Nat.le_of_ble_eq_true rfl) ⟨Nat.le_of_ble_eq_true rfl, Nat.le_of_ble_eq_true rfl⟩ ⟨Nat.zero_le _, Nat.zero_le _⟩ dX11_shared_102 (fun H locs hS => ?_)
        refine lv_istore (lv' := [(7, .int r_1088), (6, .int x4), (0, .ref (X.2.1 144)), (1, .int x1), (2, .int x2), (4, .int x4), (5, .int x5)]) hx hb dX11_shared_105 hl (by decide) rfl (fun ls hl => ?_)
        refine lv_aload_n hx hb dX11_shared_107 rfl (lv_at hl 2 rfl) ?_
        refine gX11_81 B hS dX11_shared_108 ?_
        refine lv_iconst (v := 1) hx hb dX11_shared_111 (by decide) ?_
        refine lv_isub hx hb dX11_shared_112 ?_
        refine lv_topi (fun x8_1089 ex => ?_)
        obtain ⟨z, ez, hrun⟩ := bsE hrun
        obtain rfl : x8_1089 = z := ex.trans ez.symm
        clear ex ez
        refine lv_istore (lv' := [(8, .int x8_1089), (7, .int r_1088), (6, .int x4), (0, .ref (X.2.1 144)), (1, .int x1), (2, .int x2), (4, .int x4), (5, .int x5)]) hx hb dX11_shared_113 hl (by decide) rfl (fun ls hl => ?_)
        exact hB115 fuelN t x1 x2 x4 x5 x4 r_1088 x8_1089 _ _ _ hS (lv_sub hl [3, 4, 5, 6, 7, 2, 1, 0] rfl) hrun
  have hB67 : ∀ (t : St) (x3 : Int32) (H : Heap) (locs : List Loc) (ls : Array Slot), SS X t s.heap H locs → lv_has ls 10 [(3, .int x3)] → fX11_shared_67 t x3 = some (r, t') → W p l e ({ frames := 4, cells := 0, slots := 0, locals := 93 } : Room) s m args below meth c H locs 0 0 Q (F0 m 67 ls []) := by
    intro t x3 H locs ls hS hl hrun
    unfold fX11_shared_67 at hrun
    refine lv_iload_n hx hb dX11_shared_67 rfl (lv_at hl 0 rfl) ?_
    refine lv_ldcw (v := 1000000) hx hb hown (hts _ (tw_6 11 rfl rfl)) dX11_shared_68 ?_
    refine lv_icmp_lt (tgt := 78) hx hb dX11_shared_71 (by decide) (fun hc => ?_) (fun hc => ?_)
    · have hrun := ip hc hrun
      refine lv_iload_n hx hb dX11_shared_78 rfl (lv_at hl 0 rfl) ?_
      exact hret _ _ _ _ _ _ hrun rfl hS dX11_shared_79
    · have hrun := iq hc hrun
      refine lv_iconst (v := -1) hx hb dX11_shared_74 (by decide) ?_
      refine lv_goto (tgt := 79) hx hb dX11_shared_75 (by decide) ?_
      exact hret _ _ _ _ _ _ hrun rfl hS dX11_shared_79
  unfold fX11_shared at hrun
  refine lv_aload_n hx hb dX11_shared_0 rfl (lv_at hl 0 rfl) ?_
  refine lv_iload_n hx hb dX11_shared_1 rfl (lv_at hl 1 rfl) ?_
  obtain ⟨r_2, hc_1, hrun⟩ := bdE hrun
  refine qX11_290 B hS hc_1 hl.1 (Nat.le_of_ble_eq_true rfl) ⟨Nat.le_of_ble_eq_true rfl, Nat.le_of_ble_eq_true rfl⟩ ⟨Nat.zero_le _, Nat.zero_le _⟩ dX11_shared_2 (fun H locs hS => ?_)
  refine lv_if_ne (tgt := 11) hx hb dX11_shared_5 (by decide) (fun hc => ?_) (fun hc => ?_)
  · have hrun := iq hc hrun
    refine lv_iload_n hx hb dX11_shared_11 rfl (lv_at hl 2 rfl) ?_
    refine lv_i2l hx hb dX11_shared_12 rfl ?_
    refine lv_ldc2 (v := -1) hx hb hown (hts _ (tw_6 2 rfl rfl)) dX11_shared_13 ?_
    refine lv_aload_n hx hb dX11_shared_16 rfl (lv_at hl 0 rfl) ?_
    refine gX11_150 B hS dX11_shared_17 ?_
    refine lv_iconst (v := 1) hx hb dX11_shared_20 (by decide) ?_
    refine lv_isub hx hb dX11_shared_21 ?_
    refine lv_i2l hx hb dX11_shared_22 rfl ?_
    obtain ⟨r_4, hc_3, hrun⟩ := bdE hrun
    refine qX11_84 B hS hc_3 hl.1 (Nat.le_of_ble_eq_true rfl) ⟨Nat.le_of_ble_eq_true rfl, Nat.le_of_ble_eq_true rfl⟩ ⟨Nat.zero_le _, Nat.zero_le _⟩ dX11_shared_23 (fun H locs hS => ?_)
    refine lv_if_ne (tgt := 32) hx hb dX11_shared_26 (by decide) (fun hc => ?_) (fun hc => ?_)
    · have hrun := iq hc hrun
      refine lv_aload_n hx hb dX11_shared_32 rfl (lv_at hl 0 rfl) ?_
      refine gX11_88 B hS dX11_shared_33 ?_
      refine lv_if_ne (tgt := 42) hx hb dX11_shared_36 (by decide) (fun hc => ?_) (fun hc => ?_)
      · have hrun := iq hc hrun
        refine lv_aload_n hx hb dX11_shared_42 rfl (lv_at hl 0 rfl) ?_
        refine lv_iload_n hx hb dX11_shared_43 rfl (lv_at hl 1 rfl) ?_
        obtain ⟨t_6, hc_5, hrun⟩ := bdE hrun
        refine qX11_307 B hS hc_5 hl.1 (Nat.le_of_ble_eq_true rfl) ⟨Nat.le_of_ble_eq_true rfl, Nat.le_of_ble_eq_true rfl⟩ ⟨Nat.zero_le _, Nat.zero_le _⟩ dX11_shared_44 (fun H locs hS => ?_)
        refine lv_aload_n hx hb dX11_shared_47 rfl (lv_at hl 0 rfl) ?_
        refine lv_iload_n hx hb dX11_shared_48 rfl (lv_at hl 1 rfl) ?_
        refine lv_iconst (v := 0) hx hb dX11_shared_49 (by decide) ?_
        refine lv_iconst (v := -1) hx hb dX11_shared_50 (by decide) ?_
        obtain ⟨r_8, hc_7, hrun⟩ := bdE hrun
        refine qX11_301 B hS hc_7 hl.1 (Nat.le_of_ble_eq_true rfl) ⟨Nat.le_of_ble_eq_true rfl, Nat.le_of_ble_eq_true rfl⟩ ⟨Nat.zero_le _, Nat.zero_le _⟩ dX11_shared_51 (fun H locs hS => ?_)
        refine lv_istore_n (lv' := [(3, .int r_8), (0, .ref (X.2.1 144)), (1, .int x1), (2, .int x2)]) hx hb dX11_shared_54 rfl hl (by decide) rfl (fun ls hl => ?_)
        refine lv_iload_n hx hb dX11_shared_55 rfl (lv_at hl 0 rfl) ?_
        refine lv_ldcw (v := 1000000) hx hb hown (hts _ (tw_6 11 rfl rfl)) dX11_shared_56 ?_
        refine lv_icmp_ge (tgt := 67) hx hb dX11_shared_59 (by decide) (fun hc => ?_) (fun hc => ?_)
        · have hrun := ip hc hrun
          exact hB67 t_6 r_8 _ _ _ hS (lv_sub hl [0] rfl) hrun
        · have hrun := iq hc hrun
          refine lv_iload_n hx hb dX11_shared_62 rfl (lv_at hl 3 rfl) ?_
          refine lv_iconst (v := -1) hx hb dX11_shared_63 (by decide) ?_
          refine lv_icmp_ne (tgt := 80) hx hb dX11_shared_64 (by decide) (fun hc => ?_) (fun hc => ?_)
          · have hrun := iq hc hrun
            refine lv_iconst (v := -1) hx hb dX11_shared_80 (by decide) ?_
            refine lv_istore (lv' := [(4, .int (-1 : Int32)), (3, .int r_8), (0, .ref (X.2.1 144)), (1, .int x1), (2, .int x2)]) hx hb dX11_shared_81 hl (by decide) rfl (fun ls hl => ?_)
            refine lv_iconst (v := 0) hx hb dX11_shared_83 (by decide) ?_
            refine lv_istore (lv' := [(5, .int (0 : Int32)), (4, .int (-1 : Int32)), (3, .int r_8), (0, .ref (X.2.1 144)), (1, .int x1), (2, .int x2)]) hx hb dX11_shared_84 hl (by decide) rfl (fun ls hl => ?_)
            exact hB86 fuelN t_6 x1 x2 (-1 : Int32) (0 : Int32) _ _ _ hS (lv_sub hl [3, 4, 5, 1, 0] rfl) hrun
          · have hrun := ip hc hrun
            exact hB67 t_6 r_8 _ _ _ hS (lv_sub hl [0] rfl) hrun
      · have hrun := ip hc hrun
        refine lv_ldc (v := -1000000003) hx hb hown (hts _ (tw_5 137 rfl rfl)) dX11_shared_39 ?_
        exact hret _ _ _ _ _ _ hrun rfl hS dX11_shared_41
    · have hrun := ip hc hrun
      refine lv_ldc (v := -1000000002) hx hb hown (hts _ (tw_4 220 rfl rfl)) dX11_shared_29 ?_
      exact hret _ _ _ _ _ _ hrun rfl hS dX11_shared_31
  · have hrun := ip hc hrun
    refine lv_ldc (v := -1000000001) hx hb hown (hts _ (tw_5 111 rfl rfl)) dX11_shared_8 ?_
    exact hret _ _ _ _ _ _ hrun rfl hS dX11_shared_10
theorem mdX11_owedByWay : MD yX11_owedByWay 2 := ⟨by decide +kernel, by decide +kernel, by decide +kernel⟩
set_option maxHeartbeats 4000000 in
set_option maxRecDepth 100000 in
theorem kX11_owedByWay (l : Launch) (X : Cx) (t : St) (x1 : Int32) (x2 : Int32) (r : Int32) (hrun : fX11_owedByWay t x1 x2 = some r) : Ci l X t yX11_owedByWay cX11_owedByWay 8 .int 3 73 [.ref (X.2.1 144), .int x1, .int x2] r t := by
  refine Ci_of (by decide) (Nat.le_of_ble_eq_true rfl) ?_
  intro p e s m args below meth c Q B hret hS ls hl
  have hx := B.1
  have hb := B.2.1
  have hown := B.2.2.2.1
  have hts := B.2.2.2.2.1
  have hl : lv_has ls 8 [(0, .ref (X.2.1 144)), (1, .int x1), (2, .int x2)] := hl
  have hB5 : ∀ (n5 : Nat) (x1 : Int32) (x2 : Int32) (x3 : Int32) (x4 : Int32) (H : Heap) (locs : List Loc) (ls : Array Slot), SS X t s.heap H locs → lv_has ls 8 [(0, .ref (X.2.1 144)), (1, .int x1), (2, .int x2), (3, .int x3), (4, .int x4)] → fX11_owedByWay_5 t n5 x1 x2 x3 x4 = some r → W p l e ({ frames := 3, cells := 0, slots := 0, locals := 73 } : Room) s m args below meth c H locs 0 0 Q (F0 m 5 ls []) := by
    intro n5
    induction n5 with
    | zero =>
      intro x1 x2 x3 x4 H locs ls hS hl hrun
      cases (show (none : Option (Int32)) = some r from hrun)
    | succ n5 ih5 =>
      have hB82 : ∀ (x1 : Int32) (x2 : Int32) (x3 : Int32) (x4 : Int32) (x5 : Int32) (H : Heap) (locs : List Loc) (ls : Array Slot), SS X t s.heap H locs → lv_has ls 8 [(0, .ref (X.2.1 144)), (1, .int x1), (2, .int x2), (3, .int x3), (4, .int x4), (5, .int x5)] → fX11_owedByWay_82 t (fX11_owedByWay_5 t n5) x1 x2 x3 x4 x5 = some r → W p l e ({ frames := 3, cells := 0, slots := 0, locals := 73 } : Room) s m args below meth c H locs 0 0 Q (F0 m 82 ls []) := by
        intro x1 x2 x3 x4 x5 H locs ls hS hl hrun
        unfold fX11_owedByWay_82 at hrun
        refine lv_iload_n hx hb dX11_owedByWay_82 rfl (lv_at hl 3 rfl) ?_
        refine lv_aload_n hx hb dX11_owedByWay_83 rfl (lv_at hl 0 rfl) ?_
        refine lv_iload hx hb dX11_owedByWay_84 (lv_at hl 5 rfl) ?_
        refine lv_iload hx hb dX11_owedByWay_86 (lv_at hl 4 rfl) ?_
        obtain ⟨r_1084, hc_1083, hrun⟩ := bdE hrun
        refine qX11_310 B hS hc_1083 hl.1 (Nat.le_of_ble_eq_true rfl) ⟨Nat.le_of_ble_eq_true rfl, Nat.le_of_ble_eq_true rfl⟩ ⟨Nat.zero_le _, Nat.zero_le _⟩ dX11_owedByWay_88 (fun H locs hS => ?_)
        refine lv_iadd hx hb dX11_owedByWay_91 ?_
        refine lv_topi (fun x3_1085 ex => ?_)
        obtain ⟨z, ez, hrun⟩ := bsE hrun
        obtain rfl : x3_1085 = z := ex.trans ez.symm
        clear ex ez
        refine lv_istore_n (lv' := [(3, .int x3_1085), (0, .ref (X.2.1 144)), (1, .int x1), (2, .int x2), (4, .int x4), (5, .int x5)]) hx hb dX11_owedByWay_92 rfl hl (by decide) rfl (fun ls hl => ?_)
        refine lv_iinc (v := x4 + (1 : Int32)) (k := 4) (lv' := [(4, .int (x4 + (1 : Int32))), (3, .int x3_1085), (0, .ref (X.2.1 144)), (1, .int x1), (2, .int x2), (5, .int x5)]) hx hb dX11_owedByWay_93 hl rfl rfl (by decide) rfl (fun ls hl => ?_)
        refine lv_goto (tgt := 5) hx hb dX11_owedByWay_96 (by decide) ?_
        exact ih5 x1 x2 x3_1085 (x4 + (1 : Int32)) _ _ _ hS (lv_sub hl [2, 3, 4, 1, 0] rfl) hrun
      have hB28 : ∀ (n28 : Nat) (x1 : Int32) (x2 : Int32) (x3 : Int32) (x4 : Int32) (x5 : Int32) (x6 : Int32) (x7 : Int32) (H : Heap) (locs : List Loc) (ls : Array Slot), SS X t s.heap H locs → lv_has ls 8 [(0, .ref (X.2.1 144)), (1, .int x1), (2, .int x2), (3, .int x3), (4, .int x4), (5, .int x5), (6, .int x6), (7, .int x7)] → fX11_owedByWay_28 t (fX11_owedByWay_5 t n5) n28 x1 x2 x3 x4 x5 x6 x7 = some r → W p l e ({ frames := 3, cells := 0, slots := 0, locals := 73 } : Room) s m args below meth c H locs 0 0 Q (F0 m 28 ls []) := by
        intro n28
        induction n28 with
        | zero =>
          intro x1 x2 x3 x4 x5 x6 x7 H locs ls hS hl hrun
          cases (show (none : Option (Int32)) = some r from hrun)
        | succ n28 ih28 =>
          have hB64 : ∀ (x1 : Int32) (x2 : Int32) (x3 : Int32) (x4 : Int32) (x6 : Int32) (x7 : Int32) (y0 : Int32) (y1 : Int32) (H : Heap) (locs : List Loc) (ls : Array Slot), SS X t s.heap H locs → lv_has ls 8 [(0, .ref (X.2.1 144)), (1, .int x1), (2, .int x2), (3, .int x3), (4, .int x4), (6, .int x6), (7, .int x7)] → fX11_owedByWay_64 t (fX11_owedByWay_5 t n5) (fX11_owedByWay_28 t (fX11_owedByWay_5 t n5) n28) x1 x2 x3 x4 x6 x7 y0 y1 = some r → W p l e ({ frames := 3, cells := 0, slots := 0, locals := 73 } : Room) s m args below meth c H locs 0 0 Q (F0 m 64 ls [.int y1, .int y0]) := by
            intro x1 x2 x3 x4 x6 x7 y0 y1 H locs ls hS hl hrun
            unfold fX11_owedByWay_64 at hrun
            refine lv_ior hx hb dX11_owedByWay_64 ?_
            refine lv_topi (fun x5_1065 ex => ?_)
            obtain ⟨z, ez, hrun⟩ := bsE hrun
            obtain rfl : x5_1065 = z := ex.trans ez.symm
            clear ex ez
            refine lv_istore (lv' := [(5, .int x5_1065), (0, .ref (X.2.1 144)), (1, .int x1), (2, .int x2), (3, .int x3), (4, .int x4), (6, .int x6), (7, .int x7)]) hx hb dX11_owedByWay_65 hl (by decide) rfl (fun ls hl => ?_)
            refine lv_iload hx hb dX11_owedByWay_67 (lv_at hl 6 rfl) ?_
            refine lv_aload_n hx hb dX11_owedByWay_69 rfl (lv_at hl 1 rfl) ?_
            refine gX11_88 B hS dX11_owedByWay_70 ?_
            obtain ⟨hz_1066, hrun⟩ := gzE hrun
            refine lv_idiv hx hb dX11_owedByWay_73 hz_1066 ?_
            refine lv_topi (fun x6_1067 ex => ?_)
            obtain ⟨z, ez, hrun⟩ := bsE hrun
            obtain rfl : x6_1067 = z := ex.trans ez.symm
            clear ex ez
            refine lv_istore (lv' := [(6, .int x6_1067), (5, .int x5_1065), (0, .ref (X.2.1 144)), (1, .int x1), (2, .int x2), (3, .int x3), (4, .int x4), (7, .int x7)]) hx hb dX11_owedByWay_74 hl (by decide) rfl (fun ls hl => ?_)
            refine lv_iinc (v := x7 + (-1 : Int32)) (k := 7) (lv' := [(7, .int (x7 + (-1 : Int32))), (6, .int x6_1067), (5, .int x5_1065), (0, .ref (X.2.1 144)), (1, .int x1), (2, .int x2), (3, .int x3), (4, .int x4)]) hx hb dX11_owedByWay_76 hl rfl rfl (by decide) rfl (fun ls hl => ?_)
            refine lv_goto (tgt := 28) hx hb dX11_owedByWay_79 (by decide) ?_
            exact ih28 x1 x2 x3 x4 x5_1065 x6_1067 (x7 + (-1 : Int32)) _ _ _ hS (lv_sub hl [3, 4, 5, 6, 7, 2, 1, 0] rfl) hrun
          intro x1 x2 x3 x4 x5 x6 x7 H locs ls hS hl hrun
          rw [fX11_owedByWay_28_s] at hrun
          refine lv_iload hx hb dX11_owedByWay_28 (lv_at hl 7 rfl) ?_
          refine lv_if_lt (tgt := 82) hx hb dX11_owedByWay_30 (by decide) (fun hc => ?_) (fun hc => ?_)
          · have hrun := ip hc hrun
            exact hB82 x1 x2 x3 x4 x5 _ _ _ hS (lv_sub hl [0, 1, 2, 3, 4, 5] rfl) hrun
          · have hrun := iq hc hrun
            refine lv_iload_n hx hb dX11_owedByWay_33 rfl (lv_at hl 2 rfl) ?_
            refine lv_iload hx hb dX11_owedByWay_34 (lv_at hl 7 rfl) ?_
            obtain ⟨r_1030, hc_1029, hrun⟩ := bdE hrun
            refine qX11_203 B hS hc_1029 hl.1 (Nat.le_of_ble_eq_true rfl) ⟨Nat.le_of_ble_eq_true rfl, Nat.le_of_ble_eq_true rfl⟩ ⟨Nat.zero_le _, Nat.zero_le _⟩ dX11_owedByWay_36 (fun H locs hS => ?_)
            refine lv_if_eq (tgt := 76) hx hb dX11_owedByWay_39 (by decide) (fun hc => ?_) (fun hc => ?_)
            · have hrun := ip hc hrun
              refine lv_iinc (v := x7 + (-1 : Int32)) (k := 7) (lv' := [(7, .int (x7 + (-1 : Int32))), (0, .ref (X.2.1 144)), (1, .int x1), (2, .int x2), (3, .int x3), (4, .int x4), (5, .int x5), (6, .int x6)]) hx hb dX11_owedByWay_76 hl rfl rfl (by decide) rfl (fun ls hl => ?_)
              refine lv_goto (tgt := 28) hx hb dX11_owedByWay_79 (by decide) ?_
              exact ih28 x1 x2 x3 x4 x5 x6 (x7 + (-1 : Int32)) _ _ _ hS (lv_sub hl [1, 2, 3, 4, 5, 6, 7, 0] rfl) hrun
            · have hrun := iq hc hrun
              refine lv_iload hx hb dX11_owedByWay_42 (lv_at hl 5 rfl) ?_
              refine lv_iload hx hb dX11_owedByWay_44 (lv_at hl 6 rfl) ?_
              refine lv_aload_n hx hb dX11_owedByWay_46 rfl (lv_at hl 0 rfl) ?_
              refine gX11_88 B hS dX11_owedByWay_47 ?_
              obtain ⟨hz_1031, hrun⟩ := gzE hrun
              refine lv_irem hx hb dX11_owedByWay_50 hz_1031 ?_
              refine lv_iload hx hb dX11_owedByWay_51 (lv_at hl 4 rfl) ?_
              refine lv_icmp_ne (tgt := 63) hx hb dX11_owedByWay_53 (by decide) (fun hc => ?_) (fun hc => ?_)
              · have hrun := iq hc hrun
                refine lv_iconst (v := 0) hx hb dX11_owedByWay_63 (by decide) ?_
                exact hB64 x1 x2 x3 x4 x6 x7 x5 (0 : Int32) _ _ _ hS (lv_sub hl [0, 1, 2, 3, 4, 6, 7] rfl) hrun
              · have hrun := ip hc hrun
                refine lv_iconst (v := 1) hx hb dX11_owedByWay_56 (by decide) ?_
                refine lv_iload hx hb dX11_owedByWay_57 (lv_at hl 7 rfl) ?_
                refine lv_ishl hx hb dX11_owedByWay_59 ?_
                refine lv_goto (tgt := 64) hx hb dX11_owedByWay_60 (by decide) ?_
                exact hB64 x1 x2 x3 x4 x6 x7 x5 ((1 : Int32) <<< (x7 &&& 31)) _ _ _ hS (lv_sub hl [0, 1, 2, 3, 4, 6, 7] rfl) hrun
      intro x1 x2 x3 x4 H locs ls hS hl hrun
      rw [fX11_owedByWay_5_s] at hrun
      refine lv_iload hx hb dX11_owedByWay_5 (lv_at hl 4 rfl) ?_
      refine lv_aload_n hx hb dX11_owedByWay_7 rfl (lv_at hl 0 rfl) ?_
      refine gX11_88 B hS dX11_owedByWay_8 ?_
      refine lv_icmp_ge (tgt := 99) hx hb dX11_owedByWay_11 (by decide) (fun hc => ?_) (fun hc => ?_)
      · have hrun := ip hc hrun
        refine lv_iload_n hx hb dX11_owedByWay_99 rfl (lv_at hl 3 rfl) ?_
        exact hret _ _ _ _ _ _ (congrArg (Option.map (fun w => (w, t))) hrun) rfl hS dX11_owedByWay_100
      · have hrun := iq hc hrun
        refine lv_iconst (v := 0) hx hb dX11_owedByWay_14 (by decide) ?_
        refine lv_istore (lv' := [(5, .int (0 : Int32)), (0, .ref (X.2.1 144)), (1, .int x1), (2, .int x2), (3, .int x3), (4, .int x4)]) hx hb dX11_owedByWay_15 hl (by decide) rfl (fun ls hl => ?_)
        refine lv_iload_n hx hb dX11_owedByWay_17 rfl (lv_at hl 2 rfl) ?_
        refine lv_istore (lv' := [(6, .int x1), (5, .int (0 : Int32)), (0, .ref (X.2.1 144)), (1, .int x1), (2, .int x2), (3, .int x3), (4, .int x4)]) hx hb dX11_owedByWay_18 hl (by decide) rfl (fun ls hl => ?_)
        refine lv_aload_n hx hb dX11_owedByWay_20 rfl (lv_at hl 2 rfl) ?_
        refine gX11_81 B hS dX11_owedByWay_21 ?_
        refine lv_iconst (v := 1) hx hb dX11_owedByWay_24 (by decide) ?_
        refine lv_isub hx hb dX11_owedByWay_25 ?_
        refine lv_topi (fun x7_1006 ex => ?_)
        obtain ⟨z, ez, hrun⟩ := bsE hrun
        obtain rfl : x7_1006 = z := ex.trans ez.symm
        clear ex ez
        refine lv_istore (lv' := [(7, .int x7_1006), (6, .int x1), (5, .int (0 : Int32)), (0, .ref (X.2.1 144)), (1, .int x1), (2, .int x2), (3, .int x3), (4, .int x4)]) hx hb dX11_owedByWay_26 hl (by decide) rfl (fun ls hl => ?_)
        exact hB28 fuelN x1 x2 x3 x4 (0 : Int32) x1 x7_1006 _ _ _ hS (lv_sub hl [3, 4, 5, 6, 7, 2, 1, 0] rfl) hrun
  unfold fX11_owedByWay at hrun
  refine lv_iconst (v := 0) hx hb dX11_owedByWay_0 (by decide) ?_
  refine lv_istore_n (lv' := [(3, .int (0 : Int32)), (0, .ref (X.2.1 144)), (1, .int x1), (2, .int x2)]) hx hb dX11_owedByWay_1 rfl hl (by decide) rfl (fun ls hl => ?_)
  refine lv_iconst (v := 0) hx hb dX11_owedByWay_2 (by decide) ?_
  refine lv_istore (lv' := [(4, .int (0 : Int32)), (3, .int (0 : Int32)), (0, .ref (X.2.1 144)), (1, .int x1), (2, .int x2)]) hx hb dX11_owedByWay_3 hl (by decide) rfl (fun ls hl => ?_)
  exact hB5 fuelN x1 x2 (0 : Int32) (0 : Int32) _ _ _ hS (lv_sub hl [2, 3, 4, 1, 0] rfl) hrun
theorem mdX11_groups : MD yX11_groups 2 := ⟨by decide +kernel, by decide +kernel, by decide +kernel⟩
section QX11_groups
variable {p : Program} {l : Launch} {e : Env} {R : Room} {s : State} {m : MethodId} {args : Array Value} {below : List Frame} {meth : Method} {c : Code} {H : Heap} {locs : List Loc} {cells slots : Nat} {Q : State → Prop}
variable {cc : ByteArray} {pc : Nat} {ls : Array Slot} {rest : List Value} {X : Cx} {t : St} {H0 : Heap} {nL : Nat}
theorem qX11_313 (B : Bx p s m args c cc nL X RX11) (hS : SS X t H0 H locs) {x1 : Int32} {x2 : Int32} {r : Int32} (hM : fX11_owedByWay t x1 x2 = some r) (hsz : ls.size = nL) (hW : (rest.map fun v => v.category).sum ≤ 8) (hR : 3 + 1 ≤ R.frames ∧ 8 + (8 + 11) + 73 ≤ R.locals) (hR2 : cells ≤ R.cells ∧ slots ≤ R.slots) (hdg : decode cc pc = .ok (.invokevirtual 313, 3)) (kk : ∀ (H1 : Heap) (locs1 : List Loc), SS X t H0 H1 locs1 → W p l e R s m args below meth c H1 locs1 cells slots Q (F0 m (pc + 3) ls (.int r :: rest))) : W p l e R s m args below meth c H locs cells slots Q (F0 m pc ls (.int x2 :: .int x1 :: .ref (X.2.1 144) :: rest)) :=
  xVi B hS (kX11_owedByWay l X t x1 x2 r hM) (tw_6 20 rfl rfl) (tw_6 22 rfl rfl) (tw_0 64 rfl rfl) (tw_1 12 rfl rfl) (tw_6 23 rfl rfl) mdX11_owedByWay (by decide) (ceX11 _) rfl rfl rfl hsz rfl hW hR hR2 hdg kk
end QX11_groups
set_option maxHeartbeats 4000000 in
set_option maxRecDepth 100000 in
theorem kX11_groups (l : Launch) (X : Cx) (t : St) (x1 : Int32) (x2 : Int32) (r : Int32) (hrun : fX11_groups t x1 x2 = some r) : Ci l X t yX11_groups cX11_groups 8 .int 4 100 [.ref (X.2.1 144), .int x1, .int x2] r t := by
  refine Ci_of (by decide) (Nat.le_of_ble_eq_true rfl) ?_
  intro p e s m args below meth c Q B hret hS ls hl
  have hx := B.1
  have hb := B.2.1
  have hown := B.2.2.2.1
  have hts := B.2.2.2.2.1
  have hl : lv_has ls 8 [(0, .ref (X.2.1 144)), (1, .int x1), (2, .int x2)] := hl
  have hB196 : ∀ (x6 : Int32) (H : Heap) (locs : List Loc) (ls : Array Slot), SS X t s.heap H locs → lv_has ls 8 [(0, .ref (X.2.1 144)), (6, .int x6)] → fX11_groups_196 t x6 = some r → W p l e ({ frames := 4, cells := 0, slots := 0, locals := 100 } : Room) s m args below meth c H locs 0 0 Q (F0 m 196 ls []) := by
    intro x6 H locs ls hS hl hrun
    unfold fX11_groups_196 at hrun
    refine lv_iload hx hb dX11_groups_196 (lv_at hl 1 rfl) ?_
    refine lv_aload_n hx hb dX11_groups_198 rfl (lv_at hl 0 rfl) ?_
    refine gX11_88 B hS dX11_groups_199 ?_
    obtain ⟨hz_1197, hrun⟩ := gzE hrun
    refine lv_irem hx hb dX11_groups_202 hz_1197 ?_
    exact hret _ _ _ _ _ _ (congrArg (Option.map (fun w => (w, t))) hrun) rfl hS dX11_groups_203
  have hB162 : ∀ (n162 : Nat) (x1 : Int32) (x2 : Int32) (x6 : Int32) (x7 : Int32) (H : Heap) (locs : List Loc) (ls : Array Slot), SS X t s.heap H locs → lv_has ls 8 [(0, .ref (X.2.1 144)), (1, .int x1), (2, .int x2), (6, .int x6), (7, .int x7)] → fX11_groups_162 t n162 x1 x2 x6 x7 = some r → W p l e ({ frames := 4, cells := 0, slots := 0, locals := 100 } : Room) s m args below meth c H locs 0 0 Q (F0 m 162 ls []) := by
    intro n162
    induction n162 with
    | zero =>
      intro x1 x2 x6 x7 H locs ls hS hl hrun
      cases (show (none : Option (Int32)) = some r from hrun)
    | succ n162 ih162 =>
      intro x1 x2 x6 x7 H locs ls hS hl hrun
      rw [fX11_groups_162_s] at hrun
      refine lv_iload hx hb dX11_groups_162 (lv_at hl 4 rfl) ?_
      refine lv_iload_n hx hb dX11_groups_164 rfl (lv_at hl 2 rfl) ?_
      refine lv_icmp_le (tgt := 196) hx hb dX11_groups_165 (by decide) (fun hc => ?_) (fun hc => ?_)
      · have hrun := ip hc hrun
        exact hB196 x6 _ _ _ hS (lv_sub hl [0, 3] rfl) hrun
      · have hrun := iq hc hrun
        refine lv_iload hx hb dX11_groups_168 (lv_at hl 3 rfl) ?_
        refine lv_iload_n hx hb dX11_groups_170 rfl (lv_at hl 1 rfl) ?_
        refine lv_iload hx hb dX11_groups_171 (lv_at hl 4 rfl) ?_
        obtain ⟨r_1164, hc_1163, hrun⟩ := bdE hrun
        refine qX11_203 B hS hc_1163 hl.1 (Nat.le_of_ble_eq_true rfl) ⟨Nat.le_of_ble_eq_true rfl, Nat.le_of_ble_eq_true rfl⟩ ⟨Nat.zero_le _, Nat.zero_le _⟩ dX11_groups_173 (fun H locs hS => ?_)
        refine lv_if_eq (tgt := 186) hx hb dX11_groups_176 (by decide) (fun hc => ?_) (fun hc => ?_)
        · have hrun := ip hc hrun
          refine lv_iconst (v := 1) hx hb dX11_groups_186 (by decide) ?_
          refine lv_idiv hx hb dX11_groups_187 (by decide) ?_
          refine lv_topi (fun x6_1165 ex => ?_)
          obtain ⟨z, ez, hrun⟩ := bsE hrun
          obtain rfl : x6_1165 = z := ex.trans ez.symm
          clear ex ez
          refine lv_istore (lv' := [(6, .int x6_1165), (0, .ref (X.2.1 144)), (1, .int x1), (2, .int x2), (7, .int x7)]) hx hb dX11_groups_188 hl (by decide) rfl (fun ls hl => ?_)
          refine lv_iinc (v := x7 + (-1 : Int32)) (k := 4) (lv' := [(7, .int (x7 + (-1 : Int32))), (6, .int x6_1165), (0, .ref (X.2.1 144)), (1, .int x1), (2, .int x2)]) hx hb dX11_groups_190 hl rfl rfl (by decide) rfl (fun ls hl => ?_)
          refine lv_goto (tgt := 162) hx hb dX11_groups_193 (by decide) ?_
          exact ih162 x1 x2 x6_1165 (x7 + (-1 : Int32)) _ _ _ hS (lv_sub hl [2, 3, 4, 1, 0] rfl) hrun
        · have hrun := iq hc hrun
          refine lv_aload_n hx hb dX11_groups_179 rfl (lv_at hl 0 rfl) ?_
          refine gX11_88 B hS dX11_groups_180 ?_
          refine lv_goto (tgt := 187) hx hb dX11_groups_183 (by decide) ?_
          obtain ⟨hz_1166, hrun⟩ := gzE hrun
          refine lv_idiv hx hb dX11_groups_187 hz_1166 ?_
          refine lv_topi (fun x6_1167 ex => ?_)
          obtain ⟨z, ez, hrun⟩ := bsE hrun
          obtain rfl : x6_1167 = z := ex.trans ez.symm
          clear ex ez
          refine lv_istore (lv' := [(6, .int x6_1167), (0, .ref (X.2.1 144)), (1, .int x1), (2, .int x2), (7, .int x7)]) hx hb dX11_groups_188 hl (by decide) rfl (fun ls hl => ?_)
          refine lv_iinc (v := x7 + (-1 : Int32)) (k := 4) (lv' := [(7, .int (x7 + (-1 : Int32))), (6, .int x6_1167), (0, .ref (X.2.1 144)), (1, .int x1), (2, .int x2)]) hx hb dX11_groups_190 hl rfl rfl (by decide) rfl (fun ls hl => ?_)
          refine lv_goto (tgt := 162) hx hb dX11_groups_193 (by decide) ?_
          exact ih162 x1 x2 x6_1167 (x7 + (-1 : Int32)) _ _ _ hS (lv_sub hl [2, 3, 4, 1, 0] rfl) hrun
  have hB138 : ∀ (x2 : Int32) (x5 : Int32) (H : Heap) (locs : List Loc) (ls : Array Slot), SS X t s.heap H locs → lv_has ls 8 [(2, .int x2), (5, .int x5)] → fX11_groups_138 t x2 x5 = some r → W p l e ({ frames := 4, cells := 0, slots := 0, locals := 100 } : Room) s m args below meth c H locs 0 0 Q (F0 m 138 ls []) := by
    intro x2 x5 H locs ls hS hl hrun
    unfold fX11_groups_138 at hrun
    refine lv_iload_n hx hb dX11_groups_138 rfl (lv_at hl 0 rfl) ?_
    refine lv_iconst (v := -1) hx hb dX11_groups_139 (by decide) ?_
    refine lv_icmp_ne (tgt := 148) hx hb dX11_groups_140 (by decide) (fun hc => ?_) (fun hc => ?_)
    · have hrun := iq hc hrun
      refine lv_iconst (v := -1) hx hb dX11_groups_148 (by decide) ?_
      exact hret _ _ _ _ _ _ (congrArg (Option.map (fun w => (w, t))) hrun) rfl hS dX11_groups_149
    · have hrun := ip hc hrun
      refine lv_iload hx hb dX11_groups_143 (lv_at hl 1 rfl) ?_
      refine lv_goto (tgt := 149) hx hb dX11_groups_145 (by decide) ?_
      exact hret _ _ _ _ _ _ (congrArg (Option.map (fun w => (w, t))) hrun) rfl hS dX11_groups_149
  have hB125 : ∀ (x1 : Int32) (x2 : Int32) (x4 : Int32) (x5 : Int32) (H : Heap) (locs : List Loc) (ls : Array Slot), SS X t s.heap H locs → lv_has ls 8 [(0, .ref (X.2.1 144)), (1, .int x1), (2, .int x2), (4, .int x4), (5, .int x5)] → fX11_groups_125 t x1 x2 x4 x5 = some r → W p l e ({ frames := 4, cells := 0, slots := 0, locals := 100 } : Room) s m args below meth c H locs 0 0 Q (F0 m 125 ls []) := by
    intro x1 x2 x4 x5 H locs ls hS hl hrun
    unfold fX11_groups_125 at hrun
    refine lv_iload_n hx hb dX11_groups_125 rfl (lv_at hl 2 rfl) ?_
    refine lv_iconst (v := -1) hx hb dX11_groups_126 (by decide) ?_
    refine lv_icmp_eq (tgt := 138) hx hb dX11_groups_127 (by decide) (fun hc => ?_) (fun hc => ?_)
    · have hrun := ip hc hrun
      exact hB138 x2 x5 _ _ _ hS (lv_sub hl [2, 4] rfl) hrun
    · have hrun := iq hc hrun
      refine lv_iload_n hx hb dX11_groups_130 rfl (lv_at hl 1 rfl) ?_
      refine lv_iload_n hx hb dX11_groups_131 rfl (lv_at hl 2 rfl) ?_
      obtain ⟨r_1127, hc_1126, hrun⟩ := bdE hrun
      refine qX11_203 B hS hc_1126 hl.1 (Nat.le_of_ble_eq_true rfl) ⟨Nat.le_of_ble_eq_true rfl, Nat.le_of_ble_eq_true rfl⟩ ⟨Nat.zero_le _, Nat.zero_le _⟩ dX11_groups_132 (fun H locs hS => ?_)
      refine lv_if_ne (tgt := 150) hx hb dX11_groups_135 (by decide) (fun hc => ?_) (fun hc => ?_)
      · have hrun := iq hc hrun
        refine lv_iload hx hb dX11_groups_150 (lv_at hl 3 rfl) ?_
        refine lv_istore (lv' := [(6, .int x4), (0, .ref (X.2.1 144)), (1, .int x1), (2, .int x2), (4, .int x4), (5, .int x5)]) hx hb dX11_groups_152 hl (by decide) rfl (fun ls hl => ?_)
        refine lv_aload_n hx hb dX11_groups_154 rfl (lv_at hl 1 rfl) ?_
        refine gX11_81 B hS dX11_groups_155 ?_
        refine lv_iconst (v := 1) hx hb dX11_groups_158 (by decide) ?_
        refine lv_isub hx hb dX11_groups_159 ?_
        refine lv_topi (fun x7_1128 ex => ?_)
        obtain ⟨z, ez, hrun⟩ := bsE hrun
        obtain rfl : x7_1128 = z := ex.trans ez.symm
        clear ex ez
        refine lv_istore (lv' := [(7, .int x7_1128), (6, .int x4), (0, .ref (X.2.1 144)), (1, .int x1), (2, .int x2), (4, .int x4), (5, .int x5)]) hx hb dX11_groups_160 hl (by decide) rfl (fun ls hl => ?_)
        exact hB162 fuelN x1 x2 x4 x7_1128 _ _ _ hS (lv_sub hl [2, 3, 4, 1, 0] rfl) hrun
      · have hrun := ip hc hrun
        exact hB138 x2 x5 _ _ _ hS (lv_sub hl [2, 4] rfl) hrun
  have hB72 : ∀ (n72 : Nat) (x1 : Int32) (x2 : Int32) (x3 : Int32) (x4 : Int32) (x5 : Int32) (x6 : Int32) (H : Heap) (locs : List Loc) (ls : Array Slot), SS X t s.heap H locs → lv_has ls 8 [(0, .ref (X.2.1 144)), (1, .int x1), (2, .int x2), (3, .int x3), (4, .int x4), (5, .int x5), (6, .int x6)] → fX11_groups_72 t n72 x1 x2 x3 x4 x5 x6 = some r → W p l e ({ frames := 4, cells := 0, slots := 0, locals := 100 } : Room) s m args below meth c H locs 0 0 Q (F0 m 72 ls []) := by
    intro n72
    induction n72 with
    | zero =>
      intro x1 x2 x3 x4 x5 x6 H locs ls hS hl hrun
      cases (show (none : Option (Int32)) = some r from hrun)
    | succ n72 ih72 =>
      have hB101 : ∀ (x1 : Int32) (x2 : Int32) (x3 : Int32) (x5 : Int32) (x6 : Int32) (x7 : Int32) (y0 : Int32) (H : Heap) (locs : List Loc) (ls : Array Slot), SS X t s.heap H locs → lv_has ls 8 [(0, .ref (X.2.1 144)), (1, .int x1), (2, .int x2), (3, .int x3), (5, .int x5), (6, .int x6), (7, .int x7)] → fX11_groups_101 t (fX11_groups_72 t n72) x1 x2 x3 x5 x6 x7 y0 = some r → W p l e ({ frames := 4, cells := 0, slots := 0, locals := 100 } : Room) s m args below meth c H locs 0 0 Q (F0 m 101 ls [.int y0]) := by
        intro x1 x2 x3 x5 x6 x7 y0 H locs ls hS hl hrun
        unfold fX11_groups_101 at hrun
        refine lv_istore (lv' := [(4, .int y0), (0, .ref (X.2.1 144)), (1, .int x1), (2, .int x2), (3, .int x3), (5, .int x5), (6, .int x6), (7, .int x7)]) hx hb dX11_groups_101 hl (by decide) rfl (fun ls hl => ?_)
        refine lv_iload hx hb dX11_groups_103 (lv_at hl 7 rfl) ?_
        refine lv_iload hx hb dX11_groups_105 (lv_at hl 5 rfl) ?_
        refine lv_icmp_ge (tgt := 115) hx hb dX11_groups_107 (by decide) (fun hc => ?_) (fun hc => ?_)
        · have hrun := ip hc hrun
          refine lv_iload hx hb dX11_groups_115 (lv_at hl 5 rfl) ?_
          refine lv_istore (lv' := [(5, .int x5), (4, .int y0), (0, .ref (X.2.1 144)), (1, .int x1), (2, .int x2), (3, .int x3), (6, .int x6), (7, .int x7)]) hx hb dX11_groups_117 hl (by decide) rfl (fun ls hl => ?_)
          refine lv_iinc (v := x6 + (1 : Int32)) (k := 6) (lv' := [(6, .int (x6 + (1 : Int32))), (5, .int x5), (4, .int y0), (0, .ref (X.2.1 144)), (1, .int x1), (2, .int x2), (3, .int x3), (7, .int x7)]) hx hb dX11_groups_119 hl rfl rfl (by decide) rfl (fun ls hl => ?_)
          refine lv_goto (tgt := 72) hx hb dX11_groups_122 (by decide) ?_
          exact ih72 x1 x2 x3 y0 x5 (x6 + (1 : Int32)) _ _ _ hS (lv_sub hl [3, 4, 5, 6, 2, 1, 0] rfl) hrun
        · have hrun := iq hc hrun
          refine lv_iload hx hb dX11_groups_110 (lv_at hl 7 rfl) ?_
          refine lv_goto (tgt := 117) hx hb dX11_groups_112 (by decide) ?_
          refine lv_istore (lv' := [(5, .int x7), (4, .int y0), (0, .ref (X.2.1 144)), (1, .int x1), (2, .int x2), (3, .int x3), (6, .int x6), (7, .int x7)]) hx hb dX11_groups_117 hl (by decide) rfl (fun ls hl => ?_)
          refine lv_iinc (v := x6 + (1 : Int32)) (k := 6) (lv' := [(6, .int (x6 + (1 : Int32))), (5, .int x7), (4, .int y0), (0, .ref (X.2.1 144)), (1, .int x1), (2, .int x2), (3, .int x3), (7, .int x7)]) hx hb dX11_groups_119 hl rfl rfl (by decide) rfl (fun ls hl => ?_)
          refine lv_goto (tgt := 72) hx hb dX11_groups_122 (by decide) ?_
          exact ih72 x1 x2 x3 y0 x7 (x6 + (1 : Int32)) _ _ _ hS (lv_sub hl [3, 4, 5, 6, 2, 1, 0] rfl) hrun
      intro x1 x2 x3 x4 x5 x6 H locs ls hS hl hrun
      rw [fX11_groups_72_s] at hrun
      refine lv_iload hx hb dX11_groups_72 (lv_at hl 6 rfl) ?_
      refine lv_iload_n hx hb dX11_groups_74 rfl (lv_at hl 3 rfl) ?_
      refine lv_icmp_ge (tgt := 125) hx hb dX11_groups_75 (by decide) (fun hc => ?_) (fun hc => ?_)
      · have hrun := ip hc hrun
        exact hB125 x1 x2 x4 x5 _ _ _ hS (lv_sub hl [0, 1, 2, 4, 5] rfl) hrun
      · have hrun := iq hc hrun
        refine lv_aload_n hx hb dX11_groups_78 rfl (lv_at hl 0 rfl) ?_
        refine lv_iload hx hb dX11_groups_79 (lv_at hl 6 rfl) ?_
        refine lv_iload_n hx hb dX11_groups_81 rfl (lv_at hl 1 rfl) ?_
        obtain ⟨r_1074, hc_1073, hrun⟩ := bdE hrun
        refine qX11_313 B hS hc_1073 hl.1 (Nat.le_of_ble_eq_true rfl) ⟨Nat.le_of_ble_eq_true rfl, Nat.le_of_ble_eq_true rfl⟩ ⟨Nat.zero_le _, Nat.zero_le _⟩ dX11_groups_82 (fun H locs hS => ?_)
        refine lv_istore (lv' := [(7, .int r_1074), (0, .ref (X.2.1 144)), (1, .int x1), (2, .int x2), (3, .int x3), (4, .int x4), (5, .int x5), (6, .int x6)]) hx hb dX11_groups_85 hl (by decide) rfl (fun ls hl => ?_)
        refine lv_iload hx hb dX11_groups_87 (lv_at hl 0 rfl) ?_
        refine lv_iload hx hb dX11_groups_89 (lv_at hl 6 rfl) ?_
        refine lv_icmp_ge (tgt := 99) hx hb dX11_groups_91 (by decide) (fun hc => ?_) (fun hc => ?_)
        · have hrun := ip hc hrun
          refine lv_iload hx hb dX11_groups_99 (lv_at hl 5 rfl) ?_
          exact hB101 x1 x2 x3 x5 x6 r_1074 x4 _ _ _ hS (lv_sub hl [1, 2, 3, 4, 6, 7, 0] rfl) hrun
        · have hrun := iq hc hrun
          refine lv_iload hx hb dX11_groups_94 (lv_at hl 7 rfl) ?_
          refine lv_goto (tgt := 101) hx hb dX11_groups_96 (by decide) ?_
          exact hB101 x1 x2 x3 x5 x6 r_1074 x6 _ _ _ hS (lv_sub hl [1, 2, 3, 4, 6, 7, 0] rfl) hrun
  have hB61 : ∀ (x1 : Int32) (x2 : Int32) (x3 : Int32) (H : Heap) (locs : List Loc) (ls : Array Slot), SS X t s.heap H locs → lv_has ls 8 [(0, .ref (X.2.1 144)), (1, .int x1), (2, .int x2), (3, .int x3)] → fX11_groups_61 t x1 x2 x3 = some r → W p l e ({ frames := 4, cells := 0, slots := 0, locals := 100 } : Room) s m args below meth c H locs 0 0 Q (F0 m 61 ls []) := by
    intro x1 x2 x3 H locs ls hS hl hrun
    unfold fX11_groups_61 at hrun
    refine lv_iconst (v := 0) hx hb dX11_groups_61 (by decide) ?_
    refine lv_istore (lv' := [(4, .int (0 : Int32)), (0, .ref (X.2.1 144)), (1, .int x1), (2, .int x2), (3, .int x3)]) hx hb dX11_groups_62 hl (by decide) rfl (fun ls hl => ?_)
    refine lv_ldcw (v := 1000000) hx hb hown (hts _ (tw_6 11 rfl rfl)) dX11_groups_64 ?_
    refine lv_istore (lv' := [(5, .int (1000000 : Int32)), (4, .int (0 : Int32)), (0, .ref (X.2.1 144)), (1, .int x1), (2, .int x2), (3, .int x3)]) hx hb dX11_groups_67 hl (by decide) rfl (fun ls hl => ?_)
    refine lv_iconst (v := 0) hx hb dX11_groups_69 (by decide) ?_
    refine lv_istore (lv' := [(6, .int (0 : Int32)), (5, .int (1000000 : Int32)), (4, .int (0 : Int32)), (0, .ref (X.2.1 144)), (1, .int x1), (2, .int x2), (3, .int x3)]) hx hb dX11_groups_70 hl (by decide) rfl (fun ls hl => ?_)
    exact hB72 fuelN x1 x2 x3 (0 : Int32) (1000000 : Int32) (0 : Int32) _ _ _ hS (lv_sub hl [3, 4, 5, 6, 2, 1, 0] rfl) hrun
  have hB39 : ∀ (n39 : Nat) (x1 : Int32) (x2 : Int32) (x3 : Int32) (x4 : Int32) (H : Heap) (locs : List Loc) (ls : Array Slot), SS X t s.heap H locs → lv_has ls 8 [(0, .ref (X.2.1 144)), (1, .int x1), (2, .int x2), (3, .int x3), (4, .int x4)] → fX11_groups_39 t n39 x1 x2 x3 x4 = some r → W p l e ({ frames := 4, cells := 0, slots := 0, locals := 100 } : Room) s m args below meth c H locs 0 0 Q (F0 m 39 ls []) := by
    intro n39
    induction n39 with
    | zero =>
      intro x1 x2 x3 x4 H locs ls hS hl hrun
      cases (show (none : Option (Int32)) = some r from hrun)
    | succ n39 ih39 =>
      intro x1 x2 x3 x4 H locs ls hS hl hrun
      rw [fX11_groups_39_s] at hrun
      refine lv_iload hx hb dX11_groups_39 (lv_at hl 4 rfl) ?_
      refine lv_iload_n hx hb dX11_groups_41 rfl (lv_at hl 1 rfl) ?_
      obtain ⟨r_1041, hc_1040, hrun⟩ := bdE hrun
      refine qX11_197 B hS hc_1040 hl.1 (Nat.le_of_ble_eq_true rfl) ⟨Nat.le_of_ble_eq_true rfl, Nat.le_of_ble_eq_true rfl⟩ ⟨Nat.zero_le _, Nat.zero_le _⟩ dX11_groups_42 (fun H locs hS => ?_)
      refine lv_icmp_ge (tgt := 61) hx hb dX11_groups_45 (by decide) (fun hc => ?_) (fun hc => ?_)
      · have hrun := ip hc hrun
        exact hB61 x1 x2 x3 _ _ _ hS (lv_sub hl [0, 1, 2, 3] rfl) hrun
      · have hrun := iq hc hrun
        refine lv_iload_n hx hb dX11_groups_48 rfl (lv_at hl 3 rfl) ?_
        refine lv_aload_n hx hb dX11_groups_49 rfl (lv_at hl 0 rfl) ?_
        refine gX11_88 B hS dX11_groups_50 ?_
        refine lv_imul hx hb dX11_groups_53 ?_
        refine lv_topi (fun x3_1042 ex => ?_)
        obtain ⟨z, ez, hrun⟩ := bsE hrun
        obtain rfl : x3_1042 = z := ex.trans ez.symm
        clear ex ez
        refine lv_istore_n (lv' := [(3, .int x3_1042), (0, .ref (X.2.1 144)), (1, .int x1), (2, .int x2), (4, .int x4)]) hx hb dX11_groups_54 rfl hl (by decide) rfl (fun ls hl => ?_)
        refine lv_iinc (v := x4 + (1 : Int32)) (k := 4) (lv' := [(4, .int (x4 + (1 : Int32))), (3, .int x3_1042), (0, .ref (X.2.1 144)), (1, .int x1), (2, .int x2)]) hx hb dX11_groups_55 hl rfl rfl (by decide) rfl (fun ls hl => ?_)
        refine lv_goto (tgt := 39) hx hb dX11_groups_58 (by decide) ?_
        exact ih39 x1 x2 x3_1042 (x4 + (1 : Int32)) _ _ _ hS (lv_sub hl [2, 3, 4, 1, 0] rfl) hrun
  have hB24 : ∀ (x1 : Int32) (x2 : Int32) (H : Heap) (locs : List Loc) (ls : Array Slot), SS X t s.heap H locs → lv_has ls 8 [(0, .ref (X.2.1 144)), (1, .int x1), (2, .int x2)] → fX11_groups_24 t x1 x2 = some r → W p l e ({ frames := 4, cells := 0, slots := 0, locals := 100 } : Room) s m args below meth c H locs 0 0 Q (F0 m 24 ls []) := by
    intro x1 x2 H locs ls hS hl hrun
    unfold fX11_groups_24 at hrun
    refine lv_aload_n hx hb dX11_groups_24 rfl (lv_at hl 0 rfl) ?_
    refine gX11_88 B hS dX11_groups_25 ?_
    refine lv_if_ne (tgt := 34) hx hb dX11_groups_28 (by decide) (fun hc => ?_) (fun hc => ?_)
    · have hrun := iq hc hrun
      refine lv_iconst (v := 1) hx hb dX11_groups_34 (by decide) ?_
      refine lv_istore_n (lv' := [(3, .int (1 : Int32)), (0, .ref (X.2.1 144)), (1, .int x1), (2, .int x2)]) hx hb dX11_groups_35 rfl hl (by decide) rfl (fun ls hl => ?_)
      refine lv_iconst (v := 0) hx hb dX11_groups_36 (by decide) ?_
      refine lv_istore (lv' := [(4, .int (0 : Int32)), (3, .int (1 : Int32)), (0, .ref (X.2.1 144)), (1, .int x1), (2, .int x2)]) hx hb dX11_groups_37 hl (by decide) rfl (fun ls hl => ?_)
      exact hB39 fuelN x1 x2 (1 : Int32) (0 : Int32) _ _ _ hS (lv_sub hl [2, 3, 4, 1, 0] rfl) hrun
    · have hrun := ip hc hrun
      refine lv_ldc (v := -1000000003) hx hb hown (hts _ (tw_5 137 rfl rfl)) dX11_groups_31 ?_
      exact hret _ _ _ _ _ _ (congrArg (Option.map (fun w => (w, t))) hrun) rfl hS dX11_groups_33
  unfold fX11_groups at hrun
  refine lv_aload_n hx hb dX11_groups_0 rfl (lv_at hl 0 rfl) ?_
  refine lv_iload_n hx hb dX11_groups_1 rfl (lv_at hl 1 rfl) ?_
  obtain ⟨r_2, hc_1, hrun⟩ := bdE hrun
  refine qX11_290 B hS hc_1 hl.1 (Nat.le_of_ble_eq_true rfl) ⟨Nat.le_of_ble_eq_true rfl, Nat.le_of_ble_eq_true rfl⟩ ⟨Nat.zero_le _, Nat.zero_le _⟩ dX11_groups_2 (fun H locs hS => ?_)
  refine lv_if_eq (tgt := 21) hx hb dX11_groups_5 (by decide) (fun hc => ?_) (fun hc => ?_)
  · have hrun := ip hc hrun
    refine lv_ldc (v := -1000000001) hx hb hown (hts _ (tw_5 111 rfl rfl)) dX11_groups_21 ?_
    exact hret _ _ _ _ _ _ (congrArg (Option.map (fun w => (w, t))) hrun) rfl hS dX11_groups_23
  · have hrun := iq hc hrun
    refine lv_iload_n hx hb dX11_groups_8 rfl (lv_at hl 2 rfl) ?_
    refine lv_iconst (v := -1) hx hb dX11_groups_9 (by decide) ?_
    refine lv_icmp_eq (tgt := 24) hx hb dX11_groups_10 (by decide) (fun hc => ?_) (fun hc => ?_)
    · have hrun := ip hc hrun
      exact hB24 x1 x2 _ _ _ hS (lv_sub hl [0, 1, 2] rfl) hrun
    · have hrun := iq hc hrun
      refine lv_aload_n hx hb dX11_groups_13 rfl (lv_at hl 0 rfl) ?_
      refine lv_iload_n hx hb dX11_groups_14 rfl (lv_at hl 2 rfl) ?_
      obtain ⟨r_4, hc_3, hrun⟩ := bdE hrun
      refine qX11_228 B hS hc_3 hl.1 (Nat.le_of_ble_eq_true rfl) ⟨Nat.le_of_ble_eq_true rfl, Nat.le_of_ble_eq_true rfl⟩ ⟨Nat.zero_le _, Nat.zero_le _⟩ dX11_groups_15 (fun H locs hS => ?_)
      refine lv_if_ne (tgt := 24) hx hb dX11_groups_18 (by decide) (fun hc => ?_) (fun hc => ?_)
      · have hrun := iq hc hrun
        exact hB24 x1 x2 _ _ _ hS (lv_sub hl [0, 1, 2] rfl) hrun
      · have hrun := ip hc hrun
        refine lv_ldc (v := -1000000001) hx hb hown (hts _ (tw_5 111 rfl rfl)) dX11_groups_21 ?_
        exact hret _ _ _ _ _ _ (congrArg (Option.map (fun w => (w, t))) hrun) rfl hS dX11_groups_23
theorem mdX11_rates : MD yX11_rates 1 := ⟨by decide +kernel, by decide +kernel, by decide +kernel⟩
set_option maxHeartbeats 4000000 in
set_option maxRecDepth 100000 in
theorem kX11_rates (l : Launch) (X : Cx) (t : St) (x1 : Int32) (r : Int32) (hrun : fX11_rates t x1 = some r) : Ci l X t yX11_rates cX11_rates 6 .int 2 48 [.ref (X.2.1 144), .int x1] r t := by
  refine Ci_of (by decide) (Nat.le_of_ble_eq_true rfl) ?_
  intro p e s m args below meth c Q B hret hS ls hl
  have hx := B.1
  have hb := B.2.1
  have hown := B.2.2.2.1
  have hts := B.2.2.2.2.1
  have hl : lv_has ls 6 [(0, .ref (X.2.1 144)), (1, .int x1)] := hl
  have hB17 : ∀ (n17 : Nat) (x1 : Int32) (x2 : Int32) (H : Heap) (locs : List Loc) (ls : Array Slot), SS X t s.heap H locs → lv_has ls 6 [(0, .ref (X.2.1 144)), (1, .int x1), (2, .int x2)] → fX11_rates_17 t n17 x1 x2 = some r → W p l e ({ frames := 2, cells := 0, slots := 0, locals := 48 } : Room) s m args below meth c H locs 0 0 Q (F0 m 17 ls []) := by
    intro n17
    induction n17 with
    | zero =>
      intro x1 x2 H locs ls hS hl hrun
      cases (show (none : Option (Int32)) = some r from hrun)
    | succ n17 ih17 =>
      have hB115 : ∀ (x1 : Int32) (x2 : Int32) (x3 : Int32) (H : Heap) (locs : List Loc) (ls : Array Slot), SS X t s.heap H locs → lv_has ls 6 [(0, .ref (X.2.1 144)), (1, .int x1), (2, .int x2), (3, .int x3)] → fX11_rates_115 t (fX11_rates_17 t n17) x1 x2 x3 = some r → W p l e ({ frames := 2, cells := 0, slots := 0, locals := 48 } : Room) s m args below meth c H locs 0 0 Q (F0 m 115 ls []) := by
        intro x1 x2 x3 H locs ls hS hl hrun
        unfold fX11_rates_115 at hrun
        refine lv_iload_n hx hb dX11_rates_115 rfl (lv_at hl 3 rfl) ?_
        refine lv_iload_n hx hb dX11_rates_116 rfl (lv_at hl 1 rfl) ?_
        refine lv_icmp_lt (tgt := 122) hx hb dX11_rates_117 (by decide) (fun hc => ?_) (fun hc => ?_)
        · have hrun := ip hc hrun
          refine lv_iinc (v := x2 + (1 : Int32)) (k := 2) (lv' := [(2, .int (x2 + (1 : Int32))), (0, .ref (X.2.1 144)), (1, .int x1), (3, .int x3)]) hx hb dX11_rates_122 hl rfl rfl (by decide) rfl (fun ls hl => ?_)
          refine lv_goto (tgt := 17) hx hb dX11_rates_125 (by decide) ?_
          exact ih17 x1 (x2 + (1 : Int32)) _ _ _ hS (lv_sub hl [1, 2, 0] rfl) hrun
        · have hrun := iq hc hrun
          refine lv_iload_n hx hb dX11_rates_120 rfl (lv_at hl 2 rfl) ?_
          exact hret _ _ _ _ _ _ (congrArg (Option.map (fun w => (w, t))) hrun) rfl hS dX11_rates_121
      have hB28 : ∀ (n28 : Nat) (x1 : Int32) (x2 : Int32) (x3 : Int32) (x4 : Int32) (H : Heap) (locs : List Loc) (ls : Array Slot), SS X t s.heap H locs → lv_has ls 6 [(0, .ref (X.2.1 144)), (1, .int x1), (2, .int x2), (3, .int x3), (4, .int x4)] → fX11_rates_28 t (fX11_rates_17 t n17) n28 x1 x2 x3 x4 = some r → W p l e ({ frames := 2, cells := 0, slots := 0, locals := 48 } : Room) s m args below meth c H locs 0 0 Q (F0 m 28 ls []) := by
        intro n28
        induction n28 with
        | zero =>
          intro x1 x2 x3 x4 H locs ls hS hl hrun
          cases (show (none : Option (Int32)) = some r from hrun)
        | succ n28 ih28 =>
          have hB74 : ∀ (x1 : Int32) (x2 : Int32) (x3 : Int32) (x4 : Int32) (y0 : Int32) (H : Heap) (locs : List Loc) (ls : Array Slot), SS X t s.heap H locs → lv_has ls 6 [(0, .ref (X.2.1 144)), (1, .int x1), (2, .int x2), (3, .int x3), (4, .int x4)] → fX11_rates_74 t (fX11_rates_17 t n17) (fX11_rates_28 t (fX11_rates_17 t n17) n28) x1 x2 x3 x4 y0 = some r → W p l e ({ frames := 2, cells := 0, slots := 0, locals := 48 } : Room) s m args below meth c H locs 0 0 Q (F0 m 74 ls [.int y0]) := by
            intro x1 x2 x3 x4 y0 H locs ls hS hl hrun
            unfold fX11_rates_74 at hrun
            refine lv_istore (lv' := [(5, .int y0), (0, .ref (X.2.1 144)), (1, .int x1), (2, .int x2), (3, .int x3), (4, .int x4)]) hx hb dX11_rates_74 hl (by decide) rfl (fun ls hl => ?_)
            refine lv_iload_n hx hb dX11_rates_76 rfl (lv_at hl 4 rfl) ?_
            refine lv_iload hx hb dX11_rates_77 (lv_at hl 0 rfl) ?_
            refine lv_aload_n hx hb dX11_rates_79 rfl (lv_at hl 1 rfl) ?_
            refine gX11_25 B hS dX11_rates_80 ?_
            refine lv_bipush (v := 7) hx hb dX11_rates_83 (by decide) ?_
            refine lv_iload hx hb dX11_rates_85 (lv_at hl 5 rfl) ?_
            refine lv_iadd hx hb dX11_rates_87 ?_
            obtain ⟨hi_1075, hrun⟩ := gdE hrun
            refine xa B hS ia_150 hi_1075 dX11_rates_88 ?_
            refine lv_icmp_ge (tgt := 97) hx hb dX11_rates_89 (by decide) (fun hc => ?_) (fun hc => ?_)
            · have hrun := ip hc hrun
              refine lv_aload_n hx hb dX11_rates_97 rfl (lv_at hl 1 rfl) ?_
              refine gX11_25 B hS dX11_rates_98 ?_
              refine lv_bipush (v := 7) hx hb dX11_rates_101 (by decide) ?_
              refine lv_iload hx hb dX11_rates_103 (lv_at hl 5 rfl) ?_
              refine lv_iadd hx hb dX11_rates_105 ?_
              obtain ⟨hi_1076, hrun⟩ := gdE hrun
              refine xa B hS ia_150 hi_1076 dX11_rates_106 ?_
              refine lv_iadd hx hb dX11_rates_107 ?_
              refine lv_topi (fun x3_1077 ex => ?_)
              obtain ⟨z, ez, hrun⟩ := bsE hrun
              obtain rfl : x3_1077 = z := ex.trans ez.symm
              clear ex ez
              refine lv_istore_n (lv' := [(3, .int x3_1077), (5, .int y0), (0, .ref (X.2.1 144)), (1, .int x1), (2, .int x2), (4, .int x4)]) hx hb dX11_rates_108 rfl hl (by decide) rfl (fun ls hl => ?_)
              refine lv_iinc (v := x4 + (1 : Int32)) (k := 5) (lv' := [(4, .int (x4 + (1 : Int32))), (3, .int x3_1077), (5, .int y0), (0, .ref (X.2.1 144)), (1, .int x1), (2, .int x2)]) hx hb dX11_rates_109 hl rfl rfl (by decide) rfl (fun ls hl => ?_)
              refine lv_goto (tgt := 28) hx hb dX11_rates_112 (by decide) ?_
              exact ih28 x1 x2 x3_1077 (x4 + (1 : Int32)) _ _ _ hS (lv_sub hl [3, 4, 5, 1, 0] rfl) hrun
            · have hrun := iq hc hrun
              refine lv_iload hx hb dX11_rates_92 (lv_at hl 0 rfl) ?_
              refine lv_goto (tgt := 107) hx hb dX11_rates_94 (by decide) ?_
              refine lv_iadd hx hb dX11_rates_107 ?_
              refine lv_topi (fun x3_1078 ex => ?_)
              obtain ⟨z, ez, hrun⟩ := bsE hrun
              obtain rfl : x3_1078 = z := ex.trans ez.symm
              clear ex ez
              refine lv_istore_n (lv' := [(3, .int x3_1078), (5, .int y0), (0, .ref (X.2.1 144)), (1, .int x1), (2, .int x2), (4, .int x4)]) hx hb dX11_rates_108 rfl hl (by decide) rfl (fun ls hl => ?_)
              refine lv_iinc (v := x4 + (1 : Int32)) (k := 5) (lv' := [(4, .int (x4 + (1 : Int32))), (3, .int x3_1078), (5, .int y0), (0, .ref (X.2.1 144)), (1, .int x1), (2, .int x2)]) hx hb dX11_rates_109 hl rfl rfl (by decide) rfl (fun ls hl => ?_)
              refine lv_goto (tgt := 28) hx hb dX11_rates_112 (by decide) ?_
              exact ih28 x1 x2 x3_1078 (x4 + (1 : Int32)) _ _ _ hS (lv_sub hl [3, 4, 5, 1, 0] rfl) hrun
          intro x1 x2 x3 x4 H locs ls hS hl hrun
          rw [fX11_rates_28_s] at hrun
          refine lv_iload hx hb dX11_rates_28 (lv_at hl 4 rfl) ?_
          refine lv_aload_n hx hb dX11_rates_30 rfl (lv_at hl 0 rfl) ?_
          refine gX11_81 B hS dX11_rates_31 ?_
          refine lv_icmp_ge (tgt := 115) hx hb dX11_rates_34 (by decide) (fun hc => ?_) (fun hc => ?_)
          · have hrun := ip hc hrun
            exact hB115 x1 x2 x3 _ _ _ hS (lv_sub hl [0, 1, 2, 3] rfl) hrun
          · have hrun := iq hc hrun
            refine lv_aload_n hx hb dX11_rates_37 rfl (lv_at hl 0 rfl) ?_
            refine lv_iload hx hb dX11_rates_38 (lv_at hl 4 rfl) ?_
            obtain ⟨r_1030, hc_1029, hrun⟩ := bdE hrun
            refine qX11_183 B hS hc_1029 hl.1 (Nat.le_of_ble_eq_true rfl) ⟨Nat.le_of_ble_eq_true rfl, Nat.le_of_ble_eq_true rfl⟩ ⟨Nat.zero_le _, Nat.zero_le _⟩ dX11_rates_40 (fun H locs hS => ?_)
            refine lv_if_eq (tgt := 73) hx hb dX11_rates_43 (by decide) (fun hc => ?_) (fun hc => ?_)
            · have hrun := ip hc hrun
              refine lv_iconst (v := 0) hx hb dX11_rates_73 (by decide) ?_
              exact hB74 x1 x2 x3 x4 (0 : Int32) _ _ _ hS (lv_sub hl [0, 1, 2, 3, 4] rfl) hrun
            · have hrun := iq hc hrun
              refine lv_aload_n hx hb dX11_rates_46 rfl (lv_at hl 0 rfl) ?_
              refine lv_iload hx hb dX11_rates_47 (lv_at hl 4 rfl) ?_
              refine lv_aload_n hx hb dX11_rates_49 rfl (lv_at hl 0 rfl) ?_
              refine gX11_25 B hS dX11_rates_50 ?_
              refine lv_iload hx hb dX11_rates_53 (lv_at hl 4 rfl) ?_
              obtain ⟨hi_1031, hrun⟩ := gdE hrun
              refine xa B hS ia_150 hi_1031 dX11_rates_55 ?_
              refine lv_aload_n hx hb dX11_rates_56 rfl (lv_at hl 0 rfl) ?_
              refine gX11_25 B hS dX11_rates_57 ?_
              refine lv_bipush (v := 14) hx hb dX11_rates_60 (by decide) ?_
              refine lv_iload hx hb dX11_rates_62 (lv_at hl 4 rfl) ?_
              refine lv_iadd hx hb dX11_rates_64 ?_
              obtain ⟨hi_1032, hrun⟩ := gdE hrun
              refine xa B hS ia_150 hi_1032 dX11_rates_65 ?_
              refine lv_iload_n hx hb dX11_rates_66 rfl (lv_at hl 2 rfl) ?_
              obtain ⟨r_1034, hc_1033, hrun⟩ := bdE hrun
              refine qX11_187 B hS hc_1033 hl.1 (Nat.le_of_ble_eq_true rfl) ⟨Nat.le_of_ble_eq_true rfl, Nat.le_of_ble_eq_true rfl⟩ ⟨Nat.zero_le _, Nat.zero_le _⟩ dX11_rates_67 (fun H locs hS => ?_)
              refine lv_goto (tgt := 74) hx hb dX11_rates_70 (by decide) ?_
              exact hB74 x1 x2 x3 x4 r_1034 _ _ _ hS (lv_sub hl [0, 1, 2, 3, 4] rfl) hrun
      intro x1 x2 H locs ls hS hl hrun
      rw [fX11_rates_17_s] at hrun
      refine lv_iload_n hx hb dX11_rates_17 rfl (lv_at hl 2 rfl) ?_
      refine lv_bipush (v := 9) hx hb dX11_rates_18 (by decide) ?_
      refine lv_icmp_gt (tgt := 128) hx hb dX11_rates_20 (by decide) (fun hc => ?_) (fun hc => ?_)
      · have hrun := ip hc hrun
        refine lv_iconst (v := -1) hx hb dX11_rates_128 (by decide) ?_
        exact hret _ _ _ _ _ _ (congrArg (Option.map (fun w => (w, t))) hrun) rfl hS dX11_rates_129
      · have hrun := iq hc hrun
        refine lv_iconst (v := 0) hx hb dX11_rates_23 (by decide) ?_
        refine lv_istore_n (lv' := [(3, .int (0 : Int32)), (0, .ref (X.2.1 144)), (1, .int x1), (2, .int x2)]) hx hb dX11_rates_24 rfl hl (by decide) rfl (fun ls hl => ?_)
        refine lv_iconst (v := 0) hx hb dX11_rates_25 (by decide) ?_
        refine lv_istore (lv' := [(4, .int (0 : Int32)), (3, .int (0 : Int32)), (0, .ref (X.2.1 144)), (1, .int x1), (2, .int x2)]) hx hb dX11_rates_26 hl (by decide) rfl (fun ls hl => ?_)
        exact hB28 fuelN x1 x2 (0 : Int32) (0 : Int32) _ _ _ hS (lv_sub hl [2, 3, 4, 1, 0] rfl) hrun
  unfold fX11_rates at hrun
  refine lv_iload_n hx hb dX11_rates_0 rfl (lv_at hl 1 rfl) ?_
  refine lv_i2l hx hb dX11_rates_1 rfl ?_
  refine lv_lconst (v := 0) hx hb dX11_rates_2 (by decide) ?_
  refine lv_ldc2 (v := 999999) hx hb hown (hts _ (tw_6 28 rfl rfl)) dX11_rates_3 ?_
  obtain ⟨r_2, hc_1, hrun⟩ := bdE hrun
  refine qX11_84 B hS hc_1 hl.1 (Nat.le_of_ble_eq_true rfl) ⟨Nat.le_of_ble_eq_true rfl, Nat.le_of_ble_eq_true rfl⟩ ⟨Nat.zero_le _, Nat.zero_le _⟩ dX11_rates_6 (fun H locs hS => ?_)
  refine lv_if_ne (tgt := 15) hx hb dX11_rates_9 (by decide) (fun hc => ?_) (fun hc => ?_)
  · have hrun := iq hc hrun
    refine lv_iconst (v := 1) hx hb dX11_rates_15 (by decide) ?_
    refine lv_istore_n (lv' := [(2, .int (1 : Int32)), (0, .ref (X.2.1 144)), (1, .int x1)]) hx hb dX11_rates_16 rfl hl (by decide) rfl (fun ls hl => ?_)
    exact hB17 fuelN x1 (1 : Int32) _ _ _ hS (lv_sub hl [1, 2, 0] rfl) hrun
  · have hrun := ip hc hrun
    refine lv_ldc (v := -1000000002) hx hb hown (hts _ (tw_4 220 rfl rfl)) dX11_rates_12 ?_
    exact hret _ _ _ _ _ _ (congrArg (Option.map (fun w => (w, t))) hrun) rfl hS dX11_rates_14
theorem mdX11_dry : MD yX11_dry 2 := ⟨by decide +kernel, by decide +kernel, by decide +kernel⟩
set_option maxHeartbeats 4000000 in
set_option maxRecDepth 100000 in
theorem kX11_dry (l : Launch) (X : Cx) (t : St) (x1 : Int32) (x2 : Int32) (r : Int32) (hrun : fX11_dry t x1 x2 = some r) : Ci l X t yX11_dry cX11_dry 6 .int 1 25 [.ref (X.2.1 144), .int x1, .int x2] r t := by
  refine Ci_of (by decide) (Nat.le_of_ble_eq_true rfl) ?_
  intro p e s m args below meth c Q B hret hS ls hl
  have hx := B.1
  have hb := B.2.1
  have hown := B.2.2.2.1
  have hts := B.2.2.2.2.1
  have hl : lv_has ls 6 [(0, .ref (X.2.1 144)), (1, .int x1), (2, .int x2)] := hl
  have hB34 : ∀ (n34 : Nat) (x1 : Int32) (x2 : Int32) (x3 : Int64) (x5 : Int32) (H : Heap) (locs : List Loc) (ls : Array Slot), SS X t s.heap H locs → lv_has ls 6 [(1, .int x1), (2, .int x2), (3, .long x3), (5, .int x5)] → fX11_dry_34 t n34 x1 x2 x3 x5 = some r → W p l e ({ frames := 1, cells := 0, slots := 0, locals := 25 } : Room) s m args below meth c H locs 0 0 Q (F0 m 34 ls []) := by
    intro n34
    induction n34 with
    | zero =>
      intro x1 x2 x3 x5 H locs ls hS hl hrun
      cases (show (none : Option (Int32)) = some r from hrun)
    | succ n34 ih34 =>
      intro x1 x2 x3 x5 H locs ls hS hl hrun
      rw [fX11_dry_34_s] at hrun
      refine lv_iload hx hb dX11_dry_34 (lv_at hl 3 rfl) ?_
      refine lv_iload_n hx hb dX11_dry_36 rfl (lv_at hl 0 rfl) ?_
      refine lv_icmp_ge (tgt := 55) hx hb dX11_dry_37 (by decide) (fun hc => ?_) (fun hc => ?_)
      · have hrun := ip hc hrun
        refine lv_lload_n hx hb dX11_dry_55 rfl (lv_at hl 2 rfl) ?_
        refine lv_l2i hx hb dX11_dry_56 rfl ?_
        exact hret _ _ _ _ _ _ (congrArg (Option.map (fun w => (w, t))) hrun) rfl hS dX11_dry_57
      · have hrun := iq hc hrun
        refine lv_lload_n hx hb dX11_dry_40 rfl (lv_at hl 2 rfl) ?_
        refine lv_iload_n hx hb dX11_dry_41 rfl (lv_at hl 1 rfl) ?_
        refine lv_i2l hx hb dX11_dry_42 rfl ?_
        refine lv_lmul hx hb dX11_dry_43 ?_
        refine lv_ldc2 (v := 100) hx hb hown (hts _ (tw_6 33 rfl rfl)) dX11_dry_44 ?_
        refine lv_ldiv hx hb dX11_dry_47 (by decide) ?_
        refine lv_topl (fun x3_1035 ex => ?_)
        obtain ⟨z, ez, hrun⟩ := bsE hrun
        obtain rfl : x3_1035 = z := ex.trans ez.symm
        clear ex ez
        refine lv_lstore_n (lv' := [(3, .long x3_1035), (1, .int x1), (2, .int x2), (5, .int x5)]) hx hb dX11_dry_48 rfl hl (by decide) rfl (fun ls hl => ?_)
        refine lv_iinc (v := x5 + (1 : Int32)) (k := 3) (lv' := [(5, .int (x5 + (1 : Int32))), (3, .long x3_1035), (1, .int x1), (2, .int x2)]) hx hb dX11_dry_49 hl rfl rfl (by decide) rfl (fun ls hl => ?_)
        refine lv_goto (tgt := 34) hx hb dX11_dry_52 (by decide) ?_
        exact ih34 x1 x2 x3_1035 (x5 + (1 : Int32)) _ _ _ hS (lv_sub hl [2, 3, 1, 0] rfl) hrun
  unfold fX11_dry at hrun
  refine lv_iload_n hx hb dX11_dry_0 rfl (lv_at hl 1 rfl) ?_
  refine lv_i2l hx hb dX11_dry_1 rfl ?_
  refine lv_lconst (v := 0) hx hb dX11_dry_2 (by decide) ?_
  refine lv_ldc2 (v := 60) hx hb hown (hts _ (tw_5 136 rfl rfl)) dX11_dry_3 ?_
  obtain ⟨r_2, hc_1, hrun⟩ := bdE hrun
  refine qX11_84 B hS hc_1 hl.1 (Nat.le_of_ble_eq_true rfl) ⟨Nat.le_of_ble_eq_true rfl, Nat.le_of_ble_eq_true rfl⟩ ⟨Nat.zero_le _, Nat.zero_le _⟩ dX11_dry_6 (fun H locs hS => ?_)
  refine lv_if_eq (tgt := 24) hx hb dX11_dry_9 (by decide) (fun hc => ?_) (fun hc => ?_)
  · have hrun := ip hc hrun
    refine lv_ldc (v := -1000000002) hx hb hown (hts _ (tw_4 220 rfl rfl)) dX11_dry_24 ?_
    exact hret _ _ _ _ _ _ (congrArg (Option.map (fun w => (w, t))) hrun) rfl hS dX11_dry_26
  · have hrun := iq hc hrun
    refine lv_iload_n hx hb dX11_dry_12 rfl (lv_at hl 2 rfl) ?_
    refine lv_i2l hx hb dX11_dry_13 rfl ?_
    refine lv_lconst (v := 0) hx hb dX11_dry_14 (by decide) ?_
    refine lv_ldc2 (v := 100) hx hb hown (hts _ (tw_6 33 rfl rfl)) dX11_dry_15 ?_
    obtain ⟨r_4, hc_3, hrun⟩ := bdE hrun
    refine qX11_84 B hS hc_3 hl.1 (Nat.le_of_ble_eq_true rfl) ⟨Nat.le_of_ble_eq_true rfl, Nat.le_of_ble_eq_true rfl⟩ ⟨Nat.zero_le _, Nat.zero_le _⟩ dX11_dry_18 (fun H locs hS => ?_)
    refine lv_if_ne (tgt := 27) hx hb dX11_dry_21 (by decide) (fun hc => ?_) (fun hc => ?_)
    · have hrun := iq hc hrun
      refine lv_ldc2 (v := 1000000000) hx hb hown (hts _ (tw_6 34 rfl rfl)) dX11_dry_27 ?_
      refine lv_lstore_n (lv' := [(3, .long (1000000000 : Int64)), (0, .ref (X.2.1 144)), (1, .int x1), (2, .int x2)]) hx hb dX11_dry_30 rfl hl (by decide) rfl (fun ls hl => ?_)
      refine lv_iconst (v := 0) hx hb dX11_dry_31 (by decide) ?_
      refine lv_istore (lv' := [(5, .int (0 : Int32)), (3, .long (1000000000 : Int64)), (0, .ref (X.2.1 144)), (1, .int x1), (2, .int x2)]) hx hb dX11_dry_32 hl (by decide) rfl (fun ls hl => ?_)
      exact hB34 fuelN x1 x2 (1000000000 : Int64) (0 : Int32) _ _ _ hS (lv_sub hl [3, 4, 1, 0] rfl) hrun
    · have hrun := ip hc hrun
      refine lv_ldc (v := -1000000002) hx hb hown (hts _ (tw_4 220 rfl rfl)) dX11_dry_24 ?_
      exact hret _ _ _ _ _ _ (congrArg (Option.map (fun w => (w, t))) hrun) rfl hS dX11_dry_26
theorem mdX11_pay : MD yX11_pay 2 := ⟨by decide +kernel, by decide +kernel, by decide +kernel⟩
set_option maxHeartbeats 4000000 in
set_option maxRecDepth 100000 in
theorem kX11_pay (l : Launch) (X : Cx) (t : St) (x1 : Int32) (x2 : Int32) (r : Int32) (t' : St) (hrun : fX11_pay t x1 x2 = some (r, t')) : Ci l X t yX11_pay cX11_pay 3 .int 2 46 [.ref (X.2.1 144), .int x1, .int x2] r t' := by
  refine Ci_of (by decide) (Nat.le_of_ble_eq_true rfl) ?_
  intro p e s m args below meth c Q B hret hS ls hl
  have hx := B.1
  have hb := B.2.1
  have hown := B.2.2.2.1
  have hts := B.2.2.2.2.1
  have hl : lv_has ls 3 [(0, .ref (X.2.1 144)), (1, .int x1), (2, .int x2)] := hl
  unfold fX11_pay at hrun
  refine lv_aload_n hx hb dX11_pay_0 rfl (lv_at hl 0 rfl) ?_
  refine lv_iload_n hx hb dX11_pay_1 rfl (lv_at hl 1 rfl) ?_
  obtain ⟨r_2, hc_1, hrun⟩ := bdE hrun
  refine qX11_232 B hS hc_1 hl.1 (Nat.le_of_ble_eq_true rfl) ⟨Nat.le_of_ble_eq_true rfl, Nat.le_of_ble_eq_true rfl⟩ ⟨Nat.zero_le _, Nat.zero_le _⟩ dX11_pay_2 (fun H locs hS => ?_)
  refine lv_if_ne (tgt := 11) hx hb dX11_pay_5 (by decide) (fun hc => ?_) (fun hc => ?_)
  · have hrun := iq hc hrun
    refine lv_iload_n hx hb dX11_pay_11 rfl (lv_at hl 2 rfl) ?_
    refine lv_i2l hx hb dX11_pay_12 rfl ?_
    refine lv_lconst (v := 0) hx hb dX11_pay_13 (by decide) ?_
    refine lv_ldc2 (v := 9999) hx hb hown (hts _ (tw_6 39 rfl rfl)) dX11_pay_14 ?_
    obtain ⟨r_4, hc_3, hrun⟩ := bdE hrun
    refine qX11_84 B hS hc_3 hl.1 (Nat.le_of_ble_eq_true rfl) ⟨Nat.le_of_ble_eq_true rfl, Nat.le_of_ble_eq_true rfl⟩ ⟨Nat.zero_le _, Nat.zero_le _⟩ dX11_pay_17 (fun H locs hS => ?_)
    refine lv_if_ne (tgt := 26) hx hb dX11_pay_20 (by decide) (fun hc => ?_) (fun hc => ?_)
    · have hrun := iq hc hrun
      refine lv_aload_n hx hb dX11_pay_26 rfl (lv_at hl 0 rfl) ?_
      refine gX11_170 B hS dX11_pay_27 ?_
      refine lv_bipush (v := 6) hx hb dX11_pay_30 (by decide) ?_
      refine lv_icmp_ne (tgt := 38) hx hb dX11_pay_32 (by decide) (fun hc => ?_) (fun hc => ?_)
      · have hrun := iq hc hrun
        refine lv_aload_n hx hb dX11_pay_38 rfl (lv_at hl 0 rfl) ?_
        refine gX11_59 B hS dX11_pay_39 ?_
        refine lv_aload_n hx hb dX11_pay_42 rfl (lv_at hl 0 rfl) ?_
        refine gX11_170 B hS dX11_pay_43 ?_
        refine lv_iload_n hx hb dX11_pay_46 rfl (lv_at hl 1 rfl) ?_
        obtain ⟨hi_5, hrun⟩ := gdE hrun
        refine xs B hS ia_160 hi_5 dX11_pay_47 (fun H locs hS => ?_)
        obtain ⟨t_6, et, hrun⟩ := bsE hrun
        have hS : SS X t_6 s.heap H locs := by rw [et]; exact hS
        clear et
        refine lv_aload_n hx hb dX11_pay_48 rfl (lv_at hl 0 rfl) ?_
        refine gX11_62 B hS dX11_pay_49 ?_
        refine lv_aload_n hx hb dX11_pay_52 rfl (lv_at hl 0 rfl) ?_
        refine gX11_170 B hS dX11_pay_53 ?_
        refine lv_iload_n hx hb dX11_pay_56 rfl (lv_at hl 2 rfl) ?_
        obtain ⟨hi_7, hrun⟩ := gdE hrun
        refine xs B hS ia_161 hi_7 dX11_pay_57 (fun H locs hS => ?_)
        obtain ⟨t_8, et, hrun⟩ := bsE hrun
        have hS : SS X t_8 s.heap H locs := by rw [et]; exact hS
        clear et
        refine lv_aload_n hx hb dX11_pay_58 rfl (lv_at hl 0 rfl) ?_
        refine lv_dup hx hb dX11_pay_59 rfl ?_
        refine gX11_170 B hS dX11_pay_60 ?_
        refine lv_iconst (v := 1) hx hb dX11_pay_63 (by decide) ?_
        refine lv_iadd hx hb dX11_pay_64 ?_
        refine pX11_170 B hS dX11_pay_65 (fun H locs hS => ?_)
        obtain ⟨t_9, et, hrun⟩ := bsE hrun
        have hS : SS X t_9 s.heap H locs := by rw [et]; exact hS
        clear et
        refine lv_aload_n hx hb dX11_pay_68 rfl (lv_at hl 0 rfl) ?_
        refine gX11_170 B hS dX11_pay_69 ?_
        exact hret _ _ _ _ _ _ hrun rfl hS dX11_pay_72
      · have hrun := ip hc hrun
        refine lv_ldc (v := -1000000004) hx hb hown (hts _ (tw_4 221 rfl rfl)) dX11_pay_35 ?_
        exact hret _ _ _ _ _ _ hrun rfl hS dX11_pay_37
    · have hrun := ip hc hrun
      refine lv_ldc (v := -1000000002) hx hb hown (hts _ (tw_4 220 rfl rfl)) dX11_pay_23 ?_
      exact hret _ _ _ _ _ _ hrun rfl hS dX11_pay_25
  · have hrun := ip hc hrun
    refine lv_ldc (v := -1000000001) hx hb hown (hts _ (tw_5 111 rfl rfl)) dX11_pay_8 ?_
    exact hret _ _ _ _ _ _ hrun rfl hS dX11_pay_10
theorem mdX11_write : MD yX11_write 2 := ⟨by decide +kernel, by decide +kernel, by decide +kernel⟩
set_option maxHeartbeats 4000000 in
set_option maxRecDepth 100000 in
theorem kX11_write (l : Launch) (X : Cx) (t : St) (x1 : Int32) (x2 : Int32) (r : Int32) (t' : St) (hrun : fX11_write t x1 x2 = some (r, t')) : Ci l X t yX11_write cX11_write 3 .int 2 46 [.ref (X.2.1 144), .int x1, .int x2] r t' := by
  refine Ci_of (by decide) (Nat.le_of_ble_eq_true rfl) ?_
  intro p e s m args below meth c Q B hret hS ls hl
  have hx := B.1
  have hb := B.2.1
  have hown := B.2.2.2.1
  have hts := B.2.2.2.2.1
  have hl : lv_has ls 3 [(0, .ref (X.2.1 144)), (1, .int x1), (2, .int x2)] := hl
  unfold fX11_write at hrun
  refine lv_aload_n hx hb dX11_write_0 rfl (lv_at hl 0 rfl) ?_
  refine lv_iload_n hx hb dX11_write_1 rfl (lv_at hl 1 rfl) ?_
  obtain ⟨r_2, hc_1, hrun⟩ := bdE hrun
  refine qX11_228 B hS hc_1 hl.1 (Nat.le_of_ble_eq_true rfl) ⟨Nat.le_of_ble_eq_true rfl, Nat.le_of_ble_eq_true rfl⟩ ⟨Nat.zero_le _, Nat.zero_le _⟩ dX11_write_2 (fun H locs hS => ?_)
  refine lv_if_ne (tgt := 11) hx hb dX11_write_5 (by decide) (fun hc => ?_) (fun hc => ?_)
  · have hrun := iq hc hrun
    refine lv_iload_n hx hb dX11_write_11 rfl (lv_at hl 2 rfl) ?_
    refine lv_i2l hx hb dX11_write_12 rfl ?_
    refine lv_lconst (v := 0) hx hb dX11_write_13 (by decide) ?_
    refine lv_ldc2 (v := 9999) hx hb hown (hts _ (tw_6 39 rfl rfl)) dX11_write_14 ?_
    obtain ⟨r_4, hc_3, hrun⟩ := bdE hrun
    refine qX11_84 B hS hc_3 hl.1 (Nat.le_of_ble_eq_true rfl) ⟨Nat.le_of_ble_eq_true rfl, Nat.le_of_ble_eq_true rfl⟩ ⟨Nat.zero_le _, Nat.zero_le _⟩ dX11_write_17 (fun H locs hS => ?_)
    refine lv_if_ne (tgt := 26) hx hb dX11_write_20 (by decide) (fun hc => ?_) (fun hc => ?_)
    · have hrun := iq hc hrun
      refine lv_aload_n hx hb dX11_write_26 rfl (lv_at hl 0 rfl) ?_
      refine gX11_173 B hS dX11_write_27 ?_
      refine lv_bipush (v := 15) hx hb dX11_write_30 (by decide) ?_
      refine lv_icmp_ne (tgt := 38) hx hb dX11_write_32 (by decide) (fun hc => ?_) (fun hc => ?_)
      · have hrun := iq hc hrun
        refine lv_aload_n hx hb dX11_write_38 rfl (lv_at hl 0 rfl) ?_
        refine gX11_65 B hS dX11_write_39 ?_
        refine lv_aload_n hx hb dX11_write_42 rfl (lv_at hl 0 rfl) ?_
        refine gX11_173 B hS dX11_write_43 ?_
        refine lv_iload_n hx hb dX11_write_46 rfl (lv_at hl 1 rfl) ?_
        obtain ⟨hi_5, hrun⟩ := gdE hrun
        refine xs B hS ia_162 hi_5 dX11_write_47 (fun H locs hS => ?_)
        obtain ⟨t_6, et, hrun⟩ := bsE hrun
        have hS : SS X t_6 s.heap H locs := by rw [et]; exact hS
        clear et
        refine lv_aload_n hx hb dX11_write_48 rfl (lv_at hl 0 rfl) ?_
        refine gX11_68 B hS dX11_write_49 ?_
        refine lv_aload_n hx hb dX11_write_52 rfl (lv_at hl 0 rfl) ?_
        refine gX11_173 B hS dX11_write_53 ?_
        refine lv_iload_n hx hb dX11_write_56 rfl (lv_at hl 2 rfl) ?_
        obtain ⟨hi_7, hrun⟩ := gdE hrun
        refine xs B hS ia_163 hi_7 dX11_write_57 (fun H locs hS => ?_)
        obtain ⟨t_8, et, hrun⟩ := bsE hrun
        have hS : SS X t_8 s.heap H locs := by rw [et]; exact hS
        clear et
        refine lv_aload_n hx hb dX11_write_58 rfl (lv_at hl 0 rfl) ?_
        refine lv_dup hx hb dX11_write_59 rfl ?_
        refine gX11_173 B hS dX11_write_60 ?_
        refine lv_iconst (v := 1) hx hb dX11_write_63 (by decide) ?_
        refine lv_iadd hx hb dX11_write_64 ?_
        refine pX11_173 B hS dX11_write_65 (fun H locs hS => ?_)
        obtain ⟨t_9, et, hrun⟩ := bsE hrun
        have hS : SS X t_9 s.heap H locs := by rw [et]; exact hS
        clear et
        refine lv_aload_n hx hb dX11_write_68 rfl (lv_at hl 0 rfl) ?_
        refine gX11_173 B hS dX11_write_69 ?_
        exact hret _ _ _ _ _ _ hrun rfl hS dX11_write_72
      · have hrun := ip hc hrun
        refine lv_ldc (v := -1000000004) hx hb hown (hts _ (tw_4 221 rfl rfl)) dX11_write_35 ?_
        exact hret _ _ _ _ _ _ hrun rfl hS dX11_write_37
    · have hrun := ip hc hrun
      refine lv_ldc (v := -1000000002) hx hb hown (hts _ (tw_4 220 rfl rfl)) dX11_write_23 ?_
      exact hret _ _ _ _ _ _ hrun rfl hS dX11_write_25
  · have hrun := ip hc hrun
    refine lv_ldc (v := -1000000001) hx hb hown (hts _ (tw_5 111 rfl rfl)) dX11_write_8 ?_
    exact hret _ _ _ _ _ _ hrun rfl hS dX11_write_10
theorem mdX11_tear : MD yX11_tear 0 := ⟨by decide +kernel, by decide +kernel, by decide +kernel⟩
set_option maxHeartbeats 4000000 in
set_option maxRecDepth 100000 in
theorem kX11_tear (l : Launch) (X : Cx) (t : St) (r : Int32) (t' : St) (hrun : fX11_tear t = some (r, t')) : Ci l X t yX11_tear cX11_tear 2 .int 0 0 [.ref (X.2.1 144)] r t' := by
  refine Ci_of (by decide) (Nat.le_of_ble_eq_true rfl) ?_
  intro p e s m args below meth c Q B hret hS ls hl
  have hx := B.1
  have hb := B.2.1
  have hown := B.2.2.2.1
  have hts := B.2.2.2.2.1
  have hl : lv_has ls 2 [(0, .ref (X.2.1 144))] := hl
  unfold fX11_tear at hrun
  refine lv_aload_n hx hb dX11_tear_0 rfl (lv_at hl 0 rfl) ?_
  refine gX11_170 B hS dX11_tear_1 ?_
  refine lv_aload_n hx hb dX11_tear_4 rfl (lv_at hl 0 rfl) ?_
  refine gX11_173 B hS dX11_tear_5 ?_
  refine lv_iadd hx hb dX11_tear_8 ?_
  refine lv_topi (fun x1_1 ex => ?_)
  obtain ⟨z, ez, hrun⟩ := bsE hrun
  obtain rfl : x1_1 = z := ex.trans ez.symm
  clear ex ez
  refine lv_istore_n (lv' := [(1, .int x1_1), (0, .ref (X.2.1 144))]) hx hb dX11_tear_9 rfl hl (by decide) rfl (fun ls hl => ?_)
  refine lv_aload_n hx hb dX11_tear_10 rfl (lv_at hl 1 rfl) ?_
  refine lv_iconst (v := 0) hx hb dX11_tear_11 (by decide) ?_
  refine pX11_170 B hS dX11_tear_12 (fun H locs hS => ?_)
  obtain ⟨t_2, et, hrun⟩ := bsE hrun
  have hS : SS X t_2 s.heap H locs := by rw [et]; exact hS
  clear et
  refine lv_aload_n hx hb dX11_tear_15 rfl (lv_at hl 1 rfl) ?_
  refine lv_iconst (v := 0) hx hb dX11_tear_16 (by decide) ?_
  refine pX11_173 B hS dX11_tear_17 (fun H locs hS => ?_)
  obtain ⟨t_3, et, hrun⟩ := bsE hrun
  have hS : SS X t_3 s.heap H locs := by rw [et]; exact hS
  clear et
  refine lv_iload_n hx hb dX11_tear_20 rfl (lv_at hl 0 rfl) ?_
  exact hret _ _ _ _ _ _ hrun rfl hS dX11_tear_21
theorem mdX11_judge : MD yX11_judge 0 := ⟨by decide +kernel, by decide +kernel, by decide +kernel⟩
set_option maxHeartbeats 4000000 in
set_option maxRecDepth 100000 in
theorem kX11_judge (l : Launch) (X : Cx) (t : St) (r : Int32) (hrun : fX11_judge t = some r) : Ci l X t yX11_judge cX11_judge 2 .int 0 0 [.ref (X.2.1 144)] r t := by
  refine Ci_of (by decide) (Nat.le_of_ble_eq_true rfl) ?_
  intro p e s m args below meth c Q B hret hS ls hl
  have hx := B.1
  have hb := B.2.1
  have hown := B.2.2.2.1
  have hts := B.2.2.2.2.1
  have hl : lv_has ls 2 [(0, .ref (X.2.1 144))] := hl
  have hB2 : ∀ (n2 : Nat) (x1 : Int32) (H : Heap) (locs : List Loc) (ls : Array Slot), SS X t s.heap H locs → lv_has ls 2 [(0, .ref (X.2.1 144)), (1, .int x1)] → fX11_judge_2 t n2 x1 = some r → W p l e ({ frames := 0, cells := 0, slots := 0, locals := 0 } : Room) s m args below meth c H locs 0 0 Q (F0 m 2 ls []) := by
    intro n2
    induction n2 with
    | zero =>
      intro x1 H locs ls hS hl hrun
      cases (show (none : Option (Int32)) = some r from hrun)
    | succ n2 ih2 =>
      intro x1 H locs ls hS hl hrun
      rw [fX11_judge_2_s] at hrun
      refine lv_iload_n hx hb dX11_judge_2 rfl (lv_at hl 1 rfl) ?_
      refine lv_aload_n hx hb dX11_judge_3 rfl (lv_at hl 0 rfl) ?_
      refine gX11_173 B hS dX11_judge_4 ?_
      refine lv_icmp_ge (tgt := 41) hx hb dX11_judge_7 (by decide) (fun hc => ?_) (fun hc => ?_)
      · have hrun := ip hc hrun
        refine lv_iconst (v := -1) hx hb dX11_judge_41 (by decide) ?_
        exact hret _ _ _ _ _ _ (congrArg (Option.map (fun w => (w, t))) hrun) rfl hS dX11_judge_42
      · have hrun := iq hc hrun
        refine lv_aload_n hx hb dX11_judge_10 rfl (lv_at hl 0 rfl) ?_
        refine gX11_25 B hS dX11_judge_11 ?_
        refine lv_bipush (v := 7) hx hb dX11_judge_14 (by decide) ?_
        refine lv_aload_n hx hb dX11_judge_16 rfl (lv_at hl 0 rfl) ?_
        refine gX11_65 B hS dX11_judge_17 ?_
        refine lv_iload_n hx hb dX11_judge_20 rfl (lv_at hl 1 rfl) ?_
        obtain ⟨hi_1003, hrun⟩ := gdE hrun
        refine xa B hS ia_162 hi_1003 dX11_judge_21 ?_
        refine lv_iadd hx hb dX11_judge_22 ?_
        obtain ⟨hi_1004, hrun⟩ := gdE hrun
        refine xa B hS ia_150 hi_1004 dX11_judge_23 ?_
        refine lv_aload_n hx hb dX11_judge_24 rfl (lv_at hl 0 rfl) ?_
        refine gX11_68 B hS dX11_judge_25 ?_
        refine lv_iload_n hx hb dX11_judge_28 rfl (lv_at hl 1 rfl) ?_
        obtain ⟨hi_1005, hrun⟩ := gdE hrun
        refine xa B hS ia_163 hi_1005 dX11_judge_29 ?_
        refine lv_icmp_eq (tgt := 35) hx hb dX11_judge_30 (by decide) (fun hc => ?_) (fun hc => ?_)
        · have hrun := ip hc hrun
          refine lv_iinc (v := x1 + (1 : Int32)) (k := 1) (lv' := [(1, .int (x1 + (1 : Int32))), (0, .ref (X.2.1 144))]) hx hb dX11_judge_35 hl rfl rfl (by decide) rfl (fun ls hl => ?_)
          refine lv_goto (tgt := 2) hx hb dX11_judge_38 (by decide) ?_
          exact ih2 (x1 + (1 : Int32)) _ _ _ hS (lv_sub hl [1, 0] rfl) hrun
        · have hrun := iq hc hrun
          refine lv_iload_n hx hb dX11_judge_33 rfl (lv_at hl 1 rfl) ?_
          exact hret _ _ _ _ _ _ (congrArg (Option.map (fun w => (w, t))) hrun) rfl hS dX11_judge_34
  unfold fX11_judge at hrun
  refine lv_iconst (v := 0) hx hb dX11_judge_0 (by decide) ?_
  refine lv_istore_n (lv' := [(1, .int (0 : Int32)), (0, .ref (X.2.1 144))]) hx hb dX11_judge_1 rfl hl (by decide) rfl (fun ls hl => ?_)
  exact hB2 fuelN (0 : Int32) _ _ _ hS (lv_sub hl [1, 0] rfl) hrun
theorem mdX11_seed : MD yX11_seed 1 := ⟨by decide +kernel, by decide +kernel, by decide +kernel⟩
set_option maxHeartbeats 4000000 in
set_option maxRecDepth 100000 in
theorem kX11_seed (l : Launch) (X : Cx) (t : St) (x1 : Int32) (r : Int32) (t' : St) (hrun : fX11_seed t x1 = some (r, t')) : Ci l X t yX11_seed cX11_seed 3 .int 0 0 [.ref (X.2.1 144), .int x1] r t' := by
  refine Ci_of (by decide) (Nat.le_of_ble_eq_true rfl) ?_
  intro p e s m args below meth c Q B hret hS ls hl
  have hx := B.1
  have hb := B.2.1
  have hown := B.2.2.2.1
  have hts := B.2.2.2.2.1
  have hl : lv_has ls 3 [(0, .ref (X.2.1 144)), (1, .int x1)] := hl
  unfold fX11_seed at hrun
  refine lv_iload_n hx hb dX11_seed_0 rfl (lv_at hl 1 rfl) ?_
  refine lv_if_ge (tgt := 7) hx hb dX11_seed_1 (by decide) (fun hc => ?_) (fun hc => ?_)
  · have hrun := ip hc hrun
    refine lv_aload_n hx hb dX11_seed_7 rfl (lv_at hl 0 rfl) ?_
    refine gX11_272 B hS dX11_seed_8 ?_
    refine lv_topi (fun x2_1 ex => ?_)
    obtain ⟨z, ez, hrun⟩ := bsE hrun
    obtain rfl : x2_1 = z := ex.trans ez.symm
    clear ex ez
    refine lv_istore_n (lv' := [(2, .int x2_1), (0, .ref (X.2.1 144)), (1, .int x1)]) hx hb dX11_seed_11 rfl hl (by decide) rfl (fun ls hl => ?_)
    refine lv_aload_n hx hb dX11_seed_12 rfl (lv_at hl 1 rfl) ?_
    refine lv_iload_n hx hb dX11_seed_13 rfl (lv_at hl 2 rfl) ?_
    refine pX11_272 B hS dX11_seed_14 (fun H locs hS => ?_)
    obtain ⟨t_2, et, hrun⟩ := bsE hrun
    have hS : SS X t_2 s.heap H locs := by rw [et]; exact hS
    clear et
    refine lv_iload_n hx hb dX11_seed_17 rfl (lv_at hl 0 rfl) ?_
    exact hret _ _ _ _ _ _ hrun rfl hS dX11_seed_18
  · have hrun := iq hc hrun
    refine lv_ldc (v := -1000000002) hx hb hown (hts _ (tw_4 220 rfl rfl)) dX11_seed_4 ?_
    exact hret _ _ _ _ _ _ hrun rfl hS dX11_seed_6
theorem mdX11_keep : MD yX11_keep 1 := ⟨by decide +kernel, by decide +kernel, by decide +kernel⟩
set_option maxHeartbeats 4000000 in
set_option maxRecDepth 100000 in
theorem kX11_keep (l : Launch) (X : Cx) (t : St) (x1 : Int32) (r : Int32) (t' : St) (hrun : fX11_keep t x1 = some (r, t')) : Ci l X t yX11_keep cX11_keep 3 .int 1 25 [.ref (X.2.1 144), .int x1] r t' := by
  refine Ci_of (by decide) (Nat.le_of_ble_eq_true rfl) ?_
  intro p e s m args below meth c Q B hret hS ls hl
  have hx := B.1
  have hb := B.2.1
  have hown := B.2.2.2.1
  have hts := B.2.2.2.2.1
  have hl : lv_has ls 3 [(0, .ref (X.2.1 144)), (1, .int x1)] := hl
  have hB44 : ∀ (t : St) (x1 : Int32) (H : Heap) (locs : List Loc) (ls : Array Slot), SS X t s.heap H locs → lv_has ls 3 [(0, .ref (X.2.1 144)), (1, .int x1)] → fX11_keep_44 t x1 = some (r, t') → W p l e ({ frames := 1, cells := 0, slots := 0, locals := 25 } : Room) s m args below meth c H locs 0 0 Q (F0 m 44 ls []) := by
    intro t x1 H locs ls hS hl hrun
    unfold fX11_keep_44 at hrun
    refine lv_aload_n hx hb dX11_keep_44 rfl (lv_at hl 0 rfl) ?_
    refine gX11_71 B hS dX11_keep_45 ?_
    refine lv_bipush (v := 30) hx hb dX11_keep_48 (by decide) ?_
    refine lv_iload_n hx hb dX11_keep_50 rfl (lv_at hl 1 rfl) ?_
    refine lv_imul hx hb dX11_keep_51 ?_
    refine lv_bipush (v := 29) hx hb dX11_keep_52 (by decide) ?_
    refine lv_iadd hx hb dX11_keep_54 ?_
    refine lv_aload_n hx hb dX11_keep_55 rfl (lv_at hl 0 rfl) ?_
    refine gX11_272 B hS dX11_keep_56 ?_
    obtain ⟨hi_1045, hrun⟩ := gdE hrun
    refine xs B hS ia_164 hi_1045 dX11_keep_59 (fun H locs hS => ?_)
    obtain ⟨t_1046, et, hrun⟩ := bsE hrun
    have hS : SS X t_1046 s.heap H locs := by rw [et]; exact hS
    clear et
    refine lv_aload_n hx hb dX11_keep_60 rfl (lv_at hl 0 rfl) ?_
    refine gX11_74 B hS dX11_keep_61 ?_
    refine lv_iload_n hx hb dX11_keep_64 rfl (lv_at hl 1 rfl) ?_
    refine lv_iconst (v := 1) hx hb dX11_keep_65 (by decide) ?_
    obtain ⟨hi_1047, hrun⟩ := gdE hrun
    refine xsz B hS za_165 hi_1047 rfl dX11_keep_66 (fun H locs hS => ?_)
    obtain ⟨t_1048, et, hrun⟩ := bsE hrun
    have hS : SS X t_1048 s.heap H locs := by rw [et]; exact hS
    clear et
    refine lv_aload_n hx hb dX11_keep_67 rfl (lv_at hl 0 rfl) ?_
    refine lv_iconst (v := 0) hx hb dX11_keep_68 (by decide) ?_
    refine pX11_176 B hS dX11_keep_69 (fun H locs hS => ?_)
    obtain ⟨t_1049, et, hrun⟩ := bsE hrun
    have hS : SS X t_1049 s.heap H locs := by rw [et]; exact hS
    clear et
    refine lv_iconst (v := 1) hx hb dX11_keep_72 (by decide) ?_
    exact hret _ _ _ _ _ _ hrun rfl hS dX11_keep_73
  have hB15 : ∀ (n15 : Nat) (t : St) (x1 : Int32) (x2 : Int32) (H : Heap) (locs : List Loc) (ls : Array Slot), SS X t s.heap H locs → lv_has ls 3 [(0, .ref (X.2.1 144)), (1, .int x1), (2, .int x2)] → fX11_keep_15 n15 t x1 x2 = some (r, t') → W p l e ({ frames := 1, cells := 0, slots := 0, locals := 25 } : Room) s m args below meth c H locs 0 0 Q (F0 m 15 ls []) := by
    intro n15
    induction n15 with
    | zero =>
      intro t x1 x2 H locs ls hS hl hrun
      cases (show (none : Option (Int32 × St)) = some (r, t') from hrun)
    | succ n15 ih15 =>
      intro t x1 x2 H locs ls hS hl hrun
      rw [fX11_keep_15_s] at hrun
      refine lv_iload_n hx hb dX11_keep_15 rfl (lv_at hl 2 rfl) ?_
      refine lv_bipush (v := 29) hx hb dX11_keep_16 (by decide) ?_
      refine lv_icmp_ge (tgt := 44) hx hb dX11_keep_18 (by decide) (fun hc => ?_) (fun hc => ?_)
      · have hrun := ip hc hrun
        exact hB44 t x1 _ _ _ hS (lv_sub hl [0, 1] rfl) hrun
      · have hrun := iq hc hrun
        refine lv_aload_n hx hb dX11_keep_21 rfl (lv_at hl 0 rfl) ?_
        refine gX11_71 B hS dX11_keep_22 ?_
        refine lv_bipush (v := 30) hx hb dX11_keep_25 (by decide) ?_
        refine lv_iload_n hx hb dX11_keep_27 rfl (lv_at hl 1 rfl) ?_
        refine lv_imul hx hb dX11_keep_28 ?_
        refine lv_iload_n hx hb dX11_keep_29 rfl (lv_at hl 2 rfl) ?_
        refine lv_iadd hx hb dX11_keep_30 ?_
        refine lv_aload_n hx hb dX11_keep_31 rfl (lv_at hl 0 rfl) ?_
        refine gX11_25 B hS dX11_keep_32 ?_
        refine lv_iload_n hx hb dX11_keep_35 rfl (lv_at hl 2 rfl) ?_
        obtain ⟨hi_1016, hrun⟩ := gdE hrun
        refine xa B hS ia_150 hi_1016 dX11_keep_36 ?_
        obtain ⟨hi_1017, hrun⟩ := gdE hrun
        refine xs B hS ia_164 hi_1017 dX11_keep_37 (fun H locs hS => ?_)
        obtain ⟨t_1018, et, hrun⟩ := bsE hrun
        have hS : SS X t_1018 s.heap H locs := by rw [et]; exact hS
        clear et
        refine lv_iinc (v := x2 + (1 : Int32)) (k := 2) (lv' := [(2, .int (x2 + (1 : Int32))), (0, .ref (X.2.1 144)), (1, .int x1)]) hx hb dX11_keep_38 hl rfl rfl (by decide) rfl (fun ls hl => ?_)
        refine lv_goto (tgt := 15) hx hb dX11_keep_41 (by decide) ?_
        exact ih15 t_1018 x1 (x2 + (1 : Int32)) _ _ _ hS (lv_sub hl [1, 2, 0] rfl) hrun
  unfold fX11_keep at hrun
  refine lv_iload_n hx hb dX11_keep_0 rfl (lv_at hl 1 rfl) ?_
  refine lv_i2l hx hb dX11_keep_1 rfl ?_
  refine lv_lconst (v := 0) hx hb dX11_keep_2 (by decide) ?_
  refine lv_lconst (v := 1) hx hb dX11_keep_3 (by decide) ?_
  obtain ⟨r_2, hc_1, hrun⟩ := bdE hrun
  refine qX11_84 B hS hc_1 hl.1 (Nat.le_of_ble_eq_true rfl) ⟨Nat.le_of_ble_eq_true rfl, Nat.le_of_ble_eq_true rfl⟩ ⟨Nat.zero_le _, Nat.zero_le _⟩ dX11_keep_4 (fun H locs hS => ?_)
  refine lv_if_ne (tgt := 13) hx hb dX11_keep_7 (by decide) (fun hc => ?_) (fun hc => ?_)
  · have hrun := iq hc hrun
    refine lv_iconst (v := 0) hx hb dX11_keep_13 (by decide) ?_
    refine lv_istore_n (lv' := [(2, .int (0 : Int32)), (0, .ref (X.2.1 144)), (1, .int x1)]) hx hb dX11_keep_14 rfl hl (by decide) rfl (fun ls hl => ?_)
    exact hB15 fuelN t x1 (0 : Int32) _ _ _ hS (lv_sub hl [1, 2, 0] rfl) hrun
  · have hrun := ip hc hrun
    refine lv_ldc (v := -1000000001) hx hb hown (hts _ (tw_5 111 rfl rfl)) dX11_keep_10 ?_
    exact hret _ _ _ _ _ _ hrun rfl hS dX11_keep_12
theorem mdX11_goBack : MD yX11_goBack 1 := ⟨by decide +kernel, by decide +kernel, by decide +kernel⟩
set_option maxHeartbeats 4000000 in
set_option maxRecDepth 100000 in
theorem kX11_goBack (l : Launch) (X : Cx) (t : St) (x1 : Int32) (r : Int32) (t' : St) (hrun : fX11_goBack t x1 = some (r, t')) : Ci l X t yX11_goBack cX11_goBack 3 .int 1 25 [.ref (X.2.1 144), .int x1] r t' := by
  refine Ci_of (by decide) (Nat.le_of_ble_eq_true rfl) ?_
  intro p e s m args below meth c Q B hret hS ls hl
  have hx := B.1
  have hb := B.2.1
  have hown := B.2.2.2.1
  have hts := B.2.2.2.2.1
  have hl : lv_has ls 3 [(0, .ref (X.2.1 144)), (1, .int x1)] := hl
  have hB56 : ∀ (t : St) (x1 : Int32) (H : Heap) (locs : List Loc) (ls : Array Slot), SS X t s.heap H locs → lv_has ls 3 [(0, .ref (X.2.1 144)), (1, .int x1)] → fX11_goBack_56 t x1 = some (r, t') → W p l e ({ frames := 1, cells := 0, slots := 0, locals := 25 } : Room) s m args below meth c H locs 0 0 Q (F0 m 56 ls []) := by
    intro t x1 H locs ls hS hl hrun
    unfold fX11_goBack_56 at hrun
    refine lv_aload_n hx hb dX11_goBack_56 rfl (lv_at hl 0 rfl) ?_
    refine lv_aload_n hx hb dX11_goBack_57 rfl (lv_at hl 0 rfl) ?_
    refine gX11_71 B hS dX11_goBack_58 ?_
    refine lv_bipush (v := 30) hx hb dX11_goBack_61 (by decide) ?_
    refine lv_iload_n hx hb dX11_goBack_63 rfl (lv_at hl 1 rfl) ?_
    refine lv_imul hx hb dX11_goBack_64 ?_
    refine lv_bipush (v := 29) hx hb dX11_goBack_65 (by decide) ?_
    refine lv_iadd hx hb dX11_goBack_67 ?_
    obtain ⟨hi_1057, hrun⟩ := gdE hrun
    refine xa B hS ia_164 hi_1057 dX11_goBack_68 ?_
    refine pX11_272 B hS dX11_goBack_69 (fun H locs hS => ?_)
    obtain ⟨t_1058, et, hrun⟩ := bsE hrun
    have hS : SS X t_1058 s.heap H locs := by rw [et]; exact hS
    clear et
    refine lv_aload_n hx hb dX11_goBack_72 rfl (lv_at hl 0 rfl) ?_
    refine lv_iconst (v := 0) hx hb dX11_goBack_73 (by decide) ?_
    refine pX11_176 B hS dX11_goBack_74 (fun H locs hS => ?_)
    obtain ⟨t_1059, et, hrun⟩ := bsE hrun
    have hS : SS X t_1059 s.heap H locs := by rw [et]; exact hS
    clear et
    refine lv_iconst (v := 1) hx hb dX11_goBack_77 (by decide) ?_
    exact hret _ _ _ _ _ _ hrun rfl hS dX11_goBack_78
  have hB27 : ∀ (n27 : Nat) (t : St) (x1 : Int32) (x2 : Int32) (H : Heap) (locs : List Loc) (ls : Array Slot), SS X t s.heap H locs → lv_has ls 3 [(0, .ref (X.2.1 144)), (1, .int x1), (2, .int x2)] → fX11_goBack_27 n27 t x1 x2 = some (r, t') → W p l e ({ frames := 1, cells := 0, slots := 0, locals := 25 } : Room) s m args below meth c H locs 0 0 Q (F0 m 27 ls []) := by
    intro n27
    induction n27 with
    | zero =>
      intro t x1 x2 H locs ls hS hl hrun
      cases (show (none : Option (Int32 × St)) = some (r, t') from hrun)
    | succ n27 ih27 =>
      intro t x1 x2 H locs ls hS hl hrun
      rw [fX11_goBack_27_s] at hrun
      refine lv_iload_n hx hb dX11_goBack_27 rfl (lv_at hl 2 rfl) ?_
      refine lv_bipush (v := 29) hx hb dX11_goBack_28 (by decide) ?_
      refine lv_icmp_ge (tgt := 56) hx hb dX11_goBack_30 (by decide) (fun hc => ?_) (fun hc => ?_)
      · have hrun := ip hc hrun
        exact hB56 t x1 _ _ _ hS (lv_sub hl [0, 1] rfl) hrun
      · have hrun := iq hc hrun
        refine lv_aload_n hx hb dX11_goBack_33 rfl (lv_at hl 0 rfl) ?_
        refine gX11_25 B hS dX11_goBack_34 ?_
        refine lv_iload_n hx hb dX11_goBack_37 rfl (lv_at hl 2 rfl) ?_
        refine lv_aload_n hx hb dX11_goBack_38 rfl (lv_at hl 0 rfl) ?_
        refine gX11_71 B hS dX11_goBack_39 ?_
        refine lv_bipush (v := 30) hx hb dX11_goBack_42 (by decide) ?_
        refine lv_iload_n hx hb dX11_goBack_44 rfl (lv_at hl 1 rfl) ?_
        refine lv_imul hx hb dX11_goBack_45 ?_
        refine lv_iload_n hx hb dX11_goBack_46 rfl (lv_at hl 2 rfl) ?_
        refine lv_iadd hx hb dX11_goBack_47 ?_
        obtain ⟨hi_1028, hrun⟩ := gdE hrun
        refine xa B hS ia_164 hi_1028 dX11_goBack_48 ?_
        obtain ⟨hi_1029, hrun⟩ := gdE hrun
        refine xs B hS ia_150 hi_1029 dX11_goBack_49 (fun H locs hS => ?_)
        obtain ⟨t_1030, et, hrun⟩ := bsE hrun
        have hS : SS X t_1030 s.heap H locs := by rw [et]; exact hS
        clear et
        refine lv_iinc (v := x2 + (1 : Int32)) (k := 2) (lv' := [(2, .int (x2 + (1 : Int32))), (0, .ref (X.2.1 144)), (1, .int x1)]) hx hb dX11_goBack_50 hl rfl rfl (by decide) rfl (fun ls hl => ?_)
        refine lv_goto (tgt := 27) hx hb dX11_goBack_53 (by decide) ?_
        exact ih27 t_1030 x1 (x2 + (1 : Int32)) _ _ _ hS (lv_sub hl [1, 2, 0] rfl) hrun
  unfold fX11_goBack at hrun
  refine lv_iload_n hx hb dX11_goBack_0 rfl (lv_at hl 1 rfl) ?_
  refine lv_i2l hx hb dX11_goBack_1 rfl ?_
  refine lv_lconst (v := 0) hx hb dX11_goBack_2 (by decide) ?_
  refine lv_lconst (v := 1) hx hb dX11_goBack_3 (by decide) ?_
  obtain ⟨r_2, hc_1, hrun⟩ := bdE hrun
  refine qX11_84 B hS hc_1 hl.1 (Nat.le_of_ble_eq_true rfl) ⟨Nat.le_of_ble_eq_true rfl, Nat.le_of_ble_eq_true rfl⟩ ⟨Nat.zero_le _, Nat.zero_le _⟩ dX11_goBack_4 (fun H locs hS => ?_)
  refine lv_if_ne (tgt := 13) hx hb dX11_goBack_7 (by decide) (fun hc => ?_) (fun hc => ?_)
  · have hrun := iq hc hrun
    refine lv_aload_n hx hb dX11_goBack_13 rfl (lv_at hl 0 rfl) ?_
    refine gX11_74 B hS dX11_goBack_14 ?_
    refine lv_iload_n hx hb dX11_goBack_17 rfl (lv_at hl 1 rfl) ?_
    obtain ⟨hi_3, hrun⟩ := gdE hrun
    refine xaz B hS za_165 hi_3 dX11_goBack_18 ?_
    refine lv_if_ne (tgt := 25) hx hb dX11_goBack_19 (by decide) (fun hc => ?_) (fun hc => ?_)
    · have hrun := iq hc hrun
      refine lv_iconst (v := 0) hx hb dX11_goBack_25 (by decide) ?_
      refine lv_istore_n (lv' := [(2, .int (0 : Int32)), (0, .ref (X.2.1 144)), (1, .int x1)]) hx hb dX11_goBack_26 rfl hl (by decide) rfl (fun ls hl => ?_)
      exact hB27 fuelN t x1 (0 : Int32) _ _ _ hS (lv_sub hl [1, 2, 0] rfl) hrun
    · have hrun := ip hc hrun
      refine lv_ldc (v := -1000000003) hx hb hown (hts _ (tw_5 137 rfl rfl)) dX11_goBack_22 ?_
      exact hret _ _ _ _ _ _ hrun rfl hS dX11_goBack_24
  · have hrun := ip hc hrun
    refine lv_ldc (v := -1000000001) hx hb hown (hts _ (tw_5 111 rfl rfl)) dX11_goBack_10 ?_
    exact hret _ _ _ _ _ _ hrun rfl hS dX11_goBack_12
