theorem mE_k {X : Cx} {b n j : Nat} {E : Nat → va_E} (h : j < n) : mE X b n E j = E j := by
  unfold mE
  rw [if_neg (by omega), if_neg (by omega)]
def eX0_init (X : Cx) (b o n : Nat) (E : Nat → va_E) : Nat → va_E := lt1 (va_up E o (.inr (0, [.int (0 : Int32), .int 0, .null]))) (fun E_1 => lt1 (va_up E_1 o (.inr (0, [.int (0 : Int32), .int (-1 : Int32), .null]))) (fun E_2 => lt1 (va_up E_2 n (.inl (X.2.2 0, 7, .inl (fun _ => 0)))) (fun E_3 => lt1 (va_up E_3 o (.inr (0, [.int (0 : Int32), .int (-1 : Int32), .ref (b + n)]))) (fun E_4 => E_4))))
theorem eX0_init_k {X : Cx} {b o n : Nat} {E : Nat → va_E} {j : Nat} (hj : j ≠ o) (hn : j < n) : eX0_init X b o n E j = E j := by
  unfold eX0_init
  simp only [lt1]
  refine (va_up_ne _ _ (by omega)).trans ?_
  refine (va_up_ne _ _ (by omega)).trans ?_
  refine (va_up_ne _ _ (by omega)).trans ?_
  refine (va_up_ne _ _ (by omega)).trans ?_
  rfl
theorem eX0_init_s {X : Cx} {b o n : Nat} {E : Nat → va_E} (ho : o < n) : eX0_init X b o n E o = .inr (0, [.int (0 : Int32), .int (-1 : Int32), .ref (b + n)]) := by
  unfold eX0_init
  simp only [lt1]
  exact va_up_self _ _ _
theorem mdX0_init : MD yX0_init 0 := ⟨by decide +kernel, by decide +kernel, by decide +kernel⟩
set_option maxHeartbeats 4000000 in
set_option maxRecDepth 100000 in
theorem kX0_init (l : Launch) (X : Cx) (b o n : Nat) (E : Nat → va_E) (ho : o < n) (he_o : E o = .inr (0, [.int 0, .int 0, .null])) : CI l X b yX0_init cX0_init 1 1 24 1 7 [.ref (b + o)] n E (n + 1) (eX0_init X b o n E) := by
  obtain ⟨E', hrun⟩ : ∃ z, eX0_init X b o n E = z := ⟨_, rfl⟩
  rw [hrun]
  refine CI_of (by decide) rfl (Nat.le_of_ble_eq_true rfl) ?_
  intro p e s m args below meth c Q B hin hret hS ls hl
  have hx := B.1
  have hb := B.2.1
  have hown := B.2.2.2.1
  have hts := B.2.2.2.2.1
  have hl : lv_has ls 1 [(0, .ref (b + o))] := hl
  unfold eX0_init at hrun
  refine lv_aload_n hx hb dX0_init_0 rfl (lv_at hl 0 rfl) ?_
  refine W.objInit hx hb hown (hts _ (tw_1 230 rfl rfl)) (hts _ (tw_1 22 rfl rfl)) (hts _ (tw_1 23 rfl rfl)) rfl (hl.1.trans B.2.2.1.symm) rfl dX0_init_1 (Nat.le_of_ble_eq_true rfl) (Nat.le_of_ble_eq_true rfl) ?_
  refine W.eq (g2 := F0 m 4 ls []) rfl ?_
  refine lv_aload_n hx hb dX0_init_4 rfl (lv_at hl 0 rfl) ?_
  refine lv_iconst (v := 0) hx hb dX0_init_5 (by decide) ?_
  refine s_put B hS hin layX0 tyX0 tyX0_ok nmX0 (by omega) he_o rfl 0 (by decide) (tw_1 231 rfl rfl) rfl rfl rfl rfl rfl (Nat.le_of_ble_eq_true rfl) dX0_init_6 (fun H locs hS => ?_)
  obtain ⟨E_1, eE, hrun⟩ := ltE hrun
  have hS : SP X b (n) E_1 s.heap H locs := by rw [eE]; exact hS
  have he_o : E_1 o = .inr (0, [.int (0 : Int32), .int 0, .null]) := by rw [eE]; exact va_up_self _ _ _
  clear eE
  refine lv_aload_n hx hb dX0_init_9 rfl (lv_at hl 0 rfl) ?_
  refine lv_iconst (v := -1) hx hb dX0_init_10 (by decide) ?_
  refine s_put B hS hin layX0 tyX0 tyX0_ok nmX0 (by omega) he_o rfl 1 (by decide) (tw_1 233 rfl rfl) rfl rfl rfl rfl rfl (Nat.le_of_ble_eq_true rfl) dX0_init_11 (fun H locs hS => ?_)
  obtain ⟨E_2, eE, hrun⟩ := ltE hrun
  have hS : SP X b (n) E_2 s.heap H locs := by rw [eE]; exact hS
  have he_o : E_2 o = .inr (0, [.int (0 : Int32), .int (-1 : Int32), .null]) := by rw [eE]; exact va_up_self _ _ _
  clear eE
  refine lv_aload_n hx hb dX0_init_14 rfl (lv_at hl 0 rfl) ?_
  refine lv_bipush (v := 7) hx hb dX0_init_15 (by decide) ?_
  refine s_newa (k0 := 0) B hS rfl (tw_1 86 rfl rfl) rfl (fun C h => by cases h) rfl (N' := 7) (by decide) rfl (by decide) (Nat.le_of_ble_eq_true rfl) (Nat.le_of_ble_eq_true rfl) dX0_init_17 (fun H hS => ?_)
  obtain ⟨E_3, eE, hrun⟩ := ltE hrun
  have hS : SP X b (n + 1) E_3 s.heap H locs := by rw [eE]; exact hS
  have he_o : E_3 o = .inr (0, [.int (0 : Int32), .int (-1 : Int32), .null]) := by rw [eE]; exact (va_up_ne _ _ (by omega)).trans he_o
  clear eE
  refine s_put B hS hin layX0 tyX0 tyX0_ok nmX0 (by omega) he_o rfl 2 (by decide) (tw_1 235 rfl rfl) rfl rfl rfl rfl rfl (Nat.le_of_ble_eq_true rfl) dX0_init_19 (fun H locs hS => ?_)
  obtain ⟨E_4, eE, hrun⟩ := ltE hrun
  have hS : SP X b (n + 1) E_4 s.heap H locs := by rw [eE]; exact hS
  have he_o : E_4 o = .inr (0, [.int (0 : Int32), .int (-1 : Int32), .ref (b + n)]) := by rw [eE]; exact va_up_self _ _ _
  clear eE
  exact hret _ _ _ _ _ hrun hS dX0_init_22
def eX1_init (X : Cx) (b o n : Nat) (E : Nat → va_E) : Nat → va_E := lt1 (va_up E o (.inr (1, [.int (0 : Int32)]))) (fun E_1 => E_1)
theorem eX1_init_k {X : Cx} {b o n : Nat} {E : Nat → va_E} {j : Nat} (hj : j ≠ o) (hn : j < n) : eX1_init X b o n E j = E j := by
  unfold eX1_init
  simp only [lt1]
  refine (va_up_ne _ _ (by omega)).trans ?_
  rfl
theorem eX1_init_s {X : Cx} {b o n : Nat} {E : Nat → va_E} (ho : o < n) : eX1_init X b o n E o = .inr (1, [.int (0 : Int32)]) := by
  unfold eX1_init
  simp only [lt1]
  exact va_up_self _ _ _
theorem mdX1_init : MD yX1_init 0 := ⟨by decide +kernel, by decide +kernel, by decide +kernel⟩
set_option maxHeartbeats 4000000 in
set_option maxRecDepth 100000 in
theorem kX1_init (l : Launch) (X : Cx) (b o n : Nat) (E : Nat → va_E) (ho : o < n) (he_o : E o = .inr (1, [.int 0])) : CI l X b yX1_init cX1_init 1 1 24 0 0 [.ref (b + o)] n E (n) (eX1_init X b o n E) := by
  obtain ⟨E', hrun⟩ : ∃ z, eX1_init X b o n E = z := ⟨_, rfl⟩
  rw [hrun]
  refine CI_of (by decide) rfl (Nat.le_of_ble_eq_true rfl) ?_
  intro p e s m args below meth c Q B hin hret hS ls hl
  have hx := B.1
  have hb := B.2.1
  have hown := B.2.2.2.1
  have hts := B.2.2.2.2.1
  have hl : lv_has ls 1 [(0, .ref (b + o))] := hl
  unfold eX1_init at hrun
  refine lv_aload_n hx hb dX1_init_0 rfl (lv_at hl 0 rfl) ?_
  refine W.objInit hx hb hown (hts _ (tw_2 58 rfl rfl)) (hts _ (tw_1 22 rfl rfl)) (hts _ (tw_1 23 rfl rfl)) rfl (hl.1.trans B.2.2.1.symm) rfl dX1_init_1 (Nat.le_of_ble_eq_true rfl) (Nat.le_of_ble_eq_true rfl) ?_
  refine W.eq (g2 := F0 m 4 ls []) rfl ?_
  refine lv_aload_n hx hb dX1_init_4 rfl (lv_at hl 0 rfl) ?_
  refine lv_iconst (v := 0) hx hb dX1_init_5 (by decide) ?_
  refine s_put B hS hin layX1 tyX1 tyX1_ok nmX1 (by omega) he_o rfl 0 (by decide) (tw_2 59 rfl rfl) rfl rfl rfl rfl rfl (Nat.le_of_ble_eq_true rfl) dX1_init_6 (fun H locs hS => ?_)
  obtain ⟨E_1, eE, hrun⟩ := ltE hrun
  have hS : SP X b (n) E_1 s.heap H locs := by rw [eE]; exact hS
  have he_o : E_1 o = .inr (1, [.int (0 : Int32)]) := by rw [eE]; exact va_up_self _ _ _
  clear eE
  exact hret _ _ _ _ _ hrun hS dX1_init_9
def eX2_init (X : Cx) (b o a1 n : Nat) (E : Nat → va_E) : Nat → va_E := lt1 (va_up E n (.inl (X.2.2 0, 7, .inl (fun _ => 0)))) (fun E_1 => lt1 (va_up E_1 o (.inr (2, [.null, .ref (b + n), .null, .null, .int 0, .int 0]))) (fun E_2 => lt1 (va_up E_2 (n + 1) (.inl (X.2.2 0, 4096, .inl (fun _ => 0)))) (fun E_3 => lt1 (va_up E_3 o (.inr (2, [.null, .ref (b + n), .ref (b + (n + 1)), .null, .int 0, .int 0]))) (fun E_4 => lt1 (va_up E_4 (n + 2) (.inl (X.2.2 0, 7, .inl (fun _ => 0)))) (fun E_5 => lt1 (va_up E_5 o (.inr (2, [.null, .ref (b + n), .ref (b + (n + 1)), .ref (b + (n + 2)), .int 0, .int 0]))) (fun E_6 => lt1 (va_up E_6 o (.inr (2, [.null, .ref (b + n), .ref (b + (n + 1)), .ref (b + (n + 2)), .int (0 : Int32), .int 0]))) (fun E_7 => lt1 (va_up E_7 o (.inr (2, [.null, .ref (b + n), .ref (b + (n + 1)), .ref (b + (n + 2)), .int (0 : Int32), .int (0 : Int32)]))) (fun E_8 => lt1 (va_up E_8 o (.inr (2, [.ref a1, .ref (b + n), .ref (b + (n + 1)), .ref (b + (n + 2)), .int (0 : Int32), .int (0 : Int32)]))) (fun E_9 => E_9)))))))))
theorem eX2_init_k {X : Cx} {b o a1 n : Nat} {E : Nat → va_E} {j : Nat} (hj : j ≠ o) (hn : j < n) : eX2_init X b o a1 n E j = E j := by
  unfold eX2_init
  simp only [lt1]
  refine (va_up_ne _ _ (by omega)).trans ?_
  refine (va_up_ne _ _ (by omega)).trans ?_
  refine (va_up_ne _ _ (by omega)).trans ?_
  refine (va_up_ne _ _ (by omega)).trans ?_
  refine (va_up_ne _ _ (by omega)).trans ?_
  refine (va_up_ne _ _ (by omega)).trans ?_
  refine (va_up_ne _ _ (by omega)).trans ?_
  refine (va_up_ne _ _ (by omega)).trans ?_
  refine (va_up_ne _ _ (by omega)).trans ?_
  rfl
theorem eX2_init_s {X : Cx} {b o a1 n : Nat} {E : Nat → va_E} (ho : o < n) : eX2_init X b o a1 n E o = .inr (2, [.ref a1, .ref (b + n), .ref (b + (n + 1)), .ref (b + (n + 2)), .int (0 : Int32), .int (0 : Int32)]) := by
  unfold eX2_init
  simp only [lt1]
  exact va_up_self _ _ _
theorem mdX2_init : MD yX2_init 1 := ⟨by decide +kernel, by decide +kernel, by decide +kernel⟩
set_option maxHeartbeats 4000000 in
set_option maxRecDepth 100000 in
theorem kX2_init (l : Launch) (X : Cx) (b o a1 n : Nat) (E : Nat → va_E) (ho : o < n) (he_o : E o = .inr (2, [.null, .null, .null, .null, .int 0, .int 0])) : CI l X b yX2_init cX2_init 2 1 24 3 4110 [.ref (b + o), .ref a1] n E (n + 3) (eX2_init X b o a1 n E) := by
  obtain ⟨E', hrun⟩ : ∃ z, eX2_init X b o a1 n E = z := ⟨_, rfl⟩
  rw [hrun]
  refine CI_of (by decide) rfl (Nat.le_of_ble_eq_true rfl) ?_
  intro p e s m args below meth c Q B hin hret hS ls hl
  have hx := B.1
  have hb := B.2.1
  have hown := B.2.2.2.1
  have hts := B.2.2.2.2.1
  have hl : lv_has ls 2 [(0, .ref (b + o)), (1, .ref a1)] := hl
  unfold eX2_init at hrun
  refine lv_aload_n hx hb dX2_init_0 rfl (lv_at hl 0 rfl) ?_
  refine W.objInit hx hb hown (hts _ (tw_2 31 rfl rfl)) (hts _ (tw_1 22 rfl rfl)) (hts _ (tw_1 23 rfl rfl)) rfl (hl.1.trans B.2.2.1.symm) rfl dX2_init_1 (Nat.le_of_ble_eq_true rfl) (Nat.le_of_ble_eq_true rfl) ?_
  refine W.eq (g2 := F0 m 4 ls []) rfl ?_
  refine lv_aload_n hx hb dX2_init_4 rfl (lv_at hl 0 rfl) ?_
  refine lv_bipush (v := 7) hx hb dX2_init_5 (by decide) ?_
  refine s_newa (k0 := 0) B hS rfl (tw_1 86 rfl rfl) rfl (fun C h => by cases h) rfl (N' := 7) (by decide) rfl (by decide) (Nat.le_of_ble_eq_true rfl) (Nat.le_of_ble_eq_true rfl) dX2_init_7 (fun H hS => ?_)
  obtain ⟨E_1, eE, hrun⟩ := ltE hrun
  have hS : SP X b (n + 1) E_1 s.heap H [] := by rw [eE]; exact hS
  have he_o : E_1 o = .inr (2, [.null, .null, .null, .null, .int 0, .int 0]) := by rw [eE]; exact (va_up_ne _ _ (by omega)).trans he_o
  clear eE
  refine s_put B hS hin layX2 tyX2 tyX2_ok nmX2 (by omega) he_o rfl 1 (by decide) (tw_2 33 rfl rfl) rfl rfl rfl rfl rfl (Nat.le_of_ble_eq_true rfl) dX2_init_9 (fun H locs hS => ?_)
  obtain ⟨E_2, eE, hrun⟩ := ltE hrun
  have hS : SP X b (n + 1) E_2 s.heap H locs := by rw [eE]; exact hS
  have he_o : E_2 o = .inr (2, [.null, .ref (b + n), .null, .null, .int 0, .int 0]) := by rw [eE]; exact va_up_self _ _ _
  clear eE
  refine lv_aload_n hx hb dX2_init_12 rfl (lv_at hl 0 rfl) ?_
  refine lv_sipush (v := 4096) hx hb dX2_init_13 (by decide) ?_
  refine s_newa (k0 := 0) B hS rfl (tw_1 86 rfl rfl) rfl (fun C h => by cases h) rfl (N' := 4096) (by decide) rfl (by decide) (Nat.le_of_ble_eq_true rfl) (Nat.le_of_ble_eq_true rfl) dX2_init_16 (fun H hS => ?_)
  obtain ⟨E_3, eE, hrun⟩ := ltE hrun
  have hS : SP X b (n + 2) E_3 s.heap H locs := by rw [eE]; exact hS
  have he_o : E_3 o = .inr (2, [.null, .ref (b + n), .null, .null, .int 0, .int 0]) := by rw [eE]; exact (va_up_ne _ _ (by omega)).trans he_o
  clear eE
  refine s_put B hS hin layX2 tyX2 tyX2_ok nmX2 (by omega) he_o rfl 2 (by decide) (tw_2 34 rfl rfl) rfl rfl rfl rfl rfl (Nat.le_of_ble_eq_true rfl) dX2_init_18 (fun H locs hS => ?_)
  obtain ⟨E_4, eE, hrun⟩ := ltE hrun
  have hS : SP X b (n + 2) E_4 s.heap H locs := by rw [eE]; exact hS
  have he_o : E_4 o = .inr (2, [.null, .ref (b + n), .ref (b + (n + 1)), .null, .int 0, .int 0]) := by rw [eE]; exact va_up_self _ _ _
  clear eE
  refine lv_aload_n hx hb dX2_init_21 rfl (lv_at hl 0 rfl) ?_
  refine lv_bipush (v := 7) hx hb dX2_init_22 (by decide) ?_
  refine s_newa (k0 := 0) B hS rfl (tw_1 86 rfl rfl) rfl (fun C h => by cases h) rfl (N' := 7) (by decide) rfl (by decide) (Nat.le_of_ble_eq_true rfl) (Nat.le_of_ble_eq_true rfl) dX2_init_24 (fun H hS => ?_)
  obtain ⟨E_5, eE, hrun⟩ := ltE hrun
  have hS : SP X b (n + 3) E_5 s.heap H locs := by rw [eE]; exact hS
  have he_o : E_5 o = .inr (2, [.null, .ref (b + n), .ref (b + (n + 1)), .null, .int 0, .int 0]) := by rw [eE]; exact (va_up_ne _ _ (by omega)).trans he_o
  clear eE
  refine s_put B hS hin layX2 tyX2 tyX2_ok nmX2 (by omega) he_o rfl 3 (by decide) (tw_2 35 rfl rfl) rfl rfl rfl rfl rfl (Nat.le_of_ble_eq_true rfl) dX2_init_26 (fun H locs hS => ?_)
  obtain ⟨E_6, eE, hrun⟩ := ltE hrun
  have hS : SP X b (n + 3) E_6 s.heap H locs := by rw [eE]; exact hS
  have he_o : E_6 o = .inr (2, [.null, .ref (b + n), .ref (b + (n + 1)), .ref (b + (n + 2)), .int 0, .int 0]) := by rw [eE]; exact va_up_self _ _ _
  clear eE
  refine lv_aload_n hx hb dX2_init_29 rfl (lv_at hl 0 rfl) ?_
  refine lv_iconst (v := 0) hx hb dX2_init_30 (by decide) ?_
  refine s_put B hS hin layX2 tyX2 tyX2_ok nmX2 (by omega) he_o rfl 4 (by decide) (tw_2 37 rfl rfl) rfl rfl rfl rfl rfl (Nat.le_of_ble_eq_true rfl) dX2_init_31 (fun H locs hS => ?_)
  obtain ⟨E_7, eE, hrun⟩ := ltE hrun
  have hS : SP X b (n + 3) E_7 s.heap H locs := by rw [eE]; exact hS
  have he_o : E_7 o = .inr (2, [.null, .ref (b + n), .ref (b + (n + 1)), .ref (b + (n + 2)), .int (0 : Int32), .int 0]) := by rw [eE]; exact va_up_self _ _ _
  clear eE
  refine lv_aload_n hx hb dX2_init_34 rfl (lv_at hl 0 rfl) ?_
  refine lv_iconst (v := 0) hx hb dX2_init_35 (by decide) ?_
  refine s_put B hS hin layX2 tyX2 tyX2_ok nmX2 (by omega) he_o rfl 5 (by decide) (tw_2 38 rfl rfl) rfl rfl rfl rfl rfl (Nat.le_of_ble_eq_true rfl) dX2_init_36 (fun H locs hS => ?_)
  obtain ⟨E_8, eE, hrun⟩ := ltE hrun
  have hS : SP X b (n + 3) E_8 s.heap H locs := by rw [eE]; exact hS
  have he_o : E_8 o = .inr (2, [.null, .ref (b + n), .ref (b + (n + 1)), .ref (b + (n + 2)), .int (0 : Int32), .int (0 : Int32)]) := by rw [eE]; exact va_up_self _ _ _
  clear eE
  refine lv_aload_n hx hb dX2_init_39 rfl (lv_at hl 0 rfl) ?_
  refine lv_aload_n hx hb dX2_init_40 rfl (lv_at hl 1 rfl) ?_
  refine s_put B hS hin layX2 tyX2 tyX2_ok nmX2 (by omega) he_o rfl 0 (by decide) (tw_2 32 rfl rfl) rfl rfl rfl rfl rfl (Nat.le_of_ble_eq_true rfl) dX2_init_41 (fun H locs hS => ?_)
  obtain ⟨E_9, eE, hrun⟩ := ltE hrun
  have hS : SP X b (n + 3) E_9 s.heap H locs := by rw [eE]; exact hS
  have he_o : E_9 o = .inr (2, [.ref a1, .ref (b + n), .ref (b + (n + 1)), .ref (b + (n + 2)), .int (0 : Int32), .int (0 : Int32)]) := by rw [eE]; exact va_up_self _ _ _
  clear eE
  exact hret _ _ _ _ _ hrun hS dX2_init_44
def eX3_init (X : Cx) (b o a1 n : Nat) (E : Nat → va_E) : Nat → va_E := lt1 (va_up E o (.inr (3, [.null, .int (0 : Int32), .int 0, .int 0, .int 0, .null, .null, .null, .null]))) (fun E_1 => lt1 (va_up E_1 o (.inr (3, [.null, .int (0 : Int32), .int (0 : Int32), .int 0, .int 0, .null, .null, .null, .null]))) (fun E_2 => lt1 (va_up E_2 o (.inr (3, [.null, .int (0 : Int32), .int (0 : Int32), .int (0 : Int32), .int 0, .null, .null, .null, .null]))) (fun E_3 => lt1 (va_up E_3 o (.inr (3, [.null, .int (0 : Int32), .int (0 : Int32), .int (0 : Int32), .int (0 : Int32), .null, .null, .null, .null]))) (fun E_4 => lt1 (va_up E_4 n (.inl (X.2.2 0, 7, .inl (fun _ => 0)))) (fun E_5 => lt1 (va_up E_5 o (.inr (3, [.null, .int (0 : Int32), .int (0 : Int32), .int (0 : Int32), .int (0 : Int32), .ref (b + n), .null, .null, .null]))) (fun E_6 => lt1 (va_up E_6 (n + 1) (.inl (X.2.2 0, 7, .inl (fun _ => 0)))) (fun E_7 => lt1 (va_up E_7 o (.inr (3, [.null, .int (0 : Int32), .int (0 : Int32), .int (0 : Int32), .int (0 : Int32), .ref (b + n), .ref (b + (n + 1)), .null, .null]))) (fun E_8 => lt1 (va_up E_8 (n + 2) (.inl (X.2.2 0, 7, .inl (fun _ => 0)))) (fun E_9 => lt1 (va_up E_9 o (.inr (3, [.null, .int (0 : Int32), .int (0 : Int32), .int (0 : Int32), .int (0 : Int32), .ref (b + n), .ref (b + (n + 1)), .ref (b + (n + 2)), .null]))) (fun E_10 => lt1 (va_up E_10 (n + 3) (.inl (X.2.2 0, 4, .inl (fun _ => 0)))) (fun E_11 => lt1 (va_up E_11 o (.inr (3, [.null, .int (0 : Int32), .int (0 : Int32), .int (0 : Int32), .int (0 : Int32), .ref (b + n), .ref (b + (n + 1)), .ref (b + (n + 2)), .ref (b + (n + 3))]))) (fun E_12 => lt1 (va_up E_12 o (.inr (3, [.ref a1, .int (0 : Int32), .int (0 : Int32), .int (0 : Int32), .int (0 : Int32), .ref (b + n), .ref (b + (n + 1)), .ref (b + (n + 2)), .ref (b + (n + 3))]))) (fun E_13 => E_13)))))))))))))
theorem eX3_init_k {X : Cx} {b o a1 n : Nat} {E : Nat → va_E} {j : Nat} (hj : j ≠ o) (hn : j < n) : eX3_init X b o a1 n E j = E j := by
  unfold eX3_init
  simp only [lt1]
  refine (va_up_ne _ _ (by omega)).trans ?_
  refine (va_up_ne _ _ (by omega)).trans ?_
  refine (va_up_ne _ _ (by omega)).trans ?_
  refine (va_up_ne _ _ (by omega)).trans ?_
  refine (va_up_ne _ _ (by omega)).trans ?_
  refine (va_up_ne _ _ (by omega)).trans ?_
  refine (va_up_ne _ _ (by omega)).trans ?_
  refine (va_up_ne _ _ (by omega)).trans ?_
  refine (va_up_ne _ _ (by omega)).trans ?_
  refine (va_up_ne _ _ (by omega)).trans ?_
  refine (va_up_ne _ _ (by omega)).trans ?_
  refine (va_up_ne _ _ (by omega)).trans ?_
  refine (va_up_ne _ _ (by omega)).trans ?_
  rfl
theorem eX3_init_s {X : Cx} {b o a1 n : Nat} {E : Nat → va_E} (ho : o < n) : eX3_init X b o a1 n E o = .inr (3, [.ref a1, .int (0 : Int32), .int (0 : Int32), .int (0 : Int32), .int (0 : Int32), .ref (b + n), .ref (b + (n + 1)), .ref (b + (n + 2)), .ref (b + (n + 3))]) := by
  unfold eX3_init
  simp only [lt1]
  exact va_up_self _ _ _
theorem mdX3_init : MD yX3_init 1 := ⟨by decide +kernel, by decide +kernel, by decide +kernel⟩
set_option maxHeartbeats 4000000 in
set_option maxRecDepth 100000 in
theorem kX3_init (l : Launch) (X : Cx) (b o a1 n : Nat) (E : Nat → va_E) (ho : o < n) (he_o : E o = .inr (3, [.null, .int 0, .int 0, .int 0, .int 0, .null, .null, .null, .null])) : CI l X b yX3_init cX3_init 2 1 24 4 25 [.ref (b + o), .ref a1] n E (n + 4) (eX3_init X b o a1 n E) := by
  obtain ⟨E', hrun⟩ : ∃ z, eX3_init X b o a1 n E = z := ⟨_, rfl⟩
  rw [hrun]
  refine CI_of (by decide) rfl (Nat.le_of_ble_eq_true rfl) ?_
  intro p e s m args below meth c Q B hin hret hS ls hl
  have hx := B.1
  have hb := B.2.1
  have hown := B.2.2.2.1
  have hts := B.2.2.2.2.1
  have hl : lv_has ls 2 [(0, .ref (b + o)), (1, .ref a1)] := hl
  unfold eX3_init at hrun
  refine lv_aload_n hx hb dX3_init_0 rfl (lv_at hl 0 rfl) ?_
  refine W.objInit hx hb hown (hts _ (tw_1 99 rfl rfl)) (hts _ (tw_1 22 rfl rfl)) (hts _ (tw_1 23 rfl rfl)) rfl (hl.1.trans B.2.2.1.symm) rfl dX3_init_1 (Nat.le_of_ble_eq_true rfl) (Nat.le_of_ble_eq_true rfl) ?_
  refine W.eq (g2 := F0 m 4 ls []) rfl ?_
  refine lv_aload_n hx hb dX3_init_4 rfl (lv_at hl 0 rfl) ?_
  refine lv_iconst (v := 0) hx hb dX3_init_5 (by decide) ?_
  refine s_put B hS hin layX3 tyX3 tyX3_ok nmX3 (by omega) he_o rfl 1 (by decide) (tw_1 102 rfl rfl) rfl rfl rfl rfl rfl (Nat.le_of_ble_eq_true rfl) dX3_init_6 (fun H locs hS => ?_)
  obtain ⟨E_1, eE, hrun⟩ := ltE hrun
  have hS : SP X b (n) E_1 s.heap H locs := by rw [eE]; exact hS
  have he_o : E_1 o = .inr (3, [.null, .int (0 : Int32), .int 0, .int 0, .int 0, .null, .null, .null, .null]) := by rw [eE]; exact va_up_self _ _ _
  clear eE
  refine lv_aload_n hx hb dX3_init_9 rfl (lv_at hl 0 rfl) ?_
  refine lv_iconst (v := 0) hx hb dX3_init_10 (by decide) ?_
  refine s_put B hS hin layX3 tyX3 tyX3_ok nmX3 (by omega) he_o rfl 2 (by decide) (tw_1 105 rfl rfl) rfl rfl rfl rfl rfl (Nat.le_of_ble_eq_true rfl) dX3_init_11 (fun H locs hS => ?_)
  obtain ⟨E_2, eE, hrun⟩ := ltE hrun
  have hS : SP X b (n) E_2 s.heap H locs := by rw [eE]; exact hS
  have he_o : E_2 o = .inr (3, [.null, .int (0 : Int32), .int (0 : Int32), .int 0, .int 0, .null, .null, .null, .null]) := by rw [eE]; exact va_up_self _ _ _
  clear eE
  refine lv_aload_n hx hb dX3_init_14 rfl (lv_at hl 0 rfl) ?_
  refine lv_iconst (v := 0) hx hb dX3_init_15 (by decide) ?_
  refine s_put B hS hin layX3 tyX3 tyX3_ok nmX3 (by omega) he_o rfl 3 (by decide) (tw_1 107 rfl rfl) rfl rfl rfl rfl rfl (Nat.le_of_ble_eq_true rfl) dX3_init_16 (fun H locs hS => ?_)
  obtain ⟨E_3, eE, hrun⟩ := ltE hrun
  have hS : SP X b (n) E_3 s.heap H locs := by rw [eE]; exact hS
  have he_o : E_3 o = .inr (3, [.null, .int (0 : Int32), .int (0 : Int32), .int (0 : Int32), .int 0, .null, .null, .null, .null]) := by rw [eE]; exact va_up_self _ _ _
  clear eE
  refine lv_aload_n hx hb dX3_init_19 rfl (lv_at hl 0 rfl) ?_
  refine lv_iconst (v := 0) hx hb dX3_init_20 (by decide) ?_
  refine s_put B hS hin layX3 tyX3 tyX3_ok nmX3 (by omega) he_o rfl 4 (by decide) (tw_1 109 rfl rfl) rfl rfl rfl rfl rfl (Nat.le_of_ble_eq_true rfl) dX3_init_21 (fun H locs hS => ?_)
  obtain ⟨E_4, eE, hrun⟩ := ltE hrun
  have hS : SP X b (n) E_4 s.heap H locs := by rw [eE]; exact hS
  have he_o : E_4 o = .inr (3, [.null, .int (0 : Int32), .int (0 : Int32), .int (0 : Int32), .int (0 : Int32), .null, .null, .null, .null]) := by rw [eE]; exact va_up_self _ _ _
  clear eE
  refine lv_aload_n hx hb dX3_init_24 rfl (lv_at hl 0 rfl) ?_
  refine lv_bipush (v := 7) hx hb dX3_init_25 (by decide) ?_
  refine s_newa (k0 := 0) B hS rfl (tw_1 86 rfl rfl) rfl (fun C h => by cases h) rfl (N' := 7) (by decide) rfl (by decide) (Nat.le_of_ble_eq_true rfl) (Nat.le_of_ble_eq_true rfl) dX3_init_27 (fun H hS => ?_)
  obtain ⟨E_5, eE, hrun⟩ := ltE hrun
  have hS : SP X b (n + 1) E_5 s.heap H locs := by rw [eE]; exact hS
  have he_o : E_5 o = .inr (3, [.null, .int (0 : Int32), .int (0 : Int32), .int (0 : Int32), .int (0 : Int32), .null, .null, .null, .null]) := by rw [eE]; exact (va_up_ne _ _ (by omega)).trans he_o
  clear eE
  refine s_put B hS hin layX3 tyX3 tyX3_ok nmX3 (by omega) he_o rfl 5 (by decide) (tw_1 111 rfl rfl) rfl rfl rfl rfl rfl (Nat.le_of_ble_eq_true rfl) dX3_init_29 (fun H locs hS => ?_)
  obtain ⟨E_6, eE, hrun⟩ := ltE hrun
  have hS : SP X b (n + 1) E_6 s.heap H locs := by rw [eE]; exact hS
  have he_o : E_6 o = .inr (3, [.null, .int (0 : Int32), .int (0 : Int32), .int (0 : Int32), .int (0 : Int32), .ref (b + n), .null, .null, .null]) := by rw [eE]; exact va_up_self _ _ _
  clear eE
  refine lv_aload_n hx hb dX3_init_32 rfl (lv_at hl 0 rfl) ?_
  refine lv_bipush (v := 7) hx hb dX3_init_33 (by decide) ?_
  refine s_newa (k0 := 0) B hS rfl (tw_1 86 rfl rfl) rfl (fun C h => by cases h) rfl (N' := 7) (by decide) rfl (by decide) (Nat.le_of_ble_eq_true rfl) (Nat.le_of_ble_eq_true rfl) dX3_init_35 (fun H hS => ?_)
  obtain ⟨E_7, eE, hrun⟩ := ltE hrun
  have hS : SP X b (n + 2) E_7 s.heap H locs := by rw [eE]; exact hS
  have he_o : E_7 o = .inr (3, [.null, .int (0 : Int32), .int (0 : Int32), .int (0 : Int32), .int (0 : Int32), .ref (b + n), .null, .null, .null]) := by rw [eE]; exact (va_up_ne _ _ (by omega)).trans he_o
  clear eE
  refine s_put B hS hin layX3 tyX3 tyX3_ok nmX3 (by omega) he_o rfl 6 (by decide) (tw_1 113 rfl rfl) rfl rfl rfl rfl rfl (Nat.le_of_ble_eq_true rfl) dX3_init_37 (fun H locs hS => ?_)
  obtain ⟨E_8, eE, hrun⟩ := ltE hrun
  have hS : SP X b (n + 2) E_8 s.heap H locs := by rw [eE]; exact hS
  have he_o : E_8 o = .inr (3, [.null, .int (0 : Int32), .int (0 : Int32), .int (0 : Int32), .int (0 : Int32), .ref (b + n), .ref (b + (n + 1)), .null, .null]) := by rw [eE]; exact va_up_self _ _ _
  clear eE
  refine lv_aload_n hx hb dX3_init_40 rfl (lv_at hl 0 rfl) ?_
  refine lv_bipush (v := 7) hx hb dX3_init_41 (by decide) ?_
  refine s_newa (k0 := 0) B hS rfl (tw_1 86 rfl rfl) rfl (fun C h => by cases h) rfl (N' := 7) (by decide) rfl (by decide) (Nat.le_of_ble_eq_true rfl) (Nat.le_of_ble_eq_true rfl) dX3_init_43 (fun H hS => ?_)
  obtain ⟨E_9, eE, hrun⟩ := ltE hrun
  have hS : SP X b (n + 3) E_9 s.heap H locs := by rw [eE]; exact hS
  have he_o : E_9 o = .inr (3, [.null, .int (0 : Int32), .int (0 : Int32), .int (0 : Int32), .int (0 : Int32), .ref (b + n), .ref (b + (n + 1)), .null, .null]) := by rw [eE]; exact (va_up_ne _ _ (by omega)).trans he_o
  clear eE
  refine s_put B hS hin layX3 tyX3 tyX3_ok nmX3 (by omega) he_o rfl 7 (by decide) (tw_1 116 rfl rfl) rfl rfl rfl rfl rfl (Nat.le_of_ble_eq_true rfl) dX3_init_45 (fun H locs hS => ?_)
  obtain ⟨E_10, eE, hrun⟩ := ltE hrun
  have hS : SP X b (n + 3) E_10 s.heap H locs := by rw [eE]; exact hS
  have he_o : E_10 o = .inr (3, [.null, .int (0 : Int32), .int (0 : Int32), .int (0 : Int32), .int (0 : Int32), .ref (b + n), .ref (b + (n + 1)), .ref (b + (n + 2)), .null]) := by rw [eE]; exact va_up_self _ _ _
  clear eE
  refine lv_aload_n hx hb dX3_init_48 rfl (lv_at hl 0 rfl) ?_
  refine lv_iconst (v := 4) hx hb dX3_init_49 (by decide) ?_
  refine s_newa (k0 := 0) B hS rfl (tw_1 86 rfl rfl) rfl (fun C h => by cases h) rfl (N' := 4) (by decide) rfl (by decide) (Nat.le_of_ble_eq_true rfl) (Nat.le_of_ble_eq_true rfl) dX3_init_50 (fun H hS => ?_)
  obtain ⟨E_11, eE, hrun⟩ := ltE hrun
  have hS : SP X b (n + 4) E_11 s.heap H locs := by rw [eE]; exact hS
  have he_o : E_11 o = .inr (3, [.null, .int (0 : Int32), .int (0 : Int32), .int (0 : Int32), .int (0 : Int32), .ref (b + n), .ref (b + (n + 1)), .ref (b + (n + 2)), .null]) := by rw [eE]; exact (va_up_ne _ _ (by omega)).trans he_o
  clear eE
  refine s_put B hS hin layX3 tyX3 tyX3_ok nmX3 (by omega) he_o rfl 8 (by decide) (tw_1 118 rfl rfl) rfl rfl rfl rfl rfl (Nat.le_of_ble_eq_true rfl) dX3_init_52 (fun H locs hS => ?_)
  obtain ⟨E_12, eE, hrun⟩ := ltE hrun
  have hS : SP X b (n + 4) E_12 s.heap H locs := by rw [eE]; exact hS
  have he_o : E_12 o = .inr (3, [.null, .int (0 : Int32), .int (0 : Int32), .int (0 : Int32), .int (0 : Int32), .ref (b + n), .ref (b + (n + 1)), .ref (b + (n + 2)), .ref (b + (n + 3))]) := by rw [eE]; exact va_up_self _ _ _
  clear eE
  refine lv_aload_n hx hb dX3_init_55 rfl (lv_at hl 0 rfl) ?_
  refine lv_aload_n hx hb dX3_init_56 rfl (lv_at hl 1 rfl) ?_
  refine s_put B hS hin layX3 tyX3 tyX3_ok nmX3 (by omega) he_o rfl 0 (by decide) (tw_1 100 rfl rfl) rfl rfl rfl rfl rfl (Nat.le_of_ble_eq_true rfl) dX3_init_57 (fun H locs hS => ?_)
  obtain ⟨E_13, eE, hrun⟩ := ltE hrun
  have hS : SP X b (n + 4) E_13 s.heap H locs := by rw [eE]; exact hS
  have he_o : E_13 o = .inr (3, [.ref a1, .int (0 : Int32), .int (0 : Int32), .int (0 : Int32), .int (0 : Int32), .ref (b + n), .ref (b + (n + 1)), .ref (b + (n + 2)), .ref (b + (n + 3))]) := by rw [eE]; exact va_up_self _ _ _
  clear eE
  exact hret _ _ _ _ _ hrun hS dX3_init_60
def eX4_init (X : Cx) (b o a1 n : Nat) (E : Nat → va_E) : Nat → va_E := lt1 (va_up E o (.inr (4, [.null, .int (0 : Int32), .int 0]))) (fun E_1 => lt1 (va_up E_1 o (.inr (4, [.null, .int (0 : Int32), .int (0 : Int32)]))) (fun E_2 => lt1 (va_up E_2 n (.inr (3, [.null, .int 0, .int 0, .int 0, .int 0, .null, .null, .null, .null]))) (fun E_4 => lt1 (eX3_init X b n a1 (n + 1) E_4) (fun E_5 => lt1 (va_up E_5 o (.inr (4, [.ref (b + n), .int (0 : Int32), .int (0 : Int32)]))) (fun E_6 => E_6)))))
theorem eX4_init_k {X : Cx} {b o a1 n : Nat} {E : Nat → va_E} {j : Nat} (hj : j ≠ o) (hn : j < n) : eX4_init X b o a1 n E j = E j := by
  unfold eX4_init
  simp only [lt1]
  refine (va_up_ne _ _ (by omega)).trans ?_
  refine (eX3_init_k (by omega) (by omega)).trans ?_
  refine (va_up_ne _ _ (by omega)).trans ?_
  refine (va_up_ne _ _ (by omega)).trans ?_
  refine (va_up_ne _ _ (by omega)).trans ?_
  rfl
theorem eX4_init_s {X : Cx} {b o a1 n : Nat} {E : Nat → va_E} (ho : o < n) : eX4_init X b o a1 n E o = .inr (4, [.ref (b + n), .int (0 : Int32), .int (0 : Int32)]) := by
  unfold eX4_init
  simp only [lt1]
  exact va_up_self _ _ _
theorem mdX4_init : MD yX4_init 1 := ⟨by decide +kernel, by decide +kernel, by decide +kernel⟩
set_option maxHeartbeats 4000000 in
set_option maxRecDepth 100000 in
theorem kX4_init (l : Launch) (X : Cx) (b o a1 n : Nat) (E : Nat → va_E) (ho : o < n) (he_o : E o = .inr (4, [.null, .int 0, .int 0])) : CI l X b yX4_init cX4_init 2 2 45 5 34 [.ref (b + o), .ref a1] n E (n + 5) (eX4_init X b o a1 n E) := by
  obtain ⟨E', hrun⟩ : ∃ z, eX4_init X b o a1 n E = z := ⟨_, rfl⟩
  rw [hrun]
  refine CI_of (by decide) rfl (Nat.le_of_ble_eq_true rfl) ?_
  intro p e s m args below meth c Q B hin hret hS ls hl
  have hx := B.1
  have hb := B.2.1
  have hown := B.2.2.2.1
  have hts := B.2.2.2.2.1
  have hl : lv_has ls 2 [(0, .ref (b + o)), (1, .ref a1)] := hl
  unfold eX4_init at hrun
  refine lv_aload_n hx hb dX4_init_0 rfl (lv_at hl 0 rfl) ?_
  refine W.objInit hx hb hown (hts _ (tw_1 93 rfl rfl)) (hts _ (tw_1 22 rfl rfl)) (hts _ (tw_1 23 rfl rfl)) rfl (hl.1.trans B.2.2.1.symm) rfl dX4_init_1 (Nat.le_of_ble_eq_true rfl) (Nat.le_of_ble_eq_true rfl) ?_
  refine W.eq (g2 := F0 m 4 ls []) rfl ?_
  refine lv_aload_n hx hb dX4_init_4 rfl (lv_at hl 0 rfl) ?_
  refine lv_iconst (v := 0) hx hb dX4_init_5 (by decide) ?_
  refine s_put B hS hin layX4 tyX4 tyX4_ok nmX4 (by omega) he_o rfl 1 (by decide) (tw_1 141 rfl rfl) rfl rfl rfl rfl rfl (Nat.le_of_ble_eq_true rfl) dX4_init_6 (fun H locs hS => ?_)
  obtain ⟨E_1, eE, hrun⟩ := ltE hrun
  have hS : SP X b (n) E_1 s.heap H locs := by rw [eE]; exact hS
  have he_o : E_1 o = .inr (4, [.null, .int (0 : Int32), .int 0]) := by rw [eE]; exact va_up_self _ _ _
  clear eE
  refine lv_aload_n hx hb dX4_init_9 rfl (lv_at hl 0 rfl) ?_
  refine lv_iconst (v := 0) hx hb dX4_init_10 (by decide) ?_
  refine s_put B hS hin layX4 tyX4 tyX4_ok nmX4 (by omega) he_o rfl 2 (by decide) (tw_1 143 rfl rfl) rfl rfl rfl rfl rfl (Nat.le_of_ble_eq_true rfl) dX4_init_11 (fun H locs hS => ?_)
  obtain ⟨E_2, eE, hrun⟩ := ltE hrun
  have hS : SP X b (n) E_2 s.heap H locs := by rw [eE]; exact hS
  have he_o : E_2 o = .inr (4, [.null, .int (0 : Int32), .int (0 : Int32)]) := by rw [eE]; exact va_up_self _ _ _
  clear eE
  refine lv_aload_n hx hb dX4_init_14 rfl (lv_at hl 0 rfl) ?_
  refine s_new (ci := 3) (fs := [.null, .int 0, .int 0, .int 0, .int 0, .null, .null, .null, .null]) B hS layX3 tyX3 tyX3_ok (tw_1 94 rfl rfl) (tw_1 95 rfl rfl) (tw_1 4 rfl rfl) rfl (fun j hj => by rcases (show j = 0 ∨ j = 1 ∨ j = 2 ∨ j = 3 ∨ j = 4 ∨ j = 5 ∨ j = 6 ∨ j = 7 ∨ j = 8 by omega) with rfl | rfl | rfl | rfl | rfl | rfl | rfl | rfl | rfl <;> rfl) (Nat.le_of_ble_eq_true rfl) (Nat.le_of_ble_eq_true rfl) dX4_init_15 (fun H hS => ?_)
  obtain ⟨E_4, eE, hrun⟩ := ltE hrun
  have hS : SP X b (n + 1) E_4 s.heap H locs := by rw [eE]; exact hS
  have he_o : E_4 o = .inr (4, [.null, .int (0 : Int32), .int (0 : Int32)]) := by rw [eE]; exact (va_up_ne _ _ (by omega)).trans he_o
  have he_3 : E_4 n = .inr (3, [.null, .int 0, .int 0, .int 0, .int 0, .null, .null, .null, .null]) := by rw [eE]; exact va_up_self _ _ _
  clear eE
  refine lv_dup hx hb dX4_init_18 rfl ?_
  refine lv_aload_n hx hb dX4_init_19 rfl (lv_at hl 1 rfl) ?_
  refine sI B hS (kX3_init l X b n a1 (n + 1) E_4 (by omega) he_3) (tw_1 96 rfl rfl) (tw_1 97 rfl rfl) (tw_1 4 rfl rfl) (tw_1 98 rfl rfl) rfl mdX3_init rfl hl.1 rfl (Nat.le_of_ble_eq_true rfl) ⟨Nat.le_of_ble_eq_true rfl, Nat.le_of_ble_eq_true rfl⟩ ⟨Nat.le_of_ble_eq_true rfl, Nat.le_of_ble_eq_true rfl⟩ dX4_init_20 (fun H locs hS => ?_)
  obtain ⟨E_5, eE, hrun⟩ := ltE hrun
  have hS : SP X b (n + 5) E_5 s.heap H locs := by rw [eE]; exact hS
  have he_o : E_5 o = .inr (4, [.null, .int (0 : Int32), .int (0 : Int32)]) := by rw [eE]; exact (eX3_init_k (by omega) (by omega)).trans he_o
  have he_3 : E_5 n = .inr (3, [.ref a1, .int (0 : Int32), .int (0 : Int32), .int (0 : Int32), .int (0 : Int32), .ref (b + (n + 1)), .ref (b + (n + 2)), .ref (b + (n + 3)), .ref (b + (n + 4))]) := by rw [eE]; exact eX3_init_s (by omega)
  clear eE
  refine s_put B hS hin layX4 tyX4 tyX4_ok nmX4 (by omega) he_o rfl 0 (by decide) (tw_1 139 rfl rfl) rfl rfl rfl rfl rfl (Nat.le_of_ble_eq_true rfl) dX4_init_23 (fun H locs hS => ?_)
  obtain ⟨E_6, eE, hrun⟩ := ltE hrun
  have hS : SP X b (n + 5) E_6 s.heap H locs := by rw [eE]; exact hS
  have he_3 : E_6 n = .inr (3, [.ref a1, .int (0 : Int32), .int (0 : Int32), .int (0 : Int32), .int (0 : Int32), .ref (b + (n + 1)), .ref (b + (n + 2)), .ref (b + (n + 3)), .ref (b + (n + 4))]) := by rw [eE]; exact (va_up_ne _ _ (by omega)).trans he_3
  have he_o : E_6 o = .inr (4, [.ref (b + n), .int (0 : Int32), .int (0 : Int32)]) := by rw [eE]; exact va_up_self _ _ _
  clear eE
  exact hret _ _ _ _ _ hrun hS dX4_init_26
def eX5_init (X : Cx) (b o n : Nat) (E : Nat → va_E) : Nat → va_E := lt1 (va_up E n (.inl (X.2.2 0, 6, .inl (fun _ => 0)))) (fun E_1 => lt1 (va_up E_1 o (.inr (5, [.ref (b + n), .null, .null, .null, .int 0, .int 0]))) (fun E_2 => lt1 (va_up E_2 (n + 1) (.inl (X.2.2 0, 6, .inl (fun _ => 0)))) (fun E_3 => lt1 (va_up E_3 o (.inr (5, [.ref (b + n), .ref (b + (n + 1)), .null, .null, .int 0, .int 0]))) (fun E_4 => lt1 (va_up E_4 (n + 2) (.inl (X.2.2 0, 15, .inl (fun _ => 0)))) (fun E_5 => lt1 (va_up E_5 o (.inr (5, [.ref (b + n), .ref (b + (n + 1)), .ref (b + (n + 2)), .null, .int 0, .int 0]))) (fun E_6 => lt1 (va_up E_6 (n + 3) (.inl (X.2.2 0, 15, .inl (fun _ => 0)))) (fun E_7 => lt1 (va_up E_7 o (.inr (5, [.ref (b + n), .ref (b + (n + 1)), .ref (b + (n + 2)), .ref (b + (n + 3)), .int 0, .int 0]))) (fun E_8 => lt1 (va_up E_8 o (.inr (5, [.ref (b + n), .ref (b + (n + 1)), .ref (b + (n + 2)), .ref (b + (n + 3)), .int (0 : Int32), .int 0]))) (fun E_9 => lt1 (va_up E_9 o (.inr (5, [.ref (b + n), .ref (b + (n + 1)), .ref (b + (n + 2)), .ref (b + (n + 3)), .int (0 : Int32), .int (0 : Int32)]))) (fun E_10 => E_10))))))))))
theorem eX5_init_k {X : Cx} {b o n : Nat} {E : Nat → va_E} {j : Nat} (hj : j ≠ o) (hn : j < n) : eX5_init X b o n E j = E j := by
  unfold eX5_init
  simp only [lt1]
  refine (va_up_ne _ _ (by omega)).trans ?_
  refine (va_up_ne _ _ (by omega)).trans ?_
  refine (va_up_ne _ _ (by omega)).trans ?_
  refine (va_up_ne _ _ (by omega)).trans ?_
  refine (va_up_ne _ _ (by omega)).trans ?_
  refine (va_up_ne _ _ (by omega)).trans ?_
  refine (va_up_ne _ _ (by omega)).trans ?_
  refine (va_up_ne _ _ (by omega)).trans ?_
  refine (va_up_ne _ _ (by omega)).trans ?_
  refine (va_up_ne _ _ (by omega)).trans ?_
  rfl
theorem eX5_init_s {X : Cx} {b o n : Nat} {E : Nat → va_E} (ho : o < n) : eX5_init X b o n E o = .inr (5, [.ref (b + n), .ref (b + (n + 1)), .ref (b + (n + 2)), .ref (b + (n + 3)), .int (0 : Int32), .int (0 : Int32)]) := by
  unfold eX5_init
  simp only [lt1]
  exact va_up_self _ _ _
theorem mdX5_init : MD yX5_init 0 := ⟨by decide +kernel, by decide +kernel, by decide +kernel⟩
set_option maxHeartbeats 4000000 in
set_option maxRecDepth 100000 in
theorem kX5_init (l : Launch) (X : Cx) (b o n : Nat) (E : Nat → va_E) (ho : o < n) (he_o : E o = .inr (5, [.null, .null, .null, .null, .int 0, .int 0])) : CI l X b yX5_init cX5_init 1 1 24 4 42 [.ref (b + o)] n E (n + 4) (eX5_init X b o n E) := by
  obtain ⟨E', hrun⟩ : ∃ z, eX5_init X b o n E = z := ⟨_, rfl⟩
  rw [hrun]
  refine CI_of (by decide) rfl (Nat.le_of_ble_eq_true rfl) ?_
  intro p e s m args below meth c Q B hin hret hS ls hl
  have hx := B.1
  have hb := B.2.1
  have hown := B.2.2.2.1
  have hts := B.2.2.2.2.1
  have hl : lv_has ls 1 [(0, .ref (b + o))] := hl
  unfold eX5_init at hrun
  refine lv_aload_n hx hb dX5_init_0 rfl (lv_at hl 0 rfl) ?_
  refine W.objInit hx hb hown (hts _ (tw_1 203 rfl rfl)) (hts _ (tw_1 22 rfl rfl)) (hts _ (tw_1 23 rfl rfl)) rfl (hl.1.trans B.2.2.1.symm) rfl dX5_init_1 (Nat.le_of_ble_eq_true rfl) (Nat.le_of_ble_eq_true rfl) ?_
  refine W.eq (g2 := F0 m 4 ls []) rfl ?_
  refine lv_aload_n hx hb dX5_init_4 rfl (lv_at hl 0 rfl) ?_
  refine lv_bipush (v := 6) hx hb dX5_init_5 (by decide) ?_
  refine s_newa (k0 := 0) B hS rfl (tw_1 86 rfl rfl) rfl (fun C h => by cases h) rfl (N' := 6) (by decide) rfl (by decide) (Nat.le_of_ble_eq_true rfl) (Nat.le_of_ble_eq_true rfl) dX5_init_7 (fun H hS => ?_)
  obtain ⟨E_1, eE, hrun⟩ := ltE hrun
  have hS : SP X b (n + 1) E_1 s.heap H [] := by rw [eE]; exact hS
  have he_o : E_1 o = .inr (5, [.null, .null, .null, .null, .int 0, .int 0]) := by rw [eE]; exact (va_up_ne _ _ (by omega)).trans he_o
  clear eE
  refine s_put B hS hin layX5 tyX5 tyX5_ok nmX5 (by omega) he_o rfl 0 (by decide) (tw_1 204 rfl rfl) rfl rfl rfl rfl rfl (Nat.le_of_ble_eq_true rfl) dX5_init_9 (fun H locs hS => ?_)
  obtain ⟨E_2, eE, hrun⟩ := ltE hrun
  have hS : SP X b (n + 1) E_2 s.heap H locs := by rw [eE]; exact hS
  have he_o : E_2 o = .inr (5, [.ref (b + n), .null, .null, .null, .int 0, .int 0]) := by rw [eE]; exact va_up_self _ _ _
  clear eE
  refine lv_aload_n hx hb dX5_init_12 rfl (lv_at hl 0 rfl) ?_
  refine lv_bipush (v := 6) hx hb dX5_init_13 (by decide) ?_
  refine s_newa (k0 := 0) B hS rfl (tw_1 86 rfl rfl) rfl (fun C h => by cases h) rfl (N' := 6) (by decide) rfl (by decide) (Nat.le_of_ble_eq_true rfl) (Nat.le_of_ble_eq_true rfl) dX5_init_15 (fun H hS => ?_)
  obtain ⟨E_3, eE, hrun⟩ := ltE hrun
  have hS : SP X b (n + 2) E_3 s.heap H locs := by rw [eE]; exact hS
  have he_o : E_3 o = .inr (5, [.ref (b + n), .null, .null, .null, .int 0, .int 0]) := by rw [eE]; exact (va_up_ne _ _ (by omega)).trans he_o
  clear eE
  refine s_put B hS hin layX5 tyX5 tyX5_ok nmX5 (by omega) he_o rfl 1 (by decide) (tw_1 205 rfl rfl) rfl rfl rfl rfl rfl (Nat.le_of_ble_eq_true rfl) dX5_init_17 (fun H locs hS => ?_)
  obtain ⟨E_4, eE, hrun⟩ := ltE hrun
  have hS : SP X b (n + 2) E_4 s.heap H locs := by rw [eE]; exact hS
  have he_o : E_4 o = .inr (5, [.ref (b + n), .ref (b + (n + 1)), .null, .null, .int 0, .int 0]) := by rw [eE]; exact va_up_self _ _ _
  clear eE
  refine lv_aload_n hx hb dX5_init_20 rfl (lv_at hl 0 rfl) ?_
  refine lv_bipush (v := 15) hx hb dX5_init_21 (by decide) ?_
  refine s_newa (k0 := 0) B hS rfl (tw_1 86 rfl rfl) rfl (fun C h => by cases h) rfl (N' := 15) (by decide) rfl (by decide) (Nat.le_of_ble_eq_true rfl) (Nat.le_of_ble_eq_true rfl) dX5_init_23 (fun H hS => ?_)
  obtain ⟨E_5, eE, hrun⟩ := ltE hrun
  have hS : SP X b (n + 3) E_5 s.heap H locs := by rw [eE]; exact hS
  have he_o : E_5 o = .inr (5, [.ref (b + n), .ref (b + (n + 1)), .null, .null, .int 0, .int 0]) := by rw [eE]; exact (va_up_ne _ _ (by omega)).trans he_o
  clear eE
  refine s_put B hS hin layX5 tyX5 tyX5_ok nmX5 (by omega) he_o rfl 2 (by decide) (tw_1 206 rfl rfl) rfl rfl rfl rfl rfl (Nat.le_of_ble_eq_true rfl) dX5_init_25 (fun H locs hS => ?_)
  obtain ⟨E_6, eE, hrun⟩ := ltE hrun
  have hS : SP X b (n + 3) E_6 s.heap H locs := by rw [eE]; exact hS
  have he_o : E_6 o = .inr (5, [.ref (b + n), .ref (b + (n + 1)), .ref (b + (n + 2)), .null, .int 0, .int 0]) := by rw [eE]; exact va_up_self _ _ _
  clear eE
  refine lv_aload_n hx hb dX5_init_28 rfl (lv_at hl 0 rfl) ?_
  refine lv_bipush (v := 15) hx hb dX5_init_29 (by decide) ?_
  refine s_newa (k0 := 0) B hS rfl (tw_1 86 rfl rfl) rfl (fun C h => by cases h) rfl (N' := 15) (by decide) rfl (by decide) (Nat.le_of_ble_eq_true rfl) (Nat.le_of_ble_eq_true rfl) dX5_init_31 (fun H hS => ?_)
  obtain ⟨E_7, eE, hrun⟩ := ltE hrun
  have hS : SP X b (n + 4) E_7 s.heap H locs := by rw [eE]; exact hS
  have he_o : E_7 o = .inr (5, [.ref (b + n), .ref (b + (n + 1)), .ref (b + (n + 2)), .null, .int 0, .int 0]) := by rw [eE]; exact (va_up_ne _ _ (by omega)).trans he_o
  clear eE
  refine s_put B hS hin layX5 tyX5 tyX5_ok nmX5 (by omega) he_o rfl 3 (by decide) (tw_1 207 rfl rfl) rfl rfl rfl rfl rfl (Nat.le_of_ble_eq_true rfl) dX5_init_33 (fun H locs hS => ?_)
  obtain ⟨E_8, eE, hrun⟩ := ltE hrun
  have hS : SP X b (n + 4) E_8 s.heap H locs := by rw [eE]; exact hS
  have he_o : E_8 o = .inr (5, [.ref (b + n), .ref (b + (n + 1)), .ref (b + (n + 2)), .ref (b + (n + 3)), .int 0, .int 0]) := by rw [eE]; exact va_up_self _ _ _
  clear eE
  refine lv_aload_n hx hb dX5_init_36 rfl (lv_at hl 0 rfl) ?_
  refine lv_iconst (v := 0) hx hb dX5_init_37 (by decide) ?_
  refine s_put B hS hin layX5 tyX5 tyX5_ok nmX5 (by omega) he_o rfl 4 (by decide) (tw_1 208 rfl rfl) rfl rfl rfl rfl rfl (Nat.le_of_ble_eq_true rfl) dX5_init_38 (fun H locs hS => ?_)
  obtain ⟨E_9, eE, hrun⟩ := ltE hrun
  have hS : SP X b (n + 4) E_9 s.heap H locs := by rw [eE]; exact hS
  have he_o : E_9 o = .inr (5, [.ref (b + n), .ref (b + (n + 1)), .ref (b + (n + 2)), .ref (b + (n + 3)), .int (0 : Int32), .int 0]) := by rw [eE]; exact va_up_self _ _ _
  clear eE
  refine lv_aload_n hx hb dX5_init_41 rfl (lv_at hl 0 rfl) ?_
  refine lv_iconst (v := 0) hx hb dX5_init_42 (by decide) ?_
  refine s_put B hS hin layX5 tyX5 tyX5_ok nmX5 (by omega) he_o rfl 5 (by decide) (tw_1 210 rfl rfl) rfl rfl rfl rfl rfl (Nat.le_of_ble_eq_true rfl) dX5_init_43 (fun H locs hS => ?_)
  obtain ⟨E_10, eE, hrun⟩ := ltE hrun
  have hS : SP X b (n + 4) E_10 s.heap H locs := by rw [eE]; exact hS
  have he_o : E_10 o = .inr (5, [.ref (b + n), .ref (b + (n + 1)), .ref (b + (n + 2)), .ref (b + (n + 3)), .int (0 : Int32), .int (0 : Int32)]) := by rw [eE]; exact va_up_self _ _ _
  clear eE
  exact hret _ _ _ _ _ hrun hS dX5_init_46
def eX6_init (X : Cx) (b o a1 n : Nat) (E : Nat → va_E) : Nat → va_E := lt1 (va_up E n (qA X 16 (fun _ => none) 2)) (fun E_2 => lt1 (va_up E_2 o (.inr (6, [.ref (b + n), .int 0, .int 0]))) (fun E_3 => lt1 (va_up E_3 o (.inr (6, [.ref (b + n), .int (0 : Int32), .int 0]))) (fun E_4 => lt1 (va_up E_4 o (.inr (6, [.ref (b + n), .int (0 : Int32), .int (0 : Int32)]))) (fun E_5 => lt1 (va_up E_5 (n + 1) (.inr (3, [.null, .int 0, .int 0, .int 0, .int 0, .null, .null, .null, .null]))) (fun E_7 => lt1 (eX3_init X b (n + 1) a1 (n + 2) E_7) (fun E_8 => lt1 (va_up E_8 n (qA X 16 (va_up (fun _ => none) (0 : Int32).toNatClampNeg (some (b + (n + 1)))) 2)) (fun E_9 => lt1 (va_up E_9 (n + 6) (.inr (3, [.null, .int 0, .int 0, .int 0, .int 0, .null, .null, .null, .null]))) (fun E_11 => lt1 (eX3_init X b (n + 6) a1 (n + 7) E_11) (fun E_12 => lt1 (va_up E_12 n (qA X 16 (va_up (va_up (fun _ => none) (0 : Int32).toNatClampNeg (some (b + (n + 1)))) (1 : Int32).toNatClampNeg (some (b + (n + 6)))) 2)) (fun E_13 => lt1 (va_up E_13 (n + 11) (.inr (3, [.null, .int 0, .int 0, .int 0, .int 0, .null, .null, .null, .null]))) (fun E_15 => lt1 (eX3_init X b (n + 11) a1 (n + 12) E_15) (fun E_16 => lt1 (va_up E_16 n (qA X 16 (va_up (va_up (va_up (fun _ => none) (0 : Int32).toNatClampNeg (some (b + (n + 1)))) (1 : Int32).toNatClampNeg (some (b + (n + 6)))) (2 : Int32).toNatClampNeg (some (b + (n + 11)))) 2)) (fun E_17 => lt1 (va_up E_17 (n + 16) (.inr (3, [.null, .int 0, .int 0, .int 0, .int 0, .null, .null, .null, .null]))) (fun E_19 => lt1 (eX3_init X b (n + 16) a1 (n + 17) E_19) (fun E_20 => lt1 (va_up E_20 n (qA X 16 (va_up (va_up (va_up (va_up (fun _ => none) (0 : Int32).toNatClampNeg (some (b + (n + 1)))) (1 : Int32).toNatClampNeg (some (b + (n + 6)))) (2 : Int32).toNatClampNeg (some (b + (n + 11)))) (3 : Int32).toNatClampNeg (some (b + (n + 16)))) 2)) (fun E_21 => lt1 (va_up E_21 (n + 21) (.inr (3, [.null, .int 0, .int 0, .int 0, .int 0, .null, .null, .null, .null]))) (fun E_23 => lt1 (eX3_init X b (n + 21) a1 (n + 22) E_23) (fun E_24 => lt1 (va_up E_24 n (qA X 16 (va_up (va_up (va_up (va_up (va_up (fun _ => none) (0 : Int32).toNatClampNeg (some (b + (n + 1)))) (1 : Int32).toNatClampNeg (some (b + (n + 6)))) (2 : Int32).toNatClampNeg (some (b + (n + 11)))) (3 : Int32).toNatClampNeg (some (b + (n + 16)))) (4 : Int32).toNatClampNeg (some (b + (n + 21)))) 2)) (fun E_25 => lt1 (va_up E_25 (n + 26) (.inr (3, [.null, .int 0, .int 0, .int 0, .int 0, .null, .null, .null, .null]))) (fun E_27 => lt1 (eX3_init X b (n + 26) a1 (n + 27) E_27) (fun E_28 => lt1 (va_up E_28 n (qA X 16 (va_up (va_up (va_up (va_up (va_up (va_up (fun _ => none) (0 : Int32).toNatClampNeg (some (b + (n + 1)))) (1 : Int32).toNatClampNeg (some (b + (n + 6)))) (2 : Int32).toNatClampNeg (some (b + (n + 11)))) (3 : Int32).toNatClampNeg (some (b + (n + 16)))) (4 : Int32).toNatClampNeg (some (b + (n + 21)))) (5 : Int32).toNatClampNeg (some (b + (n + 26)))) 2)) (fun E_29 => lt1 (va_up E_29 (n + 31) (.inr (3, [.null, .int 0, .int 0, .int 0, .int 0, .null, .null, .null, .null]))) (fun E_31 => lt1 (eX3_init X b (n + 31) a1 (n + 32) E_31) (fun E_32 => lt1 (va_up E_32 n (qA X 16 (va_up (va_up (va_up (va_up (va_up (va_up (va_up (fun _ => none) (0 : Int32).toNatClampNeg (some (b + (n + 1)))) (1 : Int32).toNatClampNeg (some (b + (n + 6)))) (2 : Int32).toNatClampNeg (some (b + (n + 11)))) (3 : Int32).toNatClampNeg (some (b + (n + 16)))) (4 : Int32).toNatClampNeg (some (b + (n + 21)))) (5 : Int32).toNatClampNeg (some (b + (n + 26)))) (6 : Int32).toNatClampNeg (some (b + (n + 31)))) 2)) (fun E_33 => lt1 (va_up E_33 (n + 36) (.inr (3, [.null, .int 0, .int 0, .int 0, .int 0, .null, .null, .null, .null]))) (fun E_35 => lt1 (eX3_init X b (n + 36) a1 (n + 37) E_35) (fun E_36 => lt1 (va_up E_36 n (qA X 16 (va_up (va_up (va_up (va_up (va_up (va_up (va_up (va_up (fun _ => none) (0 : Int32).toNatClampNeg (some (b + (n + 1)))) (1 : Int32).toNatClampNeg (some (b + (n + 6)))) (2 : Int32).toNatClampNeg (some (b + (n + 11)))) (3 : Int32).toNatClampNeg (some (b + (n + 16)))) (4 : Int32).toNatClampNeg (some (b + (n + 21)))) (5 : Int32).toNatClampNeg (some (b + (n + 26)))) (6 : Int32).toNatClampNeg (some (b + (n + 31)))) (7 : Int32).toNatClampNeg (some (b + (n + 36)))) 2)) (fun E_37 => lt1 (va_up E_37 (n + 41) (.inr (3, [.null, .int 0, .int 0, .int 0, .int 0, .null, .null, .null, .null]))) (fun E_39 => lt1 (eX3_init X b (n + 41) a1 (n + 42) E_39) (fun E_40 => lt1 (va_up E_40 n (qA X 16 (va_up (va_up (va_up (va_up (va_up (va_up (va_up (va_up (va_up (fun _ => none) (0 : Int32).toNatClampNeg (some (b + (n + 1)))) (1 : Int32).toNatClampNeg (some (b + (n + 6)))) (2 : Int32).toNatClampNeg (some (b + (n + 11)))) (3 : Int32).toNatClampNeg (some (b + (n + 16)))) (4 : Int32).toNatClampNeg (some (b + (n + 21)))) (5 : Int32).toNatClampNeg (some (b + (n + 26)))) (6 : Int32).toNatClampNeg (some (b + (n + 31)))) (7 : Int32).toNatClampNeg (some (b + (n + 36)))) (8 : Int32).toNatClampNeg (some (b + (n + 41)))) 2)) (fun E_41 => lt1 (va_up E_41 (n + 46) (.inr (3, [.null, .int 0, .int 0, .int 0, .int 0, .null, .null, .null, .null]))) (fun E_43 => lt1 (eX3_init X b (n + 46) a1 (n + 47) E_43) (fun E_44 => lt1 (va_up E_44 n (qA X 16 (va_up (va_up (va_up (va_up (va_up (va_up (va_up (va_up (va_up (va_up (fun _ => none) (0 : Int32).toNatClampNeg (some (b + (n + 1)))) (1 : Int32).toNatClampNeg (some (b + (n + 6)))) (2 : Int32).toNatClampNeg (some (b + (n + 11)))) (3 : Int32).toNatClampNeg (some (b + (n + 16)))) (4 : Int32).toNatClampNeg (some (b + (n + 21)))) (5 : Int32).toNatClampNeg (some (b + (n + 26)))) (6 : Int32).toNatClampNeg (some (b + (n + 31)))) (7 : Int32).toNatClampNeg (some (b + (n + 36)))) (8 : Int32).toNatClampNeg (some (b + (n + 41)))) (9 : Int32).toNatClampNeg (some (b + (n + 46)))) 2)) (fun E_45 => lt1 (va_up E_45 (n + 51) (.inr (3, [.null, .int 0, .int 0, .int 0, .int 0, .null, .null, .null, .null]))) (fun E_47 => lt1 (eX3_init X b (n + 51) a1 (n + 52) E_47) (fun E_48 => lt1 (va_up E_48 n (qA X 16 (va_up (va_up (va_up (va_up (va_up (va_up (va_up (va_up (va_up (va_up (va_up (fun _ => none) (0 : Int32).toNatClampNeg (some (b + (n + 1)))) (1 : Int32).toNatClampNeg (some (b + (n + 6)))) (2 : Int32).toNatClampNeg (some (b + (n + 11)))) (3 : Int32).toNatClampNeg (some (b + (n + 16)))) (4 : Int32).toNatClampNeg (some (b + (n + 21)))) (5 : Int32).toNatClampNeg (some (b + (n + 26)))) (6 : Int32).toNatClampNeg (some (b + (n + 31)))) (7 : Int32).toNatClampNeg (some (b + (n + 36)))) (8 : Int32).toNatClampNeg (some (b + (n + 41)))) (9 : Int32).toNatClampNeg (some (b + (n + 46)))) (10 : Int32).toNatClampNeg (some (b + (n + 51)))) 2)) (fun E_49 => lt1 (va_up E_49 (n + 56) (.inr (3, [.null, .int 0, .int 0, .int 0, .int 0, .null, .null, .null, .null]))) (fun E_51 => lt1 (eX3_init X b (n + 56) a1 (n + 57) E_51) (fun E_52 => lt1 (va_up E_52 n (qA X 16 (va_up (va_up (va_up (va_up (va_up (va_up (va_up (va_up (va_up (va_up (va_up (va_up (fun _ => none) (0 : Int32).toNatClampNeg (some (b + (n + 1)))) (1 : Int32).toNatClampNeg (some (b + (n + 6)))) (2 : Int32).toNatClampNeg (some (b + (n + 11)))) (3 : Int32).toNatClampNeg (some (b + (n + 16)))) (4 : Int32).toNatClampNeg (some (b + (n + 21)))) (5 : Int32).toNatClampNeg (some (b + (n + 26)))) (6 : Int32).toNatClampNeg (some (b + (n + 31)))) (7 : Int32).toNatClampNeg (some (b + (n + 36)))) (8 : Int32).toNatClampNeg (some (b + (n + 41)))) (9 : Int32).toNatClampNeg (some (b + (n + 46)))) (10 : Int32).toNatClampNeg (some (b + (n + 51)))) (11 : Int32).toNatClampNeg (some (b + (n + 56)))) 2)) (fun E_53 => lt1 (va_up E_53 (n + 61) (.inr (3, [.null, .int 0, .int 0, .int 0, .int 0, .null, .null, .null, .null]))) (fun E_55 => lt1 (eX3_init X b (n + 61) a1 (n + 62) E_55) (fun E_56 => lt1 (va_up E_56 n (qA X 16 (va_up (va_up (va_up (va_up (va_up (va_up (va_up (va_up (va_up (va_up (va_up (va_up (va_up (fun _ => none) (0 : Int32).toNatClampNeg (some (b + (n + 1)))) (1 : Int32).toNatClampNeg (some (b + (n + 6)))) (2 : Int32).toNatClampNeg (some (b + (n + 11)))) (3 : Int32).toNatClampNeg (some (b + (n + 16)))) (4 : Int32).toNatClampNeg (some (b + (n + 21)))) (5 : Int32).toNatClampNeg (some (b + (n + 26)))) (6 : Int32).toNatClampNeg (some (b + (n + 31)))) (7 : Int32).toNatClampNeg (some (b + (n + 36)))) (8 : Int32).toNatClampNeg (some (b + (n + 41)))) (9 : Int32).toNatClampNeg (some (b + (n + 46)))) (10 : Int32).toNatClampNeg (some (b + (n + 51)))) (11 : Int32).toNatClampNeg (some (b + (n + 56)))) (12 : Int32).toNatClampNeg (some (b + (n + 61)))) 2)) (fun E_57 => lt1 (va_up E_57 (n + 66) (.inr (3, [.null, .int 0, .int 0, .int 0, .int 0, .null, .null, .null, .null]))) (fun E_59 => lt1 (eX3_init X b (n + 66) a1 (n + 67) E_59) (fun E_60 => lt1 (va_up E_60 n (qA X 16 (va_up (va_up (va_up (va_up (va_up (va_up (va_up (va_up (va_up (va_up (va_up (va_up (va_up (va_up (fun _ => none) (0 : Int32).toNatClampNeg (some (b + (n + 1)))) (1 : Int32).toNatClampNeg (some (b + (n + 6)))) (2 : Int32).toNatClampNeg (some (b + (n + 11)))) (3 : Int32).toNatClampNeg (some (b + (n + 16)))) (4 : Int32).toNatClampNeg (some (b + (n + 21)))) (5 : Int32).toNatClampNeg (some (b + (n + 26)))) (6 : Int32).toNatClampNeg (some (b + (n + 31)))) (7 : Int32).toNatClampNeg (some (b + (n + 36)))) (8 : Int32).toNatClampNeg (some (b + (n + 41)))) (9 : Int32).toNatClampNeg (some (b + (n + 46)))) (10 : Int32).toNatClampNeg (some (b + (n + 51)))) (11 : Int32).toNatClampNeg (some (b + (n + 56)))) (12 : Int32).toNatClampNeg (some (b + (n + 61)))) (13 : Int32).toNatClampNeg (some (b + (n + 66)))) 2)) (fun E_61 => lt1 (va_up E_61 (n + 71) (.inr (3, [.null, .int 0, .int 0, .int 0, .int 0, .null, .null, .null, .null]))) (fun E_63 => lt1 (eX3_init X b (n + 71) a1 (n + 72) E_63) (fun E_64 => lt1 (va_up E_64 n (qA X 16 (va_up (va_up (va_up (va_up (va_up (va_up (va_up (va_up (va_up (va_up (va_up (va_up (va_up (va_up (va_up (fun _ => none) (0 : Int32).toNatClampNeg (some (b + (n + 1)))) (1 : Int32).toNatClampNeg (some (b + (n + 6)))) (2 : Int32).toNatClampNeg (some (b + (n + 11)))) (3 : Int32).toNatClampNeg (some (b + (n + 16)))) (4 : Int32).toNatClampNeg (some (b + (n + 21)))) (5 : Int32).toNatClampNeg (some (b + (n + 26)))) (6 : Int32).toNatClampNeg (some (b + (n + 31)))) (7 : Int32).toNatClampNeg (some (b + (n + 36)))) (8 : Int32).toNatClampNeg (some (b + (n + 41)))) (9 : Int32).toNatClampNeg (some (b + (n + 46)))) (10 : Int32).toNatClampNeg (some (b + (n + 51)))) (11 : Int32).toNatClampNeg (some (b + (n + 56)))) (12 : Int32).toNatClampNeg (some (b + (n + 61)))) (13 : Int32).toNatClampNeg (some (b + (n + 66)))) (14 : Int32).toNatClampNeg (some (b + (n + 71)))) 2)) (fun E_65 => lt1 (va_up E_65 (n + 76) (.inr (3, [.null, .int 0, .int 0, .int 0, .int 0, .null, .null, .null, .null]))) (fun E_67 => lt1 (eX3_init X b (n + 76) a1 (n + 77) E_67) (fun E_68 => lt1 (va_up E_68 n (qA X 16 (va_up (va_up (va_up (va_up (va_up (va_up (va_up (va_up (va_up (va_up (va_up (va_up (va_up (va_up (va_up (va_up (fun _ => none) (0 : Int32).toNatClampNeg (some (b + (n + 1)))) (1 : Int32).toNatClampNeg (some (b + (n + 6)))) (2 : Int32).toNatClampNeg (some (b + (n + 11)))) (3 : Int32).toNatClampNeg (some (b + (n + 16)))) (4 : Int32).toNatClampNeg (some (b + (n + 21)))) (5 : Int32).toNatClampNeg (some (b + (n + 26)))) (6 : Int32).toNatClampNeg (some (b + (n + 31)))) (7 : Int32).toNatClampNeg (some (b + (n + 36)))) (8 : Int32).toNatClampNeg (some (b + (n + 41)))) (9 : Int32).toNatClampNeg (some (b + (n + 46)))) (10 : Int32).toNatClampNeg (some (b + (n + 51)))) (11 : Int32).toNatClampNeg (some (b + (n + 56)))) (12 : Int32).toNatClampNeg (some (b + (n + 61)))) (13 : Int32).toNatClampNeg (some (b + (n + 66)))) (14 : Int32).toNatClampNeg (some (b + (n + 71)))) (15 : Int32).toNatClampNeg (some (b + (n + 76)))) 2)) (fun E_69 => E_69))))))))))))))))))))))))))))))))))))))))))))))))))))
theorem eX6_init_k {X : Cx} {b o a1 n : Nat} {E : Nat → va_E} {j : Nat} (hj : j ≠ o) (hn : j < n) : eX6_init X b o a1 n E j = E j := by
  unfold eX6_init
  simp only [lt1]
  refine (va_up_ne _ _ (by omega)).trans ?_
  refine (eX3_init_k (by omega) (by omega)).trans ?_
  refine (va_up_ne _ _ (by omega)).trans ?_
  refine (va_up_ne _ _ (by omega)).trans ?_
  refine (eX3_init_k (by omega) (by omega)).trans ?_
  refine (va_up_ne _ _ (by omega)).trans ?_
  refine (va_up_ne _ _ (by omega)).trans ?_
  refine (eX3_init_k (by omega) (by omega)).trans ?_
  refine (va_up_ne _ _ (by omega)).trans ?_
  refine (va_up_ne _ _ (by omega)).trans ?_
  refine (eX3_init_k (by omega) (by omega)).trans ?_
  refine (va_up_ne _ _ (by omega)).trans ?_
  refine (va_up_ne _ _ (by omega)).trans ?_
  refine (eX3_init_k (by omega) (by omega)).trans ?_
  refine (va_up_ne _ _ (by omega)).trans ?_
  refine (va_up_ne _ _ (by omega)).trans ?_
  refine (eX3_init_k (by omega) (by omega)).trans ?_
  refine (va_up_ne _ _ (by omega)).trans ?_
  refine (va_up_ne _ _ (by omega)).trans ?_
  refine (eX3_init_k (by omega) (by omega)).trans ?_
  refine (va_up_ne _ _ (by omega)).trans ?_
  refine (va_up_ne _ _ (by omega)).trans ?_
  refine (eX3_init_k (by omega) (by omega)).trans ?_
  refine (va_up_ne _ _ (by omega)).trans ?_
  refine (va_up_ne _ _ (by omega)).trans ?_
  refine (eX3_init_k (by omega) (by omega)).trans ?_
  refine (va_up_ne _ _ (by omega)).trans ?_
  refine (va_up_ne _ _ (by omega)).trans ?_
  refine (eX3_init_k (by omega) (by omega)).trans ?_
  refine (va_up_ne _ _ (by omega)).trans ?_
  refine (va_up_ne _ _ (by omega)).trans ?_
  refine (eX3_init_k (by omega) (by omega)).trans ?_
  refine (va_up_ne _ _ (by omega)).trans ?_
  refine (va_up_ne _ _ (by omega)).trans ?_
  refine (eX3_init_k (by omega) (by omega)).trans ?_
  refine (va_up_ne _ _ (by omega)).trans ?_
  refine (va_up_ne _ _ (by omega)).trans ?_
  refine (eX3_init_k (by omega) (by omega)).trans ?_
  refine (va_up_ne _ _ (by omega)).trans ?_
  refine (va_up_ne _ _ (by omega)).trans ?_
  refine (eX3_init_k (by omega) (by omega)).trans ?_
  refine (va_up_ne _ _ (by omega)).trans ?_
  refine (va_up_ne _ _ (by omega)).trans ?_
  refine (eX3_init_k (by omega) (by omega)).trans ?_
  refine (va_up_ne _ _ (by omega)).trans ?_
  refine (va_up_ne _ _ (by omega)).trans ?_
  refine (eX3_init_k (by omega) (by omega)).trans ?_
  refine (va_up_ne _ _ (by omega)).trans ?_
  refine (va_up_ne _ _ (by omega)).trans ?_
  refine (va_up_ne _ _ (by omega)).trans ?_
  refine (va_up_ne _ _ (by omega)).trans ?_
  refine (va_up_ne _ _ (by omega)).trans ?_
  rfl
theorem eX6_init_s {X : Cx} {b o a1 n : Nat} {E : Nat → va_E} (ho : o < n) : eX6_init X b o a1 n E o = .inr (6, [.ref (b + n), .int (0 : Int32), .int (0 : Int32)]) := by
  unfold eX6_init
  simp only [lt1]
  refine (va_up_ne _ _ (by omega)).trans ?_
  refine (eX3_init_k (by omega) (by omega)).trans ?_
  refine (va_up_ne _ _ (by omega)).trans ?_
  refine (va_up_ne _ _ (by omega)).trans ?_
  refine (eX3_init_k (by omega) (by omega)).trans ?_
  refine (va_up_ne _ _ (by omega)).trans ?_
  refine (va_up_ne _ _ (by omega)).trans ?_
  refine (eX3_init_k (by omega) (by omega)).trans ?_
  refine (va_up_ne _ _ (by omega)).trans ?_
  refine (va_up_ne _ _ (by omega)).trans ?_
  refine (eX3_init_k (by omega) (by omega)).trans ?_
  refine (va_up_ne _ _ (by omega)).trans ?_
  refine (va_up_ne _ _ (by omega)).trans ?_
  refine (eX3_init_k (by omega) (by omega)).trans ?_
  refine (va_up_ne _ _ (by omega)).trans ?_
  refine (va_up_ne _ _ (by omega)).trans ?_
  refine (eX3_init_k (by omega) (by omega)).trans ?_
  refine (va_up_ne _ _ (by omega)).trans ?_
  refine (va_up_ne _ _ (by omega)).trans ?_
  refine (eX3_init_k (by omega) (by omega)).trans ?_
  refine (va_up_ne _ _ (by omega)).trans ?_
  refine (va_up_ne _ _ (by omega)).trans ?_
  refine (eX3_init_k (by omega) (by omega)).trans ?_
  refine (va_up_ne _ _ (by omega)).trans ?_
  refine (va_up_ne _ _ (by omega)).trans ?_
  refine (eX3_init_k (by omega) (by omega)).trans ?_
  refine (va_up_ne _ _ (by omega)).trans ?_
  refine (va_up_ne _ _ (by omega)).trans ?_
  refine (eX3_init_k (by omega) (by omega)).trans ?_
  refine (va_up_ne _ _ (by omega)).trans ?_
  refine (va_up_ne _ _ (by omega)).trans ?_
  refine (eX3_init_k (by omega) (by omega)).trans ?_
  refine (va_up_ne _ _ (by omega)).trans ?_
  refine (va_up_ne _ _ (by omega)).trans ?_
  refine (eX3_init_k (by omega) (by omega)).trans ?_
  refine (va_up_ne _ _ (by omega)).trans ?_
  refine (va_up_ne _ _ (by omega)).trans ?_
  refine (eX3_init_k (by omega) (by omega)).trans ?_
  refine (va_up_ne _ _ (by omega)).trans ?_
  refine (va_up_ne _ _ (by omega)).trans ?_
  refine (eX3_init_k (by omega) (by omega)).trans ?_
  refine (va_up_ne _ _ (by omega)).trans ?_
  refine (va_up_ne _ _ (by omega)).trans ?_
  refine (eX3_init_k (by omega) (by omega)).trans ?_
  refine (va_up_ne _ _ (by omega)).trans ?_
  refine (va_up_ne _ _ (by omega)).trans ?_
  refine (eX3_init_k (by omega) (by omega)).trans ?_
  refine (va_up_ne _ _ (by omega)).trans ?_
  exact va_up_self _ _ _
theorem mdX6_init : MD yX6_init 1 := ⟨by decide +kernel, by decide +kernel, by decide +kernel⟩
set_option maxHeartbeats 4000000 in
set_option maxRecDepth 100000 in
theorem kX6_init (l : Launch) (X : Cx) (b o a1 n : Nat) (E : Nat → va_E) (ho : o < n) (he_o : E o = .inr (6, [.null, .int 0, .int 0])) : CI l X b yX6_init cX6_init 3 2 45 81 560 [.ref (b + o), .ref a1] n E (n + 81) (eX6_init X b o a1 n E) := by
  obtain ⟨E', hrun⟩ : ∃ z, eX6_init X b o a1 n E = z := ⟨_, rfl⟩
  rw [hrun]
  refine CI_of (by decide) rfl (Nat.le_of_ble_eq_true rfl) ?_
  intro p e s m args below meth c Q B hin hret hS ls hl
  have hx := B.1
  have hb := B.2.1
  have hown := B.2.2.2.1
  have hts := B.2.2.2.2.1
  have hl : lv_has ls 3 [(0, .ref (b + o)), (1, .ref a1)] := hl
  unfold eX6_init at hrun
  refine lv_aload_n hx hb dX6_init_0 rfl (lv_at hl 0 rfl) ?_
  refine W.objInit hx hb hown (hts _ (tw_1 183 rfl rfl)) (hts _ (tw_1 22 rfl rfl)) (hts _ (tw_1 23 rfl rfl)) rfl (hl.1.trans B.2.2.1.symm) rfl dX6_init_1 (Nat.le_of_ble_eq_true rfl) (Nat.le_of_ble_eq_true rfl) ?_
  refine W.eq (g2 := F0 m 4 ls []) rfl ?_
  refine lv_aload_n hx hb dX6_init_4 rfl (lv_at hl 0 rfl) ?_
  refine lv_bipush (v := 16) hx hb dX6_init_5 (by decide) ?_
  refine s_newq (k0 := 2) B hS (tw_1 184 rfl rfl) B.2.2.2.2.2.2.2.1 rfl (N' := 16) (by decide) rfl (by decide) (Nat.le_of_ble_eq_true rfl) (Nat.le_of_ble_eq_true rfl) dX6_init_7 (fun H hS => ?_)
  obtain ⟨E_2, eE, hrun⟩ := ltE hrun
  have hS : SP X b (n + 1) E_2 s.heap H [] := by rw [eE]; exact hS
  have he_o : E_2 o = .inr (6, [.null, .int 0, .int 0]) := by rw [eE]; exact (va_up_ne _ _ (by omega)).trans he_o
  have he_1 : E_2 n = qA X 16 (fun _ => none) 2 := by rw [eE]; exact va_up_self _ _ _
  clear eE
  refine s_put B hS hin layX6 tyX6 tyX6_ok nmX6 (by omega) he_o rfl 0 (by decide) (tw_1 187 rfl rfl) rfl rfl rfl rfl rfl (Nat.le_of_ble_eq_true rfl) dX6_init_10 (fun H locs hS => ?_)
  obtain ⟨E_3, eE, hrun⟩ := ltE hrun
  have hS : SP X b (n + 1) E_3 s.heap H locs := by rw [eE]; exact hS
  have he_1 : E_3 n = qA X 16 (fun _ => none) 2 := by rw [eE]; exact (va_up_ne _ _ (by omega)).trans he_1
  have he_o : E_3 o = .inr (6, [.ref (b + n), .int 0, .int 0]) := by rw [eE]; exact va_up_self _ _ _
  clear eE
  refine lv_aload_n hx hb dX6_init_13 rfl (lv_at hl 0 rfl) ?_
  refine lv_iconst (v := 0) hx hb dX6_init_14 (by decide) ?_
  refine s_put B hS hin layX6 tyX6 tyX6_ok nmX6 (by omega) he_o rfl 1 (by decide) (tw_1 188 rfl rfl) rfl rfl rfl rfl rfl (Nat.le_of_ble_eq_true rfl) dX6_init_15 (fun H locs hS => ?_)
  obtain ⟨E_4, eE, hrun⟩ := ltE hrun
  have hS : SP X b (n + 1) E_4 s.heap H locs := by rw [eE]; exact hS
  have he_1 : E_4 n = qA X 16 (fun _ => none) 2 := by rw [eE]; exact (va_up_ne _ _ (by omega)).trans he_1
  have he_o : E_4 o = .inr (6, [.ref (b + n), .int (0 : Int32), .int 0]) := by rw [eE]; exact va_up_self _ _ _
  clear eE
  refine lv_aload_n hx hb dX6_init_18 rfl (lv_at hl 0 rfl) ?_
  refine lv_iconst (v := 0) hx hb dX6_init_19 (by decide) ?_
  refine s_put B hS hin layX6 tyX6 tyX6_ok nmX6 (by omega) he_o rfl 2 (by decide) (tw_1 189 rfl rfl) rfl rfl rfl rfl rfl (Nat.le_of_ble_eq_true rfl) dX6_init_20 (fun H locs hS => ?_)
  obtain ⟨E_5, eE, hrun⟩ := ltE hrun
  have hS : SP X b (n + 1) E_5 s.heap H locs := by rw [eE]; exact hS
  have he_1 : E_5 n = qA X 16 (fun _ => none) 2 := by rw [eE]; exact (va_up_ne _ _ (by omega)).trans he_1
  have he_o : E_5 o = .inr (6, [.ref (b + n), .int (0 : Int32), .int (0 : Int32)]) := by rw [eE]; exact va_up_self _ _ _
  clear eE
  refine lv_iconst (v := 0) hx hb dX6_init_23 (by decide) ?_
  refine lv_istore_n (lv' := [(2, .int (0 : Int32)), (0, .ref (b + o)), (1, .ref a1)]) hx hb dX6_init_24 rfl hl (by decide) rfl (fun ls hl => ?_)
  refine lv_iload_n hx hb dX6_init_25 rfl (lv_at hl 0 rfl) ?_
  refine lv_bipush (v := 16) hx hb dX6_init_26 (by decide) ?_
  refine lv_icmp_ge (tgt := 51) hx hb dX6_init_28 (by decide) (fun hc => absurd hc (by decide)) (fun hc => ?_)
  refine lv_aload_n hx hb dX6_init_31 rfl (lv_at hl 1 rfl) ?_
  refine s_get B hS layX6 (by omega) he_o rfl 0 (by decide) (tw_1 187 rfl rfl) rfl rfl dX6_init_32 ?_
  refine lv_iload_n hx hb dX6_init_35 rfl (lv_at hl 0 rfl) ?_
  refine s_new (ci := 3) (fs := [.null, .int 0, .int 0, .int 0, .int 0, .null, .null, .null, .null]) B hS layX3 tyX3 tyX3_ok (tw_1 184 rfl rfl) (tw_1 95 rfl rfl) (tw_1 4 rfl rfl) rfl (fun j hj => by rcases (show j = 0 ∨ j = 1 ∨ j = 2 ∨ j = 3 ∨ j = 4 ∨ j = 5 ∨ j = 6 ∨ j = 7 ∨ j = 8 by omega) with rfl | rfl | rfl | rfl | rfl | rfl | rfl | rfl | rfl <;> rfl) (Nat.le_of_ble_eq_true rfl) (Nat.le_of_ble_eq_true rfl) dX6_init_36 (fun H hS => ?_)
  obtain ⟨E_7, eE, hrun⟩ := ltE hrun
  have hS : SP X b (n + 2) E_7 s.heap H locs := by rw [eE]; exact hS
  have he_o : E_7 o = .inr (6, [.ref (b + n), .int (0 : Int32), .int (0 : Int32)]) := by rw [eE]; exact (va_up_ne _ _ (by omega)).trans he_o
  have he_1 : E_7 n = qA X 16 (fun _ => none) 2 := by rw [eE]; exact (va_up_ne _ _ (by omega)).trans he_1
  have he_6 : E_7 (n + 1) = .inr (3, [.null, .int 0, .int 0, .int 0, .int 0, .null, .null, .null, .null]) := by rw [eE]; exact va_up_self _ _ _
  clear eE
  refine lv_dup hx hb dX6_init_39 rfl ?_
  refine lv_aload_n hx hb dX6_init_40 rfl (lv_at hl 2 rfl) ?_
  refine sI B hS (kX3_init l X b (n + 1) a1 (n + 2) E_7 (by omega) he_6) (tw_1 186 rfl rfl) (tw_1 97 rfl rfl) (tw_1 4 rfl rfl) (tw_1 98 rfl rfl) rfl mdX3_init rfl hl.1 rfl (Nat.le_of_ble_eq_true rfl) ⟨Nat.le_of_ble_eq_true rfl, Nat.le_of_ble_eq_true rfl⟩ ⟨Nat.le_of_ble_eq_true rfl, Nat.le_of_ble_eq_true rfl⟩ dX6_init_41 (fun H locs hS => ?_)
  obtain ⟨E_8, eE, hrun⟩ := ltE hrun
  have hS : SP X b (n + 6) E_8 s.heap H locs := by rw [eE]; exact hS
  have he_o : E_8 o = .inr (6, [.ref (b + n), .int (0 : Int32), .int (0 : Int32)]) := by rw [eE]; exact (eX3_init_k (by omega) (by omega)).trans he_o
  have he_1 : E_8 n = qA X 16 (fun _ => none) 2 := by rw [eE]; exact (eX3_init_k (by omega) (by omega)).trans he_1
  have he_6 : E_8 (n + 1) = .inr (3, [.ref a1, .int (0 : Int32), .int (0 : Int32), .int (0 : Int32), .int (0 : Int32), .ref (b + (n + 2)), .ref (b + (n + 3)), .ref (b + (n + 4)), .ref (b + (n + 5))]) := by rw [eE]; exact eX3_init_s (by omega)
  clear eE
  refine s_ast (k0 := 2) B hS (by omega) he_1 rfl (by omega) he_6 rfl (by unfold vp_in; decide) dX6_init_44 (fun H locs hS => ?_)
  obtain ⟨E_9, eE, hrun⟩ := ltE hrun
  have hS : SP X b (n + 6) E_9 s.heap H locs := by rw [eE]; exact hS
  have he_o : E_9 o = .inr (6, [.ref (b + n), .int (0 : Int32), .int (0 : Int32)]) := by rw [eE]; exact (va_up_ne _ _ (by omega)).trans he_o
  have he_1 : E_9 n = qA X 16 (va_up (fun _ => none) (0 : Int32).toNatClampNeg (some (b + (n + 1)))) 2 := by rw [eE]; exact va_up_self _ _ _
  clear eE
  refine lv_iinc (v := (1 : Int32)) (k := 0) (lv' := [(2, .int (1 : Int32)), (0, .ref (b + o)), (1, .ref a1)]) hx hb dX6_init_45 hl rfl (by decide) (by decide) rfl (fun ls hl => ?_)
  refine lv_goto (tgt := 25) hx hb dX6_init_48 (by decide) ?_
  refine lv_iload_n hx hb dX6_init_25 rfl (lv_at hl 0 rfl) ?_
  refine lv_bipush (v := 16) hx hb dX6_init_26 (by decide) ?_
  refine lv_icmp_ge (tgt := 51) hx hb dX6_init_28 (by decide) (fun hc => absurd hc (by decide)) (fun hc => ?_)
  refine lv_aload_n hx hb dX6_init_31 rfl (lv_at hl 1 rfl) ?_
  refine s_get B hS layX6 (by omega) he_o rfl 0 (by decide) (tw_1 187 rfl rfl) rfl rfl dX6_init_32 ?_
  refine lv_iload_n hx hb dX6_init_35 rfl (lv_at hl 0 rfl) ?_
  refine s_new (ci := 3) (fs := [.null, .int 0, .int 0, .int 0, .int 0, .null, .null, .null, .null]) B hS layX3 tyX3 tyX3_ok (tw_1 184 rfl rfl) (tw_1 95 rfl rfl) (tw_1 4 rfl rfl) rfl (fun j hj => by rcases (show j = 0 ∨ j = 1 ∨ j = 2 ∨ j = 3 ∨ j = 4 ∨ j = 5 ∨ j = 6 ∨ j = 7 ∨ j = 8 by omega) with rfl | rfl | rfl | rfl | rfl | rfl | rfl | rfl | rfl <;> rfl) (Nat.le_of_ble_eq_true rfl) (Nat.le_of_ble_eq_true rfl) dX6_init_36 (fun H hS => ?_)
  obtain ⟨E_11, eE, hrun⟩ := ltE hrun
  have hS : SP X b (n + 7) E_11 s.heap H locs := by rw [eE]; exact hS
  have he_o : E_11 o = .inr (6, [.ref (b + n), .int (0 : Int32), .int (0 : Int32)]) := by rw [eE]; exact (va_up_ne _ _ (by omega)).trans he_o
  have he_1 : E_11 n = qA X 16 (va_up (fun _ => none) (0 : Int32).toNatClampNeg (some (b + (n + 1)))) 2 := by rw [eE]; exact (va_up_ne _ _ (by omega)).trans he_1
  have he_10 : E_11 (n + 6) = .inr (3, [.null, .int 0, .int 0, .int 0, .int 0, .null, .null, .null, .null]) := by rw [eE]; exact va_up_self _ _ _
  clear eE
  refine lv_dup hx hb dX6_init_39 rfl ?_
  refine lv_aload_n hx hb dX6_init_40 rfl (lv_at hl 2 rfl) ?_
  refine sI B hS (kX3_init l X b (n + 6) a1 (n + 7) E_11 (by omega) he_10) (tw_1 186 rfl rfl) (tw_1 97 rfl rfl) (tw_1 4 rfl rfl) (tw_1 98 rfl rfl) rfl mdX3_init rfl hl.1 rfl (Nat.le_of_ble_eq_true rfl) ⟨Nat.le_of_ble_eq_true rfl, Nat.le_of_ble_eq_true rfl⟩ ⟨Nat.le_of_ble_eq_true rfl, Nat.le_of_ble_eq_true rfl⟩ dX6_init_41 (fun H locs hS => ?_)
  obtain ⟨E_12, eE, hrun⟩ := ltE hrun
  have hS : SP X b (n + 11) E_12 s.heap H locs := by rw [eE]; exact hS
  have he_o : E_12 o = .inr (6, [.ref (b + n), .int (0 : Int32), .int (0 : Int32)]) := by rw [eE]; exact (eX3_init_k (by omega) (by omega)).trans he_o
  have he_1 : E_12 n = qA X 16 (va_up (fun _ => none) (0 : Int32).toNatClampNeg (some (b + (n + 1)))) 2 := by rw [eE]; exact (eX3_init_k (by omega) (by omega)).trans he_1
  have he_10 : E_12 (n + 6) = .inr (3, [.ref a1, .int (0 : Int32), .int (0 : Int32), .int (0 : Int32), .int (0 : Int32), .ref (b + (n + 7)), .ref (b + (n + 8)), .ref (b + (n + 9)), .ref (b + (n + 10))]) := by rw [eE]; exact eX3_init_s (by omega)
  clear eE
  refine s_ast (k0 := 2) B hS (by omega) he_1 rfl (by omega) he_10 rfl (by unfold vp_in; decide) dX6_init_44 (fun H locs hS => ?_)
  obtain ⟨E_13, eE, hrun⟩ := ltE hrun
  have hS : SP X b (n + 11) E_13 s.heap H locs := by rw [eE]; exact hS
  have he_o : E_13 o = .inr (6, [.ref (b + n), .int (0 : Int32), .int (0 : Int32)]) := by rw [eE]; exact (va_up_ne _ _ (by omega)).trans he_o
  have he_1 : E_13 n = qA X 16 (va_up (va_up (fun _ => none) (0 : Int32).toNatClampNeg (some (b + (n + 1)))) (1 : Int32).toNatClampNeg (some (b + (n + 6)))) 2 := by rw [eE]; exact va_up_self _ _ _
  clear eE
  refine lv_iinc (v := (2 : Int32)) (k := 0) (lv' := [(2, .int (2 : Int32)), (0, .ref (b + o)), (1, .ref a1)]) hx hb dX6_init_45 hl rfl (by decide) (by decide) rfl (fun ls hl => ?_)
  refine lv_goto (tgt := 25) hx hb dX6_init_48 (by decide) ?_
  refine lv_iload_n hx hb dX6_init_25 rfl (lv_at hl 0 rfl) ?_
  refine lv_bipush (v := 16) hx hb dX6_init_26 (by decide) ?_
  refine lv_icmp_ge (tgt := 51) hx hb dX6_init_28 (by decide) (fun hc => absurd hc (by decide)) (fun hc => ?_)
  refine lv_aload_n hx hb dX6_init_31 rfl (lv_at hl 1 rfl) ?_
  refine s_get B hS layX6 (by omega) he_o rfl 0 (by decide) (tw_1 187 rfl rfl) rfl rfl dX6_init_32 ?_
  refine lv_iload_n hx hb dX6_init_35 rfl (lv_at hl 0 rfl) ?_
  refine s_new (ci := 3) (fs := [.null, .int 0, .int 0, .int 0, .int 0, .null, .null, .null, .null]) B hS layX3 tyX3 tyX3_ok (tw_1 184 rfl rfl) (tw_1 95 rfl rfl) (tw_1 4 rfl rfl) rfl (fun j hj => by rcases (show j = 0 ∨ j = 1 ∨ j = 2 ∨ j = 3 ∨ j = 4 ∨ j = 5 ∨ j = 6 ∨ j = 7 ∨ j = 8 by omega) with rfl | rfl | rfl | rfl | rfl | rfl | rfl | rfl | rfl <;> rfl) (Nat.le_of_ble_eq_true rfl) (Nat.le_of_ble_eq_true rfl) dX6_init_36 (fun H hS => ?_)
  obtain ⟨E_15, eE, hrun⟩ := ltE hrun
  have hS : SP X b (n + 12) E_15 s.heap H locs := by rw [eE]; exact hS
  have he_o : E_15 o = .inr (6, [.ref (b + n), .int (0 : Int32), .int (0 : Int32)]) := by rw [eE]; exact (va_up_ne _ _ (by omega)).trans he_o
  have he_1 : E_15 n = qA X 16 (va_up (va_up (fun _ => none) (0 : Int32).toNatClampNeg (some (b + (n + 1)))) (1 : Int32).toNatClampNeg (some (b + (n + 6)))) 2 := by rw [eE]; exact (va_up_ne _ _ (by omega)).trans he_1
  have he_14 : E_15 (n + 11) = .inr (3, [.null, .int 0, .int 0, .int 0, .int 0, .null, .null, .null, .null]) := by rw [eE]; exact va_up_self _ _ _
  clear eE
  refine lv_dup hx hb dX6_init_39 rfl ?_
  refine lv_aload_n hx hb dX6_init_40 rfl (lv_at hl 2 rfl) ?_
  refine sI B hS (kX3_init l X b (n + 11) a1 (n + 12) E_15 (by omega) he_14) (tw_1 186 rfl rfl) (tw_1 97 rfl rfl) (tw_1 4 rfl rfl) (tw_1 98 rfl rfl) rfl mdX3_init rfl hl.1 rfl (Nat.le_of_ble_eq_true rfl) ⟨Nat.le_of_ble_eq_true rfl, Nat.le_of_ble_eq_true rfl⟩ ⟨Nat.le_of_ble_eq_true rfl, Nat.le_of_ble_eq_true rfl⟩ dX6_init_41 (fun H locs hS => ?_)
  obtain ⟨E_16, eE, hrun⟩ := ltE hrun
  have hS : SP X b (n + 16) E_16 s.heap H locs := by rw [eE]; exact hS
  have he_o : E_16 o = .inr (6, [.ref (b + n), .int (0 : Int32), .int (0 : Int32)]) := by rw [eE]; exact (eX3_init_k (by omega) (by omega)).trans he_o
  have he_1 : E_16 n = qA X 16 (va_up (va_up (fun _ => none) (0 : Int32).toNatClampNeg (some (b + (n + 1)))) (1 : Int32).toNatClampNeg (some (b + (n + 6)))) 2 := by rw [eE]; exact (eX3_init_k (by omega) (by omega)).trans he_1
  have he_14 : E_16 (n + 11) = .inr (3, [.ref a1, .int (0 : Int32), .int (0 : Int32), .int (0 : Int32), .int (0 : Int32), .ref (b + (n + 12)), .ref (b + (n + 13)), .ref (b + (n + 14)), .ref (b + (n + 15))]) := by rw [eE]; exact eX3_init_s (by omega)
  clear eE
  refine s_ast (k0 := 2) B hS (by omega) he_1 rfl (by omega) he_14 rfl (by unfold vp_in; decide) dX6_init_44 (fun H locs hS => ?_)
  obtain ⟨E_17, eE, hrun⟩ := ltE hrun
  have hS : SP X b (n + 16) E_17 s.heap H locs := by rw [eE]; exact hS
  have he_o : E_17 o = .inr (6, [.ref (b + n), .int (0 : Int32), .int (0 : Int32)]) := by rw [eE]; exact (va_up_ne _ _ (by omega)).trans he_o
  have he_1 : E_17 n = qA X 16 (va_up (va_up (va_up (fun _ => none) (0 : Int32).toNatClampNeg (some (b + (n + 1)))) (1 : Int32).toNatClampNeg (some (b + (n + 6)))) (2 : Int32).toNatClampNeg (some (b + (n + 11)))) 2 := by rw [eE]; exact va_up_self _ _ _
  clear eE
  refine lv_iinc (v := (3 : Int32)) (k := 0) (lv' := [(2, .int (3 : Int32)), (0, .ref (b + o)), (1, .ref a1)]) hx hb dX6_init_45 hl rfl (by decide) (by decide) rfl (fun ls hl => ?_)
  refine lv_goto (tgt := 25) hx hb dX6_init_48 (by decide) ?_
  refine lv_iload_n hx hb dX6_init_25 rfl (lv_at hl 0 rfl) ?_
  refine lv_bipush (v := 16) hx hb dX6_init_26 (by decide) ?_
  refine lv_icmp_ge (tgt := 51) hx hb dX6_init_28 (by decide) (fun hc => absurd hc (by decide)) (fun hc => ?_)
  refine lv_aload_n hx hb dX6_init_31 rfl (lv_at hl 1 rfl) ?_
  refine s_get B hS layX6 (by omega) he_o rfl 0 (by decide) (tw_1 187 rfl rfl) rfl rfl dX6_init_32 ?_
  refine lv_iload_n hx hb dX6_init_35 rfl (lv_at hl 0 rfl) ?_
  refine s_new (ci := 3) (fs := [.null, .int 0, .int 0, .int 0, .int 0, .null, .null, .null, .null]) B hS layX3 tyX3 tyX3_ok (tw_1 184 rfl rfl) (tw_1 95 rfl rfl) (tw_1 4 rfl rfl) rfl (fun j hj => by rcases (show j = 0 ∨ j = 1 ∨ j = 2 ∨ j = 3 ∨ j = 4 ∨ j = 5 ∨ j = 6 ∨ j = 7 ∨ j = 8 by omega) with rfl | rfl | rfl | rfl | rfl | rfl | rfl | rfl | rfl <;> rfl) (Nat.le_of_ble_eq_true rfl) (Nat.le_of_ble_eq_true rfl) dX6_init_36 (fun H hS => ?_)
  obtain ⟨E_19, eE, hrun⟩ := ltE hrun
  have hS : SP X b (n + 17) E_19 s.heap H locs := by rw [eE]; exact hS
  have he_o : E_19 o = .inr (6, [.ref (b + n), .int (0 : Int32), .int (0 : Int32)]) := by rw [eE]; exact (va_up_ne _ _ (by omega)).trans he_o
  have he_1 : E_19 n = qA X 16 (va_up (va_up (va_up (fun _ => none) (0 : Int32).toNatClampNeg (some (b + (n + 1)))) (1 : Int32).toNatClampNeg (some (b + (n + 6)))) (2 : Int32).toNatClampNeg (some (b + (n + 11)))) 2 := by rw [eE]; exact (va_up_ne _ _ (by omega)).trans he_1
  have he_18 : E_19 (n + 16) = .inr (3, [.null, .int 0, .int 0, .int 0, .int 0, .null, .null, .null, .null]) := by rw [eE]; exact va_up_self _ _ _
  clear eE
  refine lv_dup hx hb dX6_init_39 rfl ?_
  refine lv_aload_n hx hb dX6_init_40 rfl (lv_at hl 2 rfl) ?_
  refine sI B hS (kX3_init l X b (n + 16) a1 (n + 17) E_19 (by omega) he_18) (tw_1 186 rfl rfl) (tw_1 97 rfl rfl) (tw_1 4 rfl rfl) (tw_1 98 rfl rfl) rfl mdX3_init rfl hl.1 rfl (Nat.le_of_ble_eq_true rfl) ⟨Nat.le_of_ble_eq_true rfl, Nat.le_of_ble_eq_true rfl⟩ ⟨Nat.le_of_ble_eq_true rfl, Nat.le_of_ble_eq_true rfl⟩ dX6_init_41 (fun H locs hS => ?_)
  obtain ⟨E_20, eE, hrun⟩ := ltE hrun
  have hS : SP X b (n + 21) E_20 s.heap H locs := by rw [eE]; exact hS
  have he_o : E_20 o = .inr (6, [.ref (b + n), .int (0 : Int32), .int (0 : Int32)]) := by rw [eE]; exact (eX3_init_k (by omega) (by omega)).trans he_o
  have he_1 : E_20 n = qA X 16 (va_up (va_up (va_up (fun _ => none) (0 : Int32).toNatClampNeg (some (b + (n + 1)))) (1 : Int32).toNatClampNeg (some (b + (n + 6)))) (2 : Int32).toNatClampNeg (some (b + (n + 11)))) 2 := by rw [eE]; exact (eX3_init_k (by omega) (by omega)).trans he_1
  have he_18 : E_20 (n + 16) = .inr (3, [.ref a1, .int (0 : Int32), .int (0 : Int32), .int (0 : Int32), .int (0 : Int32), .ref (b + (n + 17)), .ref (b + (n + 18)), .ref (b + (n + 19)), .ref (b + (n + 20))]) := by rw [eE]; exact eX3_init_s (by omega)
  clear eE
  refine s_ast (k0 := 2) B hS (by omega) he_1 rfl (by omega) he_18 rfl (by unfold vp_in; decide) dX6_init_44 (fun H locs hS => ?_)
  obtain ⟨E_21, eE, hrun⟩ := ltE hrun
  have hS : SP X b (n + 21) E_21 s.heap H locs := by rw [eE]; exact hS
  have he_o : E_21 o = .inr (6, [.ref (b + n), .int (0 : Int32), .int (0 : Int32)]) := by rw [eE]; exact (va_up_ne _ _ (by omega)).trans he_o
  have he_1 : E_21 n = qA X 16 (va_up (va_up (va_up (va_up (fun _ => none) (0 : Int32).toNatClampNeg (some (b + (n + 1)))) (1 : Int32).toNatClampNeg (some (b + (n + 6)))) (2 : Int32).toNatClampNeg (some (b + (n + 11)))) (3 : Int32).toNatClampNeg (some (b + (n + 16)))) 2 := by rw [eE]; exact va_up_self _ _ _
  clear eE
  refine lv_iinc (v := (4 : Int32)) (k := 0) (lv' := [(2, .int (4 : Int32)), (0, .ref (b + o)), (1, .ref a1)]) hx hb dX6_init_45 hl rfl (by decide) (by decide) rfl (fun ls hl => ?_)
  refine lv_goto (tgt := 25) hx hb dX6_init_48 (by decide) ?_
  refine lv_iload_n hx hb dX6_init_25 rfl (lv_at hl 0 rfl) ?_
  refine lv_bipush (v := 16) hx hb dX6_init_26 (by decide) ?_
  refine lv_icmp_ge (tgt := 51) hx hb dX6_init_28 (by decide) (fun hc => absurd hc (by decide)) (fun hc => ?_)
  refine lv_aload_n hx hb dX6_init_31 rfl (lv_at hl 1 rfl) ?_
  refine s_get B hS layX6 (by omega) he_o rfl 0 (by decide) (tw_1 187 rfl rfl) rfl rfl dX6_init_32 ?_
  refine lv_iload_n hx hb dX6_init_35 rfl (lv_at hl 0 rfl) ?_
  refine s_new (ci := 3) (fs := [.null, .int 0, .int 0, .int 0, .int 0, .null, .null, .null, .null]) B hS layX3 tyX3 tyX3_ok (tw_1 184 rfl rfl) (tw_1 95 rfl rfl) (tw_1 4 rfl rfl) rfl (fun j hj => by rcases (show j = 0 ∨ j = 1 ∨ j = 2 ∨ j = 3 ∨ j = 4 ∨ j = 5 ∨ j = 6 ∨ j = 7 ∨ j = 8 by omega) with rfl | rfl | rfl | rfl | rfl | rfl | rfl | rfl | rfl <;> rfl) (Nat.le_of_ble_eq_true rfl) (Nat.le_of_ble_eq_true rfl) dX6_init_36 (fun H hS => ?_)
  obtain ⟨E_23, eE, hrun⟩ := ltE hrun
  have hS : SP X b (n + 22) E_23 s.heap H locs := by rw [eE]; exact hS
  have he_o : E_23 o = .inr (6, [.ref (b + n), .int (0 : Int32), .int (0 : Int32)]) := by rw [eE]; exact (va_up_ne _ _ (by omega)).trans he_o
  have he_1 : E_23 n = qA X 16 (va_up (va_up (va_up (va_up (fun _ => none) (0 : Int32).toNatClampNeg (some (b + (n + 1)))) (1 : Int32).toNatClampNeg (some (b + (n + 6)))) (2 : Int32).toNatClampNeg (some (b + (n + 11)))) (3 : Int32).toNatClampNeg (some (b + (n + 16)))) 2 := by rw [eE]; exact (va_up_ne _ _ (by omega)).trans he_1
  have he_22 : E_23 (n + 21) = .inr (3, [.null, .int 0, .int 0, .int 0, .int 0, .null, .null, .null, .null]) := by rw [eE]; exact va_up_self _ _ _
  clear eE
  refine lv_dup hx hb dX6_init_39 rfl ?_
  refine lv_aload_n hx hb dX6_init_40 rfl (lv_at hl 2 rfl) ?_
  refine sI B hS (kX3_init l X b (n + 21) a1 (n + 22) E_23 (by omega) he_22) (tw_1 186 rfl rfl) (tw_1 97 rfl rfl) (tw_1 4 rfl rfl) (tw_1 98 rfl rfl) rfl mdX3_init rfl hl.1 rfl (Nat.le_of_ble_eq_true rfl) ⟨Nat.le_of_ble_eq_true rfl, Nat.le_of_ble_eq_true rfl⟩ ⟨Nat.le_of_ble_eq_true rfl, Nat.le_of_ble_eq_true rfl⟩ dX6_init_41 (fun H locs hS => ?_)
  obtain ⟨E_24, eE, hrun⟩ := ltE hrun
  have hS : SP X b (n + 26) E_24 s.heap H locs := by rw [eE]; exact hS
  have he_o : E_24 o = .inr (6, [.ref (b + n), .int (0 : Int32), .int (0 : Int32)]) := by rw [eE]; exact (eX3_init_k (by omega) (by omega)).trans he_o
  have he_1 : E_24 n = qA X 16 (va_up (va_up (va_up (va_up (fun _ => none) (0 : Int32).toNatClampNeg (some (b + (n + 1)))) (1 : Int32).toNatClampNeg (some (b + (n + 6)))) (2 : Int32).toNatClampNeg (some (b + (n + 11)))) (3 : Int32).toNatClampNeg (some (b + (n + 16)))) 2 := by rw [eE]; exact (eX3_init_k (by omega) (by omega)).trans he_1
  have he_22 : E_24 (n + 21) = .inr (3, [.ref a1, .int (0 : Int32), .int (0 : Int32), .int (0 : Int32), .int (0 : Int32), .ref (b + (n + 22)), .ref (b + (n + 23)), .ref (b + (n + 24)), .ref (b + (n + 25))]) := by rw [eE]; exact eX3_init_s (by omega)
  clear eE
  refine s_ast (k0 := 2) B hS (by omega) he_1 rfl (by omega) he_22 rfl (by unfold vp_in; decide) dX6_init_44 (fun H locs hS => ?_)
  obtain ⟨E_25, eE, hrun⟩ := ltE hrun
  have hS : SP X b (n + 26) E_25 s.heap H locs := by rw [eE]; exact hS
  have he_o : E_25 o = .inr (6, [.ref (b + n), .int (0 : Int32), .int (0 : Int32)]) := by rw [eE]; exact (va_up_ne _ _ (by omega)).trans he_o
  have he_1 : E_25 n = qA X 16 (va_up (va_up (va_up (va_up (va_up (fun _ => none) (0 : Int32).toNatClampNeg (some (b + (n + 1)))) (1 : Int32).toNatClampNeg (some (b + (n + 6)))) (2 : Int32).toNatClampNeg (some (b + (n + 11)))) (3 : Int32).toNatClampNeg (some (b + (n + 16)))) (4 : Int32).toNatClampNeg (some (b + (n + 21)))) 2 := by rw [eE]; exact va_up_self _ _ _
  clear eE
  refine lv_iinc (v := (5 : Int32)) (k := 0) (lv' := [(2, .int (5 : Int32)), (0, .ref (b + o)), (1, .ref a1)]) hx hb dX6_init_45 hl rfl (by decide) (by decide) rfl (fun ls hl => ?_)
  refine lv_goto (tgt := 25) hx hb dX6_init_48 (by decide) ?_
  refine lv_iload_n hx hb dX6_init_25 rfl (lv_at hl 0 rfl) ?_
  refine lv_bipush (v := 16) hx hb dX6_init_26 (by decide) ?_
  refine lv_icmp_ge (tgt := 51) hx hb dX6_init_28 (by decide) (fun hc => absurd hc (by decide)) (fun hc => ?_)
  refine lv_aload_n hx hb dX6_init_31 rfl (lv_at hl 1 rfl) ?_
  refine s_get B hS layX6 (by omega) he_o rfl 0 (by decide) (tw_1 187 rfl rfl) rfl rfl dX6_init_32 ?_
  refine lv_iload_n hx hb dX6_init_35 rfl (lv_at hl 0 rfl) ?_
  refine s_new (ci := 3) (fs := [.null, .int 0, .int 0, .int 0, .int 0, .null, .null, .null, .null]) B hS layX3 tyX3 tyX3_ok (tw_1 184 rfl rfl) (tw_1 95 rfl rfl) (tw_1 4 rfl rfl) rfl (fun j hj => by rcases (show j = 0 ∨ j = 1 ∨ j = 2 ∨ j = 3 ∨ j = 4 ∨ j = 5 ∨ j = 6 ∨ j = 7 ∨ j = 8 by omega) with rfl | rfl | rfl | rfl | rfl | rfl | rfl | rfl | rfl <;> rfl) (Nat.le_of_ble_eq_true rfl) (Nat.le_of_ble_eq_true rfl) dX6_init_36 (fun H hS => ?_)
  obtain ⟨E_27, eE, hrun⟩ := ltE hrun
  have hS : SP X b (n + 27) E_27 s.heap H locs := by rw [eE]; exact hS
  have he_o : E_27 o = .inr (6, [.ref (b + n), .int (0 : Int32), .int (0 : Int32)]) := by rw [eE]; exact (va_up_ne _ _ (by omega)).trans he_o
  have he_1 : E_27 n = qA X 16 (va_up (va_up (va_up (va_up (va_up (fun _ => none) (0 : Int32).toNatClampNeg (some (b + (n + 1)))) (1 : Int32).toNatClampNeg (some (b + (n + 6)))) (2 : Int32).toNatClampNeg (some (b + (n + 11)))) (3 : Int32).toNatClampNeg (some (b + (n + 16)))) (4 : Int32).toNatClampNeg (some (b + (n + 21)))) 2 := by rw [eE]; exact (va_up_ne _ _ (by omega)).trans he_1
  have he_26 : E_27 (n + 26) = .inr (3, [.null, .int 0, .int 0, .int 0, .int 0, .null, .null, .null, .null]) := by rw [eE]; exact va_up_self _ _ _
  clear eE
  refine lv_dup hx hb dX6_init_39 rfl ?_
  refine lv_aload_n hx hb dX6_init_40 rfl (lv_at hl 2 rfl) ?_
  refine sI B hS (kX3_init l X b (n + 26) a1 (n + 27) E_27 (by omega) he_26) (tw_1 186 rfl rfl) (tw_1 97 rfl rfl) (tw_1 4 rfl rfl) (tw_1 98 rfl rfl) rfl mdX3_init rfl hl.1 rfl (Nat.le_of_ble_eq_true rfl) ⟨Nat.le_of_ble_eq_true rfl, Nat.le_of_ble_eq_true rfl⟩ ⟨Nat.le_of_ble_eq_true rfl, Nat.le_of_ble_eq_true rfl⟩ dX6_init_41 (fun H locs hS => ?_)
  obtain ⟨E_28, eE, hrun⟩ := ltE hrun
  have hS : SP X b (n + 31) E_28 s.heap H locs := by rw [eE]; exact hS
  have he_o : E_28 o = .inr (6, [.ref (b + n), .int (0 : Int32), .int (0 : Int32)]) := by rw [eE]; exact (eX3_init_k (by omega) (by omega)).trans he_o
  have he_1 : E_28 n = qA X 16 (va_up (va_up (va_up (va_up (va_up (fun _ => none) (0 : Int32).toNatClampNeg (some (b + (n + 1)))) (1 : Int32).toNatClampNeg (some (b + (n + 6)))) (2 : Int32).toNatClampNeg (some (b + (n + 11)))) (3 : Int32).toNatClampNeg (some (b + (n + 16)))) (4 : Int32).toNatClampNeg (some (b + (n + 21)))) 2 := by rw [eE]; exact (eX3_init_k (by omega) (by omega)).trans he_1
  have he_26 : E_28 (n + 26) = .inr (3, [.ref a1, .int (0 : Int32), .int (0 : Int32), .int (0 : Int32), .int (0 : Int32), .ref (b + (n + 27)), .ref (b + (n + 28)), .ref (b + (n + 29)), .ref (b + (n + 30))]) := by rw [eE]; exact eX3_init_s (by omega)
  clear eE
  refine s_ast (k0 := 2) B hS (by omega) he_1 rfl (by omega) he_26 rfl (by unfold vp_in; decide) dX6_init_44 (fun H locs hS => ?_)
  obtain ⟨E_29, eE, hrun⟩ := ltE hrun
  have hS : SP X b (n + 31) E_29 s.heap H locs := by rw [eE]; exact hS
  have he_o : E_29 o = .inr (6, [.ref (b + n), .int (0 : Int32), .int (0 : Int32)]) := by rw [eE]; exact (va_up_ne _ _ (by omega)).trans he_o
  have he_1 : E_29 n = qA X 16 (va_up (va_up (va_up (va_up (va_up (va_up (fun _ => none) (0 : Int32).toNatClampNeg (some (b + (n + 1)))) (1 : Int32).toNatClampNeg (some (b + (n + 6)))) (2 : Int32).toNatClampNeg (some (b + (n + 11)))) (3 : Int32).toNatClampNeg (some (b + (n + 16)))) (4 : Int32).toNatClampNeg (some (b + (n + 21)))) (5 : Int32).toNatClampNeg (some (b + (n + 26)))) 2 := by rw [eE]; exact va_up_self _ _ _
  clear eE
  refine lv_iinc (v := (6 : Int32)) (k := 0) (lv' := [(2, .int (6 : Int32)), (0, .ref (b + o)), (1, .ref a1)]) hx hb dX6_init_45 hl rfl (by decide) (by decide) rfl (fun ls hl => ?_)
  refine lv_goto (tgt := 25) hx hb dX6_init_48 (by decide) ?_
  refine lv_iload_n hx hb dX6_init_25 rfl (lv_at hl 0 rfl) ?_
  refine lv_bipush (v := 16) hx hb dX6_init_26 (by decide) ?_
  refine lv_icmp_ge (tgt := 51) hx hb dX6_init_28 (by decide) (fun hc => absurd hc (by decide)) (fun hc => ?_)
  refine lv_aload_n hx hb dX6_init_31 rfl (lv_at hl 1 rfl) ?_
  refine s_get B hS layX6 (by omega) he_o rfl 0 (by decide) (tw_1 187 rfl rfl) rfl rfl dX6_init_32 ?_
  refine lv_iload_n hx hb dX6_init_35 rfl (lv_at hl 0 rfl) ?_
  refine s_new (ci := 3) (fs := [.null, .int 0, .int 0, .int 0, .int 0, .null, .null, .null, .null]) B hS layX3 tyX3 tyX3_ok (tw_1 184 rfl rfl) (tw_1 95 rfl rfl) (tw_1 4 rfl rfl) rfl (fun j hj => by rcases (show j = 0 ∨ j = 1 ∨ j = 2 ∨ j = 3 ∨ j = 4 ∨ j = 5 ∨ j = 6 ∨ j = 7 ∨ j = 8 by omega) with rfl | rfl | rfl | rfl | rfl | rfl | rfl | rfl | rfl <;> rfl) (Nat.le_of_ble_eq_true rfl) (Nat.le_of_ble_eq_true rfl) dX6_init_36 (fun H hS => ?_)
  obtain ⟨E_31, eE, hrun⟩ := ltE hrun
  have hS : SP X b (n + 32) E_31 s.heap H locs := by rw [eE]; exact hS
  have he_o : E_31 o = .inr (6, [.ref (b + n), .int (0 : Int32), .int (0 : Int32)]) := by rw [eE]; exact (va_up_ne _ _ (by omega)).trans he_o
  have he_1 : E_31 n = qA X 16 (va_up (va_up (va_up (va_up (va_up (va_up (fun _ => none) (0 : Int32).toNatClampNeg (some (b + (n + 1)))) (1 : Int32).toNatClampNeg (some (b + (n + 6)))) (2 : Int32).toNatClampNeg (some (b + (n + 11)))) (3 : Int32).toNatClampNeg (some (b + (n + 16)))) (4 : Int32).toNatClampNeg (some (b + (n + 21)))) (5 : Int32).toNatClampNeg (some (b + (n + 26)))) 2 := by rw [eE]; exact (va_up_ne _ _ (by omega)).trans he_1
  have he_30 : E_31 (n + 31) = .inr (3, [.null, .int 0, .int 0, .int 0, .int 0, .null, .null, .null, .null]) := by rw [eE]; exact va_up_self _ _ _
  clear eE
  refine lv_dup hx hb dX6_init_39 rfl ?_
  refine lv_aload_n hx hb dX6_init_40 rfl (lv_at hl 2 rfl) ?_
  refine sI B hS (kX3_init l X b (n + 31) a1 (n + 32) E_31 (by omega) he_30) (tw_1 186 rfl rfl) (tw_1 97 rfl rfl) (tw_1 4 rfl rfl) (tw_1 98 rfl rfl) rfl mdX3_init rfl hl.1 rfl (Nat.le_of_ble_eq_true rfl) ⟨Nat.le_of_ble_eq_true rfl, Nat.le_of_ble_eq_true rfl⟩ ⟨Nat.le_of_ble_eq_true rfl, Nat.le_of_ble_eq_true rfl⟩ dX6_init_41 (fun H locs hS => ?_)
  obtain ⟨E_32, eE, hrun⟩ := ltE hrun
  have hS : SP X b (n + 36) E_32 s.heap H locs := by rw [eE]; exact hS
  have he_o : E_32 o = .inr (6, [.ref (b + n), .int (0 : Int32), .int (0 : Int32)]) := by rw [eE]; exact (eX3_init_k (by omega) (by omega)).trans he_o
  have he_1 : E_32 n = qA X 16 (va_up (va_up (va_up (va_up (va_up (va_up (fun _ => none) (0 : Int32).toNatClampNeg (some (b + (n + 1)))) (1 : Int32).toNatClampNeg (some (b + (n + 6)))) (2 : Int32).toNatClampNeg (some (b + (n + 11)))) (3 : Int32).toNatClampNeg (some (b + (n + 16)))) (4 : Int32).toNatClampNeg (some (b + (n + 21)))) (5 : Int32).toNatClampNeg (some (b + (n + 26)))) 2 := by rw [eE]; exact (eX3_init_k (by omega) (by omega)).trans he_1
  have he_30 : E_32 (n + 31) = .inr (3, [.ref a1, .int (0 : Int32), .int (0 : Int32), .int (0 : Int32), .int (0 : Int32), .ref (b + (n + 32)), .ref (b + (n + 33)), .ref (b + (n + 34)), .ref (b + (n + 35))]) := by rw [eE]; exact eX3_init_s (by omega)
  clear eE
  refine s_ast (k0 := 2) B hS (by omega) he_1 rfl (by omega) he_30 rfl (by unfold vp_in; decide) dX6_init_44 (fun H locs hS => ?_)
  obtain ⟨E_33, eE, hrun⟩ := ltE hrun
  have hS : SP X b (n + 36) E_33 s.heap H locs := by rw [eE]; exact hS
  have he_o : E_33 o = .inr (6, [.ref (b + n), .int (0 : Int32), .int (0 : Int32)]) := by rw [eE]; exact (va_up_ne _ _ (by omega)).trans he_o
  have he_1 : E_33 n = qA X 16 (va_up (va_up (va_up (va_up (va_up (va_up (va_up (fun _ => none) (0 : Int32).toNatClampNeg (some (b + (n + 1)))) (1 : Int32).toNatClampNeg (some (b + (n + 6)))) (2 : Int32).toNatClampNeg (some (b + (n + 11)))) (3 : Int32).toNatClampNeg (some (b + (n + 16)))) (4 : Int32).toNatClampNeg (some (b + (n + 21)))) (5 : Int32).toNatClampNeg (some (b + (n + 26)))) (6 : Int32).toNatClampNeg (some (b + (n + 31)))) 2 := by rw [eE]; exact va_up_self _ _ _
  clear eE
  refine lv_iinc (v := (7 : Int32)) (k := 0) (lv' := [(2, .int (7 : Int32)), (0, .ref (b + o)), (1, .ref a1)]) hx hb dX6_init_45 hl rfl (by decide) (by decide) rfl (fun ls hl => ?_)
  refine lv_goto (tgt := 25) hx hb dX6_init_48 (by decide) ?_
  refine lv_iload_n hx hb dX6_init_25 rfl (lv_at hl 0 rfl) ?_
  refine lv_bipush (v := 16) hx hb dX6_init_26 (by decide) ?_
  refine lv_icmp_ge (tgt := 51) hx hb dX6_init_28 (by decide) (fun hc => absurd hc (by decide)) (fun hc => ?_)
  refine lv_aload_n hx hb dX6_init_31 rfl (lv_at hl 1 rfl) ?_
  refine s_get B hS layX6 (by omega) he_o rfl 0 (by decide) (tw_1 187 rfl rfl) rfl rfl dX6_init_32 ?_
  refine lv_iload_n hx hb dX6_init_35 rfl (lv_at hl 0 rfl) ?_
  refine s_new (ci := 3) (fs := [.null, .int 0, .int 0, .int 0, .int 0, .null, .null, .null, .null]) B hS layX3 tyX3 tyX3_ok (tw_1 184 rfl rfl) (tw_1 95 rfl rfl) (tw_1 4 rfl rfl) rfl (fun j hj => by rcases (show j = 0 ∨ j = 1 ∨ j = 2 ∨ j = 3 ∨ j = 4 ∨ j = 5 ∨ j = 6 ∨ j = 7 ∨ j = 8 by omega) with rfl | rfl | rfl | rfl | rfl | rfl | rfl | rfl | rfl <;> rfl) (Nat.le_of_ble_eq_true rfl) (Nat.le_of_ble_eq_true rfl) dX6_init_36 (fun H hS => ?_)
  obtain ⟨E_35, eE, hrun⟩ := ltE hrun
  have hS : SP X b (n + 37) E_35 s.heap H locs := by rw [eE]; exact hS
  have he_o : E_35 o = .inr (6, [.ref (b + n), .int (0 : Int32), .int (0 : Int32)]) := by rw [eE]; exact (va_up_ne _ _ (by omega)).trans he_o
  have he_1 : E_35 n = qA X 16 (va_up (va_up (va_up (va_up (va_up (va_up (va_up (fun _ => none) (0 : Int32).toNatClampNeg (some (b + (n + 1)))) (1 : Int32).toNatClampNeg (some (b + (n + 6)))) (2 : Int32).toNatClampNeg (some (b + (n + 11)))) (3 : Int32).toNatClampNeg (some (b + (n + 16)))) (4 : Int32).toNatClampNeg (some (b + (n + 21)))) (5 : Int32).toNatClampNeg (some (b + (n + 26)))) (6 : Int32).toNatClampNeg (some (b + (n + 31)))) 2 := by rw [eE]; exact (va_up_ne _ _ (by omega)).trans he_1
  have he_34 : E_35 (n + 36) = .inr (3, [.null, .int 0, .int 0, .int 0, .int 0, .null, .null, .null, .null]) := by rw [eE]; exact va_up_self _ _ _
  clear eE
  refine lv_dup hx hb dX6_init_39 rfl ?_
  refine lv_aload_n hx hb dX6_init_40 rfl (lv_at hl 2 rfl) ?_
  refine sI B hS (kX3_init l X b (n + 36) a1 (n + 37) E_35 (by omega) he_34) (tw_1 186 rfl rfl) (tw_1 97 rfl rfl) (tw_1 4 rfl rfl) (tw_1 98 rfl rfl) rfl mdX3_init rfl hl.1 rfl (Nat.le_of_ble_eq_true rfl) ⟨Nat.le_of_ble_eq_true rfl, Nat.le_of_ble_eq_true rfl⟩ ⟨Nat.le_of_ble_eq_true rfl, Nat.le_of_ble_eq_true rfl⟩ dX6_init_41 (fun H locs hS => ?_)
  obtain ⟨E_36, eE, hrun⟩ := ltE hrun
  have hS : SP X b (n + 41) E_36 s.heap H locs := by rw [eE]; exact hS
  have he_o : E_36 o = .inr (6, [.ref (b + n), .int (0 : Int32), .int (0 : Int32)]) := by rw [eE]; exact (eX3_init_k (by omega) (by omega)).trans he_o
  have he_1 : E_36 n = qA X 16 (va_up (va_up (va_up (va_up (va_up (va_up (va_up (fun _ => none) (0 : Int32).toNatClampNeg (some (b + (n + 1)))) (1 : Int32).toNatClampNeg (some (b + (n + 6)))) (2 : Int32).toNatClampNeg (some (b + (n + 11)))) (3 : Int32).toNatClampNeg (some (b + (n + 16)))) (4 : Int32).toNatClampNeg (some (b + (n + 21)))) (5 : Int32).toNatClampNeg (some (b + (n + 26)))) (6 : Int32).toNatClampNeg (some (b + (n + 31)))) 2 := by rw [eE]; exact (eX3_init_k (by omega) (by omega)).trans he_1
  have he_34 : E_36 (n + 36) = .inr (3, [.ref a1, .int (0 : Int32), .int (0 : Int32), .int (0 : Int32), .int (0 : Int32), .ref (b + (n + 37)), .ref (b + (n + 38)), .ref (b + (n + 39)), .ref (b + (n + 40))]) := by rw [eE]; exact eX3_init_s (by omega)
  clear eE
  refine s_ast (k0 := 2) B hS (by omega) he_1 rfl (by omega) he_34 rfl (by unfold vp_in; decide) dX6_init_44 (fun H locs hS => ?_)
  obtain ⟨E_37, eE, hrun⟩ := ltE hrun
  have hS : SP X b (n + 41) E_37 s.heap H locs := by rw [eE]; exact hS
  have he_o : E_37 o = .inr (6, [.ref (b + n), .int (0 : Int32), .int (0 : Int32)]) := by rw [eE]; exact (va_up_ne _ _ (by omega)).trans he_o
  have he_1 : E_37 n = qA X 16 (va_up (va_up (va_up (va_up (va_up (va_up (va_up (va_up (fun _ => none) (0 : Int32).toNatClampNeg (some (b + (n + 1)))) (1 : Int32).toNatClampNeg (some (b + (n + 6)))) (2 : Int32).toNatClampNeg (some (b + (n + 11)))) (3 : Int32).toNatClampNeg (some (b + (n + 16)))) (4 : Int32).toNatClampNeg (some (b + (n + 21)))) (5 : Int32).toNatClampNeg (some (b + (n + 26)))) (6 : Int32).toNatClampNeg (some (b + (n + 31)))) (7 : Int32).toNatClampNeg (some (b + (n + 36)))) 2 := by rw [eE]; exact va_up_self _ _ _
  clear eE
  refine lv_iinc (v := (8 : Int32)) (k := 0) (lv' := [(2, .int (8 : Int32)), (0, .ref (b + o)), (1, .ref a1)]) hx hb dX6_init_45 hl rfl (by decide) (by decide) rfl (fun ls hl => ?_)
  refine lv_goto (tgt := 25) hx hb dX6_init_48 (by decide) ?_
  refine lv_iload_n hx hb dX6_init_25 rfl (lv_at hl 0 rfl) ?_
  refine lv_bipush (v := 16) hx hb dX6_init_26 (by decide) ?_
  refine lv_icmp_ge (tgt := 51) hx hb dX6_init_28 (by decide) (fun hc => absurd hc (by decide)) (fun hc => ?_)
  refine lv_aload_n hx hb dX6_init_31 rfl (lv_at hl 1 rfl) ?_
  refine s_get B hS layX6 (by omega) he_o rfl 0 (by decide) (tw_1 187 rfl rfl) rfl rfl dX6_init_32 ?_
  refine lv_iload_n hx hb dX6_init_35 rfl (lv_at hl 0 rfl) ?_
  refine s_new (ci := 3) (fs := [.null, .int 0, .int 0, .int 0, .int 0, .null, .null, .null, .null]) B hS layX3 tyX3 tyX3_ok (tw_1 184 rfl rfl) (tw_1 95 rfl rfl) (tw_1 4 rfl rfl) rfl (fun j hj => by rcases (show j = 0 ∨ j = 1 ∨ j = 2 ∨ j = 3 ∨ j = 4 ∨ j = 5 ∨ j = 6 ∨ j = 7 ∨ j = 8 by omega) with rfl | rfl | rfl | rfl | rfl | rfl | rfl | rfl | rfl <;> rfl) (Nat.le_of_ble_eq_true rfl) (Nat.le_of_ble_eq_true rfl) dX6_init_36 (fun H hS => ?_)
  obtain ⟨E_39, eE, hrun⟩ := ltE hrun
  have hS : SP X b (n + 42) E_39 s.heap H locs := by rw [eE]; exact hS
  have he_o : E_39 o = .inr (6, [.ref (b + n), .int (0 : Int32), .int (0 : Int32)]) := by rw [eE]; exact (va_up_ne _ _ (by omega)).trans he_o
  have he_1 : E_39 n = qA X 16 (va_up (va_up (va_up (va_up (va_up (va_up (va_up (va_up (fun _ => none) (0 : Int32).toNatClampNeg (some (b + (n + 1)))) (1 : Int32).toNatClampNeg (some (b + (n + 6)))) (2 : Int32).toNatClampNeg (some (b + (n + 11)))) (3 : Int32).toNatClampNeg (some (b + (n + 16)))) (4 : Int32).toNatClampNeg (some (b + (n + 21)))) (5 : Int32).toNatClampNeg (some (b + (n + 26)))) (6 : Int32).toNatClampNeg (some (b + (n + 31)))) (7 : Int32).toNatClampNeg (some (b + (n + 36)))) 2 := by rw [eE]; exact (va_up_ne _ _ (by omega)).trans he_1
  have he_38 : E_39 (n + 41) = .inr (3, [.null, .int 0, .int 0, .int 0, .int 0, .null, .null, .null, .null]) := by rw [eE]; exact va_up_self _ _ _
  clear eE
  refine lv_dup hx hb dX6_init_39 rfl ?_
  refine lv_aload_n hx hb dX6_init_40 rfl (lv_at hl 2 rfl) ?_
  refine sI B hS (kX3_init l X b (n + 41) a1 (n + 42) E_39 (by omega) he_38) (tw_1 186 rfl rfl) (tw_1 97 rfl rfl) (tw_1 4 rfl rfl) (tw_1 98 rfl rfl) rfl mdX3_init rfl hl.1 rfl (Nat.le_of_ble_eq_true rfl) ⟨Nat.le_of_ble_eq_true rfl, Nat.le_of_ble_eq_true rfl⟩ ⟨Nat.le_of_ble_eq_true rfl, Nat.le_of_ble_eq_true rfl⟩ dX6_init_41 (fun H locs hS => ?_)
  obtain ⟨E_40, eE, hrun⟩ := ltE hrun
  have hS : SP X b (n + 46) E_40 s.heap H locs := by rw [eE]; exact hS
  have he_o : E_40 o = .inr (6, [.ref (b + n), .int (0 : Int32), .int (0 : Int32)]) := by rw [eE]; exact (eX3_init_k (by omega) (by omega)).trans he_o
  have he_1 : E_40 n = qA X 16 (va_up (va_up (va_up (va_up (va_up (va_up (va_up (va_up (fun _ => none) (0 : Int32).toNatClampNeg (some (b + (n + 1)))) (1 : Int32).toNatClampNeg (some (b + (n + 6)))) (2 : Int32).toNatClampNeg (some (b + (n + 11)))) (3 : Int32).toNatClampNeg (some (b + (n + 16)))) (4 : Int32).toNatClampNeg (some (b + (n + 21)))) (5 : Int32).toNatClampNeg (some (b + (n + 26)))) (6 : Int32).toNatClampNeg (some (b + (n + 31)))) (7 : Int32).toNatClampNeg (some (b + (n + 36)))) 2 := by rw [eE]; exact (eX3_init_k (by omega) (by omega)).trans he_1
  have he_38 : E_40 (n + 41) = .inr (3, [.ref a1, .int (0 : Int32), .int (0 : Int32), .int (0 : Int32), .int (0 : Int32), .ref (b + (n + 42)), .ref (b + (n + 43)), .ref (b + (n + 44)), .ref (b + (n + 45))]) := by rw [eE]; exact eX3_init_s (by omega)
  clear eE
  refine s_ast (k0 := 2) B hS (by omega) he_1 rfl (by omega) he_38 rfl (by unfold vp_in; decide) dX6_init_44 (fun H locs hS => ?_)
  obtain ⟨E_41, eE, hrun⟩ := ltE hrun
  have hS : SP X b (n + 46) E_41 s.heap H locs := by rw [eE]; exact hS
  have he_o : E_41 o = .inr (6, [.ref (b + n), .int (0 : Int32), .int (0 : Int32)]) := by rw [eE]; exact (va_up_ne _ _ (by omega)).trans he_o
  have he_1 : E_41 n = qA X 16 (va_up (va_up (va_up (va_up (va_up (va_up (va_up (va_up (va_up (fun _ => none) (0 : Int32).toNatClampNeg (some (b + (n + 1)))) (1 : Int32).toNatClampNeg (some (b + (n + 6)))) (2 : Int32).toNatClampNeg (some (b + (n + 11)))) (3 : Int32).toNatClampNeg (some (b + (n + 16)))) (4 : Int32).toNatClampNeg (some (b + (n + 21)))) (5 : Int32).toNatClampNeg (some (b + (n + 26)))) (6 : Int32).toNatClampNeg (some (b + (n + 31)))) (7 : Int32).toNatClampNeg (some (b + (n + 36)))) (8 : Int32).toNatClampNeg (some (b + (n + 41)))) 2 := by rw [eE]; exact va_up_self _ _ _
  clear eE
  refine lv_iinc (v := (9 : Int32)) (k := 0) (lv' := [(2, .int (9 : Int32)), (0, .ref (b + o)), (1, .ref a1)]) hx hb dX6_init_45 hl rfl (by decide) (by decide) rfl (fun ls hl => ?_)
  refine lv_goto (tgt := 25) hx hb dX6_init_48 (by decide) ?_
  refine lv_iload_n hx hb dX6_init_25 rfl (lv_at hl 0 rfl) ?_
  refine lv_bipush (v := 16) hx hb dX6_init_26 (by decide) ?_
  refine lv_icmp_ge (tgt := 51) hx hb dX6_init_28 (by decide) (fun hc => absurd hc (by decide)) (fun hc => ?_)
  refine lv_aload_n hx hb dX6_init_31 rfl (lv_at hl 1 rfl) ?_
  refine s_get B hS layX6 (by omega) he_o rfl 0 (by decide) (tw_1 187 rfl rfl) rfl rfl dX6_init_32 ?_
  refine lv_iload_n hx hb dX6_init_35 rfl (lv_at hl 0 rfl) ?_
  refine s_new (ci := 3) (fs := [.null, .int 0, .int 0, .int 0, .int 0, .null, .null, .null, .null]) B hS layX3 tyX3 tyX3_ok (tw_1 184 rfl rfl) (tw_1 95 rfl rfl) (tw_1 4 rfl rfl) rfl (fun j hj => by rcases (show j = 0 ∨ j = 1 ∨ j = 2 ∨ j = 3 ∨ j = 4 ∨ j = 5 ∨ j = 6 ∨ j = 7 ∨ j = 8 by omega) with rfl | rfl | rfl | rfl | rfl | rfl | rfl | rfl | rfl <;> rfl) (Nat.le_of_ble_eq_true rfl) (Nat.le_of_ble_eq_true rfl) dX6_init_36 (fun H hS => ?_)
  obtain ⟨E_43, eE, hrun⟩ := ltE hrun
  have hS : SP X b (n + 47) E_43 s.heap H locs := by rw [eE]; exact hS
  have he_o : E_43 o = .inr (6, [.ref (b + n), .int (0 : Int32), .int (0 : Int32)]) := by rw [eE]; exact (va_up_ne _ _ (by omega)).trans he_o
  have he_1 : E_43 n = qA X 16 (va_up (va_up (va_up (va_up (va_up (va_up (va_up (va_up (va_up (fun _ => none) (0 : Int32).toNatClampNeg (some (b + (n + 1)))) (1 : Int32).toNatClampNeg (some (b + (n + 6)))) (2 : Int32).toNatClampNeg (some (b + (n + 11)))) (3 : Int32).toNatClampNeg (some (b + (n + 16)))) (4 : Int32).toNatClampNeg (some (b + (n + 21)))) (5 : Int32).toNatClampNeg (some (b + (n + 26)))) (6 : Int32).toNatClampNeg (some (b + (n + 31)))) (7 : Int32).toNatClampNeg (some (b + (n + 36)))) (8 : Int32).toNatClampNeg (some (b + (n + 41)))) 2 := by rw [eE]; exact (va_up_ne _ _ (by omega)).trans he_1
  have he_42 : E_43 (n + 46) = .inr (3, [.null, .int 0, .int 0, .int 0, .int 0, .null, .null, .null, .null]) := by rw [eE]; exact va_up_self _ _ _
  clear eE
  refine lv_dup hx hb dX6_init_39 rfl ?_
  refine lv_aload_n hx hb dX6_init_40 rfl (lv_at hl 2 rfl) ?_
  refine sI B hS (kX3_init l X b (n + 46) a1 (n + 47) E_43 (by omega) he_42) (tw_1 186 rfl rfl) (tw_1 97 rfl rfl) (tw_1 4 rfl rfl) (tw_1 98 rfl rfl) rfl mdX3_init rfl hl.1 rfl (Nat.le_of_ble_eq_true rfl) ⟨Nat.le_of_ble_eq_true rfl, Nat.le_of_ble_eq_true rfl⟩ ⟨Nat.le_of_ble_eq_true rfl, Nat.le_of_ble_eq_true rfl⟩ dX6_init_41 (fun H locs hS => ?_)
  obtain ⟨E_44, eE, hrun⟩ := ltE hrun
  have hS : SP X b (n + 51) E_44 s.heap H locs := by rw [eE]; exact hS
  have he_o : E_44 o = .inr (6, [.ref (b + n), .int (0 : Int32), .int (0 : Int32)]) := by rw [eE]; exact (eX3_init_k (by omega) (by omega)).trans he_o
  have he_1 : E_44 n = qA X 16 (va_up (va_up (va_up (va_up (va_up (va_up (va_up (va_up (va_up (fun _ => none) (0 : Int32).toNatClampNeg (some (b + (n + 1)))) (1 : Int32).toNatClampNeg (some (b + (n + 6)))) (2 : Int32).toNatClampNeg (some (b + (n + 11)))) (3 : Int32).toNatClampNeg (some (b + (n + 16)))) (4 : Int32).toNatClampNeg (some (b + (n + 21)))) (5 : Int32).toNatClampNeg (some (b + (n + 26)))) (6 : Int32).toNatClampNeg (some (b + (n + 31)))) (7 : Int32).toNatClampNeg (some (b + (n + 36)))) (8 : Int32).toNatClampNeg (some (b + (n + 41)))) 2 := by rw [eE]; exact (eX3_init_k (by omega) (by omega)).trans he_1
  have he_42 : E_44 (n + 46) = .inr (3, [.ref a1, .int (0 : Int32), .int (0 : Int32), .int (0 : Int32), .int (0 : Int32), .ref (b + (n + 47)), .ref (b + (n + 48)), .ref (b + (n + 49)), .ref (b + (n + 50))]) := by rw [eE]; exact eX3_init_s (by omega)
  clear eE
  refine s_ast (k0 := 2) B hS (by omega) he_1 rfl (by omega) he_42 rfl (by unfold vp_in; decide) dX6_init_44 (fun H locs hS => ?_)
  obtain ⟨E_45, eE, hrun⟩ := ltE hrun
  have hS : SP X b (n + 51) E_45 s.heap H locs := by rw [eE]; exact hS
  have he_o : E_45 o = .inr (6, [.ref (b + n), .int (0 : Int32), .int (0 : Int32)]) := by rw [eE]; exact (va_up_ne _ _ (by omega)).trans he_o
  have he_1 : E_45 n = qA X 16 (va_up (va_up (va_up (va_up (va_up (va_up (va_up (va_up (va_up (va_up (fun _ => none) (0 : Int32).toNatClampNeg (some (b + (n + 1)))) (1 : Int32).toNatClampNeg (some (b + (n + 6)))) (2 : Int32).toNatClampNeg (some (b + (n + 11)))) (3 : Int32).toNatClampNeg (some (b + (n + 16)))) (4 : Int32).toNatClampNeg (some (b + (n + 21)))) (5 : Int32).toNatClampNeg (some (b + (n + 26)))) (6 : Int32).toNatClampNeg (some (b + (n + 31)))) (7 : Int32).toNatClampNeg (some (b + (n + 36)))) (8 : Int32).toNatClampNeg (some (b + (n + 41)))) (9 : Int32).toNatClampNeg (some (b + (n + 46)))) 2 := by rw [eE]; exact va_up_self _ _ _
  clear eE
  refine lv_iinc (v := (10 : Int32)) (k := 0) (lv' := [(2, .int (10 : Int32)), (0, .ref (b + o)), (1, .ref a1)]) hx hb dX6_init_45 hl rfl (by decide) (by decide) rfl (fun ls hl => ?_)
  refine lv_goto (tgt := 25) hx hb dX6_init_48 (by decide) ?_
  refine lv_iload_n hx hb dX6_init_25 rfl (lv_at hl 0 rfl) ?_
  refine lv_bipush (v := 16) hx hb dX6_init_26 (by decide) ?_
  refine lv_icmp_ge (tgt := 51) hx hb dX6_init_28 (by decide) (fun hc => absurd hc (by decide)) (fun hc => ?_)
  refine lv_aload_n hx hb dX6_init_31 rfl (lv_at hl 1 rfl) ?_
  refine s_get B hS layX6 (by omega) he_o rfl 0 (by decide) (tw_1 187 rfl rfl) rfl rfl dX6_init_32 ?_
  refine lv_iload_n hx hb dX6_init_35 rfl (lv_at hl 0 rfl) ?_
  refine s_new (ci := 3) (fs := [.null, .int 0, .int 0, .int 0, .int 0, .null, .null, .null, .null]) B hS layX3 tyX3 tyX3_ok (tw_1 184 rfl rfl) (tw_1 95 rfl rfl) (tw_1 4 rfl rfl) rfl (fun j hj => by rcases (show j = 0 ∨ j = 1 ∨ j = 2 ∨ j = 3 ∨ j = 4 ∨ j = 5 ∨ j = 6 ∨ j = 7 ∨ j = 8 by omega) with rfl | rfl | rfl | rfl | rfl | rfl | rfl | rfl | rfl <;> rfl) (Nat.le_of_ble_eq_true rfl) (Nat.le_of_ble_eq_true rfl) dX6_init_36 (fun H hS => ?_)
  obtain ⟨E_47, eE, hrun⟩ := ltE hrun
  have hS : SP X b (n + 52) E_47 s.heap H locs := by rw [eE]; exact hS
  have he_o : E_47 o = .inr (6, [.ref (b + n), .int (0 : Int32), .int (0 : Int32)]) := by rw [eE]; exact (va_up_ne _ _ (by omega)).trans he_o
  have he_1 : E_47 n = qA X 16 (va_up (va_up (va_up (va_up (va_up (va_up (va_up (va_up (va_up (va_up (fun _ => none) (0 : Int32).toNatClampNeg (some (b + (n + 1)))) (1 : Int32).toNatClampNeg (some (b + (n + 6)))) (2 : Int32).toNatClampNeg (some (b + (n + 11)))) (3 : Int32).toNatClampNeg (some (b + (n + 16)))) (4 : Int32).toNatClampNeg (some (b + (n + 21)))) (5 : Int32).toNatClampNeg (some (b + (n + 26)))) (6 : Int32).toNatClampNeg (some (b + (n + 31)))) (7 : Int32).toNatClampNeg (some (b + (n + 36)))) (8 : Int32).toNatClampNeg (some (b + (n + 41)))) (9 : Int32).toNatClampNeg (some (b + (n + 46)))) 2 := by rw [eE]; exact (va_up_ne _ _ (by omega)).trans he_1
  have he_46 : E_47 (n + 51) = .inr (3, [.null, .int 0, .int 0, .int 0, .int 0, .null, .null, .null, .null]) := by rw [eE]; exact va_up_self _ _ _
  clear eE
  refine lv_dup hx hb dX6_init_39 rfl ?_
  refine lv_aload_n hx hb dX6_init_40 rfl (lv_at hl 2 rfl) ?_
  refine sI B hS (kX3_init l X b (n + 51) a1 (n + 52) E_47 (by omega) he_46) (tw_1 186 rfl rfl) (tw_1 97 rfl rfl) (tw_1 4 rfl rfl) (tw_1 98 rfl rfl) rfl mdX3_init rfl hl.1 rfl (Nat.le_of_ble_eq_true rfl) ⟨Nat.le_of_ble_eq_true rfl, Nat.le_of_ble_eq_true rfl⟩ ⟨Nat.le_of_ble_eq_true rfl, Nat.le_of_ble_eq_true rfl⟩ dX6_init_41 (fun H locs hS => ?_)
  obtain ⟨E_48, eE, hrun⟩ := ltE hrun
  have hS : SP X b (n + 56) E_48 s.heap H locs := by rw [eE]; exact hS
  have he_o : E_48 o = .inr (6, [.ref (b + n), .int (0 : Int32), .int (0 : Int32)]) := by rw [eE]; exact (eX3_init_k (by omega) (by omega)).trans he_o
  have he_1 : E_48 n = qA X 16 (va_up (va_up (va_up (va_up (va_up (va_up (va_up (va_up (va_up (va_up (fun _ => none) (0 : Int32).toNatClampNeg (some (b + (n + 1)))) (1 : Int32).toNatClampNeg (some (b + (n + 6)))) (2 : Int32).toNatClampNeg (some (b + (n + 11)))) (3 : Int32).toNatClampNeg (some (b + (n + 16)))) (4 : Int32).toNatClampNeg (some (b + (n + 21)))) (5 : Int32).toNatClampNeg (some (b + (n + 26)))) (6 : Int32).toNatClampNeg (some (b + (n + 31)))) (7 : Int32).toNatClampNeg (some (b + (n + 36)))) (8 : Int32).toNatClampNeg (some (b + (n + 41)))) (9 : Int32).toNatClampNeg (some (b + (n + 46)))) 2 := by rw [eE]; exact (eX3_init_k (by omega) (by omega)).trans he_1
  have he_46 : E_48 (n + 51) = .inr (3, [.ref a1, .int (0 : Int32), .int (0 : Int32), .int (0 : Int32), .int (0 : Int32), .ref (b + (n + 52)), .ref (b + (n + 53)), .ref (b + (n + 54)), .ref (b + (n + 55))]) := by rw [eE]; exact eX3_init_s (by omega)
  clear eE
  refine s_ast (k0 := 2) B hS (by omega) he_1 rfl (by omega) he_46 rfl (by unfold vp_in; decide) dX6_init_44 (fun H locs hS => ?_)
  obtain ⟨E_49, eE, hrun⟩ := ltE hrun
  have hS : SP X b (n + 56) E_49 s.heap H locs := by rw [eE]; exact hS
  have he_o : E_49 o = .inr (6, [.ref (b + n), .int (0 : Int32), .int (0 : Int32)]) := by rw [eE]; exact (va_up_ne _ _ (by omega)).trans he_o
  have he_1 : E_49 n = qA X 16 (va_up (va_up (va_up (va_up (va_up (va_up (va_up (va_up (va_up (va_up (va_up (fun _ => none) (0 : Int32).toNatClampNeg (some (b + (n + 1)))) (1 : Int32).toNatClampNeg (some (b + (n + 6)))) (2 : Int32).toNatClampNeg (some (b + (n + 11)))) (3 : Int32).toNatClampNeg (some (b + (n + 16)))) (4 : Int32).toNatClampNeg (some (b + (n + 21)))) (5 : Int32).toNatClampNeg (some (b + (n + 26)))) (6 : Int32).toNatClampNeg (some (b + (n + 31)))) (7 : Int32).toNatClampNeg (some (b + (n + 36)))) (8 : Int32).toNatClampNeg (some (b + (n + 41)))) (9 : Int32).toNatClampNeg (some (b + (n + 46)))) (10 : Int32).toNatClampNeg (some (b + (n + 51)))) 2 := by rw [eE]; exact va_up_self _ _ _
  clear eE
  refine lv_iinc (v := (11 : Int32)) (k := 0) (lv' := [(2, .int (11 : Int32)), (0, .ref (b + o)), (1, .ref a1)]) hx hb dX6_init_45 hl rfl (by decide) (by decide) rfl (fun ls hl => ?_)
  refine lv_goto (tgt := 25) hx hb dX6_init_48 (by decide) ?_
  refine lv_iload_n hx hb dX6_init_25 rfl (lv_at hl 0 rfl) ?_
  refine lv_bipush (v := 16) hx hb dX6_init_26 (by decide) ?_
  refine lv_icmp_ge (tgt := 51) hx hb dX6_init_28 (by decide) (fun hc => absurd hc (by decide)) (fun hc => ?_)
  refine lv_aload_n hx hb dX6_init_31 rfl (lv_at hl 1 rfl) ?_
  refine s_get B hS layX6 (by omega) he_o rfl 0 (by decide) (tw_1 187 rfl rfl) rfl rfl dX6_init_32 ?_
  refine lv_iload_n hx hb dX6_init_35 rfl (lv_at hl 0 rfl) ?_
  refine s_new (ci := 3) (fs := [.null, .int 0, .int 0, .int 0, .int 0, .null, .null, .null, .null]) B hS layX3 tyX3 tyX3_ok (tw_1 184 rfl rfl) (tw_1 95 rfl rfl) (tw_1 4 rfl rfl) rfl (fun j hj => by rcases (show j = 0 ∨ j = 1 ∨ j = 2 ∨ j = 3 ∨ j = 4 ∨ j = 5 ∨ j = 6 ∨ j = 7 ∨ j = 8 by omega) with rfl | rfl | rfl | rfl | rfl | rfl | rfl | rfl | rfl <;> rfl) (Nat.le_of_ble_eq_true rfl) (Nat.le_of_ble_eq_true rfl) dX6_init_36 (fun H hS => ?_)
  obtain ⟨E_51, eE, hrun⟩ := ltE hrun
  have hS : SP X b (n + 57) E_51 s.heap H locs := by rw [eE]; exact hS
  have he_o : E_51 o = .inr (6, [.ref (b + n), .int (0 : Int32), .int (0 : Int32)]) := by rw [eE]; exact (va_up_ne _ _ (by omega)).trans he_o
  have he_1 : E_51 n = qA X 16 (va_up (va_up (va_up (va_up (va_up (va_up (va_up (va_up (va_up (va_up (va_up (fun _ => none) (0 : Int32).toNatClampNeg (some (b + (n + 1)))) (1 : Int32).toNatClampNeg (some (b + (n + 6)))) (2 : Int32).toNatClampNeg (some (b + (n + 11)))) (3 : Int32).toNatClampNeg (some (b + (n + 16)))) (4 : Int32).toNatClampNeg (some (b + (n + 21)))) (5 : Int32).toNatClampNeg (some (b + (n + 26)))) (6 : Int32).toNatClampNeg (some (b + (n + 31)))) (7 : Int32).toNatClampNeg (some (b + (n + 36)))) (8 : Int32).toNatClampNeg (some (b + (n + 41)))) (9 : Int32).toNatClampNeg (some (b + (n + 46)))) (10 : Int32).toNatClampNeg (some (b + (n + 51)))) 2 := by rw [eE]; exact (va_up_ne _ _ (by omega)).trans he_1
  have he_50 : E_51 (n + 56) = .inr (3, [.null, .int 0, .int 0, .int 0, .int 0, .null, .null, .null, .null]) := by rw [eE]; exact va_up_self _ _ _
  clear eE
  refine lv_dup hx hb dX6_init_39 rfl ?_
  refine lv_aload_n hx hb dX6_init_40 rfl (lv_at hl 2 rfl) ?_
  refine sI B hS (kX3_init l X b (n + 56) a1 (n + 57) E_51 (by omega) he_50) (tw_1 186 rfl rfl) (tw_1 97 rfl rfl) (tw_1 4 rfl rfl) (tw_1 98 rfl rfl) rfl mdX3_init rfl hl.1 rfl (Nat.le_of_ble_eq_true rfl) ⟨Nat.le_of_ble_eq_true rfl, Nat.le_of_ble_eq_true rfl⟩ ⟨Nat.le_of_ble_eq_true rfl, Nat.le_of_ble_eq_true rfl⟩ dX6_init_41 (fun H locs hS => ?_)
  obtain ⟨E_52, eE, hrun⟩ := ltE hrun
  have hS : SP X b (n + 61) E_52 s.heap H locs := by rw [eE]; exact hS
  have he_o : E_52 o = .inr (6, [.ref (b + n), .int (0 : Int32), .int (0 : Int32)]) := by rw [eE]; exact (eX3_init_k (by omega) (by omega)).trans he_o
  have he_1 : E_52 n = qA X 16 (va_up (va_up (va_up (va_up (va_up (va_up (va_up (va_up (va_up (va_up (va_up (fun _ => none) (0 : Int32).toNatClampNeg (some (b + (n + 1)))) (1 : Int32).toNatClampNeg (some (b + (n + 6)))) (2 : Int32).toNatClampNeg (some (b + (n + 11)))) (3 : Int32).toNatClampNeg (some (b + (n + 16)))) (4 : Int32).toNatClampNeg (some (b + (n + 21)))) (5 : Int32).toNatClampNeg (some (b + (n + 26)))) (6 : Int32).toNatClampNeg (some (b + (n + 31)))) (7 : Int32).toNatClampNeg (some (b + (n + 36)))) (8 : Int32).toNatClampNeg (some (b + (n + 41)))) (9 : Int32).toNatClampNeg (some (b + (n + 46)))) (10 : Int32).toNatClampNeg (some (b + (n + 51)))) 2 := by rw [eE]; exact (eX3_init_k (by omega) (by omega)).trans he_1
  have he_50 : E_52 (n + 56) = .inr (3, [.ref a1, .int (0 : Int32), .int (0 : Int32), .int (0 : Int32), .int (0 : Int32), .ref (b + (n + 57)), .ref (b + (n + 58)), .ref (b + (n + 59)), .ref (b + (n + 60))]) := by rw [eE]; exact eX3_init_s (by omega)
  clear eE
  refine s_ast (k0 := 2) B hS (by omega) he_1 rfl (by omega) he_50 rfl (by unfold vp_in; decide) dX6_init_44 (fun H locs hS => ?_)
  obtain ⟨E_53, eE, hrun⟩ := ltE hrun
  have hS : SP X b (n + 61) E_53 s.heap H locs := by rw [eE]; exact hS
  have he_o : E_53 o = .inr (6, [.ref (b + n), .int (0 : Int32), .int (0 : Int32)]) := by rw [eE]; exact (va_up_ne _ _ (by omega)).trans he_o
  have he_1 : E_53 n = qA X 16 (va_up (va_up (va_up (va_up (va_up (va_up (va_up (va_up (va_up (va_up (va_up (va_up (fun _ => none) (0 : Int32).toNatClampNeg (some (b + (n + 1)))) (1 : Int32).toNatClampNeg (some (b + (n + 6)))) (2 : Int32).toNatClampNeg (some (b + (n + 11)))) (3 : Int32).toNatClampNeg (some (b + (n + 16)))) (4 : Int32).toNatClampNeg (some (b + (n + 21)))) (5 : Int32).toNatClampNeg (some (b + (n + 26)))) (6 : Int32).toNatClampNeg (some (b + (n + 31)))) (7 : Int32).toNatClampNeg (some (b + (n + 36)))) (8 : Int32).toNatClampNeg (some (b + (n + 41)))) (9 : Int32).toNatClampNeg (some (b + (n + 46)))) (10 : Int32).toNatClampNeg (some (b + (n + 51)))) (11 : Int32).toNatClampNeg (some (b + (n + 56)))) 2 := by rw [eE]; exact va_up_self _ _ _
  clear eE
  refine lv_iinc (v := (12 : Int32)) (k := 0) (lv' := [(2, .int (12 : Int32)), (0, .ref (b + o)), (1, .ref a1)]) hx hb dX6_init_45 hl rfl (by decide) (by decide) rfl (fun ls hl => ?_)
  refine lv_goto (tgt := 25) hx hb dX6_init_48 (by decide) ?_
  refine lv_iload_n hx hb dX6_init_25 rfl (lv_at hl 0 rfl) ?_
  refine lv_bipush (v := 16) hx hb dX6_init_26 (by decide) ?_
  refine lv_icmp_ge (tgt := 51) hx hb dX6_init_28 (by decide) (fun hc => absurd hc (by decide)) (fun hc => ?_)
  refine lv_aload_n hx hb dX6_init_31 rfl (lv_at hl 1 rfl) ?_
  refine s_get B hS layX6 (by omega) he_o rfl 0 (by decide) (tw_1 187 rfl rfl) rfl rfl dX6_init_32 ?_
  refine lv_iload_n hx hb dX6_init_35 rfl (lv_at hl 0 rfl) ?_
  refine s_new (ci := 3) (fs := [.null, .int 0, .int 0, .int 0, .int 0, .null, .null, .null, .null]) B hS layX3 tyX3 tyX3_ok (tw_1 184 rfl rfl) (tw_1 95 rfl rfl) (tw_1 4 rfl rfl) rfl (fun j hj => by rcases (show j = 0 ∨ j = 1 ∨ j = 2 ∨ j = 3 ∨ j = 4 ∨ j = 5 ∨ j = 6 ∨ j = 7 ∨ j = 8 by omega) with rfl | rfl | rfl | rfl | rfl | rfl | rfl | rfl | rfl <;> rfl) (Nat.le_of_ble_eq_true rfl) (Nat.le_of_ble_eq_true rfl) dX6_init_36 (fun H hS => ?_)
  obtain ⟨E_55, eE, hrun⟩ := ltE hrun
  have hS : SP X b (n + 62) E_55 s.heap H locs := by rw [eE]; exact hS
  have he_o : E_55 o = .inr (6, [.ref (b + n), .int (0 : Int32), .int (0 : Int32)]) := by rw [eE]; exact (va_up_ne _ _ (by omega)).trans he_o
  have he_1 : E_55 n = qA X 16 (va_up (va_up (va_up (va_up (va_up (va_up (va_up (va_up (va_up (va_up (va_up (va_up (fun _ => none) (0 : Int32).toNatClampNeg (some (b + (n + 1)))) (1 : Int32).toNatClampNeg (some (b + (n + 6)))) (2 : Int32).toNatClampNeg (some (b + (n + 11)))) (3 : Int32).toNatClampNeg (some (b + (n + 16)))) (4 : Int32).toNatClampNeg (some (b + (n + 21)))) (5 : Int32).toNatClampNeg (some (b + (n + 26)))) (6 : Int32).toNatClampNeg (some (b + (n + 31)))) (7 : Int32).toNatClampNeg (some (b + (n + 36)))) (8 : Int32).toNatClampNeg (some (b + (n + 41)))) (9 : Int32).toNatClampNeg (some (b + (n + 46)))) (10 : Int32).toNatClampNeg (some (b + (n + 51)))) (11 : Int32).toNatClampNeg (some (b + (n + 56)))) 2 := by rw [eE]; exact (va_up_ne _ _ (by omega)).trans he_1
  have he_54 : E_55 (n + 61) = .inr (3, [.null, .int 0, .int 0, .int 0, .int 0, .null, .null, .null, .null]) := by rw [eE]; exact va_up_self _ _ _
  clear eE
  refine lv_dup hx hb dX6_init_39 rfl ?_
  refine lv_aload_n hx hb dX6_init_40 rfl (lv_at hl 2 rfl) ?_
  refine sI B hS (kX3_init l X b (n + 61) a1 (n + 62) E_55 (by omega) he_54) (tw_1 186 rfl rfl) (tw_1 97 rfl rfl) (tw_1 4 rfl rfl) (tw_1 98 rfl rfl) rfl mdX3_init rfl hl.1 rfl (Nat.le_of_ble_eq_true rfl) ⟨Nat.le_of_ble_eq_true rfl, Nat.le_of_ble_eq_true rfl⟩ ⟨Nat.le_of_ble_eq_true rfl, Nat.le_of_ble_eq_true rfl⟩ dX6_init_41 (fun H locs hS => ?_)
  obtain ⟨E_56, eE, hrun⟩ := ltE hrun
  have hS : SP X b (n + 66) E_56 s.heap H locs := by rw [eE]; exact hS
  have he_o : E_56 o = .inr (6, [.ref (b + n), .int (0 : Int32), .int (0 : Int32)]) := by rw [eE]; exact (eX3_init_k (by omega) (by omega)).trans he_o
  have he_1 : E_56 n = qA X 16 (va_up (va_up (va_up (va_up (va_up (va_up (va_up (va_up (va_up (va_up (va_up (va_up (fun _ => none) (0 : Int32).toNatClampNeg (some (b + (n + 1)))) (1 : Int32).toNatClampNeg (some (b + (n + 6)))) (2 : Int32).toNatClampNeg (some (b + (n + 11)))) (3 : Int32).toNatClampNeg (some (b + (n + 16)))) (4 : Int32).toNatClampNeg (some (b + (n + 21)))) (5 : Int32).toNatClampNeg (some (b + (n + 26)))) (6 : Int32).toNatClampNeg (some (b + (n + 31)))) (7 : Int32).toNatClampNeg (some (b + (n + 36)))) (8 : Int32).toNatClampNeg (some (b + (n + 41)))) (9 : Int32).toNatClampNeg (some (b + (n + 46)))) (10 : Int32).toNatClampNeg (some (b + (n + 51)))) (11 : Int32).toNatClampNeg (some (b + (n + 56)))) 2 := by rw [eE]; exact (eX3_init_k (by omega) (by omega)).trans he_1
  have he_54 : E_56 (n + 61) = .inr (3, [.ref a1, .int (0 : Int32), .int (0 : Int32), .int (0 : Int32), .int (0 : Int32), .ref (b + (n + 62)), .ref (b + (n + 63)), .ref (b + (n + 64)), .ref (b + (n + 65))]) := by rw [eE]; exact eX3_init_s (by omega)
  clear eE
  refine s_ast (k0 := 2) B hS (by omega) he_1 rfl (by omega) he_54 rfl (by unfold vp_in; decide) dX6_init_44 (fun H locs hS => ?_)
  obtain ⟨E_57, eE, hrun⟩ := ltE hrun
  have hS : SP X b (n + 66) E_57 s.heap H locs := by rw [eE]; exact hS
  have he_o : E_57 o = .inr (6, [.ref (b + n), .int (0 : Int32), .int (0 : Int32)]) := by rw [eE]; exact (va_up_ne _ _ (by omega)).trans he_o
  have he_1 : E_57 n = qA X 16 (va_up (va_up (va_up (va_up (va_up (va_up (va_up (va_up (va_up (va_up (va_up (va_up (va_up (fun _ => none) (0 : Int32).toNatClampNeg (some (b + (n + 1)))) (1 : Int32).toNatClampNeg (some (b + (n + 6)))) (2 : Int32).toNatClampNeg (some (b + (n + 11)))) (3 : Int32).toNatClampNeg (some (b + (n + 16)))) (4 : Int32).toNatClampNeg (some (b + (n + 21)))) (5 : Int32).toNatClampNeg (some (b + (n + 26)))) (6 : Int32).toNatClampNeg (some (b + (n + 31)))) (7 : Int32).toNatClampNeg (some (b + (n + 36)))) (8 : Int32).toNatClampNeg (some (b + (n + 41)))) (9 : Int32).toNatClampNeg (some (b + (n + 46)))) (10 : Int32).toNatClampNeg (some (b + (n + 51)))) (11 : Int32).toNatClampNeg (some (b + (n + 56)))) (12 : Int32).toNatClampNeg (some (b + (n + 61)))) 2 := by rw [eE]; exact va_up_self _ _ _
  clear eE
  refine lv_iinc (v := (13 : Int32)) (k := 0) (lv' := [(2, .int (13 : Int32)), (0, .ref (b + o)), (1, .ref a1)]) hx hb dX6_init_45 hl rfl (by decide) (by decide) rfl (fun ls hl => ?_)
  refine lv_goto (tgt := 25) hx hb dX6_init_48 (by decide) ?_
  refine lv_iload_n hx hb dX6_init_25 rfl (lv_at hl 0 rfl) ?_
  refine lv_bipush (v := 16) hx hb dX6_init_26 (by decide) ?_
  refine lv_icmp_ge (tgt := 51) hx hb dX6_init_28 (by decide) (fun hc => absurd hc (by decide)) (fun hc => ?_)
  refine lv_aload_n hx hb dX6_init_31 rfl (lv_at hl 1 rfl) ?_
  refine s_get B hS layX6 (by omega) he_o rfl 0 (by decide) (tw_1 187 rfl rfl) rfl rfl dX6_init_32 ?_
  refine lv_iload_n hx hb dX6_init_35 rfl (lv_at hl 0 rfl) ?_
  refine s_new (ci := 3) (fs := [.null, .int 0, .int 0, .int 0, .int 0, .null, .null, .null, .null]) B hS layX3 tyX3 tyX3_ok (tw_1 184 rfl rfl) (tw_1 95 rfl rfl) (tw_1 4 rfl rfl) rfl (fun j hj => by rcases (show j = 0 ∨ j = 1 ∨ j = 2 ∨ j = 3 ∨ j = 4 ∨ j = 5 ∨ j = 6 ∨ j = 7 ∨ j = 8 by omega) with rfl | rfl | rfl | rfl | rfl | rfl | rfl | rfl | rfl <;> rfl) (Nat.le_of_ble_eq_true rfl) (Nat.le_of_ble_eq_true rfl) dX6_init_36 (fun H hS => ?_)
  obtain ⟨E_59, eE, hrun⟩ := ltE hrun
  have hS : SP X b (n + 67) E_59 s.heap H locs := by rw [eE]; exact hS
  have he_o : E_59 o = .inr (6, [.ref (b + n), .int (0 : Int32), .int (0 : Int32)]) := by rw [eE]; exact (va_up_ne _ _ (by omega)).trans he_o
  have he_1 : E_59 n = qA X 16 (va_up (va_up (va_up (va_up (va_up (va_up (va_up (va_up (va_up (va_up (va_up (va_up (va_up (fun _ => none) (0 : Int32).toNatClampNeg (some (b + (n + 1)))) (1 : Int32).toNatClampNeg (some (b + (n + 6)))) (2 : Int32).toNatClampNeg (some (b + (n + 11)))) (3 : Int32).toNatClampNeg (some (b + (n + 16)))) (4 : Int32).toNatClampNeg (some (b + (n + 21)))) (5 : Int32).toNatClampNeg (some (b + (n + 26)))) (6 : Int32).toNatClampNeg (some (b + (n + 31)))) (7 : Int32).toNatClampNeg (some (b + (n + 36)))) (8 : Int32).toNatClampNeg (some (b + (n + 41)))) (9 : Int32).toNatClampNeg (some (b + (n + 46)))) (10 : Int32).toNatClampNeg (some (b + (n + 51)))) (11 : Int32).toNatClampNeg (some (b + (n + 56)))) (12 : Int32).toNatClampNeg (some (b + (n + 61)))) 2 := by rw [eE]; exact (va_up_ne _ _ (by omega)).trans he_1
  have he_58 : E_59 (n + 66) = .inr (3, [.null, .int 0, .int 0, .int 0, .int 0, .null, .null, .null, .null]) := by rw [eE]; exact va_up_self _ _ _
  clear eE
  refine lv_dup hx hb dX6_init_39 rfl ?_
  refine lv_aload_n hx hb dX6_init_40 rfl (lv_at hl 2 rfl) ?_
  refine sI B hS (kX3_init l X b (n + 66) a1 (n + 67) E_59 (by omega) he_58) (tw_1 186 rfl rfl) (tw_1 97 rfl rfl) (tw_1 4 rfl rfl) (tw_1 98 rfl rfl) rfl mdX3_init rfl hl.1 rfl (Nat.le_of_ble_eq_true rfl) ⟨Nat.le_of_ble_eq_true rfl, Nat.le_of_ble_eq_true rfl⟩ ⟨Nat.le_of_ble_eq_true rfl, Nat.le_of_ble_eq_true rfl⟩ dX6_init_41 (fun H locs hS => ?_)
  obtain ⟨E_60, eE, hrun⟩ := ltE hrun
  have hS : SP X b (n + 71) E_60 s.heap H locs := by rw [eE]; exact hS
  have he_o : E_60 o = .inr (6, [.ref (b + n), .int (0 : Int32), .int (0 : Int32)]) := by rw [eE]; exact (eX3_init_k (by omega) (by omega)).trans he_o
  have he_1 : E_60 n = qA X 16 (va_up (va_up (va_up (va_up (va_up (va_up (va_up (va_up (va_up (va_up (va_up (va_up (va_up (fun _ => none) (0 : Int32).toNatClampNeg (some (b + (n + 1)))) (1 : Int32).toNatClampNeg (some (b + (n + 6)))) (2 : Int32).toNatClampNeg (some (b + (n + 11)))) (3 : Int32).toNatClampNeg (some (b + (n + 16)))) (4 : Int32).toNatClampNeg (some (b + (n + 21)))) (5 : Int32).toNatClampNeg (some (b + (n + 26)))) (6 : Int32).toNatClampNeg (some (b + (n + 31)))) (7 : Int32).toNatClampNeg (some (b + (n + 36)))) (8 : Int32).toNatClampNeg (some (b + (n + 41)))) (9 : Int32).toNatClampNeg (some (b + (n + 46)))) (10 : Int32).toNatClampNeg (some (b + (n + 51)))) (11 : Int32).toNatClampNeg (some (b + (n + 56)))) (12 : Int32).toNatClampNeg (some (b + (n + 61)))) 2 := by rw [eE]; exact (eX3_init_k (by omega) (by omega)).trans he_1
  have he_58 : E_60 (n + 66) = .inr (3, [.ref a1, .int (0 : Int32), .int (0 : Int32), .int (0 : Int32), .int (0 : Int32), .ref (b + (n + 67)), .ref (b + (n + 68)), .ref (b + (n + 69)), .ref (b + (n + 70))]) := by rw [eE]; exact eX3_init_s (by omega)
  clear eE
  refine s_ast (k0 := 2) B hS (by omega) he_1 rfl (by omega) he_58 rfl (by unfold vp_in; decide) dX6_init_44 (fun H locs hS => ?_)
  obtain ⟨E_61, eE, hrun⟩ := ltE hrun
  have hS : SP X b (n + 71) E_61 s.heap H locs := by rw [eE]; exact hS
  have he_o : E_61 o = .inr (6, [.ref (b + n), .int (0 : Int32), .int (0 : Int32)]) := by rw [eE]; exact (va_up_ne _ _ (by omega)).trans he_o
  have he_1 : E_61 n = qA X 16 (va_up (va_up (va_up (va_up (va_up (va_up (va_up (va_up (va_up (va_up (va_up (va_up (va_up (va_up (fun _ => none) (0 : Int32).toNatClampNeg (some (b + (n + 1)))) (1 : Int32).toNatClampNeg (some (b + (n + 6)))) (2 : Int32).toNatClampNeg (some (b + (n + 11)))) (3 : Int32).toNatClampNeg (some (b + (n + 16)))) (4 : Int32).toNatClampNeg (some (b + (n + 21)))) (5 : Int32).toNatClampNeg (some (b + (n + 26)))) (6 : Int32).toNatClampNeg (some (b + (n + 31)))) (7 : Int32).toNatClampNeg (some (b + (n + 36)))) (8 : Int32).toNatClampNeg (some (b + (n + 41)))) (9 : Int32).toNatClampNeg (some (b + (n + 46)))) (10 : Int32).toNatClampNeg (some (b + (n + 51)))) (11 : Int32).toNatClampNeg (some (b + (n + 56)))) (12 : Int32).toNatClampNeg (some (b + (n + 61)))) (13 : Int32).toNatClampNeg (some (b + (n + 66)))) 2 := by rw [eE]; exact va_up_self _ _ _
  clear eE
  refine lv_iinc (v := (14 : Int32)) (k := 0) (lv' := [(2, .int (14 : Int32)), (0, .ref (b + o)), (1, .ref a1)]) hx hb dX6_init_45 hl rfl (by decide) (by decide) rfl (fun ls hl => ?_)
  refine lv_goto (tgt := 25) hx hb dX6_init_48 (by decide) ?_
  refine lv_iload_n hx hb dX6_init_25 rfl (lv_at hl 0 rfl) ?_
  refine lv_bipush (v := 16) hx hb dX6_init_26 (by decide) ?_
  refine lv_icmp_ge (tgt := 51) hx hb dX6_init_28 (by decide) (fun hc => absurd hc (by decide)) (fun hc => ?_)
  refine lv_aload_n hx hb dX6_init_31 rfl (lv_at hl 1 rfl) ?_
  refine s_get B hS layX6 (by omega) he_o rfl 0 (by decide) (tw_1 187 rfl rfl) rfl rfl dX6_init_32 ?_
  refine lv_iload_n hx hb dX6_init_35 rfl (lv_at hl 0 rfl) ?_
  refine s_new (ci := 3) (fs := [.null, .int 0, .int 0, .int 0, .int 0, .null, .null, .null, .null]) B hS layX3 tyX3 tyX3_ok (tw_1 184 rfl rfl) (tw_1 95 rfl rfl) (tw_1 4 rfl rfl) rfl (fun j hj => by rcases (show j = 0 ∨ j = 1 ∨ j = 2 ∨ j = 3 ∨ j = 4 ∨ j = 5 ∨ j = 6 ∨ j = 7 ∨ j = 8 by omega) with rfl | rfl | rfl | rfl | rfl | rfl | rfl | rfl | rfl <;> rfl) (Nat.le_of_ble_eq_true rfl) (Nat.le_of_ble_eq_true rfl) dX6_init_36 (fun H hS => ?_)
  obtain ⟨E_63, eE, hrun⟩ := ltE hrun
  have hS : SP X b (n + 72) E_63 s.heap H locs := by rw [eE]; exact hS
  have he_o : E_63 o = .inr (6, [.ref (b + n), .int (0 : Int32), .int (0 : Int32)]) := by rw [eE]; exact (va_up_ne _ _ (by omega)).trans he_o
  have he_1 : E_63 n = qA X 16 (va_up (va_up (va_up (va_up (va_up (va_up (va_up (va_up (va_up (va_up (va_up (va_up (va_up (va_up (fun _ => none) (0 : Int32).toNatClampNeg (some (b + (n + 1)))) (1 : Int32).toNatClampNeg (some (b + (n + 6)))) (2 : Int32).toNatClampNeg (some (b + (n + 11)))) (3 : Int32).toNatClampNeg (some (b + (n + 16)))) (4 : Int32).toNatClampNeg (some (b + (n + 21)))) (5 : Int32).toNatClampNeg (some (b + (n + 26)))) (6 : Int32).toNatClampNeg (some (b + (n + 31)))) (7 : Int32).toNatClampNeg (some (b + (n + 36)))) (8 : Int32).toNatClampNeg (some (b + (n + 41)))) (9 : Int32).toNatClampNeg (some (b + (n + 46)))) (10 : Int32).toNatClampNeg (some (b + (n + 51)))) (11 : Int32).toNatClampNeg (some (b + (n + 56)))) (12 : Int32).toNatClampNeg (some (b + (n + 61)))) (13 : Int32).toNatClampNeg (some (b + (n + 66)))) 2 := by rw [eE]; exact (va_up_ne _ _ (by omega)).trans he_1
  have he_62 : E_63 (n + 71) = .inr (3, [.null, .int 0, .int 0, .int 0, .int 0, .null, .null, .null, .null]) := by rw [eE]; exact va_up_self _ _ _
  clear eE
  refine lv_dup hx hb dX6_init_39 rfl ?_
  refine lv_aload_n hx hb dX6_init_40 rfl (lv_at hl 2 rfl) ?_
  refine sI B hS (kX3_init l X b (n + 71) a1 (n + 72) E_63 (by omega) he_62) (tw_1 186 rfl rfl) (tw_1 97 rfl rfl) (tw_1 4 rfl rfl) (tw_1 98 rfl rfl) rfl mdX3_init rfl hl.1 rfl (Nat.le_of_ble_eq_true rfl) ⟨Nat.le_of_ble_eq_true rfl, Nat.le_of_ble_eq_true rfl⟩ ⟨Nat.le_of_ble_eq_true rfl, Nat.le_of_ble_eq_true rfl⟩ dX6_init_41 (fun H locs hS => ?_)
  obtain ⟨E_64, eE, hrun⟩ := ltE hrun
  have hS : SP X b (n + 76) E_64 s.heap H locs := by rw [eE]; exact hS
  have he_o : E_64 o = .inr (6, [.ref (b + n), .int (0 : Int32), .int (0 : Int32)]) := by rw [eE]; exact (eX3_init_k (by omega) (by omega)).trans he_o
  have he_1 : E_64 n = qA X 16 (va_up (va_up (va_up (va_up (va_up (va_up (va_up (va_up (va_up (va_up (va_up (va_up (va_up (va_up (fun _ => none) (0 : Int32).toNatClampNeg (some (b + (n + 1)))) (1 : Int32).toNatClampNeg (some (b + (n + 6)))) (2 : Int32).toNatClampNeg (some (b + (n + 11)))) (3 : Int32).toNatClampNeg (some (b + (n + 16)))) (4 : Int32).toNatClampNeg (some (b + (n + 21)))) (5 : Int32).toNatClampNeg (some (b + (n + 26)))) (6 : Int32).toNatClampNeg (some (b + (n + 31)))) (7 : Int32).toNatClampNeg (some (b + (n + 36)))) (8 : Int32).toNatClampNeg (some (b + (n + 41)))) (9 : Int32).toNatClampNeg (some (b + (n + 46)))) (10 : Int32).toNatClampNeg (some (b + (n + 51)))) (11 : Int32).toNatClampNeg (some (b + (n + 56)))) (12 : Int32).toNatClampNeg (some (b + (n + 61)))) (13 : Int32).toNatClampNeg (some (b + (n + 66)))) 2 := by rw [eE]; exact (eX3_init_k (by omega) (by omega)).trans he_1
  have he_62 : E_64 (n + 71) = .inr (3, [.ref a1, .int (0 : Int32), .int (0 : Int32), .int (0 : Int32), .int (0 : Int32), .ref (b + (n + 72)), .ref (b + (n + 73)), .ref (b + (n + 74)), .ref (b + (n + 75))]) := by rw [eE]; exact eX3_init_s (by omega)
  clear eE
  refine s_ast (k0 := 2) B hS (by omega) he_1 rfl (by omega) he_62 rfl (by unfold vp_in; decide) dX6_init_44 (fun H locs hS => ?_)
  obtain ⟨E_65, eE, hrun⟩ := ltE hrun
  have hS : SP X b (n + 76) E_65 s.heap H locs := by rw [eE]; exact hS
  have he_o : E_65 o = .inr (6, [.ref (b + n), .int (0 : Int32), .int (0 : Int32)]) := by rw [eE]; exact (va_up_ne _ _ (by omega)).trans he_o
  have he_1 : E_65 n = qA X 16 (va_up (va_up (va_up (va_up (va_up (va_up (va_up (va_up (va_up (va_up (va_up (va_up (va_up (va_up (va_up (fun _ => none) (0 : Int32).toNatClampNeg (some (b + (n + 1)))) (1 : Int32).toNatClampNeg (some (b + (n + 6)))) (2 : Int32).toNatClampNeg (some (b + (n + 11)))) (3 : Int32).toNatClampNeg (some (b + (n + 16)))) (4 : Int32).toNatClampNeg (some (b + (n + 21)))) (5 : Int32).toNatClampNeg (some (b + (n + 26)))) (6 : Int32).toNatClampNeg (some (b + (n + 31)))) (7 : Int32).toNatClampNeg (some (b + (n + 36)))) (8 : Int32).toNatClampNeg (some (b + (n + 41)))) (9 : Int32).toNatClampNeg (some (b + (n + 46)))) (10 : Int32).toNatClampNeg (some (b + (n + 51)))) (11 : Int32).toNatClampNeg (some (b + (n + 56)))) (12 : Int32).toNatClampNeg (some (b + (n + 61)))) (13 : Int32).toNatClampNeg (some (b + (n + 66)))) (14 : Int32).toNatClampNeg (some (b + (n + 71)))) 2 := by rw [eE]; exact va_up_self _ _ _
  clear eE
  refine lv_iinc (v := (15 : Int32)) (k := 0) (lv' := [(2, .int (15 : Int32)), (0, .ref (b + o)), (1, .ref a1)]) hx hb dX6_init_45 hl rfl (by decide) (by decide) rfl (fun ls hl => ?_)
  refine lv_goto (tgt := 25) hx hb dX6_init_48 (by decide) ?_
  refine lv_iload_n hx hb dX6_init_25 rfl (lv_at hl 0 rfl) ?_
  refine lv_bipush (v := 16) hx hb dX6_init_26 (by decide) ?_
  refine lv_icmp_ge (tgt := 51) hx hb dX6_init_28 (by decide) (fun hc => absurd hc (by decide)) (fun hc => ?_)
  refine lv_aload_n hx hb dX6_init_31 rfl (lv_at hl 1 rfl) ?_
  refine s_get B hS layX6 (by omega) he_o rfl 0 (by decide) (tw_1 187 rfl rfl) rfl rfl dX6_init_32 ?_
  refine lv_iload_n hx hb dX6_init_35 rfl (lv_at hl 0 rfl) ?_
  refine s_new (ci := 3) (fs := [.null, .int 0, .int 0, .int 0, .int 0, .null, .null, .null, .null]) B hS layX3 tyX3 tyX3_ok (tw_1 184 rfl rfl) (tw_1 95 rfl rfl) (tw_1 4 rfl rfl) rfl (fun j hj => by rcases (show j = 0 ∨ j = 1 ∨ j = 2 ∨ j = 3 ∨ j = 4 ∨ j = 5 ∨ j = 6 ∨ j = 7 ∨ j = 8 by omega) with rfl | rfl | rfl | rfl | rfl | rfl | rfl | rfl | rfl <;> rfl) (Nat.le_of_ble_eq_true rfl) (Nat.le_of_ble_eq_true rfl) dX6_init_36 (fun H hS => ?_)
  obtain ⟨E_67, eE, hrun⟩ := ltE hrun
  have hS : SP X b (n + 77) E_67 s.heap H locs := by rw [eE]; exact hS
  have he_o : E_67 o = .inr (6, [.ref (b + n), .int (0 : Int32), .int (0 : Int32)]) := by rw [eE]; exact (va_up_ne _ _ (by omega)).trans he_o
  have he_1 : E_67 n = qA X 16 (va_up (va_up (va_up (va_up (va_up (va_up (va_up (va_up (va_up (va_up (va_up (va_up (va_up (va_up (va_up (fun _ => none) (0 : Int32).toNatClampNeg (some (b + (n + 1)))) (1 : Int32).toNatClampNeg (some (b + (n + 6)))) (2 : Int32).toNatClampNeg (some (b + (n + 11)))) (3 : Int32).toNatClampNeg (some (b + (n + 16)))) (4 : Int32).toNatClampNeg (some (b + (n + 21)))) (5 : Int32).toNatClampNeg (some (b + (n + 26)))) (6 : Int32).toNatClampNeg (some (b + (n + 31)))) (7 : Int32).toNatClampNeg (some (b + (n + 36)))) (8 : Int32).toNatClampNeg (some (b + (n + 41)))) (9 : Int32).toNatClampNeg (some (b + (n + 46)))) (10 : Int32).toNatClampNeg (some (b + (n + 51)))) (11 : Int32).toNatClampNeg (some (b + (n + 56)))) (12 : Int32).toNatClampNeg (some (b + (n + 61)))) (13 : Int32).toNatClampNeg (some (b + (n + 66)))) (14 : Int32).toNatClampNeg (some (b + (n + 71)))) 2 := by rw [eE]; exact (va_up_ne _ _ (by omega)).trans he_1
  have he_66 : E_67 (n + 76) = .inr (3, [.null, .int 0, .int 0, .int 0, .int 0, .null, .null, .null, .null]) := by rw [eE]; exact va_up_self _ _ _
  clear eE
  refine lv_dup hx hb dX6_init_39 rfl ?_
  refine lv_aload_n hx hb dX6_init_40 rfl (lv_at hl 2 rfl) ?_
  refine sI B hS (kX3_init l X b (n + 76) a1 (n + 77) E_67 (by omega) he_66) (tw_1 186 rfl rfl) (tw_1 97 rfl rfl) (tw_1 4 rfl rfl) (tw_1 98 rfl rfl) rfl mdX3_init rfl hl.1 rfl (Nat.le_of_ble_eq_true rfl) ⟨Nat.le_of_ble_eq_true rfl, Nat.le_of_ble_eq_true rfl⟩ ⟨Nat.le_of_ble_eq_true rfl, Nat.le_of_ble_eq_true rfl⟩ dX6_init_41 (fun H locs hS => ?_)
  obtain ⟨E_68, eE, hrun⟩ := ltE hrun
  have hS : SP X b (n + 81) E_68 s.heap H locs := by rw [eE]; exact hS
  have he_o : E_68 o = .inr (6, [.ref (b + n), .int (0 : Int32), .int (0 : Int32)]) := by rw [eE]; exact (eX3_init_k (by omega) (by omega)).trans he_o
  have he_1 : E_68 n = qA X 16 (va_up (va_up (va_up (va_up (va_up (va_up (va_up (va_up (va_up (va_up (va_up (va_up (va_up (va_up (va_up (fun _ => none) (0 : Int32).toNatClampNeg (some (b + (n + 1)))) (1 : Int32).toNatClampNeg (some (b + (n + 6)))) (2 : Int32).toNatClampNeg (some (b + (n + 11)))) (3 : Int32).toNatClampNeg (some (b + (n + 16)))) (4 : Int32).toNatClampNeg (some (b + (n + 21)))) (5 : Int32).toNatClampNeg (some (b + (n + 26)))) (6 : Int32).toNatClampNeg (some (b + (n + 31)))) (7 : Int32).toNatClampNeg (some (b + (n + 36)))) (8 : Int32).toNatClampNeg (some (b + (n + 41)))) (9 : Int32).toNatClampNeg (some (b + (n + 46)))) (10 : Int32).toNatClampNeg (some (b + (n + 51)))) (11 : Int32).toNatClampNeg (some (b + (n + 56)))) (12 : Int32).toNatClampNeg (some (b + (n + 61)))) (13 : Int32).toNatClampNeg (some (b + (n + 66)))) (14 : Int32).toNatClampNeg (some (b + (n + 71)))) 2 := by rw [eE]; exact (eX3_init_k (by omega) (by omega)).trans he_1
  have he_66 : E_68 (n + 76) = .inr (3, [.ref a1, .int (0 : Int32), .int (0 : Int32), .int (0 : Int32), .int (0 : Int32), .ref (b + (n + 77)), .ref (b + (n + 78)), .ref (b + (n + 79)), .ref (b + (n + 80))]) := by rw [eE]; exact eX3_init_s (by omega)
  clear eE
  refine s_ast (k0 := 2) B hS (by omega) he_1 rfl (by omega) he_66 rfl (by unfold vp_in; decide) dX6_init_44 (fun H locs hS => ?_)
  obtain ⟨E_69, eE, hrun⟩ := ltE hrun
  have hS : SP X b (n + 81) E_69 s.heap H locs := by rw [eE]; exact hS
  have he_o : E_69 o = .inr (6, [.ref (b + n), .int (0 : Int32), .int (0 : Int32)]) := by rw [eE]; exact (va_up_ne _ _ (by omega)).trans he_o
  have he_1 : E_69 n = qA X 16 (va_up (va_up (va_up (va_up (va_up (va_up (va_up (va_up (va_up (va_up (va_up (va_up (va_up (va_up (va_up (va_up (fun _ => none) (0 : Int32).toNatClampNeg (some (b + (n + 1)))) (1 : Int32).toNatClampNeg (some (b + (n + 6)))) (2 : Int32).toNatClampNeg (some (b + (n + 11)))) (3 : Int32).toNatClampNeg (some (b + (n + 16)))) (4 : Int32).toNatClampNeg (some (b + (n + 21)))) (5 : Int32).toNatClampNeg (some (b + (n + 26)))) (6 : Int32).toNatClampNeg (some (b + (n + 31)))) (7 : Int32).toNatClampNeg (some (b + (n + 36)))) (8 : Int32).toNatClampNeg (some (b + (n + 41)))) (9 : Int32).toNatClampNeg (some (b + (n + 46)))) (10 : Int32).toNatClampNeg (some (b + (n + 51)))) (11 : Int32).toNatClampNeg (some (b + (n + 56)))) (12 : Int32).toNatClampNeg (some (b + (n + 61)))) (13 : Int32).toNatClampNeg (some (b + (n + 66)))) (14 : Int32).toNatClampNeg (some (b + (n + 71)))) (15 : Int32).toNatClampNeg (some (b + (n + 76)))) 2 := by rw [eE]; exact va_up_self _ _ _
  clear eE
  refine lv_iinc (v := (16 : Int32)) (k := 0) (lv' := [(2, .int (16 : Int32)), (0, .ref (b + o)), (1, .ref a1)]) hx hb dX6_init_45 hl rfl (by decide) (by decide) rfl (fun ls hl => ?_)
  refine lv_goto (tgt := 25) hx hb dX6_init_48 (by decide) ?_
  refine lv_iload_n hx hb dX6_init_25 rfl (lv_at hl 0 rfl) ?_
  refine lv_bipush (v := 16) hx hb dX6_init_26 (by decide) ?_
  refine lv_icmp_ge (tgt := 51) hx hb dX6_init_28 (by decide) (fun hc => ?_) (fun hc => absurd (by decide) hc)
  exact hret _ _ _ _ _ hrun hS dX6_init_51
def eX7_init (X : Cx) (b o n : Nat) (E : Nat → va_E) : Nat → va_E := lt1 (va_up E n (.inl (X.2.2 0, 240, .inl (fun _ => 0)))) (fun E_1 => lt1 (va_up E_1 o (.inr (7, [.ref (b + n), .int 0, .int 0, .int 0, .int 0]))) (fun E_2 => lt1 (va_up E_2 o (.inr (7, [.ref (b + n), .int (0 : Int32), .int 0, .int 0, .int 0]))) (fun E_3 => lt1 (va_up E_3 o (.inr (7, [.ref (b + n), .int (0 : Int32), .int (0 : Int32), .int 0, .int 0]))) (fun E_4 => lt1 (va_up E_4 o (.inr (7, [.ref (b + n), .int (0 : Int32), .int (0 : Int32), .int (0 : Int32), .int 0]))) (fun E_5 => lt1 (va_up E_5 o (.inr (7, [.ref (b + n), .int (0 : Int32), .int (0 : Int32), .int (0 : Int32), .int (-1 : Int32)]))) (fun E_6 => E_6))))))
theorem eX7_init_k {X : Cx} {b o n : Nat} {E : Nat → va_E} {j : Nat} (hj : j ≠ o) (hn : j < n) : eX7_init X b o n E j = E j := by
  unfold eX7_init
  simp only [lt1]
  refine (va_up_ne _ _ (by omega)).trans ?_
  refine (va_up_ne _ _ (by omega)).trans ?_
  refine (va_up_ne _ _ (by omega)).trans ?_
  refine (va_up_ne _ _ (by omega)).trans ?_
  refine (va_up_ne _ _ (by omega)).trans ?_
  refine (va_up_ne _ _ (by omega)).trans ?_
  rfl
theorem eX7_init_s {X : Cx} {b o n : Nat} {E : Nat → va_E} (ho : o < n) : eX7_init X b o n E o = .inr (7, [.ref (b + n), .int (0 : Int32), .int (0 : Int32), .int (0 : Int32), .int (-1 : Int32)]) := by
  unfold eX7_init
  simp only [lt1]
  exact va_up_self _ _ _
theorem mdX7_init : MD yX7_init 0 := ⟨by decide +kernel, by decide +kernel, by decide +kernel⟩
set_option maxHeartbeats 4000000 in
set_option maxRecDepth 100000 in
theorem kX7_init (l : Launch) (X : Cx) (b o n : Nat) (E : Nat → va_E) (ho : o < n) (he_o : E o = .inr (7, [.null, .int 0, .int 0, .int 0, .int 0])) : CI l X b yX7_init cX7_init 1 1 24 1 240 [.ref (b + o)] n E (n + 1) (eX7_init X b o n E) := by
  obtain ⟨E', hrun⟩ : ∃ z, eX7_init X b o n E = z := ⟨_, rfl⟩
  rw [hrun]
  refine CI_of (by decide) rfl (Nat.le_of_ble_eq_true rfl) ?_
  intro p e s m args below meth c Q B hin hret hS ls hl
  have hx := B.1
  have hb := B.2.1
  have hown := B.2.2.2.1
  have hts := B.2.2.2.2.1
  have hl : lv_has ls 1 [(0, .ref (b + o))] := hl
  unfold eX7_init at hrun
  refine lv_aload_n hx hb dX7_init_0 rfl (lv_at hl 0 rfl) ?_
  refine W.objInit hx hb hown (hts _ (tw_1 157 rfl rfl)) (hts _ (tw_1 22 rfl rfl)) (hts _ (tw_1 23 rfl rfl)) rfl (hl.1.trans B.2.2.1.symm) rfl dX7_init_1 (Nat.le_of_ble_eq_true rfl) (Nat.le_of_ble_eq_true rfl) ?_
  refine W.eq (g2 := F0 m 4 ls []) rfl ?_
  refine lv_aload_n hx hb dX7_init_4 rfl (lv_at hl 0 rfl) ?_
  refine lv_sipush (v := 240) hx hb dX7_init_5 (by decide) ?_
  refine s_newa (k0 := 0) B hS rfl (tw_1 86 rfl rfl) rfl (fun C h => by cases h) rfl (N' := 240) (by decide) rfl (by decide) (Nat.le_of_ble_eq_true rfl) (Nat.le_of_ble_eq_true rfl) dX7_init_8 (fun H hS => ?_)
  obtain ⟨E_1, eE, hrun⟩ := ltE hrun
  have hS : SP X b (n + 1) E_1 s.heap H [] := by rw [eE]; exact hS
  have he_o : E_1 o = .inr (7, [.null, .int 0, .int 0, .int 0, .int 0]) := by rw [eE]; exact (va_up_ne _ _ (by omega)).trans he_o
  clear eE
  refine s_put B hS hin layX7 tyX7 tyX7_ok nmX7 (by omega) he_o rfl 0 (by decide) (tw_1 158 rfl rfl) rfl rfl rfl rfl rfl (Nat.le_of_ble_eq_true rfl) dX7_init_10 (fun H locs hS => ?_)
  obtain ⟨E_2, eE, hrun⟩ := ltE hrun
  have hS : SP X b (n + 1) E_2 s.heap H locs := by rw [eE]; exact hS
  have he_o : E_2 o = .inr (7, [.ref (b + n), .int 0, .int 0, .int 0, .int 0]) := by rw [eE]; exact va_up_self _ _ _
  clear eE
  refine lv_aload_n hx hb dX7_init_13 rfl (lv_at hl 0 rfl) ?_
  refine lv_iconst (v := 0) hx hb dX7_init_14 (by decide) ?_
  refine s_put B hS hin layX7 tyX7 tyX7_ok nmX7 (by omega) he_o rfl 1 (by decide) (tw_1 159 rfl rfl) rfl rfl rfl rfl rfl (Nat.le_of_ble_eq_true rfl) dX7_init_15 (fun H locs hS => ?_)
  obtain ⟨E_3, eE, hrun⟩ := ltE hrun
  have hS : SP X b (n + 1) E_3 s.heap H locs := by rw [eE]; exact hS
  have he_o : E_3 o = .inr (7, [.ref (b + n), .int (0 : Int32), .int 0, .int 0, .int 0]) := by rw [eE]; exact va_up_self _ _ _
  clear eE
  refine lv_aload_n hx hb dX7_init_18 rfl (lv_at hl 0 rfl) ?_
  refine lv_iconst (v := 0) hx hb dX7_init_19 (by decide) ?_
  refine s_put B hS hin layX7 tyX7 tyX7_ok nmX7 (by omega) he_o rfl 2 (by decide) (tw_1 161 rfl rfl) rfl rfl rfl rfl rfl (Nat.le_of_ble_eq_true rfl) dX7_init_20 (fun H locs hS => ?_)
  obtain ⟨E_4, eE, hrun⟩ := ltE hrun
  have hS : SP X b (n + 1) E_4 s.heap H locs := by rw [eE]; exact hS
  have he_o : E_4 o = .inr (7, [.ref (b + n), .int (0 : Int32), .int (0 : Int32), .int 0, .int 0]) := by rw [eE]; exact va_up_self _ _ _
  clear eE
  refine lv_aload_n hx hb dX7_init_23 rfl (lv_at hl 0 rfl) ?_
  refine lv_iconst (v := 0) hx hb dX7_init_24 (by decide) ?_
  refine s_put B hS hin layX7 tyX7 tyX7_ok nmX7 (by omega) he_o rfl 3 (by decide) (tw_1 162 rfl rfl) rfl rfl rfl rfl rfl (Nat.le_of_ble_eq_true rfl) dX7_init_25 (fun H locs hS => ?_)
  obtain ⟨E_5, eE, hrun⟩ := ltE hrun
  have hS : SP X b (n + 1) E_5 s.heap H locs := by rw [eE]; exact hS
  have he_o : E_5 o = .inr (7, [.ref (b + n), .int (0 : Int32), .int (0 : Int32), .int (0 : Int32), .int 0]) := by rw [eE]; exact va_up_self _ _ _
  clear eE
  refine lv_aload_n hx hb dX7_init_28 rfl (lv_at hl 0 rfl) ?_
  refine lv_iconst (v := -1) hx hb dX7_init_29 (by decide) ?_
  refine s_put B hS hin layX7 tyX7 tyX7_ok nmX7 (by omega) he_o rfl 4 (by decide) (tw_1 163 rfl rfl) rfl rfl rfl rfl rfl (Nat.le_of_ble_eq_true rfl) dX7_init_30 (fun H locs hS => ?_)
  obtain ⟨E_6, eE, hrun⟩ := ltE hrun
  have hS : SP X b (n + 1) E_6 s.heap H locs := by rw [eE]; exact hS
  have he_o : E_6 o = .inr (7, [.ref (b + n), .int (0 : Int32), .int (0 : Int32), .int (0 : Int32), .int (-1 : Int32)]) := by rw [eE]; exact va_up_self _ _ _
  clear eE
  exact hret _ _ _ _ _ hrun hS dX7_init_33
def eX8_init (X : Cx) (b o n : Nat) (E : Nat → va_E) : Nat → va_E := lt1 (va_up E n (.inl (X.2.2 0, 7, .inl (fun _ => 0)))) (fun E_1 => lt1 (va_up E_1 o (.inr (8, [.int 0, .int 0, .int 0, .int 0, .int 0, .ref (b + n), .null, .null, .null, .null]))) (fun E_2 => lt1 (va_up E_2 (n + 1) (.inl (X.2.2 0, 7, .inl (fun _ => 0)))) (fun E_3 => lt1 (va_up E_3 o (.inr (8, [.int 0, .int 0, .int 0, .int 0, .int 0, .ref (b + n), .ref (b + (n + 1)), .null, .null, .null]))) (fun E_4 => lt1 (va_up E_4 (n + 2) (.inl (X.2.2 0, 7, .inl (fun _ => 0)))) (fun E_5 => lt1 (va_up E_5 o (.inr (8, [.int 0, .int 0, .int 0, .int 0, .int 0, .ref (b + n), .ref (b + (n + 1)), .ref (b + (n + 2)), .null, .null]))) (fun E_6 => lt1 (va_up E_6 (n + 3) (.inl (X.2.2 0, 7, .inl (fun _ => 0)))) (fun E_7 => lt1 (va_up E_7 o (.inr (8, [.int 0, .int 0, .int 0, .int 0, .int 0, .ref (b + n), .ref (b + (n + 1)), .ref (b + (n + 2)), .ref (b + (n + 3)), .null]))) (fun E_8 => lt1 (va_up E_8 (n + 4) (.inl (X.2.2 0, 4, .inl (fun _ => 0)))) (fun E_9 => lt1 (va_up E_9 o (.inr (8, [.int 0, .int 0, .int 0, .int 0, .int 0, .ref (b + n), .ref (b + (n + 1)), .ref (b + (n + 2)), .ref (b + (n + 3)), .ref (b + (n + 4))]))) (fun E_10 => E_10))))))))))
theorem eX8_init_k {X : Cx} {b o n : Nat} {E : Nat → va_E} {j : Nat} (hj : j ≠ o) (hn : j < n) : eX8_init X b o n E j = E j := by
  unfold eX8_init
  simp only [lt1]
  refine (va_up_ne _ _ (by omega)).trans ?_
  refine (va_up_ne _ _ (by omega)).trans ?_
  refine (va_up_ne _ _ (by omega)).trans ?_
  refine (va_up_ne _ _ (by omega)).trans ?_
  refine (va_up_ne _ _ (by omega)).trans ?_
  refine (va_up_ne _ _ (by omega)).trans ?_
  refine (va_up_ne _ _ (by omega)).trans ?_
  refine (va_up_ne _ _ (by omega)).trans ?_
  refine (va_up_ne _ _ (by omega)).trans ?_
  refine (va_up_ne _ _ (by omega)).trans ?_
  rfl
theorem eX8_init_s {X : Cx} {b o n : Nat} {E : Nat → va_E} (ho : o < n) : eX8_init X b o n E o = .inr (8, [.int 0, .int 0, .int 0, .int 0, .int 0, .ref (b + n), .ref (b + (n + 1)), .ref (b + (n + 2)), .ref (b + (n + 3)), .ref (b + (n + 4))]) := by
  unfold eX8_init
  simp only [lt1]
  exact va_up_self _ _ _
theorem mdX8_init : MD yX8_init 0 := ⟨by decide +kernel, by decide +kernel, by decide +kernel⟩
set_option maxHeartbeats 4000000 in
set_option maxRecDepth 100000 in
theorem kX8_init (l : Launch) (X : Cx) (b o n : Nat) (E : Nat → va_E) (ho : o < n) (he_o : E o = .inr (8, [.int 0, .int 0, .int 0, .int 0, .int 0, .null, .null, .null, .null, .null])) : CI l X b yX8_init cX8_init 1 1 24 5 32 [.ref (b + o)] n E (n + 5) (eX8_init X b o n E) := by
  obtain ⟨E', hrun⟩ : ∃ z, eX8_init X b o n E = z := ⟨_, rfl⟩
  rw [hrun]
  refine CI_of (by decide) rfl (Nat.le_of_ble_eq_true rfl) ?_
  intro p e s m args below meth c Q B hin hret hS ls hl
  have hx := B.1
  have hb := B.2.1
  have hown := B.2.2.2.1
  have hts := B.2.2.2.2.1
  have hl : lv_has ls 1 [(0, .ref (b + o))] := hl
  unfold eX8_init at hrun
  refine lv_aload_n hx hb dX8_init_0 rfl (lv_at hl 0 rfl) ?_
  refine W.objInit hx hb hown (hts _ (tw_1 29 rfl rfl)) (hts _ (tw_1 22 rfl rfl)) (hts _ (tw_1 23 rfl rfl)) rfl (hl.1.trans B.2.2.1.symm) rfl dX8_init_1 (Nat.le_of_ble_eq_true rfl) (Nat.le_of_ble_eq_true rfl) ?_
  refine W.eq (g2 := F0 m 4 ls []) rfl ?_
  refine lv_aload_n hx hb dX8_init_4 rfl (lv_at hl 0 rfl) ?_
  refine lv_bipush (v := 7) hx hb dX8_init_5 (by decide) ?_
  refine s_newa (k0 := 0) B hS rfl (tw_1 86 rfl rfl) rfl (fun C h => by cases h) rfl (N' := 7) (by decide) rfl (by decide) (Nat.le_of_ble_eq_true rfl) (Nat.le_of_ble_eq_true rfl) dX8_init_7 (fun H hS => ?_)
  obtain ⟨E_1, eE, hrun⟩ := ltE hrun
  have hS : SP X b (n + 1) E_1 s.heap H [] := by rw [eE]; exact hS
  have he_o : E_1 o = .inr (8, [.int 0, .int 0, .int 0, .int 0, .int 0, .null, .null, .null, .null, .null]) := by rw [eE]; exact (va_up_ne _ _ (by omega)).trans he_o
  clear eE
  refine s_put B hS hin layX8 tyX8 tyX8_ok nmX8 (by omega) he_o rfl 5 (by decide) (tw_1 53 rfl rfl) rfl rfl rfl rfl rfl (Nat.le_of_ble_eq_true rfl) dX8_init_9 (fun H locs hS => ?_)
  obtain ⟨E_2, eE, hrun⟩ := ltE hrun
  have hS : SP X b (n + 1) E_2 s.heap H locs := by rw [eE]; exact hS
  have he_o : E_2 o = .inr (8, [.int 0, .int 0, .int 0, .int 0, .int 0, .ref (b + n), .null, .null, .null, .null]) := by rw [eE]; exact va_up_self _ _ _
  clear eE
  refine lv_aload_n hx hb dX8_init_12 rfl (lv_at hl 0 rfl) ?_
  refine lv_bipush (v := 7) hx hb dX8_init_13 (by decide) ?_
  refine s_newa (k0 := 0) B hS rfl (tw_1 86 rfl rfl) rfl (fun C h => by cases h) rfl (N' := 7) (by decide) rfl (by decide) (Nat.le_of_ble_eq_true rfl) (Nat.le_of_ble_eq_true rfl) dX8_init_15 (fun H hS => ?_)
  obtain ⟨E_3, eE, hrun⟩ := ltE hrun
  have hS : SP X b (n + 2) E_3 s.heap H locs := by rw [eE]; exact hS
  have he_o : E_3 o = .inr (8, [.int 0, .int 0, .int 0, .int 0, .int 0, .ref (b + n), .null, .null, .null, .null]) := by rw [eE]; exact (va_up_ne _ _ (by omega)).trans he_o
  clear eE
  refine s_put B hS hin layX8 tyX8 tyX8_ok nmX8 (by omega) he_o rfl 6 (by decide) (tw_1 56 rfl rfl) rfl rfl rfl rfl rfl (Nat.le_of_ble_eq_true rfl) dX8_init_17 (fun H locs hS => ?_)
  obtain ⟨E_4, eE, hrun⟩ := ltE hrun
  have hS : SP X b (n + 2) E_4 s.heap H locs := by rw [eE]; exact hS
  have he_o : E_4 o = .inr (8, [.int 0, .int 0, .int 0, .int 0, .int 0, .ref (b + n), .ref (b + (n + 1)), .null, .null, .null]) := by rw [eE]; exact va_up_self _ _ _
  clear eE
  refine lv_aload_n hx hb dX8_init_20 rfl (lv_at hl 0 rfl) ?_
  refine lv_bipush (v := 7) hx hb dX8_init_21 (by decide) ?_
  refine s_newa (k0 := 0) B hS rfl (tw_1 86 rfl rfl) rfl (fun C h => by cases h) rfl (N' := 7) (by decide) rfl (by decide) (Nat.le_of_ble_eq_true rfl) (Nat.le_of_ble_eq_true rfl) dX8_init_23 (fun H hS => ?_)
  obtain ⟨E_5, eE, hrun⟩ := ltE hrun
  have hS : SP X b (n + 3) E_5 s.heap H locs := by rw [eE]; exact hS
  have he_o : E_5 o = .inr (8, [.int 0, .int 0, .int 0, .int 0, .int 0, .ref (b + n), .ref (b + (n + 1)), .null, .null, .null]) := by rw [eE]; exact (va_up_ne _ _ (by omega)).trans he_o
  clear eE
  refine s_put B hS hin layX8 tyX8 tyX8_ok nmX8 (by omega) he_o rfl 7 (by decide) (tw_1 58 rfl rfl) rfl rfl rfl rfl rfl (Nat.le_of_ble_eq_true rfl) dX8_init_25 (fun H locs hS => ?_)
  obtain ⟨E_6, eE, hrun⟩ := ltE hrun
  have hS : SP X b (n + 3) E_6 s.heap H locs := by rw [eE]; exact hS
  have he_o : E_6 o = .inr (8, [.int 0, .int 0, .int 0, .int 0, .int 0, .ref (b + n), .ref (b + (n + 1)), .ref (b + (n + 2)), .null, .null]) := by rw [eE]; exact va_up_self _ _ _
  clear eE
  refine lv_aload_n hx hb dX8_init_28 rfl (lv_at hl 0 rfl) ?_
  refine lv_bipush (v := 7) hx hb dX8_init_29 (by decide) ?_
  refine s_newa (k0 := 0) B hS rfl (tw_1 86 rfl rfl) rfl (fun C h => by cases h) rfl (N' := 7) (by decide) rfl (by decide) (Nat.le_of_ble_eq_true rfl) (Nat.le_of_ble_eq_true rfl) dX8_init_31 (fun H hS => ?_)
  obtain ⟨E_7, eE, hrun⟩ := ltE hrun
  have hS : SP X b (n + 4) E_7 s.heap H locs := by rw [eE]; exact hS
  have he_o : E_7 o = .inr (8, [.int 0, .int 0, .int 0, .int 0, .int 0, .ref (b + n), .ref (b + (n + 1)), .ref (b + (n + 2)), .null, .null]) := by rw [eE]; exact (va_up_ne _ _ (by omega)).trans he_o
  clear eE
  refine s_put B hS hin layX8 tyX8 tyX8_ok nmX8 (by omega) he_o rfl 8 (by decide) (tw_1 60 rfl rfl) rfl rfl rfl rfl rfl (Nat.le_of_ble_eq_true rfl) dX8_init_33 (fun H locs hS => ?_)
  obtain ⟨E_8, eE, hrun⟩ := ltE hrun
  have hS : SP X b (n + 4) E_8 s.heap H locs := by rw [eE]; exact hS
  have he_o : E_8 o = .inr (8, [.int 0, .int 0, .int 0, .int 0, .int 0, .ref (b + n), .ref (b + (n + 1)), .ref (b + (n + 2)), .ref (b + (n + 3)), .null]) := by rw [eE]; exact va_up_self _ _ _
  clear eE
  refine lv_aload_n hx hb dX8_init_36 rfl (lv_at hl 0 rfl) ?_
  refine lv_iconst (v := 4) hx hb dX8_init_37 (by decide) ?_
  refine s_newa (k0 := 0) B hS rfl (tw_1 86 rfl rfl) rfl (fun C h => by cases h) rfl (N' := 4) (by decide) rfl (by decide) (Nat.le_of_ble_eq_true rfl) (Nat.le_of_ble_eq_true rfl) dX8_init_38 (fun H hS => ?_)
  obtain ⟨E_9, eE, hrun⟩ := ltE hrun
  have hS : SP X b (n + 5) E_9 s.heap H locs := by rw [eE]; exact hS
  have he_o : E_9 o = .inr (8, [.int 0, .int 0, .int 0, .int 0, .int 0, .ref (b + n), .ref (b + (n + 1)), .ref (b + (n + 2)), .ref (b + (n + 3)), .null]) := by rw [eE]; exact (va_up_ne _ _ (by omega)).trans he_o
  clear eE
  refine s_put B hS hin layX8 tyX8 tyX8_ok nmX8 (by omega) he_o rfl 9 (by decide) (tw_1 63 rfl rfl) rfl rfl rfl rfl rfl (Nat.le_of_ble_eq_true rfl) dX8_init_40 (fun H locs hS => ?_)
  obtain ⟨E_10, eE, hrun⟩ := ltE hrun
  have hS : SP X b (n + 5) E_10 s.heap H locs := by rw [eE]; exact hS
  have he_o : E_10 o = .inr (8, [.int 0, .int 0, .int 0, .int 0, .int 0, .ref (b + n), .ref (b + (n + 1)), .ref (b + (n + 2)), .ref (b + (n + 3)), .ref (b + (n + 4))]) := by rw [eE]; exact va_up_self _ _ _
  clear eE
  exact hret _ _ _ _ _ hrun hS dX8_init_43
def eX9_init (X : Cx) (b o a1 n : Nat) (E : Nat → va_E) : Nat → va_E := lt1 (mE X b n E) (fun E_1 => lt1 (va_up E_1 o (.inr (9, [.null, .ref (b + n), .null, .int 0]))) (fun E_2 => lt1 (va_up E_2 (n + 10) (.inl (X.2.2 0, 9, .inl (fun _ => 0)))) (fun E_3 => lt1 (va_up E_3 o (.inr (9, [.null, .ref (b + n), .ref (b + (n + 10)), .int 0]))) (fun E_4 => lt1 (va_up E_4 o (.inr (9, [.null, .ref (b + n), .ref (b + (n + 10)), .int (0 : Int32)]))) (fun E_5 => lt1 (va_up E_5 o (.inr (9, [.ref a1, .ref (b + n), .ref (b + (n + 10)), .int (0 : Int32)]))) (fun E_6 => E_6))))))
theorem eX9_init_k {X : Cx} {b o a1 n : Nat} {E : Nat → va_E} {j : Nat} (hj : j ≠ o) (hn : j < n) : eX9_init X b o a1 n E j = E j := by
  unfold eX9_init
  simp only [lt1]
  refine (va_up_ne _ _ (by omega)).trans ?_
  refine (va_up_ne _ _ (by omega)).trans ?_
  refine (va_up_ne _ _ (by omega)).trans ?_
  refine (va_up_ne _ _ (by omega)).trans ?_
  refine (va_up_ne _ _ (by omega)).trans ?_
  refine (mE_k (by omega)).trans ?_
  rfl
theorem eX9_init_s {X : Cx} {b o a1 n : Nat} {E : Nat → va_E} (ho : o < n) : eX9_init X b o a1 n E o = .inr (9, [.ref a1, .ref (b + n), .ref (b + (n + 10)), .int (0 : Int32)]) := by
  unfold eX9_init
  simp only [lt1]
  exact va_up_self _ _ _
theorem mdX9_init : MD yX9_init 1 := ⟨by decide +kernel, by decide +kernel, by decide +kernel⟩
set_option maxHeartbeats 4000000 in
set_option maxRecDepth 100000 in
theorem kX9_init (l : Launch) (X : Cx) (b o a1 n : Nat) (E : Nat → va_E) (ho : o < n) (he_o : E o = .inr (9, [.null, .null, .null, .int 0])) : CI l X b yX9_init cX9_init 2 1 24 11 81 [.ref (b + o), .ref a1] n E (n + 11) (eX9_init X b o a1 n E) := by
  obtain ⟨E', hrun⟩ : ∃ z, eX9_init X b o a1 n E = z := ⟨_, rfl⟩
  rw [hrun]
  refine CI_of (by decide) rfl (Nat.le_of_ble_eq_true rfl) ?_
  intro p e s m args below meth c Q B hin hret hS ls hl
  have hx := B.1
  have hb := B.2.1
  have hown := B.2.2.2.1
  have hts := B.2.2.2.2.1
  have hl : lv_has ls 2 [(0, .ref (b + o)), (1, .ref a1)] := hl
  unfold eX9_init at hrun
  refine lv_aload_n hx hb dX9_init_0 rfl (lv_at hl 0 rfl) ?_
  refine W.objInit hx hb hown (hts _ (tw_2 8 rfl rfl)) (hts _ (tw_1 22 rfl rfl)) (hts _ (tw_1 23 rfl rfl)) rfl (hl.1.trans B.2.2.1.symm) rfl dX9_init_1 (Nat.le_of_ble_eq_true rfl) (Nat.le_of_ble_eq_true rfl) ?_
  refine W.eq (g2 := F0 m 4 ls []) rfl ?_
  refine lv_aload_n hx hb dX9_init_4 rfl (lv_at hl 0 rfl) ?_
  refine lv_bipush (v := 9) hx hb dX9_init_5 (by decide) ?_
  refine lv_bipush (v := 7) hx hb dX9_init_7 (by decide) ?_
  refine s_mna B hS (tw_2 9 rfl rfl) (tw_1 86 rfl rfl) (Nat.le_of_ble_eq_true rfl) (Nat.le_of_ble_eq_true rfl) dX9_init_9 (fun H hS => ?_)
  obtain ⟨E_1, eE, hrun⟩ := ltE hrun
  have hS : SP X b (n + 10) E_1 s.heap H [] := by rw [eE]; exact hS
  have he_o : E_1 o = .inr (9, [.null, .null, .null, .int 0]) := by rw [eE]; exact (mE_k (by omega)).trans he_o
  clear eE
  refine s_put B hS hin layX9 tyX9 tyX9_ok nmX9 (by omega) he_o rfl 1 (by decide) (tw_2 12 rfl rfl) rfl rfl rfl rfl rfl (Nat.le_of_ble_eq_true rfl) dX9_init_13 (fun H locs hS => ?_)
  obtain ⟨E_2, eE, hrun⟩ := ltE hrun
  have hS : SP X b (n + 10) E_2 s.heap H locs := by rw [eE]; exact hS
  have he_o : E_2 o = .inr (9, [.null, .ref (b + n), .null, .int 0]) := by rw [eE]; exact va_up_self _ _ _
  clear eE
  refine lv_aload_n hx hb dX9_init_16 rfl (lv_at hl 0 rfl) ?_
  refine lv_bipush (v := 9) hx hb dX9_init_17 (by decide) ?_
  refine s_newa (k0 := 0) B hS rfl (tw_1 86 rfl rfl) rfl (fun C h => by cases h) rfl (N' := 9) (by decide) rfl (by decide) (Nat.le_of_ble_eq_true rfl) (Nat.le_of_ble_eq_true rfl) dX9_init_19 (fun H hS => ?_)
  obtain ⟨E_3, eE, hrun⟩ := ltE hrun
  have hS : SP X b (n + 11) E_3 s.heap H locs := by rw [eE]; exact hS
  have he_o : E_3 o = .inr (9, [.null, .ref (b + n), .null, .int 0]) := by rw [eE]; exact (va_up_ne _ _ (by omega)).trans he_o
  clear eE
  refine s_put B hS hin layX9 tyX9 tyX9_ok nmX9 (by omega) he_o rfl 2 (by decide) (tw_2 13 rfl rfl) rfl rfl rfl rfl rfl (Nat.le_of_ble_eq_true rfl) dX9_init_21 (fun H locs hS => ?_)
  obtain ⟨E_4, eE, hrun⟩ := ltE hrun
  have hS : SP X b (n + 11) E_4 s.heap H locs := by rw [eE]; exact hS
  have he_o : E_4 o = .inr (9, [.null, .ref (b + n), .ref (b + (n + 10)), .int 0]) := by rw [eE]; exact va_up_self _ _ _
  clear eE
  refine lv_aload_n hx hb dX9_init_24 rfl (lv_at hl 0 rfl) ?_
  refine lv_iconst (v := 0) hx hb dX9_init_25 (by decide) ?_
  refine s_put B hS hin layX9 tyX9 tyX9_ok nmX9 (by omega) he_o rfl 3 (by decide) (tw_2 15 rfl rfl) rfl rfl rfl rfl rfl (Nat.le_of_ble_eq_true rfl) dX9_init_26 (fun H locs hS => ?_)
  obtain ⟨E_5, eE, hrun⟩ := ltE hrun
  have hS : SP X b (n + 11) E_5 s.heap H locs := by rw [eE]; exact hS
  have he_o : E_5 o = .inr (9, [.null, .ref (b + n), .ref (b + (n + 10)), .int (0 : Int32)]) := by rw [eE]; exact va_up_self _ _ _
  clear eE
  refine lv_aload_n hx hb dX9_init_29 rfl (lv_at hl 0 rfl) ?_
  refine lv_aload_n hx hb dX9_init_30 rfl (lv_at hl 1 rfl) ?_
  refine s_put B hS hin layX9 tyX9 tyX9_ok nmX9 (by omega) he_o rfl 0 (by decide) (tw_2 11 rfl rfl) rfl rfl rfl rfl rfl (Nat.le_of_ble_eq_true rfl) dX9_init_31 (fun H locs hS => ?_)
  obtain ⟨E_6, eE, hrun⟩ := ltE hrun
  have hS : SP X b (n + 11) E_6 s.heap H locs := by rw [eE]; exact hS
  have he_o : E_6 o = .inr (9, [.ref a1, .ref (b + n), .ref (b + (n + 10)), .int (0 : Int32)]) := by rw [eE]; exact va_up_self _ _ _
  clear eE
  exact hret _ _ _ _ _ hrun hS dX9_init_34
def eX10_init (X : Cx) (b o n : Nat) (E : Nat → va_E) : Nat → va_E := lt1 (va_up E n (.inr (8, [.int 0, .int 0, .int 0, .int 0, .int 0, .null, .null, .null, .null, .null]))) (fun E_2 => lt1 (eX8_init X b n  (n + 1) E_2) (fun E_3 => lt1 (va_up E_3 (n + 6) (qA X 2 (fun _ => none) 3)) (fun E_5 => lt1 (va_up E_5 (n + 7) (.inr (4, [.null, .int 0, .int 0]))) (fun E_7 => lt1 (eX4_init X b (n + 7) (b + n) (n + 8) E_7) (fun E_8 => lt1 (va_up E_8 (n + 6) (qA X 2 (va_up (fun _ => none) (0 : Int32).toNatClampNeg (some (b + (n + 7)))) 3)) (fun E_9 => lt1 (va_up E_9 (n + 13) (.inr (4, [.null, .int 0, .int 0]))) (fun E_11 => lt1 (eX4_init X b (n + 13) (b + n) (n + 14) E_11) (fun E_12 => lt1 (va_up E_12 (n + 6) (qA X 2 (va_up (va_up (fun _ => none) (0 : Int32).toNatClampNeg (some (b + (n + 7)))) (1 : Int32).toNatClampNeg (some (b + (n + 13)))) 3)) (fun E_13 => lt1 (va_up E_13 (n + 19) (.inr (7, [.null, .int 0, .int 0, .int 0, .int 0]))) (fun E_15 => lt1 (eX7_init X b (n + 19)  (n + 20) E_15) (fun E_16 => lt1 (va_up E_16 o (.inr (10, [.ref (b + (n + 19)), .null, .null, .null, .null, .null, .null, .null, .null, .null, .null, .null]))) (fun E_17 => lt1 (va_up E_17 (n + 21) (.inr (8, [.int 0, .int 0, .int 0, .int 0, .int 0, .null, .null, .null, .null, .null]))) (fun E_19 => lt1 (eX8_init X b (n + 21)  (n + 22) E_19) (fun E_20 => lt1 (va_up E_20 o (.inr (10, [.ref (b + (n + 19)), .ref (b + (n + 21)), .null, .null, .null, .null, .null, .null, .null, .null, .null, .null]))) (fun E_21 => lt1 (va_up E_21 o (.inr (10, [.ref (b + (n + 19)), .ref (b + (n + 21)), .ref (b + n), .null, .null, .null, .null, .null, .null, .null, .null, .null]))) (fun E_22 => lt1 (va_up E_22 (n + 27) (.inr (3, [.null, .int 0, .int 0, .int 0, .int 0, .null, .null, .null, .null]))) (fun E_24 => lt1 (eX3_init X b (n + 27) (b + n) (n + 28) E_24) (fun E_25 => lt1 (va_up E_25 o (.inr (10, [.ref (b + (n + 19)), .ref (b + (n + 21)), .ref (b + n), .ref (b + (n + 27)), .null, .null, .null, .null, .null, .null, .null, .null]))) (fun E_26 => lt1 (va_up E_26 (n + 32) (.inr (3, [.null, .int 0, .int 0, .int 0, .int 0, .null, .null, .null, .null]))) (fun E_28 => lt1 (eX3_init X b (n + 32) (b + n) (n + 33) E_28) (fun E_29 => lt1 (va_up E_29 o (.inr (10, [.ref (b + (n + 19)), .ref (b + (n + 21)), .ref (b + n), .ref (b + (n + 27)), .ref (b + (n + 32)), .null, .null, .null, .null, .null, .null, .null]))) (fun E_30 => lt1 (va_up E_30 (n + 37) (.inr (6, [.null, .int 0, .int 0]))) (fun E_32 => lt1 (eX6_init X b (n + 37) (b + n) (n + 38) E_32) (fun E_33 => lt1 (va_up E_33 o (.inr (10, [.ref (b + (n + 19)), .ref (b + (n + 21)), .ref (b + n), .ref (b + (n + 27)), .ref (b + (n + 32)), .ref (b + (n + 37)), .null, .null, .null, .null, .null, .null]))) (fun E_34 => lt1 (va_up E_34 o (.inr (10, [.ref (b + (n + 19)), .ref (b + (n + 21)), .ref (b + n), .ref (b + (n + 27)), .ref (b + (n + 32)), .ref (b + (n + 37)), .ref (b + (n + 6)), .null, .null, .null, .null, .null]))) (fun E_35 => lt1 (va_up E_35 (n + 119) (.inr (5, [.null, .null, .null, .null, .int 0, .int 0]))) (fun E_37 => lt1 (eX5_init X b (n + 119)  (n + 120) E_37) (fun E_38 => lt1 (va_up E_38 o (.inr (10, [.ref (b + (n + 19)), .ref (b + (n + 21)), .ref (b + n), .ref (b + (n + 27)), .ref (b + (n + 32)), .ref (b + (n + 37)), .ref (b + (n + 6)), .ref (b + (n + 119)), .null, .null, .null, .null]))) (fun E_39 => lt1 (va_up E_39 (n + 124) (.inr (0, [.int 0, .int 0, .null]))) (fun E_41 => lt1 (eX0_init X b (n + 124)  (n + 125) E_41) (fun E_42 => lt1 (va_up E_42 o (.inr (10, [.ref (b + (n + 19)), .ref (b + (n + 21)), .ref (b + n), .ref (b + (n + 27)), .ref (b + (n + 32)), .ref (b + (n + 37)), .ref (b + (n + 6)), .ref (b + (n + 119)), .ref (b + (n + 124)), .null, .null, .null]))) (fun E_43 => lt1 (va_up E_43 (n + 126) (.inr (9, [.null, .null, .null, .int 0]))) (fun E_45 => lt1 (eX9_init X b (n + 126) (b + n) (n + 127) E_45) (fun E_46 => lt1 (va_up E_46 o (.inr (10, [.ref (b + (n + 19)), .ref (b + (n + 21)), .ref (b + n), .ref (b + (n + 27)), .ref (b + (n + 32)), .ref (b + (n + 37)), .ref (b + (n + 6)), .ref (b + (n + 119)), .ref (b + (n + 124)), .ref (b + (n + 126)), .null, .null]))) (fun E_47 => lt1 (va_up E_47 (n + 138) (.inr (2, [.null, .null, .null, .null, .int 0, .int 0]))) (fun E_49 => lt1 (eX2_init X b (n + 138) (b + n) (n + 139) E_49) (fun E_50 => lt1 (va_up E_50 o (.inr (10, [.ref (b + (n + 19)), .ref (b + (n + 21)), .ref (b + n), .ref (b + (n + 27)), .ref (b + (n + 32)), .ref (b + (n + 37)), .ref (b + (n + 6)), .ref (b + (n + 119)), .ref (b + (n + 124)), .ref (b + (n + 126)), .ref (b + (n + 138)), .null]))) (fun E_51 => lt1 (va_up E_51 (n + 142) (.inr (1, [.int 0]))) (fun E_53 => lt1 (eX1_init X b (n + 142)  (n + 143) E_53) (fun E_54 => lt1 (va_up E_54 o (.inr (10, [.ref (b + (n + 19)), .ref (b + (n + 21)), .ref (b + n), .ref (b + (n + 27)), .ref (b + (n + 32)), .ref (b + (n + 37)), .ref (b + (n + 6)), .ref (b + (n + 119)), .ref (b + (n + 124)), .ref (b + (n + 126)), .ref (b + (n + 138)), .ref (b + (n + 142))]))) (fun E_55 => E_55)))))))))))))))))))))))))))))))))))))))))
theorem eX10_init_k {X : Cx} {b o n : Nat} {E : Nat → va_E} {j : Nat} (hj : j ≠ o) (hn : j < n) : eX10_init X b o n E j = E j := by
  unfold eX10_init
  simp only [lt1]
  refine (va_up_ne _ _ (by omega)).trans ?_
  refine (eX1_init_k (by omega) (by omega)).trans ?_
  refine (va_up_ne _ _ (by omega)).trans ?_
  refine (va_up_ne _ _ (by omega)).trans ?_
  refine (eX2_init_k (by omega) (by omega)).trans ?_
  refine (va_up_ne _ _ (by omega)).trans ?_
  refine (va_up_ne _ _ (by omega)).trans ?_
  refine (eX9_init_k (by omega) (by omega)).trans ?_
  refine (va_up_ne _ _ (by omega)).trans ?_
  refine (va_up_ne _ _ (by omega)).trans ?_
  refine (eX0_init_k (by omega) (by omega)).trans ?_
  refine (va_up_ne _ _ (by omega)).trans ?_
  refine (va_up_ne _ _ (by omega)).trans ?_
  refine (eX5_init_k (by omega) (by omega)).trans ?_
  refine (va_up_ne _ _ (by omega)).trans ?_
  refine (va_up_ne _ _ (by omega)).trans ?_
  refine (va_up_ne _ _ (by omega)).trans ?_
  refine (eX6_init_k (by omega) (by omega)).trans ?_
  refine (va_up_ne _ _ (by omega)).trans ?_
  refine (va_up_ne _ _ (by omega)).trans ?_
  refine (eX3_init_k (by omega) (by omega)).trans ?_
  refine (va_up_ne _ _ (by omega)).trans ?_
  refine (va_up_ne _ _ (by omega)).trans ?_
  refine (eX3_init_k (by omega) (by omega)).trans ?_
  refine (va_up_ne _ _ (by omega)).trans ?_
  refine (va_up_ne _ _ (by omega)).trans ?_
  refine (va_up_ne _ _ (by omega)).trans ?_
  refine (eX8_init_k (by omega) (by omega)).trans ?_
  refine (va_up_ne _ _ (by omega)).trans ?_
  refine (va_up_ne _ _ (by omega)).trans ?_
  refine (eX7_init_k (by omega) (by omega)).trans ?_
  refine (va_up_ne _ _ (by omega)).trans ?_
  refine (va_up_ne _ _ (by omega)).trans ?_
  refine (eX4_init_k (by omega) (by omega)).trans ?_
  refine (va_up_ne _ _ (by omega)).trans ?_
  refine (va_up_ne _ _ (by omega)).trans ?_
  refine (eX4_init_k (by omega) (by omega)).trans ?_
  refine (va_up_ne _ _ (by omega)).trans ?_
  refine (va_up_ne _ _ (by omega)).trans ?_
  refine (eX8_init_k (by omega) (by omega)).trans ?_
  refine (va_up_ne _ _ (by omega)).trans ?_
  rfl
theorem eX10_init_s {X : Cx} {b o n : Nat} {E : Nat → va_E} (ho : o < n) : eX10_init X b o n E o = .inr (10, [.ref (b + (n + 19)), .ref (b + (n + 21)), .ref (b + n), .ref (b + (n + 27)), .ref (b + (n + 32)), .ref (b + (n + 37)), .ref (b + (n + 6)), .ref (b + (n + 119)), .ref (b + (n + 124)), .ref (b + (n + 126)), .ref (b + (n + 138)), .ref (b + (n + 142))]) := by
  unfold eX10_init
  simp only [lt1]
  exact va_up_self _ _ _
theorem mdX10_init : MD yX10_init 0 := ⟨by decide +kernel, by decide +kernel, by decide +kernel⟩
set_option maxHeartbeats 4000000 in
set_option maxRecDepth 100000 in
theorem kX10_init (l : Launch) (X : Cx) (b o n : Nat) (E : Nat → va_E) (ho : o < n) (he_o : E o = .inr (10, [.null, .null, .null, .null, .null, .null, .null, .null, .null, .null, .null, .null])) : CI l X b yX10_init cX10_init 4 3 67 143 5296 [.ref (b + o)] n E (n + 143) (eX10_init X b o n E) := by
  obtain ⟨E', hrun⟩ : ∃ z, eX10_init X b o n E = z := ⟨_, rfl⟩
  rw [hrun]
  refine CI_of (by decide) rfl (Nat.le_of_ble_eq_true rfl) ?_
  intro p e s m args below meth c Q B hin hret hS ls hl
  have hx := B.1
  have hb := B.2.1
  have hown := B.2.2.2.1
  have hts := B.2.2.2.2.1
  have hl : lv_has ls 4 [(0, .ref (b + o))] := hl
  unfold eX10_init at hrun
  refine lv_aload_n hx hb dX10_init_0 rfl (lv_at hl 0 rfl) ?_
  refine W.objInit hx hb hown (hts _ (tw_1 21 rfl rfl)) (hts _ (tw_1 22 rfl rfl)) (hts _ (tw_1 23 rfl rfl)) rfl (hl.1.trans B.2.2.1.symm) rfl dX10_init_1 (Nat.le_of_ble_eq_true rfl) (Nat.le_of_ble_eq_true rfl) ?_
  refine W.eq (g2 := F0 m 4 ls []) rfl ?_
  refine s_new (ci := 8) (fs := [.int 0, .int 0, .int 0, .int 0, .int 0, .null, .null, .null, .null, .null]) B hS layX8 tyX8 tyX8_ok (tw_1 24 rfl rfl) (tw_1 25 rfl rfl) (tw_1 2 rfl rfl) rfl (fun j hj => by rcases (show j = 0 ∨ j = 1 ∨ j = 2 ∨ j = 3 ∨ j = 4 ∨ j = 5 ∨ j = 6 ∨ j = 7 ∨ j = 8 ∨ j = 9 by omega) with rfl | rfl | rfl | rfl | rfl | rfl | rfl | rfl | rfl | rfl <;> rfl) (Nat.le_of_ble_eq_true rfl) (Nat.le_of_ble_eq_true rfl) dX10_init_4 (fun H hS => ?_)
  obtain ⟨E_2, eE, hrun⟩ := ltE hrun
  have hS : SP X b (n + 1) E_2 s.heap H [] := by rw [eE]; exact hS
  have he_o : E_2 o = .inr (10, [.null, .null, .null, .null, .null, .null, .null, .null, .null, .null, .null, .null]) := by rw [eE]; exact (va_up_ne _ _ (by omega)).trans he_o
  have he_1 : E_2 n = .inr (8, [.int 0, .int 0, .int 0, .int 0, .int 0, .null, .null, .null, .null, .null]) := by rw [eE]; exact va_up_self _ _ _
  clear eE
  refine lv_dup hx hb dX10_init_7 rfl ?_
  refine sIN B hS (kX8_init l X b n  (n + 1) E_2 (by omega) he_1) (host := "SongSquares") (List.mem_of_getElem? (i := 0) rfl) (tw_1 27 rfl rfl) (tw_1 2 rfl rfl) (tw_1 28 rfl rfl) rfl mdX8_init rfl hl.1 rfl (Nat.le_of_ble_eq_true rfl) ⟨Nat.le_of_ble_eq_true rfl, Nat.le_of_ble_eq_true rfl⟩ ⟨Nat.le_of_ble_eq_true rfl, Nat.le_of_ble_eq_true rfl⟩ dX10_init_8 (fun H locs hS => ?_)
  obtain ⟨E_3, eE, hrun⟩ := ltE hrun
  have hS : SP X b (n + 6) E_3 s.heap H locs := by rw [eE]; exact hS
  have he_o : E_3 o = .inr (10, [.null, .null, .null, .null, .null, .null, .null, .null, .null, .null, .null, .null]) := by rw [eE]; exact (eX8_init_k (by omega) (by omega)).trans he_o
  have he_1 : E_3 n = .inr (8, [.int 0, .int 0, .int 0, .int 0, .int 0, .ref (b + (n + 1)), .ref (b + (n + 2)), .ref (b + (n + 3)), .ref (b + (n + 4)), .ref (b + (n + 5))]) := by rw [eE]; exact eX8_init_s (by omega)
  clear eE
  refine lv_astore_n (lv' := [(1, .ref (b + n)), (0, .ref (b + o))]) hx hb dX10_init_11 rfl hl (by decide) rfl (fun ls hl => ?_)
  refine lv_iconst (v := 2) hx hb dX10_init_12 (by decide) ?_
  refine s_newq (k0 := 3) B hS (tw_1 87 rfl rfl) B.2.2.2.2.2.2.2.2.1 rfl (N' := 2) (by decide) rfl (by decide) (Nat.le_of_ble_eq_true rfl) (Nat.le_of_ble_eq_true rfl) dX10_init_13 (fun H hS => ?_)
  obtain ⟨E_5, eE, hrun⟩ := ltE hrun
  have hS : SP X b (n + 7) E_5 s.heap H locs := by rw [eE]; exact hS
  have he_o : E_5 o = .inr (10, [.null, .null, .null, .null, .null, .null, .null, .null, .null, .null, .null, .null]) := by rw [eE]; exact (va_up_ne _ _ (by omega)).trans he_o
  have he_1 : E_5 n = .inr (8, [.int 0, .int 0, .int 0, .int 0, .int 0, .ref (b + (n + 1)), .ref (b + (n + 2)), .ref (b + (n + 3)), .ref (b + (n + 4)), .ref (b + (n + 5))]) := by rw [eE]; exact (va_up_ne _ _ (by omega)).trans he_1
  have he_4 : E_5 (n + 6) = qA X 2 (fun _ => none) 3 := by rw [eE]; exact va_up_self _ _ _
  clear eE
  refine lv_astore_n (lv' := [(2, .ref (b + (n + 6))), (1, .ref (b + n)), (0, .ref (b + o))]) hx hb dX10_init_16 rfl hl (by decide) rfl (fun ls hl => ?_)
  refine lv_iconst (v := 0) hx hb dX10_init_17 (by decide) ?_
  refine lv_istore_n (lv' := [(3, .int (0 : Int32)), (2, .ref (b + (n + 6))), (1, .ref (b + n)), (0, .ref (b + o))]) hx hb dX10_init_18 rfl hl (by decide) rfl (fun ls hl => ?_)
  refine lv_iload_n hx hb dX10_init_19 rfl (lv_at hl 0 rfl) ?_
  refine lv_iconst (v := 2) hx hb dX10_init_20 (by decide) ?_
  refine lv_icmp_ge (tgt := 41) hx hb dX10_init_21 (by decide) (fun hc => absurd hc (by decide)) (fun hc => ?_)
  refine lv_aload_n hx hb dX10_init_24 rfl (lv_at hl 1 rfl) ?_
  refine lv_iload_n hx hb dX10_init_25 rfl (lv_at hl 0 rfl) ?_
  refine s_new (ci := 4) (fs := [.null, .int 0, .int 0]) B hS layX4 tyX4 tyX4_ok (tw_1 87 rfl rfl) (tw_1 89 rfl rfl) (tw_1 3 rfl rfl) rfl (fun j hj => by rcases (show j = 0 ∨ j = 1 ∨ j = 2 by omega) with rfl | rfl | rfl <;> rfl) (Nat.le_of_ble_eq_true rfl) (Nat.le_of_ble_eq_true rfl) dX10_init_26 (fun H hS => ?_)
  obtain ⟨E_7, eE, hrun⟩ := ltE hrun
  have hS : SP X b (n + 8) E_7 s.heap H locs := by rw [eE]; exact hS
  have he_o : E_7 o = .inr (10, [.null, .null, .null, .null, .null, .null, .null, .null, .null, .null, .null, .null]) := by rw [eE]; exact (va_up_ne _ _ (by omega)).trans he_o
  have he_1 : E_7 n = .inr (8, [.int 0, .int 0, .int 0, .int 0, .int 0, .ref (b + (n + 1)), .ref (b + (n + 2)), .ref (b + (n + 3)), .ref (b + (n + 4)), .ref (b + (n + 5))]) := by rw [eE]; exact (va_up_ne _ _ (by omega)).trans he_1
  have he_4 : E_7 (n + 6) = qA X 2 (fun _ => none) 3 := by rw [eE]; exact (va_up_ne _ _ (by omega)).trans he_4
  have he_6 : E_7 (n + 7) = .inr (4, [.null, .int 0, .int 0]) := by rw [eE]; exact va_up_self _ _ _
  clear eE
  refine lv_dup hx hb dX10_init_29 rfl ?_
  refine lv_aload_n hx hb dX10_init_30 rfl (lv_at hl 2 rfl) ?_
  refine sI B hS (kX4_init l X b (n + 7) (b + n) (n + 8) E_7 (by omega) he_6) (tw_1 90 rfl rfl) (tw_1 91 rfl rfl) (tw_1 3 rfl rfl) (tw_1 92 rfl rfl) rfl mdX4_init rfl hl.1 rfl (Nat.le_of_ble_eq_true rfl) ⟨Nat.le_of_ble_eq_true rfl, Nat.le_of_ble_eq_true rfl⟩ ⟨Nat.le_of_ble_eq_true rfl, Nat.le_of_ble_eq_true rfl⟩ dX10_init_31 (fun H locs hS => ?_)
  obtain ⟨E_8, eE, hrun⟩ := ltE hrun
  have hS : SP X b (n + 13) E_8 s.heap H locs := by rw [eE]; exact hS
  have he_o : E_8 o = .inr (10, [.null, .null, .null, .null, .null, .null, .null, .null, .null, .null, .null, .null]) := by rw [eE]; exact (eX4_init_k (by omega) (by omega)).trans he_o
  have he_1 : E_8 n = .inr (8, [.int 0, .int 0, .int 0, .int 0, .int 0, .ref (b + (n + 1)), .ref (b + (n + 2)), .ref (b + (n + 3)), .ref (b + (n + 4)), .ref (b + (n + 5))]) := by rw [eE]; exact (eX4_init_k (by omega) (by omega)).trans he_1
  have he_4 : E_8 (n + 6) = qA X 2 (fun _ => none) 3 := by rw [eE]; exact (eX4_init_k (by omega) (by omega)).trans he_4
  have he_6 : E_8 (n + 7) = .inr (4, [.ref (b + (n + 8)), .int (0 : Int32), .int (0 : Int32)]) := by rw [eE]; exact eX4_init_s (by omega)
  clear eE
  refine s_ast (k0 := 3) B hS (by omega) he_4 rfl (by omega) he_6 rfl (by unfold vp_in; decide) dX10_init_34 (fun H locs hS => ?_)
  obtain ⟨E_9, eE, hrun⟩ := ltE hrun
  have hS : SP X b (n + 13) E_9 s.heap H locs := by rw [eE]; exact hS
  have he_o : E_9 o = .inr (10, [.null, .null, .null, .null, .null, .null, .null, .null, .null, .null, .null, .null]) := by rw [eE]; exact (va_up_ne _ _ (by omega)).trans he_o
  have he_1 : E_9 n = .inr (8, [.int 0, .int 0, .int 0, .int 0, .int 0, .ref (b + (n + 1)), .ref (b + (n + 2)), .ref (b + (n + 3)), .ref (b + (n + 4)), .ref (b + (n + 5))]) := by rw [eE]; exact (va_up_ne _ _ (by omega)).trans he_1
  have he_4 : E_9 (n + 6) = qA X 2 (va_up (fun _ => none) (0 : Int32).toNatClampNeg (some (b + (n + 7)))) 3 := by rw [eE]; exact va_up_self _ _ _
  clear eE
  refine lv_iinc (v := (1 : Int32)) (k := 0) (lv' := [(3, .int (1 : Int32)), (2, .ref (b + (n + 6))), (1, .ref (b + n)), (0, .ref (b + o))]) hx hb dX10_init_35 hl rfl (by decide) (by decide) rfl (fun ls hl => ?_)
  refine lv_goto (tgt := 19) hx hb dX10_init_38 (by decide) ?_
  refine lv_iload_n hx hb dX10_init_19 rfl (lv_at hl 0 rfl) ?_
  refine lv_iconst (v := 2) hx hb dX10_init_20 (by decide) ?_
  refine lv_icmp_ge (tgt := 41) hx hb dX10_init_21 (by decide) (fun hc => absurd hc (by decide)) (fun hc => ?_)
  refine lv_aload_n hx hb dX10_init_24 rfl (lv_at hl 1 rfl) ?_
  refine lv_iload_n hx hb dX10_init_25 rfl (lv_at hl 0 rfl) ?_
  refine s_new (ci := 4) (fs := [.null, .int 0, .int 0]) B hS layX4 tyX4 tyX4_ok (tw_1 87 rfl rfl) (tw_1 89 rfl rfl) (tw_1 3 rfl rfl) rfl (fun j hj => by rcases (show j = 0 ∨ j = 1 ∨ j = 2 by omega) with rfl | rfl | rfl <;> rfl) (Nat.le_of_ble_eq_true rfl) (Nat.le_of_ble_eq_true rfl) dX10_init_26 (fun H hS => ?_)
  obtain ⟨E_11, eE, hrun⟩ := ltE hrun
  have hS : SP X b (n + 14) E_11 s.heap H locs := by rw [eE]; exact hS
  have he_o : E_11 o = .inr (10, [.null, .null, .null, .null, .null, .null, .null, .null, .null, .null, .null, .null]) := by rw [eE]; exact (va_up_ne _ _ (by omega)).trans he_o
  have he_1 : E_11 n = .inr (8, [.int 0, .int 0, .int 0, .int 0, .int 0, .ref (b + (n + 1)), .ref (b + (n + 2)), .ref (b + (n + 3)), .ref (b + (n + 4)), .ref (b + (n + 5))]) := by rw [eE]; exact (va_up_ne _ _ (by omega)).trans he_1
  have he_4 : E_11 (n + 6) = qA X 2 (va_up (fun _ => none) (0 : Int32).toNatClampNeg (some (b + (n + 7)))) 3 := by rw [eE]; exact (va_up_ne _ _ (by omega)).trans he_4
  have he_10 : E_11 (n + 13) = .inr (4, [.null, .int 0, .int 0]) := by rw [eE]; exact va_up_self _ _ _
  clear eE
  refine lv_dup hx hb dX10_init_29 rfl ?_
  refine lv_aload_n hx hb dX10_init_30 rfl (lv_at hl 2 rfl) ?_
  refine sI B hS (kX4_init l X b (n + 13) (b + n) (n + 14) E_11 (by omega) he_10) (tw_1 90 rfl rfl) (tw_1 91 rfl rfl) (tw_1 3 rfl rfl) (tw_1 92 rfl rfl) rfl mdX4_init rfl hl.1 rfl (Nat.le_of_ble_eq_true rfl) ⟨Nat.le_of_ble_eq_true rfl, Nat.le_of_ble_eq_true rfl⟩ ⟨Nat.le_of_ble_eq_true rfl, Nat.le_of_ble_eq_true rfl⟩ dX10_init_31 (fun H locs hS => ?_)
  obtain ⟨E_12, eE, hrun⟩ := ltE hrun
  have hS : SP X b (n + 19) E_12 s.heap H locs := by rw [eE]; exact hS
  have he_o : E_12 o = .inr (10, [.null, .null, .null, .null, .null, .null, .null, .null, .null, .null, .null, .null]) := by rw [eE]; exact (eX4_init_k (by omega) (by omega)).trans he_o
  have he_1 : E_12 n = .inr (8, [.int 0, .int 0, .int 0, .int 0, .int 0, .ref (b + (n + 1)), .ref (b + (n + 2)), .ref (b + (n + 3)), .ref (b + (n + 4)), .ref (b + (n + 5))]) := by rw [eE]; exact (eX4_init_k (by omega) (by omega)).trans he_1
  have he_4 : E_12 (n + 6) = qA X 2 (va_up (fun _ => none) (0 : Int32).toNatClampNeg (some (b + (n + 7)))) 3 := by rw [eE]; exact (eX4_init_k (by omega) (by omega)).trans he_4
  have he_10 : E_12 (n + 13) = .inr (4, [.ref (b + (n + 14)), .int (0 : Int32), .int (0 : Int32)]) := by rw [eE]; exact eX4_init_s (by omega)
  clear eE
  refine s_ast (k0 := 3) B hS (by omega) he_4 rfl (by omega) he_10 rfl (by unfold vp_in; decide) dX10_init_34 (fun H locs hS => ?_)
  obtain ⟨E_13, eE, hrun⟩ := ltE hrun
  have hS : SP X b (n + 19) E_13 s.heap H locs := by rw [eE]; exact hS
  have he_o : E_13 o = .inr (10, [.null, .null, .null, .null, .null, .null, .null, .null, .null, .null, .null, .null]) := by rw [eE]; exact (va_up_ne _ _ (by omega)).trans he_o
  have he_1 : E_13 n = .inr (8, [.int 0, .int 0, .int 0, .int 0, .int 0, .ref (b + (n + 1)), .ref (b + (n + 2)), .ref (b + (n + 3)), .ref (b + (n + 4)), .ref (b + (n + 5))]) := by rw [eE]; exact (va_up_ne _ _ (by omega)).trans he_1
  have he_4 : E_13 (n + 6) = qA X 2 (va_up (va_up (fun _ => none) (0 : Int32).toNatClampNeg (some (b + (n + 7)))) (1 : Int32).toNatClampNeg (some (b + (n + 13)))) 3 := by rw [eE]; exact va_up_self _ _ _
  clear eE
  refine lv_iinc (v := (2 : Int32)) (k := 0) (lv' := [(3, .int (2 : Int32)), (2, .ref (b + (n + 6))), (1, .ref (b + n)), (0, .ref (b + o))]) hx hb dX10_init_35 hl rfl (by decide) (by decide) rfl (fun ls hl => ?_)
  refine lv_goto (tgt := 19) hx hb dX10_init_38 (by decide) ?_
  refine lv_iload_n hx hb dX10_init_19 rfl (lv_at hl 0 rfl) ?_
  refine lv_iconst (v := 2) hx hb dX10_init_20 (by decide) ?_
  refine lv_icmp_ge (tgt := 41) hx hb dX10_init_21 (by decide) (fun hc => ?_) (fun hc => absurd (by decide) hc)
  refine lv_aload_n hx hb dX10_init_41 rfl (lv_at hl 3 rfl) ?_
  refine s_new (ci := 7) (fs := [.null, .int 0, .int 0, .int 0, .int 0]) B hS layX7 tyX7 tyX7_ok (tw_1 152 rfl rfl) (tw_1 153 rfl rfl) (tw_1 5 rfl rfl) rfl (fun j hj => by rcases (show j = 0 ∨ j = 1 ∨ j = 2 ∨ j = 3 ∨ j = 4 by omega) with rfl | rfl | rfl | rfl | rfl <;> rfl) (Nat.le_of_ble_eq_true rfl) (Nat.le_of_ble_eq_true rfl) dX10_init_42 (fun H hS => ?_)
  obtain ⟨E_15, eE, hrun⟩ := ltE hrun
  have hS : SP X b (n + 20) E_15 s.heap H locs := by rw [eE]; exact hS
  have he_o : E_15 o = .inr (10, [.null, .null, .null, .null, .null, .null, .null, .null, .null, .null, .null, .null]) := by rw [eE]; exact (va_up_ne _ _ (by omega)).trans he_o
  have he_1 : E_15 n = .inr (8, [.int 0, .int 0, .int 0, .int 0, .int 0, .ref (b + (n + 1)), .ref (b + (n + 2)), .ref (b + (n + 3)), .ref (b + (n + 4)), .ref (b + (n + 5))]) := by rw [eE]; exact (va_up_ne _ _ (by omega)).trans he_1
  have he_4 : E_15 (n + 6) = qA X 2 (va_up (va_up (fun _ => none) (0 : Int32).toNatClampNeg (some (b + (n + 7)))) (1 : Int32).toNatClampNeg (some (b + (n + 13)))) 3 := by rw [eE]; exact (va_up_ne _ _ (by omega)).trans he_4
  have he_14 : E_15 (n + 19) = .inr (7, [.null, .int 0, .int 0, .int 0, .int 0]) := by rw [eE]; exact va_up_self _ _ _
  clear eE
  refine lv_dup hx hb dX10_init_45 rfl ?_
  refine sIN B hS (kX7_init l X b (n + 19)  (n + 20) E_15 (by omega) he_14) (host := "SongSquares") (List.mem_of_getElem? (i := 40) rfl) (tw_1 155 rfl rfl) (tw_1 5 rfl rfl) (tw_1 156 rfl rfl) rfl mdX7_init rfl hl.1 rfl (Nat.le_of_ble_eq_true rfl) ⟨Nat.le_of_ble_eq_true rfl, Nat.le_of_ble_eq_true rfl⟩ ⟨Nat.le_of_ble_eq_true rfl, Nat.le_of_ble_eq_true rfl⟩ dX10_init_46 (fun H locs hS => ?_)
  obtain ⟨E_16, eE, hrun⟩ := ltE hrun
  have hS : SP X b (n + 21) E_16 s.heap H locs := by rw [eE]; exact hS
  have he_o : E_16 o = .inr (10, [.null, .null, .null, .null, .null, .null, .null, .null, .null, .null, .null, .null]) := by rw [eE]; exact (eX7_init_k (by omega) (by omega)).trans he_o
  have he_1 : E_16 n = .inr (8, [.int 0, .int 0, .int 0, .int 0, .int 0, .ref (b + (n + 1)), .ref (b + (n + 2)), .ref (b + (n + 3)), .ref (b + (n + 4)), .ref (b + (n + 5))]) := by rw [eE]; exact (eX7_init_k (by omega) (by omega)).trans he_1
  have he_4 : E_16 (n + 6) = qA X 2 (va_up (va_up (fun _ => none) (0 : Int32).toNatClampNeg (some (b + (n + 7)))) (1 : Int32).toNatClampNeg (some (b + (n + 13)))) 3 := by rw [eE]; exact (eX7_init_k (by omega) (by omega)).trans he_4
  have he_14 : E_16 (n + 19) = .inr (7, [.ref (b + (n + 20)), .int (0 : Int32), .int (0 : Int32), .int (0 : Int32), .int (-1 : Int32)]) := by rw [eE]; exact eX7_init_s (by omega)
  clear eE
  refine s_put B hS hin layX10 tyX10 tyX10_ok nmX10 (by omega) he_o rfl 0 (by decide) (tw_2 64 rfl rfl) rfl rfl rfl rfl rfl (Nat.le_of_ble_eq_true rfl) dX10_init_49 (fun H locs hS => ?_)
  obtain ⟨E_17, eE, hrun⟩ := ltE hrun
  have hS : SP X b (n + 21) E_17 s.heap H locs := by rw [eE]; exact hS
  have he_1 : E_17 n = .inr (8, [.int 0, .int 0, .int 0, .int 0, .int 0, .ref (b + (n + 1)), .ref (b + (n + 2)), .ref (b + (n + 3)), .ref (b + (n + 4)), .ref (b + (n + 5))]) := by rw [eE]; exact (va_up_ne _ _ (by omega)).trans he_1
  have he_4 : E_17 (n + 6) = qA X 2 (va_up (va_up (fun _ => none) (0 : Int32).toNatClampNeg (some (b + (n + 7)))) (1 : Int32).toNatClampNeg (some (b + (n + 13)))) 3 := by rw [eE]; exact (va_up_ne _ _ (by omega)).trans he_4
  have he_14 : E_17 (n + 19) = .inr (7, [.ref (b + (n + 20)), .int (0 : Int32), .int (0 : Int32), .int (0 : Int32), .int (-1 : Int32)]) := by rw [eE]; exact (va_up_ne _ _ (by omega)).trans he_14
  have he_o : E_17 o = .inr (10, [.ref (b + (n + 19)), .null, .null, .null, .null, .null, .null, .null, .null, .null, .null, .null]) := by rw [eE]; exact va_up_self _ _ _
  clear eE
  refine lv_aload_n hx hb dX10_init_52 rfl (lv_at hl 3 rfl) ?_
  refine s_new (ci := 8) (fs := [.int 0, .int 0, .int 0, .int 0, .int 0, .null, .null, .null, .null, .null]) B hS layX8 tyX8 tyX8_ok (tw_1 24 rfl rfl) (tw_1 25 rfl rfl) (tw_1 2 rfl rfl) rfl (fun j hj => by rcases (show j = 0 ∨ j = 1 ∨ j = 2 ∨ j = 3 ∨ j = 4 ∨ j = 5 ∨ j = 6 ∨ j = 7 ∨ j = 8 ∨ j = 9 by omega) with rfl | rfl | rfl | rfl | rfl | rfl | rfl | rfl | rfl | rfl <;> rfl) (Nat.le_of_ble_eq_true rfl) (Nat.le_of_ble_eq_true rfl) dX10_init_53 (fun H hS => ?_)
  obtain ⟨E_19, eE, hrun⟩ := ltE hrun
  have hS : SP X b (n + 22) E_19 s.heap H locs := by rw [eE]; exact hS
  have he_o : E_19 o = .inr (10, [.ref (b + (n + 19)), .null, .null, .null, .null, .null, .null, .null, .null, .null, .null, .null]) := by rw [eE]; exact (va_up_ne _ _ (by omega)).trans he_o
  have he_1 : E_19 n = .inr (8, [.int 0, .int 0, .int 0, .int 0, .int 0, .ref (b + (n + 1)), .ref (b + (n + 2)), .ref (b + (n + 3)), .ref (b + (n + 4)), .ref (b + (n + 5))]) := by rw [eE]; exact (va_up_ne _ _ (by omega)).trans he_1
  have he_4 : E_19 (n + 6) = qA X 2 (va_up (va_up (fun _ => none) (0 : Int32).toNatClampNeg (some (b + (n + 7)))) (1 : Int32).toNatClampNeg (some (b + (n + 13)))) 3 := by rw [eE]; exact (va_up_ne _ _ (by omega)).trans he_4
  have he_14 : E_19 (n + 19) = .inr (7, [.ref (b + (n + 20)), .int (0 : Int32), .int (0 : Int32), .int (0 : Int32), .int (-1 : Int32)]) := by rw [eE]; exact (va_up_ne _ _ (by omega)).trans he_14
  have he_18 : E_19 (n + 21) = .inr (8, [.int 0, .int 0, .int 0, .int 0, .int 0, .null, .null, .null, .null, .null]) := by rw [eE]; exact va_up_self _ _ _
  clear eE
  refine lv_dup hx hb dX10_init_56 rfl ?_
  refine sIN B hS (kX8_init l X b (n + 21)  (n + 22) E_19 (by omega) he_18) (host := "SongSquares") (List.mem_of_getElem? (i := 0) rfl) (tw_1 27 rfl rfl) (tw_1 2 rfl rfl) (tw_1 28 rfl rfl) rfl mdX8_init rfl hl.1 rfl (Nat.le_of_ble_eq_true rfl) ⟨Nat.le_of_ble_eq_true rfl, Nat.le_of_ble_eq_true rfl⟩ ⟨Nat.le_of_ble_eq_true rfl, Nat.le_of_ble_eq_true rfl⟩ dX10_init_57 (fun H locs hS => ?_)
  obtain ⟨E_20, eE, hrun⟩ := ltE hrun
  have hS : SP X b (n + 27) E_20 s.heap H locs := by rw [eE]; exact hS
  have he_o : E_20 o = .inr (10, [.ref (b + (n + 19)), .null, .null, .null, .null, .null, .null, .null, .null, .null, .null, .null]) := by rw [eE]; exact (eX8_init_k (by omega) (by omega)).trans he_o
  have he_1 : E_20 n = .inr (8, [.int 0, .int 0, .int 0, .int 0, .int 0, .ref (b + (n + 1)), .ref (b + (n + 2)), .ref (b + (n + 3)), .ref (b + (n + 4)), .ref (b + (n + 5))]) := by rw [eE]; exact (eX8_init_k (by omega) (by omega)).trans he_1
  have he_4 : E_20 (n + 6) = qA X 2 (va_up (va_up (fun _ => none) (0 : Int32).toNatClampNeg (some (b + (n + 7)))) (1 : Int32).toNatClampNeg (some (b + (n + 13)))) 3 := by rw [eE]; exact (eX8_init_k (by omega) (by omega)).trans he_4
  have he_14 : E_20 (n + 19) = .inr (7, [.ref (b + (n + 20)), .int (0 : Int32), .int (0 : Int32), .int (0 : Int32), .int (-1 : Int32)]) := by rw [eE]; exact (eX8_init_k (by omega) (by omega)).trans he_14
  have he_18 : E_20 (n + 21) = .inr (8, [.int 0, .int 0, .int 0, .int 0, .int 0, .ref (b + (n + 22)), .ref (b + (n + 23)), .ref (b + (n + 24)), .ref (b + (n + 25)), .ref (b + (n + 26))]) := by rw [eE]; exact eX8_init_s (by omega)
  clear eE
  refine s_put B hS hin layX10 tyX10 tyX10_ok nmX10 (by omega) he_o rfl 1 (by decide) (tw_2 65 rfl rfl) rfl rfl rfl rfl rfl (Nat.le_of_ble_eq_true rfl) dX10_init_60 (fun H locs hS => ?_)
  obtain ⟨E_21, eE, hrun⟩ := ltE hrun
  have hS : SP X b (n + 27) E_21 s.heap H locs := by rw [eE]; exact hS
  have he_1 : E_21 n = .inr (8, [.int 0, .int 0, .int 0, .int 0, .int 0, .ref (b + (n + 1)), .ref (b + (n + 2)), .ref (b + (n + 3)), .ref (b + (n + 4)), .ref (b + (n + 5))]) := by rw [eE]; exact (va_up_ne _ _ (by omega)).trans he_1
  have he_4 : E_21 (n + 6) = qA X 2 (va_up (va_up (fun _ => none) (0 : Int32).toNatClampNeg (some (b + (n + 7)))) (1 : Int32).toNatClampNeg (some (b + (n + 13)))) 3 := by rw [eE]; exact (va_up_ne _ _ (by omega)).trans he_4
  have he_14 : E_21 (n + 19) = .inr (7, [.ref (b + (n + 20)), .int (0 : Int32), .int (0 : Int32), .int (0 : Int32), .int (-1 : Int32)]) := by rw [eE]; exact (va_up_ne _ _ (by omega)).trans he_14
  have he_18 : E_21 (n + 21) = .inr (8, [.int 0, .int 0, .int 0, .int 0, .int 0, .ref (b + (n + 22)), .ref (b + (n + 23)), .ref (b + (n + 24)), .ref (b + (n + 25)), .ref (b + (n + 26))]) := by rw [eE]; exact (va_up_ne _ _ (by omega)).trans he_18
  have he_o : E_21 o = .inr (10, [.ref (b + (n + 19)), .ref (b + (n + 21)), .null, .null, .null, .null, .null, .null, .null, .null, .null, .null]) := by rw [eE]; exact va_up_self _ _ _
  clear eE
  refine lv_aload_n hx hb dX10_init_63 rfl (lv_at hl 3 rfl) ?_
  refine lv_aload_n hx hb dX10_init_64 rfl (lv_at hl 2 rfl) ?_
  refine s_put B hS hin layX10 tyX10 tyX10_ok nmX10 (by omega) he_o rfl 2 (by decide) (tw_2 66 rfl rfl) rfl rfl rfl rfl rfl (Nat.le_of_ble_eq_true rfl) dX10_init_65 (fun H locs hS => ?_)
  obtain ⟨E_22, eE, hrun⟩ := ltE hrun
  have hS : SP X b (n + 27) E_22 s.heap H locs := by rw [eE]; exact hS
  have he_1 : E_22 n = .inr (8, [.int 0, .int 0, .int 0, .int 0, .int 0, .ref (b + (n + 1)), .ref (b + (n + 2)), .ref (b + (n + 3)), .ref (b + (n + 4)), .ref (b + (n + 5))]) := by rw [eE]; exact (va_up_ne _ _ (by omega)).trans he_1
  have he_4 : E_22 (n + 6) = qA X 2 (va_up (va_up (fun _ => none) (0 : Int32).toNatClampNeg (some (b + (n + 7)))) (1 : Int32).toNatClampNeg (some (b + (n + 13)))) 3 := by rw [eE]; exact (va_up_ne _ _ (by omega)).trans he_4
  have he_14 : E_22 (n + 19) = .inr (7, [.ref (b + (n + 20)), .int (0 : Int32), .int (0 : Int32), .int (0 : Int32), .int (-1 : Int32)]) := by rw [eE]; exact (va_up_ne _ _ (by omega)).trans he_14
  have he_18 : E_22 (n + 21) = .inr (8, [.int 0, .int 0, .int 0, .int 0, .int 0, .ref (b + (n + 22)), .ref (b + (n + 23)), .ref (b + (n + 24)), .ref (b + (n + 25)), .ref (b + (n + 26))]) := by rw [eE]; exact (va_up_ne _ _ (by omega)).trans he_18
  have he_o : E_22 o = .inr (10, [.ref (b + (n + 19)), .ref (b + (n + 21)), .ref (b + n), .null, .null, .null, .null, .null, .null, .null, .null, .null]) := by rw [eE]; exact va_up_self _ _ _
  clear eE
  refine lv_aload_n hx hb dX10_init_68 rfl (lv_at hl 3 rfl) ?_
  refine s_new (ci := 3) (fs := [.null, .int 0, .int 0, .int 0, .int 0, .null, .null, .null, .null]) B hS layX3 tyX3 tyX3_ok (tw_1 176 rfl rfl) (tw_1 95 rfl rfl) (tw_1 4 rfl rfl) rfl (fun j hj => by rcases (show j = 0 ∨ j = 1 ∨ j = 2 ∨ j = 3 ∨ j = 4 ∨ j = 5 ∨ j = 6 ∨ j = 7 ∨ j = 8 by omega) with rfl | rfl | rfl | rfl | rfl | rfl | rfl | rfl | rfl <;> rfl) (Nat.le_of_ble_eq_true rfl) (Nat.le_of_ble_eq_true rfl) dX10_init_69 (fun H hS => ?_)
  obtain ⟨E_24, eE, hrun⟩ := ltE hrun
  have hS : SP X b (n + 28) E_24 s.heap H locs := by rw [eE]; exact hS
  have he_o : E_24 o = .inr (10, [.ref (b + (n + 19)), .ref (b + (n + 21)), .ref (b + n), .null, .null, .null, .null, .null, .null, .null, .null, .null]) := by rw [eE]; exact (va_up_ne _ _ (by omega)).trans he_o
  have he_1 : E_24 n = .inr (8, [.int 0, .int 0, .int 0, .int 0, .int 0, .ref (b + (n + 1)), .ref (b + (n + 2)), .ref (b + (n + 3)), .ref (b + (n + 4)), .ref (b + (n + 5))]) := by rw [eE]; exact (va_up_ne _ _ (by omega)).trans he_1
  have he_4 : E_24 (n + 6) = qA X 2 (va_up (va_up (fun _ => none) (0 : Int32).toNatClampNeg (some (b + (n + 7)))) (1 : Int32).toNatClampNeg (some (b + (n + 13)))) 3 := by rw [eE]; exact (va_up_ne _ _ (by omega)).trans he_4
  have he_14 : E_24 (n + 19) = .inr (7, [.ref (b + (n + 20)), .int (0 : Int32), .int (0 : Int32), .int (0 : Int32), .int (-1 : Int32)]) := by rw [eE]; exact (va_up_ne _ _ (by omega)).trans he_14
  have he_18 : E_24 (n + 21) = .inr (8, [.int 0, .int 0, .int 0, .int 0, .int 0, .ref (b + (n + 22)), .ref (b + (n + 23)), .ref (b + (n + 24)), .ref (b + (n + 25)), .ref (b + (n + 26))]) := by rw [eE]; exact (va_up_ne _ _ (by omega)).trans he_18
  have he_23 : E_24 (n + 27) = .inr (3, [.null, .int 0, .int 0, .int 0, .int 0, .null, .null, .null, .null]) := by rw [eE]; exact va_up_self _ _ _
  clear eE
  refine lv_dup hx hb dX10_init_72 rfl ?_
  refine lv_aload_n hx hb dX10_init_73 rfl (lv_at hl 2 rfl) ?_
  refine sI B hS (kX3_init l X b (n + 27) (b + n) (n + 28) E_24 (by omega) he_23) (tw_1 177 rfl rfl) (tw_1 97 rfl rfl) (tw_1 4 rfl rfl) (tw_1 98 rfl rfl) rfl mdX3_init rfl hl.1 rfl (Nat.le_of_ble_eq_true rfl) ⟨Nat.le_of_ble_eq_true rfl, Nat.le_of_ble_eq_true rfl⟩ ⟨Nat.le_of_ble_eq_true rfl, Nat.le_of_ble_eq_true rfl⟩ dX10_init_74 (fun H locs hS => ?_)
  obtain ⟨E_25, eE, hrun⟩ := ltE hrun
  have hS : SP X b (n + 32) E_25 s.heap H locs := by rw [eE]; exact hS
  have he_o : E_25 o = .inr (10, [.ref (b + (n + 19)), .ref (b + (n + 21)), .ref (b + n), .null, .null, .null, .null, .null, .null, .null, .null, .null]) := by rw [eE]; exact (eX3_init_k (by omega) (by omega)).trans he_o
  have he_1 : E_25 n = .inr (8, [.int 0, .int 0, .int 0, .int 0, .int 0, .ref (b + (n + 1)), .ref (b + (n + 2)), .ref (b + (n + 3)), .ref (b + (n + 4)), .ref (b + (n + 5))]) := by rw [eE]; exact (eX3_init_k (by omega) (by omega)).trans he_1
  have he_4 : E_25 (n + 6) = qA X 2 (va_up (va_up (fun _ => none) (0 : Int32).toNatClampNeg (some (b + (n + 7)))) (1 : Int32).toNatClampNeg (some (b + (n + 13)))) 3 := by rw [eE]; exact (eX3_init_k (by omega) (by omega)).trans he_4
  have he_14 : E_25 (n + 19) = .inr (7, [.ref (b + (n + 20)), .int (0 : Int32), .int (0 : Int32), .int (0 : Int32), .int (-1 : Int32)]) := by rw [eE]; exact (eX3_init_k (by omega) (by omega)).trans he_14
  have he_18 : E_25 (n + 21) = .inr (8, [.int 0, .int 0, .int 0, .int 0, .int 0, .ref (b + (n + 22)), .ref (b + (n + 23)), .ref (b + (n + 24)), .ref (b + (n + 25)), .ref (b + (n + 26))]) := by rw [eE]; exact (eX3_init_k (by omega) (by omega)).trans he_18
  have he_23 : E_25 (n + 27) = .inr (3, [.ref (b + n), .int (0 : Int32), .int (0 : Int32), .int (0 : Int32), .int (0 : Int32), .ref (b + (n + 28)), .ref (b + (n + 29)), .ref (b + (n + 30)), .ref (b + (n + 31))]) := by rw [eE]; exact eX3_init_s (by omega)
  clear eE
  refine s_put B hS hin layX10 tyX10 tyX10_ok nmX10 (by omega) he_o rfl 3 (by decide) (tw_2 67 rfl rfl) rfl rfl rfl rfl rfl (Nat.le_of_ble_eq_true rfl) dX10_init_77 (fun H locs hS => ?_)
  obtain ⟨E_26, eE, hrun⟩ := ltE hrun
  have hS : SP X b (n + 32) E_26 s.heap H locs := by rw [eE]; exact hS
  have he_1 : E_26 n = .inr (8, [.int 0, .int 0, .int 0, .int 0, .int 0, .ref (b + (n + 1)), .ref (b + (n + 2)), .ref (b + (n + 3)), .ref (b + (n + 4)), .ref (b + (n + 5))]) := by rw [eE]; exact (va_up_ne _ _ (by omega)).trans he_1
  have he_4 : E_26 (n + 6) = qA X 2 (va_up (va_up (fun _ => none) (0 : Int32).toNatClampNeg (some (b + (n + 7)))) (1 : Int32).toNatClampNeg (some (b + (n + 13)))) 3 := by rw [eE]; exact (va_up_ne _ _ (by omega)).trans he_4
  have he_14 : E_26 (n + 19) = .inr (7, [.ref (b + (n + 20)), .int (0 : Int32), .int (0 : Int32), .int (0 : Int32), .int (-1 : Int32)]) := by rw [eE]; exact (va_up_ne _ _ (by omega)).trans he_14
  have he_18 : E_26 (n + 21) = .inr (8, [.int 0, .int 0, .int 0, .int 0, .int 0, .ref (b + (n + 22)), .ref (b + (n + 23)), .ref (b + (n + 24)), .ref (b + (n + 25)), .ref (b + (n + 26))]) := by rw [eE]; exact (va_up_ne _ _ (by omega)).trans he_18
  have he_23 : E_26 (n + 27) = .inr (3, [.ref (b + n), .int (0 : Int32), .int (0 : Int32), .int (0 : Int32), .int (0 : Int32), .ref (b + (n + 28)), .ref (b + (n + 29)), .ref (b + (n + 30)), .ref (b + (n + 31))]) := by rw [eE]; exact (va_up_ne _ _ (by omega)).trans he_23
  have he_o : E_26 o = .inr (10, [.ref (b + (n + 19)), .ref (b + (n + 21)), .ref (b + n), .ref (b + (n + 27)), .null, .null, .null, .null, .null, .null, .null, .null]) := by rw [eE]; exact va_up_self _ _ _
  clear eE
  refine lv_aload_n hx hb dX10_init_80 rfl (lv_at hl 3 rfl) ?_
  refine s_new (ci := 3) (fs := [.null, .int 0, .int 0, .int 0, .int 0, .null, .null, .null, .null]) B hS layX3 tyX3 tyX3_ok (tw_1 176 rfl rfl) (tw_1 95 rfl rfl) (tw_1 4 rfl rfl) rfl (fun j hj => by rcases (show j = 0 ∨ j = 1 ∨ j = 2 ∨ j = 3 ∨ j = 4 ∨ j = 5 ∨ j = 6 ∨ j = 7 ∨ j = 8 by omega) with rfl | rfl | rfl | rfl | rfl | rfl | rfl | rfl | rfl <;> rfl) (Nat.le_of_ble_eq_true rfl) (Nat.le_of_ble_eq_true rfl) dX10_init_81 (fun H hS => ?_)
  obtain ⟨E_28, eE, hrun⟩ := ltE hrun
  have hS : SP X b (n + 33) E_28 s.heap H locs := by rw [eE]; exact hS
  have he_o : E_28 o = .inr (10, [.ref (b + (n + 19)), .ref (b + (n + 21)), .ref (b + n), .ref (b + (n + 27)), .null, .null, .null, .null, .null, .null, .null, .null]) := by rw [eE]; exact (va_up_ne _ _ (by omega)).trans he_o
  have he_1 : E_28 n = .inr (8, [.int 0, .int 0, .int 0, .int 0, .int 0, .ref (b + (n + 1)), .ref (b + (n + 2)), .ref (b + (n + 3)), .ref (b + (n + 4)), .ref (b + (n + 5))]) := by rw [eE]; exact (va_up_ne _ _ (by omega)).trans he_1
  have he_4 : E_28 (n + 6) = qA X 2 (va_up (va_up (fun _ => none) (0 : Int32).toNatClampNeg (some (b + (n + 7)))) (1 : Int32).toNatClampNeg (some (b + (n + 13)))) 3 := by rw [eE]; exact (va_up_ne _ _ (by omega)).trans he_4
  have he_14 : E_28 (n + 19) = .inr (7, [.ref (b + (n + 20)), .int (0 : Int32), .int (0 : Int32), .int (0 : Int32), .int (-1 : Int32)]) := by rw [eE]; exact (va_up_ne _ _ (by omega)).trans he_14
  have he_18 : E_28 (n + 21) = .inr (8, [.int 0, .int 0, .int 0, .int 0, .int 0, .ref (b + (n + 22)), .ref (b + (n + 23)), .ref (b + (n + 24)), .ref (b + (n + 25)), .ref (b + (n + 26))]) := by rw [eE]; exact (va_up_ne _ _ (by omega)).trans he_18
  have he_23 : E_28 (n + 27) = .inr (3, [.ref (b + n), .int (0 : Int32), .int (0 : Int32), .int (0 : Int32), .int (0 : Int32), .ref (b + (n + 28)), .ref (b + (n + 29)), .ref (b + (n + 30)), .ref (b + (n + 31))]) := by rw [eE]; exact (va_up_ne _ _ (by omega)).trans he_23
  have he_27 : E_28 (n + 32) = .inr (3, [.null, .int 0, .int 0, .int 0, .int 0, .null, .null, .null, .null]) := by rw [eE]; exact va_up_self _ _ _
  clear eE
  refine lv_dup hx hb dX10_init_84 rfl ?_
  refine lv_aload_n hx hb dX10_init_85 rfl (lv_at hl 2 rfl) ?_
  refine sI B hS (kX3_init l X b (n + 32) (b + n) (n + 33) E_28 (by omega) he_27) (tw_1 177 rfl rfl) (tw_1 97 rfl rfl) (tw_1 4 rfl rfl) (tw_1 98 rfl rfl) rfl mdX3_init rfl hl.1 rfl (Nat.le_of_ble_eq_true rfl) ⟨Nat.le_of_ble_eq_true rfl, Nat.le_of_ble_eq_true rfl⟩ ⟨Nat.le_of_ble_eq_true rfl, Nat.le_of_ble_eq_true rfl⟩ dX10_init_86 (fun H locs hS => ?_)
  obtain ⟨E_29, eE, hrun⟩ := ltE hrun
  have hS : SP X b (n + 37) E_29 s.heap H locs := by rw [eE]; exact hS
  have he_o : E_29 o = .inr (10, [.ref (b + (n + 19)), .ref (b + (n + 21)), .ref (b + n), .ref (b + (n + 27)), .null, .null, .null, .null, .null, .null, .null, .null]) := by rw [eE]; exact (eX3_init_k (by omega) (by omega)).trans he_o
  have he_1 : E_29 n = .inr (8, [.int 0, .int 0, .int 0, .int 0, .int 0, .ref (b + (n + 1)), .ref (b + (n + 2)), .ref (b + (n + 3)), .ref (b + (n + 4)), .ref (b + (n + 5))]) := by rw [eE]; exact (eX3_init_k (by omega) (by omega)).trans he_1
  have he_4 : E_29 (n + 6) = qA X 2 (va_up (va_up (fun _ => none) (0 : Int32).toNatClampNeg (some (b + (n + 7)))) (1 : Int32).toNatClampNeg (some (b + (n + 13)))) 3 := by rw [eE]; exact (eX3_init_k (by omega) (by omega)).trans he_4
  have he_14 : E_29 (n + 19) = .inr (7, [.ref (b + (n + 20)), .int (0 : Int32), .int (0 : Int32), .int (0 : Int32), .int (-1 : Int32)]) := by rw [eE]; exact (eX3_init_k (by omega) (by omega)).trans he_14
  have he_18 : E_29 (n + 21) = .inr (8, [.int 0, .int 0, .int 0, .int 0, .int 0, .ref (b + (n + 22)), .ref (b + (n + 23)), .ref (b + (n + 24)), .ref (b + (n + 25)), .ref (b + (n + 26))]) := by rw [eE]; exact (eX3_init_k (by omega) (by omega)).trans he_18
  have he_23 : E_29 (n + 27) = .inr (3, [.ref (b + n), .int (0 : Int32), .int (0 : Int32), .int (0 : Int32), .int (0 : Int32), .ref (b + (n + 28)), .ref (b + (n + 29)), .ref (b + (n + 30)), .ref (b + (n + 31))]) := by rw [eE]; exact (eX3_init_k (by omega) (by omega)).trans he_23
  have he_27 : E_29 (n + 32) = .inr (3, [.ref (b + n), .int (0 : Int32), .int (0 : Int32), .int (0 : Int32), .int (0 : Int32), .ref (b + (n + 33)), .ref (b + (n + 34)), .ref (b + (n + 35)), .ref (b + (n + 36))]) := by rw [eE]; exact eX3_init_s (by omega)
  clear eE
  refine s_put B hS hin layX10 tyX10 tyX10_ok nmX10 (by omega) he_o rfl 4 (by decide) (tw_2 68 rfl rfl) rfl rfl rfl rfl rfl (Nat.le_of_ble_eq_true rfl) dX10_init_89 (fun H locs hS => ?_)
  obtain ⟨E_30, eE, hrun⟩ := ltE hrun
  have hS : SP X b (n + 37) E_30 s.heap H locs := by rw [eE]; exact hS
  have he_1 : E_30 n = .inr (8, [.int 0, .int 0, .int 0, .int 0, .int 0, .ref (b + (n + 1)), .ref (b + (n + 2)), .ref (b + (n + 3)), .ref (b + (n + 4)), .ref (b + (n + 5))]) := by rw [eE]; exact (va_up_ne _ _ (by omega)).trans he_1
  have he_4 : E_30 (n + 6) = qA X 2 (va_up (va_up (fun _ => none) (0 : Int32).toNatClampNeg (some (b + (n + 7)))) (1 : Int32).toNatClampNeg (some (b + (n + 13)))) 3 := by rw [eE]; exact (va_up_ne _ _ (by omega)).trans he_4
  have he_14 : E_30 (n + 19) = .inr (7, [.ref (b + (n + 20)), .int (0 : Int32), .int (0 : Int32), .int (0 : Int32), .int (-1 : Int32)]) := by rw [eE]; exact (va_up_ne _ _ (by omega)).trans he_14
  have he_18 : E_30 (n + 21) = .inr (8, [.int 0, .int 0, .int 0, .int 0, .int 0, .ref (b + (n + 22)), .ref (b + (n + 23)), .ref (b + (n + 24)), .ref (b + (n + 25)), .ref (b + (n + 26))]) := by rw [eE]; exact (va_up_ne _ _ (by omega)).trans he_18
  have he_23 : E_30 (n + 27) = .inr (3, [.ref (b + n), .int (0 : Int32), .int (0 : Int32), .int (0 : Int32), .int (0 : Int32), .ref (b + (n + 28)), .ref (b + (n + 29)), .ref (b + (n + 30)), .ref (b + (n + 31))]) := by rw [eE]; exact (va_up_ne _ _ (by omega)).trans he_23
  have he_27 : E_30 (n + 32) = .inr (3, [.ref (b + n), .int (0 : Int32), .int (0 : Int32), .int (0 : Int32), .int (0 : Int32), .ref (b + (n + 33)), .ref (b + (n + 34)), .ref (b + (n + 35)), .ref (b + (n + 36))]) := by rw [eE]; exact (va_up_ne _ _ (by omega)).trans he_27
  have he_o : E_30 o = .inr (10, [.ref (b + (n + 19)), .ref (b + (n + 21)), .ref (b + n), .ref (b + (n + 27)), .ref (b + (n + 32)), .null, .null, .null, .null, .null, .null, .null]) := by rw [eE]; exact va_up_self _ _ _
  clear eE
  refine lv_aload_n hx hb dX10_init_92 rfl (lv_at hl 3 rfl) ?_
  refine s_new (ci := 6) (fs := [.null, .int 0, .int 0]) B hS layX6 tyX6 tyX6_ok (tw_1 178 rfl rfl) (tw_1 179 rfl rfl) (tw_1 6 rfl rfl) rfl (fun j hj => by rcases (show j = 0 ∨ j = 1 ∨ j = 2 by omega) with rfl | rfl | rfl <;> rfl) (Nat.le_of_ble_eq_true rfl) (Nat.le_of_ble_eq_true rfl) dX10_init_93 (fun H hS => ?_)
  obtain ⟨E_32, eE, hrun⟩ := ltE hrun
  have hS : SP X b (n + 38) E_32 s.heap H locs := by rw [eE]; exact hS
  have he_o : E_32 o = .inr (10, [.ref (b + (n + 19)), .ref (b + (n + 21)), .ref (b + n), .ref (b + (n + 27)), .ref (b + (n + 32)), .null, .null, .null, .null, .null, .null, .null]) := by rw [eE]; exact (va_up_ne _ _ (by omega)).trans he_o
  have he_1 : E_32 n = .inr (8, [.int 0, .int 0, .int 0, .int 0, .int 0, .ref (b + (n + 1)), .ref (b + (n + 2)), .ref (b + (n + 3)), .ref (b + (n + 4)), .ref (b + (n + 5))]) := by rw [eE]; exact (va_up_ne _ _ (by omega)).trans he_1
  have he_4 : E_32 (n + 6) = qA X 2 (va_up (va_up (fun _ => none) (0 : Int32).toNatClampNeg (some (b + (n + 7)))) (1 : Int32).toNatClampNeg (some (b + (n + 13)))) 3 := by rw [eE]; exact (va_up_ne _ _ (by omega)).trans he_4
  have he_14 : E_32 (n + 19) = .inr (7, [.ref (b + (n + 20)), .int (0 : Int32), .int (0 : Int32), .int (0 : Int32), .int (-1 : Int32)]) := by rw [eE]; exact (va_up_ne _ _ (by omega)).trans he_14
  have he_18 : E_32 (n + 21) = .inr (8, [.int 0, .int 0, .int 0, .int 0, .int 0, .ref (b + (n + 22)), .ref (b + (n + 23)), .ref (b + (n + 24)), .ref (b + (n + 25)), .ref (b + (n + 26))]) := by rw [eE]; exact (va_up_ne _ _ (by omega)).trans he_18
  have he_23 : E_32 (n + 27) = .inr (3, [.ref (b + n), .int (0 : Int32), .int (0 : Int32), .int (0 : Int32), .int (0 : Int32), .ref (b + (n + 28)), .ref (b + (n + 29)), .ref (b + (n + 30)), .ref (b + (n + 31))]) := by rw [eE]; exact (va_up_ne _ _ (by omega)).trans he_23
  have he_27 : E_32 (n + 32) = .inr (3, [.ref (b + n), .int (0 : Int32), .int (0 : Int32), .int (0 : Int32), .int (0 : Int32), .ref (b + (n + 33)), .ref (b + (n + 34)), .ref (b + (n + 35)), .ref (b + (n + 36))]) := by rw [eE]; exact (va_up_ne _ _ (by omega)).trans he_27
  have he_31 : E_32 (n + 37) = .inr (6, [.null, .int 0, .int 0]) := by rw [eE]; exact va_up_self _ _ _
  clear eE
  refine lv_dup hx hb dX10_init_96 rfl ?_
  refine lv_aload_n hx hb dX10_init_97 rfl (lv_at hl 2 rfl) ?_
  refine sI B hS (kX6_init l X b (n + 37) (b + n) (n + 38) E_32 (by omega) he_31) (tw_1 180 rfl rfl) (tw_1 181 rfl rfl) (tw_1 6 rfl rfl) (tw_1 182 rfl rfl) rfl mdX6_init rfl hl.1 rfl (Nat.le_of_ble_eq_true rfl) ⟨Nat.le_of_ble_eq_true rfl, Nat.le_of_ble_eq_true rfl⟩ ⟨Nat.le_of_ble_eq_true rfl, Nat.le_of_ble_eq_true rfl⟩ dX10_init_98 (fun H locs hS => ?_)
  obtain ⟨E_33, eE, hrun⟩ := ltE hrun
  have hS : SP X b (n + 119) E_33 s.heap H locs := by rw [eE]; exact hS
  have he_o : E_33 o = .inr (10, [.ref (b + (n + 19)), .ref (b + (n + 21)), .ref (b + n), .ref (b + (n + 27)), .ref (b + (n + 32)), .null, .null, .null, .null, .null, .null, .null]) := by rw [eE]; exact (eX6_init_k (by omega) (by omega)).trans he_o
  have he_1 : E_33 n = .inr (8, [.int 0, .int 0, .int 0, .int 0, .int 0, .ref (b + (n + 1)), .ref (b + (n + 2)), .ref (b + (n + 3)), .ref (b + (n + 4)), .ref (b + (n + 5))]) := by rw [eE]; exact (eX6_init_k (by omega) (by omega)).trans he_1
  have he_4 : E_33 (n + 6) = qA X 2 (va_up (va_up (fun _ => none) (0 : Int32).toNatClampNeg (some (b + (n + 7)))) (1 : Int32).toNatClampNeg (some (b + (n + 13)))) 3 := by rw [eE]; exact (eX6_init_k (by omega) (by omega)).trans he_4
  have he_14 : E_33 (n + 19) = .inr (7, [.ref (b + (n + 20)), .int (0 : Int32), .int (0 : Int32), .int (0 : Int32), .int (-1 : Int32)]) := by rw [eE]; exact (eX6_init_k (by omega) (by omega)).trans he_14
  have he_18 : E_33 (n + 21) = .inr (8, [.int 0, .int 0, .int 0, .int 0, .int 0, .ref (b + (n + 22)), .ref (b + (n + 23)), .ref (b + (n + 24)), .ref (b + (n + 25)), .ref (b + (n + 26))]) := by rw [eE]; exact (eX6_init_k (by omega) (by omega)).trans he_18
  have he_23 : E_33 (n + 27) = .inr (3, [.ref (b + n), .int (0 : Int32), .int (0 : Int32), .int (0 : Int32), .int (0 : Int32), .ref (b + (n + 28)), .ref (b + (n + 29)), .ref (b + (n + 30)), .ref (b + (n + 31))]) := by rw [eE]; exact (eX6_init_k (by omega) (by omega)).trans he_23
  have he_27 : E_33 (n + 32) = .inr (3, [.ref (b + n), .int (0 : Int32), .int (0 : Int32), .int (0 : Int32), .int (0 : Int32), .ref (b + (n + 33)), .ref (b + (n + 34)), .ref (b + (n + 35)), .ref (b + (n + 36))]) := by rw [eE]; exact (eX6_init_k (by omega) (by omega)).trans he_27
  have he_31 : E_33 (n + 37) = .inr (6, [.ref (b + (n + 38)), .int (0 : Int32), .int (0 : Int32)]) := by rw [eE]; exact eX6_init_s (by omega)
  clear eE
  refine s_put B hS hin layX10 tyX10 tyX10_ok nmX10 (by omega) he_o rfl 5 (by decide) (tw_2 69 rfl rfl) rfl rfl rfl rfl rfl (Nat.le_of_ble_eq_true rfl) dX10_init_101 (fun H locs hS => ?_)
  obtain ⟨E_34, eE, hrun⟩ := ltE hrun
  have hS : SP X b (n + 119) E_34 s.heap H locs := by rw [eE]; exact hS
  have he_1 : E_34 n = .inr (8, [.int 0, .int 0, .int 0, .int 0, .int 0, .ref (b + (n + 1)), .ref (b + (n + 2)), .ref (b + (n + 3)), .ref (b + (n + 4)), .ref (b + (n + 5))]) := by rw [eE]; exact (va_up_ne _ _ (by omega)).trans he_1
  have he_4 : E_34 (n + 6) = qA X 2 (va_up (va_up (fun _ => none) (0 : Int32).toNatClampNeg (some (b + (n + 7)))) (1 : Int32).toNatClampNeg (some (b + (n + 13)))) 3 := by rw [eE]; exact (va_up_ne _ _ (by omega)).trans he_4
  have he_14 : E_34 (n + 19) = .inr (7, [.ref (b + (n + 20)), .int (0 : Int32), .int (0 : Int32), .int (0 : Int32), .int (-1 : Int32)]) := by rw [eE]; exact (va_up_ne _ _ (by omega)).trans he_14
  have he_18 : E_34 (n + 21) = .inr (8, [.int 0, .int 0, .int 0, .int 0, .int 0, .ref (b + (n + 22)), .ref (b + (n + 23)), .ref (b + (n + 24)), .ref (b + (n + 25)), .ref (b + (n + 26))]) := by rw [eE]; exact (va_up_ne _ _ (by omega)).trans he_18
  have he_23 : E_34 (n + 27) = .inr (3, [.ref (b + n), .int (0 : Int32), .int (0 : Int32), .int (0 : Int32), .int (0 : Int32), .ref (b + (n + 28)), .ref (b + (n + 29)), .ref (b + (n + 30)), .ref (b + (n + 31))]) := by rw [eE]; exact (va_up_ne _ _ (by omega)).trans he_23
  have he_27 : E_34 (n + 32) = .inr (3, [.ref (b + n), .int (0 : Int32), .int (0 : Int32), .int (0 : Int32), .int (0 : Int32), .ref (b + (n + 33)), .ref (b + (n + 34)), .ref (b + (n + 35)), .ref (b + (n + 36))]) := by rw [eE]; exact (va_up_ne _ _ (by omega)).trans he_27
  have he_31 : E_34 (n + 37) = .inr (6, [.ref (b + (n + 38)), .int (0 : Int32), .int (0 : Int32)]) := by rw [eE]; exact (va_up_ne _ _ (by omega)).trans he_31
  have he_o : E_34 o = .inr (10, [.ref (b + (n + 19)), .ref (b + (n + 21)), .ref (b + n), .ref (b + (n + 27)), .ref (b + (n + 32)), .ref (b + (n + 37)), .null, .null, .null, .null, .null, .null]) := by rw [eE]; exact va_up_self _ _ _
  clear eE
  refine lv_aload_n hx hb dX10_init_104 rfl (lv_at hl 3 rfl) ?_
  refine lv_aload_n hx hb dX10_init_105 rfl (lv_at hl 1 rfl) ?_
  refine s_put B hS hin layX10 tyX10 tyX10_ok nmX10 (by omega) he_o rfl 6 (by decide) (tw_2 70 rfl rfl) rfl rfl rfl rfl rfl (Nat.le_of_ble_eq_true rfl) dX10_init_106 (fun H locs hS => ?_)
  obtain ⟨E_35, eE, hrun⟩ := ltE hrun
  have hS : SP X b (n + 119) E_35 s.heap H locs := by rw [eE]; exact hS
  have he_1 : E_35 n = .inr (8, [.int 0, .int 0, .int 0, .int 0, .int 0, .ref (b + (n + 1)), .ref (b + (n + 2)), .ref (b + (n + 3)), .ref (b + (n + 4)), .ref (b + (n + 5))]) := by rw [eE]; exact (va_up_ne _ _ (by omega)).trans he_1
  have he_4 : E_35 (n + 6) = qA X 2 (va_up (va_up (fun _ => none) (0 : Int32).toNatClampNeg (some (b + (n + 7)))) (1 : Int32).toNatClampNeg (some (b + (n + 13)))) 3 := by rw [eE]; exact (va_up_ne _ _ (by omega)).trans he_4
  have he_14 : E_35 (n + 19) = .inr (7, [.ref (b + (n + 20)), .int (0 : Int32), .int (0 : Int32), .int (0 : Int32), .int (-1 : Int32)]) := by rw [eE]; exact (va_up_ne _ _ (by omega)).trans he_14
  have he_18 : E_35 (n + 21) = .inr (8, [.int 0, .int 0, .int 0, .int 0, .int 0, .ref (b + (n + 22)), .ref (b + (n + 23)), .ref (b + (n + 24)), .ref (b + (n + 25)), .ref (b + (n + 26))]) := by rw [eE]; exact (va_up_ne _ _ (by omega)).trans he_18
  have he_23 : E_35 (n + 27) = .inr (3, [.ref (b + n), .int (0 : Int32), .int (0 : Int32), .int (0 : Int32), .int (0 : Int32), .ref (b + (n + 28)), .ref (b + (n + 29)), .ref (b + (n + 30)), .ref (b + (n + 31))]) := by rw [eE]; exact (va_up_ne _ _ (by omega)).trans he_23
  have he_27 : E_35 (n + 32) = .inr (3, [.ref (b + n), .int (0 : Int32), .int (0 : Int32), .int (0 : Int32), .int (0 : Int32), .ref (b + (n + 33)), .ref (b + (n + 34)), .ref (b + (n + 35)), .ref (b + (n + 36))]) := by rw [eE]; exact (va_up_ne _ _ (by omega)).trans he_27
  have he_31 : E_35 (n + 37) = .inr (6, [.ref (b + (n + 38)), .int (0 : Int32), .int (0 : Int32)]) := by rw [eE]; exact (va_up_ne _ _ (by omega)).trans he_31
  have he_o : E_35 o = .inr (10, [.ref (b + (n + 19)), .ref (b + (n + 21)), .ref (b + n), .ref (b + (n + 27)), .ref (b + (n + 32)), .ref (b + (n + 37)), .ref (b + (n + 6)), .null, .null, .null, .null, .null]) := by rw [eE]; exact va_up_self _ _ _
  clear eE
  refine lv_aload_n hx hb dX10_init_109 rfl (lv_at hl 3 rfl) ?_
  refine s_new (ci := 5) (fs := [.null, .null, .null, .null, .int 0, .int 0]) B hS layX5 tyX5 tyX5_ok (tw_1 198 rfl rfl) (tw_1 199 rfl rfl) (tw_1 7 rfl rfl) rfl (fun j hj => by rcases (show j = 0 ∨ j = 1 ∨ j = 2 ∨ j = 3 ∨ j = 4 ∨ j = 5 by omega) with rfl | rfl | rfl | rfl | rfl | rfl <;> rfl) (Nat.le_of_ble_eq_true rfl) (Nat.le_of_ble_eq_true rfl) dX10_init_110 (fun H hS => ?_)
  obtain ⟨E_37, eE, hrun⟩ := ltE hrun
  have hS : SP X b (n + 120) E_37 s.heap H locs := by rw [eE]; exact hS
  have he_o : E_37 o = .inr (10, [.ref (b + (n + 19)), .ref (b + (n + 21)), .ref (b + n), .ref (b + (n + 27)), .ref (b + (n + 32)), .ref (b + (n + 37)), .ref (b + (n + 6)), .null, .null, .null, .null, .null]) := by rw [eE]; exact (va_up_ne _ _ (by omega)).trans he_o
  have he_1 : E_37 n = .inr (8, [.int 0, .int 0, .int 0, .int 0, .int 0, .ref (b + (n + 1)), .ref (b + (n + 2)), .ref (b + (n + 3)), .ref (b + (n + 4)), .ref (b + (n + 5))]) := by rw [eE]; exact (va_up_ne _ _ (by omega)).trans he_1
  have he_4 : E_37 (n + 6) = qA X 2 (va_up (va_up (fun _ => none) (0 : Int32).toNatClampNeg (some (b + (n + 7)))) (1 : Int32).toNatClampNeg (some (b + (n + 13)))) 3 := by rw [eE]; exact (va_up_ne _ _ (by omega)).trans he_4
  have he_14 : E_37 (n + 19) = .inr (7, [.ref (b + (n + 20)), .int (0 : Int32), .int (0 : Int32), .int (0 : Int32), .int (-1 : Int32)]) := by rw [eE]; exact (va_up_ne _ _ (by omega)).trans he_14
  have he_18 : E_37 (n + 21) = .inr (8, [.int 0, .int 0, .int 0, .int 0, .int 0, .ref (b + (n + 22)), .ref (b + (n + 23)), .ref (b + (n + 24)), .ref (b + (n + 25)), .ref (b + (n + 26))]) := by rw [eE]; exact (va_up_ne _ _ (by omega)).trans he_18
  have he_23 : E_37 (n + 27) = .inr (3, [.ref (b + n), .int (0 : Int32), .int (0 : Int32), .int (0 : Int32), .int (0 : Int32), .ref (b + (n + 28)), .ref (b + (n + 29)), .ref (b + (n + 30)), .ref (b + (n + 31))]) := by rw [eE]; exact (va_up_ne _ _ (by omega)).trans he_23
  have he_27 : E_37 (n + 32) = .inr (3, [.ref (b + n), .int (0 : Int32), .int (0 : Int32), .int (0 : Int32), .int (0 : Int32), .ref (b + (n + 33)), .ref (b + (n + 34)), .ref (b + (n + 35)), .ref (b + (n + 36))]) := by rw [eE]; exact (va_up_ne _ _ (by omega)).trans he_27
  have he_31 : E_37 (n + 37) = .inr (6, [.ref (b + (n + 38)), .int (0 : Int32), .int (0 : Int32)]) := by rw [eE]; exact (va_up_ne _ _ (by omega)).trans he_31
  have he_36 : E_37 (n + 119) = .inr (5, [.null, .null, .null, .null, .int 0, .int 0]) := by rw [eE]; exact va_up_self _ _ _
  clear eE
  refine lv_dup hx hb dX10_init_113 rfl ?_
  refine sIN B hS (kX5_init l X b (n + 119)  (n + 120) E_37 (by omega) he_36) (host := "SongSquares") (List.mem_of_getElem? (i := 44) rfl) (tw_1 201 rfl rfl) (tw_1 7 rfl rfl) (tw_1 202 rfl rfl) rfl mdX5_init rfl hl.1 rfl (Nat.le_of_ble_eq_true rfl) ⟨Nat.le_of_ble_eq_true rfl, Nat.le_of_ble_eq_true rfl⟩ ⟨Nat.le_of_ble_eq_true rfl, Nat.le_of_ble_eq_true rfl⟩ dX10_init_114 (fun H locs hS => ?_)
  obtain ⟨E_38, eE, hrun⟩ := ltE hrun
  have hS : SP X b (n + 124) E_38 s.heap H locs := by rw [eE]; exact hS
  have he_o : E_38 o = .inr (10, [.ref (b + (n + 19)), .ref (b + (n + 21)), .ref (b + n), .ref (b + (n + 27)), .ref (b + (n + 32)), .ref (b + (n + 37)), .ref (b + (n + 6)), .null, .null, .null, .null, .null]) := by rw [eE]; exact (eX5_init_k (by omega) (by omega)).trans he_o
  have he_1 : E_38 n = .inr (8, [.int 0, .int 0, .int 0, .int 0, .int 0, .ref (b + (n + 1)), .ref (b + (n + 2)), .ref (b + (n + 3)), .ref (b + (n + 4)), .ref (b + (n + 5))]) := by rw [eE]; exact (eX5_init_k (by omega) (by omega)).trans he_1
  have he_4 : E_38 (n + 6) = qA X 2 (va_up (va_up (fun _ => none) (0 : Int32).toNatClampNeg (some (b + (n + 7)))) (1 : Int32).toNatClampNeg (some (b + (n + 13)))) 3 := by rw [eE]; exact (eX5_init_k (by omega) (by omega)).trans he_4
  have he_14 : E_38 (n + 19) = .inr (7, [.ref (b + (n + 20)), .int (0 : Int32), .int (0 : Int32), .int (0 : Int32), .int (-1 : Int32)]) := by rw [eE]; exact (eX5_init_k (by omega) (by omega)).trans he_14
  have he_18 : E_38 (n + 21) = .inr (8, [.int 0, .int 0, .int 0, .int 0, .int 0, .ref (b + (n + 22)), .ref (b + (n + 23)), .ref (b + (n + 24)), .ref (b + (n + 25)), .ref (b + (n + 26))]) := by rw [eE]; exact (eX5_init_k (by omega) (by omega)).trans he_18
  have he_23 : E_38 (n + 27) = .inr (3, [.ref (b + n), .int (0 : Int32), .int (0 : Int32), .int (0 : Int32), .int (0 : Int32), .ref (b + (n + 28)), .ref (b + (n + 29)), .ref (b + (n + 30)), .ref (b + (n + 31))]) := by rw [eE]; exact (eX5_init_k (by omega) (by omega)).trans he_23
  have he_27 : E_38 (n + 32) = .inr (3, [.ref (b + n), .int (0 : Int32), .int (0 : Int32), .int (0 : Int32), .int (0 : Int32), .ref (b + (n + 33)), .ref (b + (n + 34)), .ref (b + (n + 35)), .ref (b + (n + 36))]) := by rw [eE]; exact (eX5_init_k (by omega) (by omega)).trans he_27
  have he_31 : E_38 (n + 37) = .inr (6, [.ref (b + (n + 38)), .int (0 : Int32), .int (0 : Int32)]) := by rw [eE]; exact (eX5_init_k (by omega) (by omega)).trans he_31
  have he_36 : E_38 (n + 119) = .inr (5, [.ref (b + (n + 120)), .ref (b + (n + 121)), .ref (b + (n + 122)), .ref (b + (n + 123)), .int (0 : Int32), .int (0 : Int32)]) := by rw [eE]; exact eX5_init_s (by omega)
  clear eE
  refine s_put B hS hin layX10 tyX10 tyX10_ok nmX10 (by omega) he_o rfl 7 (by decide) (tw_2 71 rfl rfl) rfl rfl rfl rfl rfl (Nat.le_of_ble_eq_true rfl) dX10_init_117 (fun H locs hS => ?_)
  obtain ⟨E_39, eE, hrun⟩ := ltE hrun
  have hS : SP X b (n + 124) E_39 s.heap H locs := by rw [eE]; exact hS
  have he_1 : E_39 n = .inr (8, [.int 0, .int 0, .int 0, .int 0, .int 0, .ref (b + (n + 1)), .ref (b + (n + 2)), .ref (b + (n + 3)), .ref (b + (n + 4)), .ref (b + (n + 5))]) := by rw [eE]; exact (va_up_ne _ _ (by omega)).trans he_1
  have he_4 : E_39 (n + 6) = qA X 2 (va_up (va_up (fun _ => none) (0 : Int32).toNatClampNeg (some (b + (n + 7)))) (1 : Int32).toNatClampNeg (some (b + (n + 13)))) 3 := by rw [eE]; exact (va_up_ne _ _ (by omega)).trans he_4
  have he_14 : E_39 (n + 19) = .inr (7, [.ref (b + (n + 20)), .int (0 : Int32), .int (0 : Int32), .int (0 : Int32), .int (-1 : Int32)]) := by rw [eE]; exact (va_up_ne _ _ (by omega)).trans he_14
  have he_18 : E_39 (n + 21) = .inr (8, [.int 0, .int 0, .int 0, .int 0, .int 0, .ref (b + (n + 22)), .ref (b + (n + 23)), .ref (b + (n + 24)), .ref (b + (n + 25)), .ref (b + (n + 26))]) := by rw [eE]; exact (va_up_ne _ _ (by omega)).trans he_18
  have he_23 : E_39 (n + 27) = .inr (3, [.ref (b + n), .int (0 : Int32), .int (0 : Int32), .int (0 : Int32), .int (0 : Int32), .ref (b + (n + 28)), .ref (b + (n + 29)), .ref (b + (n + 30)), .ref (b + (n + 31))]) := by rw [eE]; exact (va_up_ne _ _ (by omega)).trans he_23
  have he_27 : E_39 (n + 32) = .inr (3, [.ref (b + n), .int (0 : Int32), .int (0 : Int32), .int (0 : Int32), .int (0 : Int32), .ref (b + (n + 33)), .ref (b + (n + 34)), .ref (b + (n + 35)), .ref (b + (n + 36))]) := by rw [eE]; exact (va_up_ne _ _ (by omega)).trans he_27
  have he_31 : E_39 (n + 37) = .inr (6, [.ref (b + (n + 38)), .int (0 : Int32), .int (0 : Int32)]) := by rw [eE]; exact (va_up_ne _ _ (by omega)).trans he_31
  have he_36 : E_39 (n + 119) = .inr (5, [.ref (b + (n + 120)), .ref (b + (n + 121)), .ref (b + (n + 122)), .ref (b + (n + 123)), .int (0 : Int32), .int (0 : Int32)]) := by rw [eE]; exact (va_up_ne _ _ (by omega)).trans he_36
  have he_o : E_39 o = .inr (10, [.ref (b + (n + 19)), .ref (b + (n + 21)), .ref (b + n), .ref (b + (n + 27)), .ref (b + (n + 32)), .ref (b + (n + 37)), .ref (b + (n + 6)), .ref (b + (n + 119)), .null, .null, .null, .null]) := by rw [eE]; exact va_up_self _ _ _
  clear eE
  refine lv_aload_n hx hb dX10_init_120 rfl (lv_at hl 3 rfl) ?_
  refine s_new (ci := 0) (fs := [.int 0, .int 0, .null]) B hS layX0 tyX0 tyX0_ok (tw_1 225 rfl rfl) (tw_1 226 rfl rfl) (tw_1 8 rfl rfl) rfl (fun j hj => by rcases (show j = 0 ∨ j = 1 ∨ j = 2 by omega) with rfl | rfl | rfl <;> rfl) (Nat.le_of_ble_eq_true rfl) (Nat.le_of_ble_eq_true rfl) dX10_init_121 (fun H hS => ?_)
  obtain ⟨E_41, eE, hrun⟩ := ltE hrun
  have hS : SP X b (n + 125) E_41 s.heap H locs := by rw [eE]; exact hS
  have he_o : E_41 o = .inr (10, [.ref (b + (n + 19)), .ref (b + (n + 21)), .ref (b + n), .ref (b + (n + 27)), .ref (b + (n + 32)), .ref (b + (n + 37)), .ref (b + (n + 6)), .ref (b + (n + 119)), .null, .null, .null, .null]) := by rw [eE]; exact (va_up_ne _ _ (by omega)).trans he_o
  have he_1 : E_41 n = .inr (8, [.int 0, .int 0, .int 0, .int 0, .int 0, .ref (b + (n + 1)), .ref (b + (n + 2)), .ref (b + (n + 3)), .ref (b + (n + 4)), .ref (b + (n + 5))]) := by rw [eE]; exact (va_up_ne _ _ (by omega)).trans he_1
  have he_4 : E_41 (n + 6) = qA X 2 (va_up (va_up (fun _ => none) (0 : Int32).toNatClampNeg (some (b + (n + 7)))) (1 : Int32).toNatClampNeg (some (b + (n + 13)))) 3 := by rw [eE]; exact (va_up_ne _ _ (by omega)).trans he_4
  have he_14 : E_41 (n + 19) = .inr (7, [.ref (b + (n + 20)), .int (0 : Int32), .int (0 : Int32), .int (0 : Int32), .int (-1 : Int32)]) := by rw [eE]; exact (va_up_ne _ _ (by omega)).trans he_14
  have he_18 : E_41 (n + 21) = .inr (8, [.int 0, .int 0, .int 0, .int 0, .int 0, .ref (b + (n + 22)), .ref (b + (n + 23)), .ref (b + (n + 24)), .ref (b + (n + 25)), .ref (b + (n + 26))]) := by rw [eE]; exact (va_up_ne _ _ (by omega)).trans he_18
  have he_23 : E_41 (n + 27) = .inr (3, [.ref (b + n), .int (0 : Int32), .int (0 : Int32), .int (0 : Int32), .int (0 : Int32), .ref (b + (n + 28)), .ref (b + (n + 29)), .ref (b + (n + 30)), .ref (b + (n + 31))]) := by rw [eE]; exact (va_up_ne _ _ (by omega)).trans he_23
  have he_27 : E_41 (n + 32) = .inr (3, [.ref (b + n), .int (0 : Int32), .int (0 : Int32), .int (0 : Int32), .int (0 : Int32), .ref (b + (n + 33)), .ref (b + (n + 34)), .ref (b + (n + 35)), .ref (b + (n + 36))]) := by rw [eE]; exact (va_up_ne _ _ (by omega)).trans he_27
  have he_31 : E_41 (n + 37) = .inr (6, [.ref (b + (n + 38)), .int (0 : Int32), .int (0 : Int32)]) := by rw [eE]; exact (va_up_ne _ _ (by omega)).trans he_31
  have he_36 : E_41 (n + 119) = .inr (5, [.ref (b + (n + 120)), .ref (b + (n + 121)), .ref (b + (n + 122)), .ref (b + (n + 123)), .int (0 : Int32), .int (0 : Int32)]) := by rw [eE]; exact (va_up_ne _ _ (by omega)).trans he_36
  have he_40 : E_41 (n + 124) = .inr (0, [.int 0, .int 0, .null]) := by rw [eE]; exact va_up_self _ _ _
  clear eE
  refine lv_dup hx hb dX10_init_124 rfl ?_
  refine sIN B hS (kX0_init l X b (n + 124)  (n + 125) E_41 (by omega) he_40) (host := "SongSquares") (List.mem_of_getElem? (i := 47) rfl) (tw_1 228 rfl rfl) (tw_1 8 rfl rfl) (tw_1 229 rfl rfl) rfl mdX0_init rfl hl.1 rfl (Nat.le_of_ble_eq_true rfl) ⟨Nat.le_of_ble_eq_true rfl, Nat.le_of_ble_eq_true rfl⟩ ⟨Nat.le_of_ble_eq_true rfl, Nat.le_of_ble_eq_true rfl⟩ dX10_init_125 (fun H locs hS => ?_)
  obtain ⟨E_42, eE, hrun⟩ := ltE hrun
  have hS : SP X b (n + 126) E_42 s.heap H locs := by rw [eE]; exact hS
  have he_o : E_42 o = .inr (10, [.ref (b + (n + 19)), .ref (b + (n + 21)), .ref (b + n), .ref (b + (n + 27)), .ref (b + (n + 32)), .ref (b + (n + 37)), .ref (b + (n + 6)), .ref (b + (n + 119)), .null, .null, .null, .null]) := by rw [eE]; exact (eX0_init_k (by omega) (by omega)).trans he_o
  have he_1 : E_42 n = .inr (8, [.int 0, .int 0, .int 0, .int 0, .int 0, .ref (b + (n + 1)), .ref (b + (n + 2)), .ref (b + (n + 3)), .ref (b + (n + 4)), .ref (b + (n + 5))]) := by rw [eE]; exact (eX0_init_k (by omega) (by omega)).trans he_1
  have he_4 : E_42 (n + 6) = qA X 2 (va_up (va_up (fun _ => none) (0 : Int32).toNatClampNeg (some (b + (n + 7)))) (1 : Int32).toNatClampNeg (some (b + (n + 13)))) 3 := by rw [eE]; exact (eX0_init_k (by omega) (by omega)).trans he_4
  have he_14 : E_42 (n + 19) = .inr (7, [.ref (b + (n + 20)), .int (0 : Int32), .int (0 : Int32), .int (0 : Int32), .int (-1 : Int32)]) := by rw [eE]; exact (eX0_init_k (by omega) (by omega)).trans he_14
  have he_18 : E_42 (n + 21) = .inr (8, [.int 0, .int 0, .int 0, .int 0, .int 0, .ref (b + (n + 22)), .ref (b + (n + 23)), .ref (b + (n + 24)), .ref (b + (n + 25)), .ref (b + (n + 26))]) := by rw [eE]; exact (eX0_init_k (by omega) (by omega)).trans he_18
  have he_23 : E_42 (n + 27) = .inr (3, [.ref (b + n), .int (0 : Int32), .int (0 : Int32), .int (0 : Int32), .int (0 : Int32), .ref (b + (n + 28)), .ref (b + (n + 29)), .ref (b + (n + 30)), .ref (b + (n + 31))]) := by rw [eE]; exact (eX0_init_k (by omega) (by omega)).trans he_23
  have he_27 : E_42 (n + 32) = .inr (3, [.ref (b + n), .int (0 : Int32), .int (0 : Int32), .int (0 : Int32), .int (0 : Int32), .ref (b + (n + 33)), .ref (b + (n + 34)), .ref (b + (n + 35)), .ref (b + (n + 36))]) := by rw [eE]; exact (eX0_init_k (by omega) (by omega)).trans he_27
  have he_31 : E_42 (n + 37) = .inr (6, [.ref (b + (n + 38)), .int (0 : Int32), .int (0 : Int32)]) := by rw [eE]; exact (eX0_init_k (by omega) (by omega)).trans he_31
  have he_36 : E_42 (n + 119) = .inr (5, [.ref (b + (n + 120)), .ref (b + (n + 121)), .ref (b + (n + 122)), .ref (b + (n + 123)), .int (0 : Int32), .int (0 : Int32)]) := by rw [eE]; exact (eX0_init_k (by omega) (by omega)).trans he_36
  have he_40 : E_42 (n + 124) = .inr (0, [.int (0 : Int32), .int (-1 : Int32), .ref (b + (n + 125))]) := by rw [eE]; exact eX0_init_s (by omega)
  clear eE
  refine s_put B hS hin layX10 tyX10 tyX10_ok nmX10 (by omega) he_o rfl 8 (by decide) (tw_2 72 rfl rfl) rfl rfl rfl rfl rfl (Nat.le_of_ble_eq_true rfl) dX10_init_128 (fun H locs hS => ?_)
  obtain ⟨E_43, eE, hrun⟩ := ltE hrun
  have hS : SP X b (n + 126) E_43 s.heap H locs := by rw [eE]; exact hS
  have he_1 : E_43 n = .inr (8, [.int 0, .int 0, .int 0, .int 0, .int 0, .ref (b + (n + 1)), .ref (b + (n + 2)), .ref (b + (n + 3)), .ref (b + (n + 4)), .ref (b + (n + 5))]) := by rw [eE]; exact (va_up_ne _ _ (by omega)).trans he_1
  have he_4 : E_43 (n + 6) = qA X 2 (va_up (va_up (fun _ => none) (0 : Int32).toNatClampNeg (some (b + (n + 7)))) (1 : Int32).toNatClampNeg (some (b + (n + 13)))) 3 := by rw [eE]; exact (va_up_ne _ _ (by omega)).trans he_4
  have he_14 : E_43 (n + 19) = .inr (7, [.ref (b + (n + 20)), .int (0 : Int32), .int (0 : Int32), .int (0 : Int32), .int (-1 : Int32)]) := by rw [eE]; exact (va_up_ne _ _ (by omega)).trans he_14
  have he_18 : E_43 (n + 21) = .inr (8, [.int 0, .int 0, .int 0, .int 0, .int 0, .ref (b + (n + 22)), .ref (b + (n + 23)), .ref (b + (n + 24)), .ref (b + (n + 25)), .ref (b + (n + 26))]) := by rw [eE]; exact (va_up_ne _ _ (by omega)).trans he_18
  have he_23 : E_43 (n + 27) = .inr (3, [.ref (b + n), .int (0 : Int32), .int (0 : Int32), .int (0 : Int32), .int (0 : Int32), .ref (b + (n + 28)), .ref (b + (n + 29)), .ref (b + (n + 30)), .ref (b + (n + 31))]) := by rw [eE]; exact (va_up_ne _ _ (by omega)).trans he_23
  have he_27 : E_43 (n + 32) = .inr (3, [.ref (b + n), .int (0 : Int32), .int (0 : Int32), .int (0 : Int32), .int (0 : Int32), .ref (b + (n + 33)), .ref (b + (n + 34)), .ref (b + (n + 35)), .ref (b + (n + 36))]) := by rw [eE]; exact (va_up_ne _ _ (by omega)).trans he_27
  have he_31 : E_43 (n + 37) = .inr (6, [.ref (b + (n + 38)), .int (0 : Int32), .int (0 : Int32)]) := by rw [eE]; exact (va_up_ne _ _ (by omega)).trans he_31
  have he_36 : E_43 (n + 119) = .inr (5, [.ref (b + (n + 120)), .ref (b + (n + 121)), .ref (b + (n + 122)), .ref (b + (n + 123)), .int (0 : Int32), .int (0 : Int32)]) := by rw [eE]; exact (va_up_ne _ _ (by omega)).trans he_36
  have he_40 : E_43 (n + 124) = .inr (0, [.int (0 : Int32), .int (-1 : Int32), .ref (b + (n + 125))]) := by rw [eE]; exact (va_up_ne _ _ (by omega)).trans he_40
  have he_o : E_43 o = .inr (10, [.ref (b + (n + 19)), .ref (b + (n + 21)), .ref (b + n), .ref (b + (n + 27)), .ref (b + (n + 32)), .ref (b + (n + 37)), .ref (b + (n + 6)), .ref (b + (n + 119)), .ref (b + (n + 124)), .null, .null, .null]) := by rw [eE]; exact va_up_self _ _ _
  clear eE
  refine lv_aload_n hx hb dX10_init_131 rfl (lv_at hl 3 rfl) ?_
  refine s_new (ci := 9) (fs := [.null, .null, .null, .int 0]) B hS layX9 tyX9 tyX9_ok (tw_2 3 rfl rfl) (tw_2 4 rfl rfl) (tw_1 9 rfl rfl) rfl (fun j hj => by rcases (show j = 0 ∨ j = 1 ∨ j = 2 ∨ j = 3 by omega) with rfl | rfl | rfl | rfl <;> rfl) (Nat.le_of_ble_eq_true rfl) (Nat.le_of_ble_eq_true rfl) dX10_init_132 (fun H hS => ?_)
  obtain ⟨E_45, eE, hrun⟩ := ltE hrun
  have hS : SP X b (n + 127) E_45 s.heap H locs := by rw [eE]; exact hS
  have he_o : E_45 o = .inr (10, [.ref (b + (n + 19)), .ref (b + (n + 21)), .ref (b + n), .ref (b + (n + 27)), .ref (b + (n + 32)), .ref (b + (n + 37)), .ref (b + (n + 6)), .ref (b + (n + 119)), .ref (b + (n + 124)), .null, .null, .null]) := by rw [eE]; exact (va_up_ne _ _ (by omega)).trans he_o
  have he_1 : E_45 n = .inr (8, [.int 0, .int 0, .int 0, .int 0, .int 0, .ref (b + (n + 1)), .ref (b + (n + 2)), .ref (b + (n + 3)), .ref (b + (n + 4)), .ref (b + (n + 5))]) := by rw [eE]; exact (va_up_ne _ _ (by omega)).trans he_1
  have he_4 : E_45 (n + 6) = qA X 2 (va_up (va_up (fun _ => none) (0 : Int32).toNatClampNeg (some (b + (n + 7)))) (1 : Int32).toNatClampNeg (some (b + (n + 13)))) 3 := by rw [eE]; exact (va_up_ne _ _ (by omega)).trans he_4
  have he_14 : E_45 (n + 19) = .inr (7, [.ref (b + (n + 20)), .int (0 : Int32), .int (0 : Int32), .int (0 : Int32), .int (-1 : Int32)]) := by rw [eE]; exact (va_up_ne _ _ (by omega)).trans he_14
  have he_18 : E_45 (n + 21) = .inr (8, [.int 0, .int 0, .int 0, .int 0, .int 0, .ref (b + (n + 22)), .ref (b + (n + 23)), .ref (b + (n + 24)), .ref (b + (n + 25)), .ref (b + (n + 26))]) := by rw [eE]; exact (va_up_ne _ _ (by omega)).trans he_18
  have he_23 : E_45 (n + 27) = .inr (3, [.ref (b + n), .int (0 : Int32), .int (0 : Int32), .int (0 : Int32), .int (0 : Int32), .ref (b + (n + 28)), .ref (b + (n + 29)), .ref (b + (n + 30)), .ref (b + (n + 31))]) := by rw [eE]; exact (va_up_ne _ _ (by omega)).trans he_23
  have he_27 : E_45 (n + 32) = .inr (3, [.ref (b + n), .int (0 : Int32), .int (0 : Int32), .int (0 : Int32), .int (0 : Int32), .ref (b + (n + 33)), .ref (b + (n + 34)), .ref (b + (n + 35)), .ref (b + (n + 36))]) := by rw [eE]; exact (va_up_ne _ _ (by omega)).trans he_27
  have he_31 : E_45 (n + 37) = .inr (6, [.ref (b + (n + 38)), .int (0 : Int32), .int (0 : Int32)]) := by rw [eE]; exact (va_up_ne _ _ (by omega)).trans he_31
  have he_36 : E_45 (n + 119) = .inr (5, [.ref (b + (n + 120)), .ref (b + (n + 121)), .ref (b + (n + 122)), .ref (b + (n + 123)), .int (0 : Int32), .int (0 : Int32)]) := by rw [eE]; exact (va_up_ne _ _ (by omega)).trans he_36
  have he_40 : E_45 (n + 124) = .inr (0, [.int (0 : Int32), .int (-1 : Int32), .ref (b + (n + 125))]) := by rw [eE]; exact (va_up_ne _ _ (by omega)).trans he_40
  have he_44 : E_45 (n + 126) = .inr (9, [.null, .null, .null, .int 0]) := by rw [eE]; exact va_up_self _ _ _
  clear eE
  refine lv_dup hx hb dX10_init_135 rfl ?_
  refine lv_aload_n hx hb dX10_init_136 rfl (lv_at hl 2 rfl) ?_
  refine sI B hS (kX9_init l X b (n + 126) (b + n) (n + 127) E_45 (by omega) he_44) (tw_2 5 rfl rfl) (tw_2 6 rfl rfl) (tw_1 9 rfl rfl) (tw_2 7 rfl rfl) rfl mdX9_init rfl hl.1 rfl (Nat.le_of_ble_eq_true rfl) ⟨Nat.le_of_ble_eq_true rfl, Nat.le_of_ble_eq_true rfl⟩ ⟨Nat.le_of_ble_eq_true rfl, Nat.le_of_ble_eq_true rfl⟩ dX10_init_137 (fun H locs hS => ?_)
  obtain ⟨E_46, eE, hrun⟩ := ltE hrun
  have hS : SP X b (n + 138) E_46 s.heap H locs := by rw [eE]; exact hS
  have he_o : E_46 o = .inr (10, [.ref (b + (n + 19)), .ref (b + (n + 21)), .ref (b + n), .ref (b + (n + 27)), .ref (b + (n + 32)), .ref (b + (n + 37)), .ref (b + (n + 6)), .ref (b + (n + 119)), .ref (b + (n + 124)), .null, .null, .null]) := by rw [eE]; exact (eX9_init_k (by omega) (by omega)).trans he_o
  have he_1 : E_46 n = .inr (8, [.int 0, .int 0, .int 0, .int 0, .int 0, .ref (b + (n + 1)), .ref (b + (n + 2)), .ref (b + (n + 3)), .ref (b + (n + 4)), .ref (b + (n + 5))]) := by rw [eE]; exact (eX9_init_k (by omega) (by omega)).trans he_1
  have he_4 : E_46 (n + 6) = qA X 2 (va_up (va_up (fun _ => none) (0 : Int32).toNatClampNeg (some (b + (n + 7)))) (1 : Int32).toNatClampNeg (some (b + (n + 13)))) 3 := by rw [eE]; exact (eX9_init_k (by omega) (by omega)).trans he_4
  have he_14 : E_46 (n + 19) = .inr (7, [.ref (b + (n + 20)), .int (0 : Int32), .int (0 : Int32), .int (0 : Int32), .int (-1 : Int32)]) := by rw [eE]; exact (eX9_init_k (by omega) (by omega)).trans he_14
  have he_18 : E_46 (n + 21) = .inr (8, [.int 0, .int 0, .int 0, .int 0, .int 0, .ref (b + (n + 22)), .ref (b + (n + 23)), .ref (b + (n + 24)), .ref (b + (n + 25)), .ref (b + (n + 26))]) := by rw [eE]; exact (eX9_init_k (by omega) (by omega)).trans he_18
  have he_23 : E_46 (n + 27) = .inr (3, [.ref (b + n), .int (0 : Int32), .int (0 : Int32), .int (0 : Int32), .int (0 : Int32), .ref (b + (n + 28)), .ref (b + (n + 29)), .ref (b + (n + 30)), .ref (b + (n + 31))]) := by rw [eE]; exact (eX9_init_k (by omega) (by omega)).trans he_23
  have he_27 : E_46 (n + 32) = .inr (3, [.ref (b + n), .int (0 : Int32), .int (0 : Int32), .int (0 : Int32), .int (0 : Int32), .ref (b + (n + 33)), .ref (b + (n + 34)), .ref (b + (n + 35)), .ref (b + (n + 36))]) := by rw [eE]; exact (eX9_init_k (by omega) (by omega)).trans he_27
  have he_31 : E_46 (n + 37) = .inr (6, [.ref (b + (n + 38)), .int (0 : Int32), .int (0 : Int32)]) := by rw [eE]; exact (eX9_init_k (by omega) (by omega)).trans he_31
  have he_36 : E_46 (n + 119) = .inr (5, [.ref (b + (n + 120)), .ref (b + (n + 121)), .ref (b + (n + 122)), .ref (b + (n + 123)), .int (0 : Int32), .int (0 : Int32)]) := by rw [eE]; exact (eX9_init_k (by omega) (by omega)).trans he_36
  have he_40 : E_46 (n + 124) = .inr (0, [.int (0 : Int32), .int (-1 : Int32), .ref (b + (n + 125))]) := by rw [eE]; exact (eX9_init_k (by omega) (by omega)).trans he_40
  have he_44 : E_46 (n + 126) = .inr (9, [.ref (b + n), .ref (b + (n + 127)), .ref (b + (n + 137)), .int (0 : Int32)]) := by rw [eE]; exact eX9_init_s (by omega)
  clear eE
  refine s_put B hS hin layX10 tyX10 tyX10_ok nmX10 (by omega) he_o rfl 9 (by decide) (tw_2 73 rfl rfl) rfl rfl rfl rfl rfl (Nat.le_of_ble_eq_true rfl) dX10_init_140 (fun H locs hS => ?_)
  obtain ⟨E_47, eE, hrun⟩ := ltE hrun
  have hS : SP X b (n + 138) E_47 s.heap H locs := by rw [eE]; exact hS
  have he_1 : E_47 n = .inr (8, [.int 0, .int 0, .int 0, .int 0, .int 0, .ref (b + (n + 1)), .ref (b + (n + 2)), .ref (b + (n + 3)), .ref (b + (n + 4)), .ref (b + (n + 5))]) := by rw [eE]; exact (va_up_ne _ _ (by omega)).trans he_1
  have he_4 : E_47 (n + 6) = qA X 2 (va_up (va_up (fun _ => none) (0 : Int32).toNatClampNeg (some (b + (n + 7)))) (1 : Int32).toNatClampNeg (some (b + (n + 13)))) 3 := by rw [eE]; exact (va_up_ne _ _ (by omega)).trans he_4
  have he_14 : E_47 (n + 19) = .inr (7, [.ref (b + (n + 20)), .int (0 : Int32), .int (0 : Int32), .int (0 : Int32), .int (-1 : Int32)]) := by rw [eE]; exact (va_up_ne _ _ (by omega)).trans he_14
  have he_18 : E_47 (n + 21) = .inr (8, [.int 0, .int 0, .int 0, .int 0, .int 0, .ref (b + (n + 22)), .ref (b + (n + 23)), .ref (b + (n + 24)), .ref (b + (n + 25)), .ref (b + (n + 26))]) := by rw [eE]; exact (va_up_ne _ _ (by omega)).trans he_18
  have he_23 : E_47 (n + 27) = .inr (3, [.ref (b + n), .int (0 : Int32), .int (0 : Int32), .int (0 : Int32), .int (0 : Int32), .ref (b + (n + 28)), .ref (b + (n + 29)), .ref (b + (n + 30)), .ref (b + (n + 31))]) := by rw [eE]; exact (va_up_ne _ _ (by omega)).trans he_23
  have he_27 : E_47 (n + 32) = .inr (3, [.ref (b + n), .int (0 : Int32), .int (0 : Int32), .int (0 : Int32), .int (0 : Int32), .ref (b + (n + 33)), .ref (b + (n + 34)), .ref (b + (n + 35)), .ref (b + (n + 36))]) := by rw [eE]; exact (va_up_ne _ _ (by omega)).trans he_27
  have he_31 : E_47 (n + 37) = .inr (6, [.ref (b + (n + 38)), .int (0 : Int32), .int (0 : Int32)]) := by rw [eE]; exact (va_up_ne _ _ (by omega)).trans he_31
  have he_36 : E_47 (n + 119) = .inr (5, [.ref (b + (n + 120)), .ref (b + (n + 121)), .ref (b + (n + 122)), .ref (b + (n + 123)), .int (0 : Int32), .int (0 : Int32)]) := by rw [eE]; exact (va_up_ne _ _ (by omega)).trans he_36
  have he_40 : E_47 (n + 124) = .inr (0, [.int (0 : Int32), .int (-1 : Int32), .ref (b + (n + 125))]) := by rw [eE]; exact (va_up_ne _ _ (by omega)).trans he_40
  have he_44 : E_47 (n + 126) = .inr (9, [.ref (b + n), .ref (b + (n + 127)), .ref (b + (n + 137)), .int (0 : Int32)]) := by rw [eE]; exact (va_up_ne _ _ (by omega)).trans he_44
  have he_o : E_47 o = .inr (10, [.ref (b + (n + 19)), .ref (b + (n + 21)), .ref (b + n), .ref (b + (n + 27)), .ref (b + (n + 32)), .ref (b + (n + 37)), .ref (b + (n + 6)), .ref (b + (n + 119)), .ref (b + (n + 124)), .ref (b + (n + 126)), .null, .null]) := by rw [eE]; exact va_up_self _ _ _
  clear eE
  refine lv_aload_n hx hb dX10_init_143 rfl (lv_at hl 3 rfl) ?_
  refine s_new (ci := 2) (fs := [.null, .null, .null, .null, .int 0, .int 0]) B hS layX2 tyX2 tyX2_ok (tw_2 26 rfl rfl) (tw_2 27 rfl rfl) (tw_1 10 rfl rfl) rfl (fun j hj => by rcases (show j = 0 ∨ j = 1 ∨ j = 2 ∨ j = 3 ∨ j = 4 ∨ j = 5 by omega) with rfl | rfl | rfl | rfl | rfl | rfl <;> rfl) (Nat.le_of_ble_eq_true rfl) (Nat.le_of_ble_eq_true rfl) dX10_init_144 (fun H hS => ?_)
  obtain ⟨E_49, eE, hrun⟩ := ltE hrun
  have hS : SP X b (n + 139) E_49 s.heap H locs := by rw [eE]; exact hS
  have he_o : E_49 o = .inr (10, [.ref (b + (n + 19)), .ref (b + (n + 21)), .ref (b + n), .ref (b + (n + 27)), .ref (b + (n + 32)), .ref (b + (n + 37)), .ref (b + (n + 6)), .ref (b + (n + 119)), .ref (b + (n + 124)), .ref (b + (n + 126)), .null, .null]) := by rw [eE]; exact (va_up_ne _ _ (by omega)).trans he_o
  have he_1 : E_49 n = .inr (8, [.int 0, .int 0, .int 0, .int 0, .int 0, .ref (b + (n + 1)), .ref (b + (n + 2)), .ref (b + (n + 3)), .ref (b + (n + 4)), .ref (b + (n + 5))]) := by rw [eE]; exact (va_up_ne _ _ (by omega)).trans he_1
  have he_4 : E_49 (n + 6) = qA X 2 (va_up (va_up (fun _ => none) (0 : Int32).toNatClampNeg (some (b + (n + 7)))) (1 : Int32).toNatClampNeg (some (b + (n + 13)))) 3 := by rw [eE]; exact (va_up_ne _ _ (by omega)).trans he_4
  have he_14 : E_49 (n + 19) = .inr (7, [.ref (b + (n + 20)), .int (0 : Int32), .int (0 : Int32), .int (0 : Int32), .int (-1 : Int32)]) := by rw [eE]; exact (va_up_ne _ _ (by omega)).trans he_14
  have he_18 : E_49 (n + 21) = .inr (8, [.int 0, .int 0, .int 0, .int 0, .int 0, .ref (b + (n + 22)), .ref (b + (n + 23)), .ref (b + (n + 24)), .ref (b + (n + 25)), .ref (b + (n + 26))]) := by rw [eE]; exact (va_up_ne _ _ (by omega)).trans he_18
  have he_23 : E_49 (n + 27) = .inr (3, [.ref (b + n), .int (0 : Int32), .int (0 : Int32), .int (0 : Int32), .int (0 : Int32), .ref (b + (n + 28)), .ref (b + (n + 29)), .ref (b + (n + 30)), .ref (b + (n + 31))]) := by rw [eE]; exact (va_up_ne _ _ (by omega)).trans he_23
  have he_27 : E_49 (n + 32) = .inr (3, [.ref (b + n), .int (0 : Int32), .int (0 : Int32), .int (0 : Int32), .int (0 : Int32), .ref (b + (n + 33)), .ref (b + (n + 34)), .ref (b + (n + 35)), .ref (b + (n + 36))]) := by rw [eE]; exact (va_up_ne _ _ (by omega)).trans he_27
  have he_31 : E_49 (n + 37) = .inr (6, [.ref (b + (n + 38)), .int (0 : Int32), .int (0 : Int32)]) := by rw [eE]; exact (va_up_ne _ _ (by omega)).trans he_31
  have he_36 : E_49 (n + 119) = .inr (5, [.ref (b + (n + 120)), .ref (b + (n + 121)), .ref (b + (n + 122)), .ref (b + (n + 123)), .int (0 : Int32), .int (0 : Int32)]) := by rw [eE]; exact (va_up_ne _ _ (by omega)).trans he_36
  have he_40 : E_49 (n + 124) = .inr (0, [.int (0 : Int32), .int (-1 : Int32), .ref (b + (n + 125))]) := by rw [eE]; exact (va_up_ne _ _ (by omega)).trans he_40
  have he_44 : E_49 (n + 126) = .inr (9, [.ref (b + n), .ref (b + (n + 127)), .ref (b + (n + 137)), .int (0 : Int32)]) := by rw [eE]; exact (va_up_ne _ _ (by omega)).trans he_44
  have he_48 : E_49 (n + 138) = .inr (2, [.null, .null, .null, .null, .int 0, .int 0]) := by rw [eE]; exact va_up_self _ _ _
  clear eE
  refine lv_dup hx hb dX10_init_147 rfl ?_
  refine lv_aload_n hx hb dX10_init_148 rfl (lv_at hl 2 rfl) ?_
  refine sI B hS (kX2_init l X b (n + 138) (b + n) (n + 139) E_49 (by omega) he_48) (tw_2 28 rfl rfl) (tw_2 29 rfl rfl) (tw_1 10 rfl rfl) (tw_2 30 rfl rfl) rfl mdX2_init rfl hl.1 rfl (Nat.le_of_ble_eq_true rfl) ⟨Nat.le_of_ble_eq_true rfl, Nat.le_of_ble_eq_true rfl⟩ ⟨Nat.le_of_ble_eq_true rfl, Nat.le_of_ble_eq_true rfl⟩ dX10_init_149 (fun H locs hS => ?_)
  obtain ⟨E_50, eE, hrun⟩ := ltE hrun
  have hS : SP X b (n + 142) E_50 s.heap H locs := by rw [eE]; exact hS
  have he_o : E_50 o = .inr (10, [.ref (b + (n + 19)), .ref (b + (n + 21)), .ref (b + n), .ref (b + (n + 27)), .ref (b + (n + 32)), .ref (b + (n + 37)), .ref (b + (n + 6)), .ref (b + (n + 119)), .ref (b + (n + 124)), .ref (b + (n + 126)), .null, .null]) := by rw [eE]; exact (eX2_init_k (by omega) (by omega)).trans he_o
  have he_1 : E_50 n = .inr (8, [.int 0, .int 0, .int 0, .int 0, .int 0, .ref (b + (n + 1)), .ref (b + (n + 2)), .ref (b + (n + 3)), .ref (b + (n + 4)), .ref (b + (n + 5))]) := by rw [eE]; exact (eX2_init_k (by omega) (by omega)).trans he_1
  have he_4 : E_50 (n + 6) = qA X 2 (va_up (va_up (fun _ => none) (0 : Int32).toNatClampNeg (some (b + (n + 7)))) (1 : Int32).toNatClampNeg (some (b + (n + 13)))) 3 := by rw [eE]; exact (eX2_init_k (by omega) (by omega)).trans he_4
  have he_14 : E_50 (n + 19) = .inr (7, [.ref (b + (n + 20)), .int (0 : Int32), .int (0 : Int32), .int (0 : Int32), .int (-1 : Int32)]) := by rw [eE]; exact (eX2_init_k (by omega) (by omega)).trans he_14
  have he_18 : E_50 (n + 21) = .inr (8, [.int 0, .int 0, .int 0, .int 0, .int 0, .ref (b + (n + 22)), .ref (b + (n + 23)), .ref (b + (n + 24)), .ref (b + (n + 25)), .ref (b + (n + 26))]) := by rw [eE]; exact (eX2_init_k (by omega) (by omega)).trans he_18
  have he_23 : E_50 (n + 27) = .inr (3, [.ref (b + n), .int (0 : Int32), .int (0 : Int32), .int (0 : Int32), .int (0 : Int32), .ref (b + (n + 28)), .ref (b + (n + 29)), .ref (b + (n + 30)), .ref (b + (n + 31))]) := by rw [eE]; exact (eX2_init_k (by omega) (by omega)).trans he_23
  have he_27 : E_50 (n + 32) = .inr (3, [.ref (b + n), .int (0 : Int32), .int (0 : Int32), .int (0 : Int32), .int (0 : Int32), .ref (b + (n + 33)), .ref (b + (n + 34)), .ref (b + (n + 35)), .ref (b + (n + 36))]) := by rw [eE]; exact (eX2_init_k (by omega) (by omega)).trans he_27
  have he_31 : E_50 (n + 37) = .inr (6, [.ref (b + (n + 38)), .int (0 : Int32), .int (0 : Int32)]) := by rw [eE]; exact (eX2_init_k (by omega) (by omega)).trans he_31
  have he_36 : E_50 (n + 119) = .inr (5, [.ref (b + (n + 120)), .ref (b + (n + 121)), .ref (b + (n + 122)), .ref (b + (n + 123)), .int (0 : Int32), .int (0 : Int32)]) := by rw [eE]; exact (eX2_init_k (by omega) (by omega)).trans he_36
  have he_40 : E_50 (n + 124) = .inr (0, [.int (0 : Int32), .int (-1 : Int32), .ref (b + (n + 125))]) := by rw [eE]; exact (eX2_init_k (by omega) (by omega)).trans he_40
  have he_44 : E_50 (n + 126) = .inr (9, [.ref (b + n), .ref (b + (n + 127)), .ref (b + (n + 137)), .int (0 : Int32)]) := by rw [eE]; exact (eX2_init_k (by omega) (by omega)).trans he_44
  have he_48 : E_50 (n + 138) = .inr (2, [.ref (b + n), .ref (b + (n + 139)), .ref (b + (n + 140)), .ref (b + (n + 141)), .int (0 : Int32), .int (0 : Int32)]) := by rw [eE]; exact eX2_init_s (by omega)
  clear eE
  refine s_put B hS hin layX10 tyX10 tyX10_ok nmX10 (by omega) he_o rfl 10 (by decide) (tw_2 74 rfl rfl) rfl rfl rfl rfl rfl (Nat.le_of_ble_eq_true rfl) dX10_init_152 (fun H locs hS => ?_)
  obtain ⟨E_51, eE, hrun⟩ := ltE hrun
  have hS : SP X b (n + 142) E_51 s.heap H locs := by rw [eE]; exact hS
  have he_1 : E_51 n = .inr (8, [.int 0, .int 0, .int 0, .int 0, .int 0, .ref (b + (n + 1)), .ref (b + (n + 2)), .ref (b + (n + 3)), .ref (b + (n + 4)), .ref (b + (n + 5))]) := by rw [eE]; exact (va_up_ne _ _ (by omega)).trans he_1
  have he_4 : E_51 (n + 6) = qA X 2 (va_up (va_up (fun _ => none) (0 : Int32).toNatClampNeg (some (b + (n + 7)))) (1 : Int32).toNatClampNeg (some (b + (n + 13)))) 3 := by rw [eE]; exact (va_up_ne _ _ (by omega)).trans he_4
  have he_14 : E_51 (n + 19) = .inr (7, [.ref (b + (n + 20)), .int (0 : Int32), .int (0 : Int32), .int (0 : Int32), .int (-1 : Int32)]) := by rw [eE]; exact (va_up_ne _ _ (by omega)).trans he_14
  have he_18 : E_51 (n + 21) = .inr (8, [.int 0, .int 0, .int 0, .int 0, .int 0, .ref (b + (n + 22)), .ref (b + (n + 23)), .ref (b + (n + 24)), .ref (b + (n + 25)), .ref (b + (n + 26))]) := by rw [eE]; exact (va_up_ne _ _ (by omega)).trans he_18
  have he_23 : E_51 (n + 27) = .inr (3, [.ref (b + n), .int (0 : Int32), .int (0 : Int32), .int (0 : Int32), .int (0 : Int32), .ref (b + (n + 28)), .ref (b + (n + 29)), .ref (b + (n + 30)), .ref (b + (n + 31))]) := by rw [eE]; exact (va_up_ne _ _ (by omega)).trans he_23
  have he_27 : E_51 (n + 32) = .inr (3, [.ref (b + n), .int (0 : Int32), .int (0 : Int32), .int (0 : Int32), .int (0 : Int32), .ref (b + (n + 33)), .ref (b + (n + 34)), .ref (b + (n + 35)), .ref (b + (n + 36))]) := by rw [eE]; exact (va_up_ne _ _ (by omega)).trans he_27
  have he_31 : E_51 (n + 37) = .inr (6, [.ref (b + (n + 38)), .int (0 : Int32), .int (0 : Int32)]) := by rw [eE]; exact (va_up_ne _ _ (by omega)).trans he_31
  have he_36 : E_51 (n + 119) = .inr (5, [.ref (b + (n + 120)), .ref (b + (n + 121)), .ref (b + (n + 122)), .ref (b + (n + 123)), .int (0 : Int32), .int (0 : Int32)]) := by rw [eE]; exact (va_up_ne _ _ (by omega)).trans he_36
  have he_40 : E_51 (n + 124) = .inr (0, [.int (0 : Int32), .int (-1 : Int32), .ref (b + (n + 125))]) := by rw [eE]; exact (va_up_ne _ _ (by omega)).trans he_40
  have he_44 : E_51 (n + 126) = .inr (9, [.ref (b + n), .ref (b + (n + 127)), .ref (b + (n + 137)), .int (0 : Int32)]) := by rw [eE]; exact (va_up_ne _ _ (by omega)).trans he_44
  have he_48 : E_51 (n + 138) = .inr (2, [.ref (b + n), .ref (b + (n + 139)), .ref (b + (n + 140)), .ref (b + (n + 141)), .int (0 : Int32), .int (0 : Int32)]) := by rw [eE]; exact (va_up_ne _ _ (by omega)).trans he_48
  have he_o : E_51 o = .inr (10, [.ref (b + (n + 19)), .ref (b + (n + 21)), .ref (b + n), .ref (b + (n + 27)), .ref (b + (n + 32)), .ref (b + (n + 37)), .ref (b + (n + 6)), .ref (b + (n + 119)), .ref (b + (n + 124)), .ref (b + (n + 126)), .ref (b + (n + 138)), .null]) := by rw [eE]; exact va_up_self _ _ _
  clear eE
  refine lv_aload_n hx hb dX10_init_155 rfl (lv_at hl 3 rfl) ?_
  refine s_new (ci := 1) (fs := [.int 0]) B hS layX1 tyX1 tyX1_ok (tw_2 53 rfl rfl) (tw_2 54 rfl rfl) (tw_1 11 rfl rfl) rfl (fun j hj => by rcases (show j = 0 by omega) with rfl <;> rfl) (Nat.le_of_ble_eq_true rfl) (Nat.le_of_ble_eq_true rfl) dX10_init_156 (fun H hS => ?_)
  obtain ⟨E_53, eE, hrun⟩ := ltE hrun
  have hS : SP X b (n + 143) E_53 s.heap H locs := by rw [eE]; exact hS
  have he_o : E_53 o = .inr (10, [.ref (b + (n + 19)), .ref (b + (n + 21)), .ref (b + n), .ref (b + (n + 27)), .ref (b + (n + 32)), .ref (b + (n + 37)), .ref (b + (n + 6)), .ref (b + (n + 119)), .ref (b + (n + 124)), .ref (b + (n + 126)), .ref (b + (n + 138)), .null]) := by rw [eE]; exact (va_up_ne _ _ (by omega)).trans he_o
  have he_1 : E_53 n = .inr (8, [.int 0, .int 0, .int 0, .int 0, .int 0, .ref (b + (n + 1)), .ref (b + (n + 2)), .ref (b + (n + 3)), .ref (b + (n + 4)), .ref (b + (n + 5))]) := by rw [eE]; exact (va_up_ne _ _ (by omega)).trans he_1
  have he_4 : E_53 (n + 6) = qA X 2 (va_up (va_up (fun _ => none) (0 : Int32).toNatClampNeg (some (b + (n + 7)))) (1 : Int32).toNatClampNeg (some (b + (n + 13)))) 3 := by rw [eE]; exact (va_up_ne _ _ (by omega)).trans he_4
  have he_14 : E_53 (n + 19) = .inr (7, [.ref (b + (n + 20)), .int (0 : Int32), .int (0 : Int32), .int (0 : Int32), .int (-1 : Int32)]) := by rw [eE]; exact (va_up_ne _ _ (by omega)).trans he_14
  have he_18 : E_53 (n + 21) = .inr (8, [.int 0, .int 0, .int 0, .int 0, .int 0, .ref (b + (n + 22)), .ref (b + (n + 23)), .ref (b + (n + 24)), .ref (b + (n + 25)), .ref (b + (n + 26))]) := by rw [eE]; exact (va_up_ne _ _ (by omega)).trans he_18
  have he_23 : E_53 (n + 27) = .inr (3, [.ref (b + n), .int (0 : Int32), .int (0 : Int32), .int (0 : Int32), .int (0 : Int32), .ref (b + (n + 28)), .ref (b + (n + 29)), .ref (b + (n + 30)), .ref (b + (n + 31))]) := by rw [eE]; exact (va_up_ne _ _ (by omega)).trans he_23
  have he_27 : E_53 (n + 32) = .inr (3, [.ref (b + n), .int (0 : Int32), .int (0 : Int32), .int (0 : Int32), .int (0 : Int32), .ref (b + (n + 33)), .ref (b + (n + 34)), .ref (b + (n + 35)), .ref (b + (n + 36))]) := by rw [eE]; exact (va_up_ne _ _ (by omega)).trans he_27
  have he_31 : E_53 (n + 37) = .inr (6, [.ref (b + (n + 38)), .int (0 : Int32), .int (0 : Int32)]) := by rw [eE]; exact (va_up_ne _ _ (by omega)).trans he_31
  have he_36 : E_53 (n + 119) = .inr (5, [.ref (b + (n + 120)), .ref (b + (n + 121)), .ref (b + (n + 122)), .ref (b + (n + 123)), .int (0 : Int32), .int (0 : Int32)]) := by rw [eE]; exact (va_up_ne _ _ (by omega)).trans he_36
  have he_40 : E_53 (n + 124) = .inr (0, [.int (0 : Int32), .int (-1 : Int32), .ref (b + (n + 125))]) := by rw [eE]; exact (va_up_ne _ _ (by omega)).trans he_40
  have he_44 : E_53 (n + 126) = .inr (9, [.ref (b + n), .ref (b + (n + 127)), .ref (b + (n + 137)), .int (0 : Int32)]) := by rw [eE]; exact (va_up_ne _ _ (by omega)).trans he_44
  have he_48 : E_53 (n + 138) = .inr (2, [.ref (b + n), .ref (b + (n + 139)), .ref (b + (n + 140)), .ref (b + (n + 141)), .int (0 : Int32), .int (0 : Int32)]) := by rw [eE]; exact (va_up_ne _ _ (by omega)).trans he_48
  have he_52 : E_53 (n + 142) = .inr (1, [.int 0]) := by rw [eE]; exact va_up_self _ _ _
  clear eE
  refine lv_dup hx hb dX10_init_159 rfl ?_
  refine sIN B hS (kX1_init l X b (n + 142)  (n + 143) E_53 (by omega) he_52) (host := "SongSquares") (List.mem_of_getElem? (i := 54) rfl) (tw_2 56 rfl rfl) (tw_1 11 rfl rfl) (tw_2 57 rfl rfl) rfl mdX1_init rfl hl.1 rfl (Nat.le_of_ble_eq_true rfl) ⟨Nat.le_of_ble_eq_true rfl, Nat.le_of_ble_eq_true rfl⟩ ⟨Nat.le_of_ble_eq_true rfl, Nat.le_of_ble_eq_true rfl⟩ dX10_init_160 (fun H locs hS => ?_)
  obtain ⟨E_54, eE, hrun⟩ := ltE hrun
  have hS : SP X b (n + 143) E_54 s.heap H locs := by rw [eE]; exact hS
  have he_o : E_54 o = .inr (10, [.ref (b + (n + 19)), .ref (b + (n + 21)), .ref (b + n), .ref (b + (n + 27)), .ref (b + (n + 32)), .ref (b + (n + 37)), .ref (b + (n + 6)), .ref (b + (n + 119)), .ref (b + (n + 124)), .ref (b + (n + 126)), .ref (b + (n + 138)), .null]) := by rw [eE]; exact (eX1_init_k (by omega) (by omega)).trans he_o
  have he_1 : E_54 n = .inr (8, [.int 0, .int 0, .int 0, .int 0, .int 0, .ref (b + (n + 1)), .ref (b + (n + 2)), .ref (b + (n + 3)), .ref (b + (n + 4)), .ref (b + (n + 5))]) := by rw [eE]; exact (eX1_init_k (by omega) (by omega)).trans he_1
  have he_4 : E_54 (n + 6) = qA X 2 (va_up (va_up (fun _ => none) (0 : Int32).toNatClampNeg (some (b + (n + 7)))) (1 : Int32).toNatClampNeg (some (b + (n + 13)))) 3 := by rw [eE]; exact (eX1_init_k (by omega) (by omega)).trans he_4
  have he_14 : E_54 (n + 19) = .inr (7, [.ref (b + (n + 20)), .int (0 : Int32), .int (0 : Int32), .int (0 : Int32), .int (-1 : Int32)]) := by rw [eE]; exact (eX1_init_k (by omega) (by omega)).trans he_14
  have he_18 : E_54 (n + 21) = .inr (8, [.int 0, .int 0, .int 0, .int 0, .int 0, .ref (b + (n + 22)), .ref (b + (n + 23)), .ref (b + (n + 24)), .ref (b + (n + 25)), .ref (b + (n + 26))]) := by rw [eE]; exact (eX1_init_k (by omega) (by omega)).trans he_18
  have he_23 : E_54 (n + 27) = .inr (3, [.ref (b + n), .int (0 : Int32), .int (0 : Int32), .int (0 : Int32), .int (0 : Int32), .ref (b + (n + 28)), .ref (b + (n + 29)), .ref (b + (n + 30)), .ref (b + (n + 31))]) := by rw [eE]; exact (eX1_init_k (by omega) (by omega)).trans he_23
  have he_27 : E_54 (n + 32) = .inr (3, [.ref (b + n), .int (0 : Int32), .int (0 : Int32), .int (0 : Int32), .int (0 : Int32), .ref (b + (n + 33)), .ref (b + (n + 34)), .ref (b + (n + 35)), .ref (b + (n + 36))]) := by rw [eE]; exact (eX1_init_k (by omega) (by omega)).trans he_27
  have he_31 : E_54 (n + 37) = .inr (6, [.ref (b + (n + 38)), .int (0 : Int32), .int (0 : Int32)]) := by rw [eE]; exact (eX1_init_k (by omega) (by omega)).trans he_31
  have he_36 : E_54 (n + 119) = .inr (5, [.ref (b + (n + 120)), .ref (b + (n + 121)), .ref (b + (n + 122)), .ref (b + (n + 123)), .int (0 : Int32), .int (0 : Int32)]) := by rw [eE]; exact (eX1_init_k (by omega) (by omega)).trans he_36
  have he_40 : E_54 (n + 124) = .inr (0, [.int (0 : Int32), .int (-1 : Int32), .ref (b + (n + 125))]) := by rw [eE]; exact (eX1_init_k (by omega) (by omega)).trans he_40
  have he_44 : E_54 (n + 126) = .inr (9, [.ref (b + n), .ref (b + (n + 127)), .ref (b + (n + 137)), .int (0 : Int32)]) := by rw [eE]; exact (eX1_init_k (by omega) (by omega)).trans he_44
  have he_48 : E_54 (n + 138) = .inr (2, [.ref (b + n), .ref (b + (n + 139)), .ref (b + (n + 140)), .ref (b + (n + 141)), .int (0 : Int32), .int (0 : Int32)]) := by rw [eE]; exact (eX1_init_k (by omega) (by omega)).trans he_48
  have he_52 : E_54 (n + 142) = .inr (1, [.int (0 : Int32)]) := by rw [eE]; exact eX1_init_s (by omega)
  clear eE
  refine s_put B hS hin layX10 tyX10 tyX10_ok nmX10 (by omega) he_o rfl 11 (by decide) (tw_2 75 rfl rfl) rfl rfl rfl rfl rfl (Nat.le_of_ble_eq_true rfl) dX10_init_163 (fun H locs hS => ?_)
  obtain ⟨E_55, eE, hrun⟩ := ltE hrun
  have hS : SP X b (n + 143) E_55 s.heap H locs := by rw [eE]; exact hS
  have he_1 : E_55 n = .inr (8, [.int 0, .int 0, .int 0, .int 0, .int 0, .ref (b + (n + 1)), .ref (b + (n + 2)), .ref (b + (n + 3)), .ref (b + (n + 4)), .ref (b + (n + 5))]) := by rw [eE]; exact (va_up_ne _ _ (by omega)).trans he_1
  have he_4 : E_55 (n + 6) = qA X 2 (va_up (va_up (fun _ => none) (0 : Int32).toNatClampNeg (some (b + (n + 7)))) (1 : Int32).toNatClampNeg (some (b + (n + 13)))) 3 := by rw [eE]; exact (va_up_ne _ _ (by omega)).trans he_4
  have he_14 : E_55 (n + 19) = .inr (7, [.ref (b + (n + 20)), .int (0 : Int32), .int (0 : Int32), .int (0 : Int32), .int (-1 : Int32)]) := by rw [eE]; exact (va_up_ne _ _ (by omega)).trans he_14
  have he_18 : E_55 (n + 21) = .inr (8, [.int 0, .int 0, .int 0, .int 0, .int 0, .ref (b + (n + 22)), .ref (b + (n + 23)), .ref (b + (n + 24)), .ref (b + (n + 25)), .ref (b + (n + 26))]) := by rw [eE]; exact (va_up_ne _ _ (by omega)).trans he_18
  have he_23 : E_55 (n + 27) = .inr (3, [.ref (b + n), .int (0 : Int32), .int (0 : Int32), .int (0 : Int32), .int (0 : Int32), .ref (b + (n + 28)), .ref (b + (n + 29)), .ref (b + (n + 30)), .ref (b + (n + 31))]) := by rw [eE]; exact (va_up_ne _ _ (by omega)).trans he_23
  have he_27 : E_55 (n + 32) = .inr (3, [.ref (b + n), .int (0 : Int32), .int (0 : Int32), .int (0 : Int32), .int (0 : Int32), .ref (b + (n + 33)), .ref (b + (n + 34)), .ref (b + (n + 35)), .ref (b + (n + 36))]) := by rw [eE]; exact (va_up_ne _ _ (by omega)).trans he_27
  have he_31 : E_55 (n + 37) = .inr (6, [.ref (b + (n + 38)), .int (0 : Int32), .int (0 : Int32)]) := by rw [eE]; exact (va_up_ne _ _ (by omega)).trans he_31
  have he_36 : E_55 (n + 119) = .inr (5, [.ref (b + (n + 120)), .ref (b + (n + 121)), .ref (b + (n + 122)), .ref (b + (n + 123)), .int (0 : Int32), .int (0 : Int32)]) := by rw [eE]; exact (va_up_ne _ _ (by omega)).trans he_36
  have he_40 : E_55 (n + 124) = .inr (0, [.int (0 : Int32), .int (-1 : Int32), .ref (b + (n + 125))]) := by rw [eE]; exact (va_up_ne _ _ (by omega)).trans he_40
  have he_44 : E_55 (n + 126) = .inr (9, [.ref (b + n), .ref (b + (n + 127)), .ref (b + (n + 137)), .int (0 : Int32)]) := by rw [eE]; exact (va_up_ne _ _ (by omega)).trans he_44
  have he_48 : E_55 (n + 138) = .inr (2, [.ref (b + n), .ref (b + (n + 139)), .ref (b + (n + 140)), .ref (b + (n + 141)), .int (0 : Int32), .int (0 : Int32)]) := by rw [eE]; exact (va_up_ne _ _ (by omega)).trans he_48
  have he_52 : E_55 (n + 142) = .inr (1, [.int (0 : Int32)]) := by rw [eE]; exact (va_up_ne _ _ (by omega)).trans he_52
  have he_o : E_55 o = .inr (10, [.ref (b + (n + 19)), .ref (b + (n + 21)), .ref (b + n), .ref (b + (n + 27)), .ref (b + (n + 32)), .ref (b + (n + 37)), .ref (b + (n + 6)), .ref (b + (n + 119)), .ref (b + (n + 124)), .ref (b + (n + 126)), .ref (b + (n + 138)), .ref (b + (n + 142))]) := by rw [eE]; exact va_up_self _ _ _
  clear eE
  exact hret _ _ _ _ _ hrun hS dX10_init_166
def eX11_init (X : Cx) (b o n : Nat) (E : Nat → va_E) : Nat → va_E := lt1 (va_up E n (.inl (X.2.2 0, 7, .inl (fun _ => 0)))) (fun E_1 => lt1 (va_up E_1 o (.inr (11, [.int 0, .int 0, .int 0, .int 0, .ref (b + n), .null, .null, .null, .int 0, .null, .null, .int 0, .null, .int 0, .int 0, .int 0, .int 0, .int 0, .int 0, .int 0, .int 0, .int 0, .null, .null, .null, .null, .int 0, .null, .int 0, .null, .null, .null, .int 0, .null, .null, .int 0, .null, .null, .null, .null]))) (fun E_2 => lt1 (va_up E_2 (n + 1) (.inl (X.2.2 0, 7, .inl (fun _ => 0)))) (fun E_3 => lt1 (va_up E_3 o (.inr (11, [.int 0, .int 0, .int 0, .int 0, .ref (b + n), .ref (b + (n + 1)), .null, .null, .int 0, .null, .null, .int 0, .null, .int 0, .int 0, .int 0, .int 0, .int 0, .int 0, .int 0, .int 0, .int 0, .null, .null, .null, .null, .int 0, .null, .int 0, .null, .null, .null, .int 0, .null, .null, .int 0, .null, .null, .null, .null]))) (fun E_4 => lt1 (va_up E_4 (n + 2) (.inl (X.2.2 0, 7, .inl (fun _ => 0)))) (fun E_5 => lt1 (va_up E_5 o (.inr (11, [.int 0, .int 0, .int 0, .int 0, .ref (b + n), .ref (b + (n + 1)), .ref (b + (n + 2)), .null, .int 0, .null, .null, .int 0, .null, .int 0, .int 0, .int 0, .int 0, .int 0, .int 0, .int 0, .int 0, .int 0, .null, .null, .null, .null, .int 0, .null, .int 0, .null, .null, .null, .int 0, .null, .null, .int 0, .null, .null, .null, .null]))) (fun E_6 => lt1 (va_up E_6 (n + 3) (.inl (X.2.2 0, 7, .inl (fun _ => 0)))) (fun E_7 => lt1 (va_up E_7 o (.inr (11, [.int 0, .int 0, .int 0, .int 0, .ref (b + n), .ref (b + (n + 1)), .ref (b + (n + 2)), .ref (b + (n + 3)), .int 0, .null, .null, .int 0, .null, .int 0, .int 0, .int 0, .int 0, .int 0, .int 0, .int 0, .int 0, .int 0, .null, .null, .null, .null, .int 0, .null, .int 0, .null, .null, .null, .int 0, .null, .null, .int 0, .null, .null, .null, .null]))) (fun E_8 => lt1 (va_up E_8 (n + 4) (.inl (X.2.2 0, 4, .inl (fun _ => 0)))) (fun E_9 => lt1 (va_up E_9 o (.inr (11, [.int 0, .int 0, .int 0, .int 0, .ref (b + n), .ref (b + (n + 1)), .ref (b + (n + 2)), .ref (b + (n + 3)), .int 0, .ref (b + (n + 4)), .null, .int 0, .null, .int 0, .int 0, .int 0, .int 0, .int 0, .int 0, .int 0, .int 0, .int 0, .null, .null, .null, .null, .int 0, .null, .int 0, .null, .null, .null, .int 0, .null, .null, .int 0, .null, .null, .null, .null]))) (fun E_10 => lt1 (va_up E_10 (n + 5) (.inl (X.2.2 0, 29, .inl (fun _ => 0)))) (fun E_11 => lt1 (va_up E_11 o (.inr (11, [.int 0, .int 0, .int 0, .int 0, .ref (b + n), .ref (b + (n + 1)), .ref (b + (n + 2)), .ref (b + (n + 3)), .int 0, .ref (b + (n + 4)), .ref (b + (n + 5)), .int 0, .null, .int 0, .int 0, .int 0, .int 0, .int 0, .int 0, .int 0, .int 0, .int 0, .null, .null, .null, .null, .int 0, .null, .int 0, .null, .null, .null, .int 0, .null, .null, .int 0, .null, .null, .null, .null]))) (fun E_12 => lt1 (va_up E_12 (n + 6) (.inl (X.2.2 0, 240, .inl (fun _ => 0)))) (fun E_13 => lt1 (va_up E_13 o (.inr (11, [.int 0, .int 0, .int 0, .int 0, .ref (b + n), .ref (b + (n + 1)), .ref (b + (n + 2)), .ref (b + (n + 3)), .int 0, .ref (b + (n + 4)), .ref (b + (n + 5)), .int 0, .ref (b + (n + 6)), .int 0, .int 0, .int 0, .int 0, .int 0, .int 0, .int 0, .int 0, .int 0, .null, .null, .null, .null, .int 0, .null, .int 0, .null, .null, .null, .int 0, .null, .null, .int 0, .null, .null, .null, .null]))) (fun E_14 => lt1 (va_up E_14 o (.inr (11, [.int 0, .int 0, .int 0, .int 0, .ref (b + n), .ref (b + (n + 1)), .ref (b + (n + 2)), .ref (b + (n + 3)), .int 0, .ref (b + (n + 4)), .ref (b + (n + 5)), .int 0, .ref (b + (n + 6)), .int 0, .int (-1 : Int32), .int 0, .int 0, .int 0, .int 0, .int 0, .int 0, .int 0, .null, .null, .null, .null, .int 0, .null, .int 0, .null, .null, .null, .int 0, .null, .null, .int 0, .null, .null, .null, .null]))) (fun E_15 => lt1 (va_up E_15 (n + 7) (.inl (X.2.2 0, 7, .inl (fun _ => 0)))) (fun E_16 => lt1 (va_up E_16 o (.inr (11, [.int 0, .int 0, .int 0, .int 0, .ref (b + n), .ref (b + (n + 1)), .ref (b + (n + 2)), .ref (b + (n + 3)), .int 0, .ref (b + (n + 4)), .ref (b + (n + 5)), .int 0, .ref (b + (n + 6)), .int 0, .int (-1 : Int32), .int 0, .int 0, .int 0, .int 0, .int 0, .int 0, .int 0, .ref (b + (n + 7)), .null, .null, .null, .int 0, .null, .int 0, .null, .null, .null, .int 0, .null, .null, .int 0, .null, .null, .null, .null]))) (fun E_17 => lt1 (va_up E_17 (n + 8) (.inl (X.2.2 0, 7, .inl (fun _ => 0)))) (fun E_18 => lt1 (va_up E_18 o (.inr (11, [.int 0, .int 0, .int 0, .int 0, .ref (b + n), .ref (b + (n + 1)), .ref (b + (n + 2)), .ref (b + (n + 3)), .int 0, .ref (b + (n + 4)), .ref (b + (n + 5)), .int 0, .ref (b + (n + 6)), .int 0, .int (-1 : Int32), .int 0, .int 0, .int 0, .int 0, .int 0, .int 0, .int 0, .ref (b + (n + 7)), .ref (b + (n + 8)), .null, .null, .int 0, .null, .int 0, .null, .null, .null, .int 0, .null, .null, .int 0, .null, .null, .null, .null]))) (fun E_19 => lt1 (va_up E_19 (n + 9) (.inl (X.2.2 0, 7, .inl (fun _ => 0)))) (fun E_20 => lt1 (va_up E_20 o (.inr (11, [.int 0, .int 0, .int 0, .int 0, .ref (b + n), .ref (b + (n + 1)), .ref (b + (n + 2)), .ref (b + (n + 3)), .int 0, .ref (b + (n + 4)), .ref (b + (n + 5)), .int 0, .ref (b + (n + 6)), .int 0, .int (-1 : Int32), .int 0, .int 0, .int 0, .int 0, .int 0, .int 0, .int 0, .ref (b + (n + 7)), .ref (b + (n + 8)), .ref (b + (n + 9)), .null, .int 0, .null, .int 0, .null, .null, .null, .int 0, .null, .null, .int 0, .null, .null, .null, .null]))) (fun E_21 => lt1 (va_up E_21 (n + 10) (.inl (X.2.2 0, 7, .inl (fun _ => 0)))) (fun E_22 => lt1 (va_up E_22 o (.inr (11, [.int 0, .int 0, .int 0, .int 0, .ref (b + n), .ref (b + (n + 1)), .ref (b + (n + 2)), .ref (b + (n + 3)), .int 0, .ref (b + (n + 4)), .ref (b + (n + 5)), .int 0, .ref (b + (n + 6)), .int 0, .int (-1 : Int32), .int 0, .int 0, .int 0, .int 0, .int 0, .int 0, .int 0, .ref (b + (n + 7)), .ref (b + (n + 8)), .ref (b + (n + 9)), .ref (b + (n + 10)), .int 0, .null, .int 0, .null, .null, .null, .int 0, .null, .null, .int 0, .null, .null, .null, .null]))) (fun E_23 => lt1 (va_up E_23 (n + 11) (.inl (X.2.2 0, 4, .inl (fun _ => 0)))) (fun E_24 => lt1 (va_up E_24 o (.inr (11, [.int 0, .int 0, .int 0, .int 0, .ref (b + n), .ref (b + (n + 1)), .ref (b + (n + 2)), .ref (b + (n + 3)), .int 0, .ref (b + (n + 4)), .ref (b + (n + 5)), .int 0, .ref (b + (n + 6)), .int 0, .int (-1 : Int32), .int 0, .int 0, .int 0, .int 0, .int 0, .int 0, .int 0, .ref (b + (n + 7)), .ref (b + (n + 8)), .ref (b + (n + 9)), .ref (b + (n + 10)), .int 0, .ref (b + (n + 11)), .int 0, .null, .null, .null, .int 0, .null, .null, .int 0, .null, .null, .null, .null]))) (fun E_25 => lt1 (va_up E_25 (n + 12) (.inl (X.2.2 0, 464, .inl (fun _ => 0)))) (fun E_26 => lt1 (va_up E_26 o (.inr (11, [.int 0, .int 0, .int 0, .int 0, .ref (b + n), .ref (b + (n + 1)), .ref (b + (n + 2)), .ref (b + (n + 3)), .int 0, .ref (b + (n + 4)), .ref (b + (n + 5)), .int 0, .ref (b + (n + 6)), .int 0, .int (-1 : Int32), .int 0, .int 0, .int 0, .int 0, .int 0, .int 0, .int 0, .ref (b + (n + 7)), .ref (b + (n + 8)), .ref (b + (n + 9)), .ref (b + (n + 10)), .int 0, .ref (b + (n + 11)), .int 0, .ref (b + (n + 12)), .null, .null, .int 0, .null, .null, .int 0, .null, .null, .null, .null]))) (fun E_27 => lt1 (va_up E_27 (n + 13) (.inl (X.2.2 0, 29, .inl (fun _ => 0)))) (fun E_28 => lt1 (va_up E_28 o (.inr (11, [.int 0, .int 0, .int 0, .int 0, .ref (b + n), .ref (b + (n + 1)), .ref (b + (n + 2)), .ref (b + (n + 3)), .int 0, .ref (b + (n + 4)), .ref (b + (n + 5)), .int 0, .ref (b + (n + 6)), .int 0, .int (-1 : Int32), .int 0, .int 0, .int 0, .int 0, .int 0, .int 0, .int 0, .ref (b + (n + 7)), .ref (b + (n + 8)), .ref (b + (n + 9)), .ref (b + (n + 10)), .int 0, .ref (b + (n + 11)), .int 0, .ref (b + (n + 12)), .ref (b + (n + 13)), .null, .int 0, .null, .null, .int 0, .null, .null, .null, .null]))) (fun E_29 => lt1 (va_up E_29 (n + 14) (.inl (X.2.2 0, 70, .inl (fun _ => 0)))) (fun E_30 => lt1 (va_up E_30 o (.inr (11, [.int 0, .int 0, .int 0, .int 0, .ref (b + n), .ref (b + (n + 1)), .ref (b + (n + 2)), .ref (b + (n + 3)), .int 0, .ref (b + (n + 4)), .ref (b + (n + 5)), .int 0, .ref (b + (n + 6)), .int 0, .int (-1 : Int32), .int 0, .int 0, .int 0, .int 0, .int 0, .int 0, .int 0, .ref (b + (n + 7)), .ref (b + (n + 8)), .ref (b + (n + 9)), .ref (b + (n + 10)), .int 0, .ref (b + (n + 11)), .int 0, .ref (b + (n + 12)), .ref (b + (n + 13)), .ref (b + (n + 14)), .int 0, .null, .null, .int 0, .null, .null, .null, .null]))) (fun E_31 => lt1 (va_up E_31 (n + 15) (.inl (X.2.2 0, 6, .inl (fun _ => 0)))) (fun E_32 => lt1 (va_up E_32 o (.inr (11, [.int 0, .int 0, .int 0, .int 0, .ref (b + n), .ref (b + (n + 1)), .ref (b + (n + 2)), .ref (b + (n + 3)), .int 0, .ref (b + (n + 4)), .ref (b + (n + 5)), .int 0, .ref (b + (n + 6)), .int 0, .int (-1 : Int32), .int 0, .int 0, .int 0, .int 0, .int 0, .int 0, .int 0, .ref (b + (n + 7)), .ref (b + (n + 8)), .ref (b + (n + 9)), .ref (b + (n + 10)), .int 0, .ref (b + (n + 11)), .int 0, .ref (b + (n + 12)), .ref (b + (n + 13)), .ref (b + (n + 14)), .int 0, .ref (b + (n + 15)), .null, .int 0, .null, .null, .null, .null]))) (fun E_33 => lt1 (va_up E_33 (n + 16) (.inl (X.2.2 0, 6, .inl (fun _ => 0)))) (fun E_34 => lt1 (va_up E_34 o (.inr (11, [.int 0, .int 0, .int 0, .int 0, .ref (b + n), .ref (b + (n + 1)), .ref (b + (n + 2)), .ref (b + (n + 3)), .int 0, .ref (b + (n + 4)), .ref (b + (n + 5)), .int 0, .ref (b + (n + 6)), .int 0, .int (-1 : Int32), .int 0, .int 0, .int 0, .int 0, .int 0, .int 0, .int 0, .ref (b + (n + 7)), .ref (b + (n + 8)), .ref (b + (n + 9)), .ref (b + (n + 10)), .int 0, .ref (b + (n + 11)), .int 0, .ref (b + (n + 12)), .ref (b + (n + 13)), .ref (b + (n + 14)), .int 0, .ref (b + (n + 15)), .ref (b + (n + 16)), .int 0, .null, .null, .null, .null]))) (fun E_35 => lt1 (va_up E_35 (n + 17) (.inl (X.2.2 0, 15, .inl (fun _ => 0)))) (fun E_36 => lt1 (va_up E_36 o (.inr (11, [.int 0, .int 0, .int 0, .int 0, .ref (b + n), .ref (b + (n + 1)), .ref (b + (n + 2)), .ref (b + (n + 3)), .int 0, .ref (b + (n + 4)), .ref (b + (n + 5)), .int 0, .ref (b + (n + 6)), .int 0, .int (-1 : Int32), .int 0, .int 0, .int 0, .int 0, .int 0, .int 0, .int 0, .ref (b + (n + 7)), .ref (b + (n + 8)), .ref (b + (n + 9)), .ref (b + (n + 10)), .int 0, .ref (b + (n + 11)), .int 0, .ref (b + (n + 12)), .ref (b + (n + 13)), .ref (b + (n + 14)), .int 0, .ref (b + (n + 15)), .ref (b + (n + 16)), .int 0, .ref (b + (n + 17)), .null, .null, .null]))) (fun E_37 => lt1 (va_up E_37 (n + 18) (.inl (X.2.2 0, 15, .inl (fun _ => 0)))) (fun E_38 => lt1 (va_up E_38 o (.inr (11, [.int 0, .int 0, .int 0, .int 0, .ref (b + n), .ref (b + (n + 1)), .ref (b + (n + 2)), .ref (b + (n + 3)), .int 0, .ref (b + (n + 4)), .ref (b + (n + 5)), .int 0, .ref (b + (n + 6)), .int 0, .int (-1 : Int32), .int 0, .int 0, .int 0, .int 0, .int 0, .int 0, .int 0, .ref (b + (n + 7)), .ref (b + (n + 8)), .ref (b + (n + 9)), .ref (b + (n + 10)), .int 0, .ref (b + (n + 11)), .int 0, .ref (b + (n + 12)), .ref (b + (n + 13)), .ref (b + (n + 14)), .int 0, .ref (b + (n + 15)), .ref (b + (n + 16)), .int 0, .ref (b + (n + 17)), .ref (b + (n + 18)), .null, .null]))) (fun E_39 => lt1 (va_up E_39 (n + 19) (.inl (X.2.2 0, 60, .inl (fun _ => 0)))) (fun E_40 => lt1 (va_up E_40 o (.inr (11, [.int 0, .int 0, .int 0, .int 0, .ref (b + n), .ref (b + (n + 1)), .ref (b + (n + 2)), .ref (b + (n + 3)), .int 0, .ref (b + (n + 4)), .ref (b + (n + 5)), .int 0, .ref (b + (n + 6)), .int 0, .int (-1 : Int32), .int 0, .int 0, .int 0, .int 0, .int 0, .int 0, .int 0, .ref (b + (n + 7)), .ref (b + (n + 8)), .ref (b + (n + 9)), .ref (b + (n + 10)), .int 0, .ref (b + (n + 11)), .int 0, .ref (b + (n + 12)), .ref (b + (n + 13)), .ref (b + (n + 14)), .int 0, .ref (b + (n + 15)), .ref (b + (n + 16)), .int 0, .ref (b + (n + 17)), .ref (b + (n + 18)), .ref (b + (n + 19)), .null]))) (fun E_41 => lt1 (va_up E_41 (n + 20) (.inl (X.2.2 1, 2, .inl (fun _ => 0)))) (fun E_42 => lt1 (va_up E_42 o (.inr (11, [.int 0, .int 0, .int 0, .int 0, .ref (b + n), .ref (b + (n + 1)), .ref (b + (n + 2)), .ref (b + (n + 3)), .int 0, .ref (b + (n + 4)), .ref (b + (n + 5)), .int 0, .ref (b + (n + 6)), .int 0, .int (-1 : Int32), .int 0, .int 0, .int 0, .int 0, .int 0, .int 0, .int 0, .ref (b + (n + 7)), .ref (b + (n + 8)), .ref (b + (n + 9)), .ref (b + (n + 10)), .int 0, .ref (b + (n + 11)), .int 0, .ref (b + (n + 12)), .ref (b + (n + 13)), .ref (b + (n + 14)), .int 0, .ref (b + (n + 15)), .ref (b + (n + 16)), .int 0, .ref (b + (n + 17)), .ref (b + (n + 18)), .ref (b + (n + 19)), .ref (b + (n + 20))]))) (fun E_43 => lt1 (va_up E_43 o (.inr (11, [.int (0 : Int32), .int 0, .int 0, .int 0, .ref (b + n), .ref (b + (n + 1)), .ref (b + (n + 2)), .ref (b + (n + 3)), .int 0, .ref (b + (n + 4)), .ref (b + (n + 5)), .int 0, .ref (b + (n + 6)), .int 0, .int (-1 : Int32), .int 0, .int 0, .int 0, .int 0, .int 0, .int 0, .int 0, .ref (b + (n + 7)), .ref (b + (n + 8)), .ref (b + (n + 9)), .ref (b + (n + 10)), .int 0, .ref (b + (n + 11)), .int 0, .ref (b + (n + 12)), .ref (b + (n + 13)), .ref (b + (n + 14)), .int 0, .ref (b + (n + 15)), .ref (b + (n + 16)), .int 0, .ref (b + (n + 17)), .ref (b + (n + 18)), .ref (b + (n + 19)), .ref (b + (n + 20))]))) (fun E_44 => E_44))))))))))))))))))))))))))))))))))))))))))))
theorem eX11_init_k {X : Cx} {b o n : Nat} {E : Nat → va_E} {j : Nat} (hj : j ≠ o) (hn : j < n) : eX11_init X b o n E j = E j := by
  unfold eX11_init
  simp only [lt1]
  refine (va_up_ne _ _ (by omega)).trans ?_
  refine (va_up_ne _ _ (by omega)).trans ?_
  refine (va_up_ne _ _ (by omega)).trans ?_
  refine (va_up_ne _ _ (by omega)).trans ?_
  refine (va_up_ne _ _ (by omega)).trans ?_
  refine (va_up_ne _ _ (by omega)).trans ?_
  refine (va_up_ne _ _ (by omega)).trans ?_
  refine (va_up_ne _ _ (by omega)).trans ?_
  refine (va_up_ne _ _ (by omega)).trans ?_
  refine (va_up_ne _ _ (by omega)).trans ?_
  refine (va_up_ne _ _ (by omega)).trans ?_
  refine (va_up_ne _ _ (by omega)).trans ?_
  refine (va_up_ne _ _ (by omega)).trans ?_
  refine (va_up_ne _ _ (by omega)).trans ?_
  refine (va_up_ne _ _ (by omega)).trans ?_
  refine (va_up_ne _ _ (by omega)).trans ?_
  refine (va_up_ne _ _ (by omega)).trans ?_
  refine (va_up_ne _ _ (by omega)).trans ?_
  refine (va_up_ne _ _ (by omega)).trans ?_
  refine (va_up_ne _ _ (by omega)).trans ?_
  refine (va_up_ne _ _ (by omega)).trans ?_
  refine (va_up_ne _ _ (by omega)).trans ?_
  refine (va_up_ne _ _ (by omega)).trans ?_
  refine (va_up_ne _ _ (by omega)).trans ?_
  refine (va_up_ne _ _ (by omega)).trans ?_
  refine (va_up_ne _ _ (by omega)).trans ?_
  refine (va_up_ne _ _ (by omega)).trans ?_
  refine (va_up_ne _ _ (by omega)).trans ?_
  refine (va_up_ne _ _ (by omega)).trans ?_
  refine (va_up_ne _ _ (by omega)).trans ?_
  refine (va_up_ne _ _ (by omega)).trans ?_
  refine (va_up_ne _ _ (by omega)).trans ?_
  refine (va_up_ne _ _ (by omega)).trans ?_
  refine (va_up_ne _ _ (by omega)).trans ?_
  refine (va_up_ne _ _ (by omega)).trans ?_
  refine (va_up_ne _ _ (by omega)).trans ?_
  refine (va_up_ne _ _ (by omega)).trans ?_
  refine (va_up_ne _ _ (by omega)).trans ?_
  refine (va_up_ne _ _ (by omega)).trans ?_
  refine (va_up_ne _ _ (by omega)).trans ?_
  refine (va_up_ne _ _ (by omega)).trans ?_
  refine (va_up_ne _ _ (by omega)).trans ?_
  refine (va_up_ne _ _ (by omega)).trans ?_
  refine (va_up_ne _ _ (by omega)).trans ?_
  rfl
theorem eX11_init_s {X : Cx} {b o n : Nat} {E : Nat → va_E} (ho : o < n) : eX11_init X b o n E o = .inr (11, [.int (0 : Int32), .int 0, .int 0, .int 0, .ref (b + n), .ref (b + (n + 1)), .ref (b + (n + 2)), .ref (b + (n + 3)), .int 0, .ref (b + (n + 4)), .ref (b + (n + 5)), .int 0, .ref (b + (n + 6)), .int 0, .int (-1 : Int32), .int 0, .int 0, .int 0, .int 0, .int 0, .int 0, .int 0, .ref (b + (n + 7)), .ref (b + (n + 8)), .ref (b + (n + 9)), .ref (b + (n + 10)), .int 0, .ref (b + (n + 11)), .int 0, .ref (b + (n + 12)), .ref (b + (n + 13)), .ref (b + (n + 14)), .int 0, .ref (b + (n + 15)), .ref (b + (n + 16)), .int 0, .ref (b + (n + 17)), .ref (b + (n + 18)), .ref (b + (n + 19)), .ref (b + (n + 20))]) := by
  unfold eX11_init
  simp only [lt1]
  exact va_up_self _ _ _
theorem mdX11_init : MD yX11_init 0 := ⟨by decide +kernel, by decide +kernel, by decide +kernel⟩
set_option maxHeartbeats 4000000 in
set_option maxRecDepth 100000 in
theorem kX11_init (l : Launch) (X : Cx) (b o n : Nat) (E : Nat → va_E) (ho : o < n) (he_o : E o = .inr (11, [.int 0, .int 0, .int 0, .int 0, .null, .null, .null, .null, .int 0, .null, .null, .int 0, .null, .int 0, .int 0, .int 0, .int 0, .int 0, .int 0, .int 0, .int 0, .int 0, .null, .null, .null, .null, .int 0, .null, .int 0, .null, .null, .null, .int 0, .null, .null, .int 0, .null, .null, .null, .null])) : CI l X b yX11_init cX11_init 1 1 24 21 1000 [.ref (b + o)] n E (n + 21) (eX11_init X b o n E) := by
  obtain ⟨E', hrun⟩ : ∃ z, eX11_init X b o n E = z := ⟨_, rfl⟩
  rw [hrun]
  refine CI_of (by decide) rfl (Nat.le_of_ble_eq_true rfl) ?_
  intro p e s m args below meth c Q B hin hret hS ls hl
  have hx := B.1
  have hb := B.2.1
  have hown := B.2.2.2.1
  have hts := B.2.2.2.2.1
  have hl : lv_has ls 1 [(0, .ref (b + o))] := hl
  unfold eX11_init at hrun
  refine lv_aload_n hx hb dX11_init_0 rfl (lv_at hl 0 rfl) ?_
  refine W.objInit hx hb hown (hts _ (tw_4 89 rfl rfl)) (hts _ (tw_1 22 rfl rfl)) (hts _ (tw_1 23 rfl rfl)) rfl (hl.1.trans B.2.2.1.symm) rfl dX11_init_1 (Nat.le_of_ble_eq_true rfl) (Nat.le_of_ble_eq_true rfl) ?_
  refine W.eq (g2 := F0 m 4 ls []) rfl ?_
  refine lv_aload_n hx hb dX11_init_4 rfl (lv_at hl 0 rfl) ?_
  refine lv_bipush (v := 7) hx hb dX11_init_5 (by decide) ?_
  refine s_newa (k0 := 0) B hS rfl (tw_1 86 rfl rfl) rfl (fun C h => by cases h) rfl (N' := 7) (by decide) rfl (by decide) (Nat.le_of_ble_eq_true rfl) (Nat.le_of_ble_eq_true rfl) dX11_init_7 (fun H hS => ?_)
  obtain ⟨E_1, eE, hrun⟩ := ltE hrun
  have hS : SP X b (n + 1) E_1 s.heap H [] := by rw [eE]; exact hS
  have he_o : E_1 o = .inr (11, [.int 0, .int 0, .int 0, .int 0, .null, .null, .null, .null, .int 0, .null, .null, .int 0, .null, .int 0, .int 0, .int 0, .int 0, .int 0, .int 0, .int 0, .int 0, .int 0, .null, .null, .null, .null, .int 0, .null, .int 0, .null, .null, .null, .int 0, .null, .null, .int 0, .null, .null, .null, .null]) := by rw [eE]; exact (va_up_ne _ _ (by omega)).trans he_o
  clear eE
  refine s_put B hS hin layX11 tyX11 tyX11_ok nmX11 (by omega) he_o rfl 4 (by decide) (tw_4 94 rfl rfl) rfl rfl rfl rfl rfl (Nat.le_of_ble_eq_true rfl) dX11_init_9 (fun H locs hS => ?_)
  obtain ⟨E_2, eE, hrun⟩ := ltE hrun
  have hS : SP X b (n + 1) E_2 s.heap H locs := by rw [eE]; exact hS
  have he_o : E_2 o = .inr (11, [.int 0, .int 0, .int 0, .int 0, .ref (b + n), .null, .null, .null, .int 0, .null, .null, .int 0, .null, .int 0, .int 0, .int 0, .int 0, .int 0, .int 0, .int 0, .int 0, .int 0, .null, .null, .null, .null, .int 0, .null, .int 0, .null, .null, .null, .int 0, .null, .null, .int 0, .null, .null, .null, .null]) := by rw [eE]; exact va_up_self _ _ _
  clear eE
  refine lv_aload_n hx hb dX11_init_12 rfl (lv_at hl 0 rfl) ?_
  refine lv_bipush (v := 7) hx hb dX11_init_13 (by decide) ?_
  refine s_newa (k0 := 0) B hS rfl (tw_1 86 rfl rfl) rfl (fun C h => by cases h) rfl (N' := 7) (by decide) rfl (by decide) (Nat.le_of_ble_eq_true rfl) (Nat.le_of_ble_eq_true rfl) dX11_init_15 (fun H hS => ?_)
  obtain ⟨E_3, eE, hrun⟩ := ltE hrun
  have hS : SP X b (n + 2) E_3 s.heap H locs := by rw [eE]; exact hS
  have he_o : E_3 o = .inr (11, [.int 0, .int 0, .int 0, .int 0, .ref (b + n), .null, .null, .null, .int 0, .null, .null, .int 0, .null, .int 0, .int 0, .int 0, .int 0, .int 0, .int 0, .int 0, .int 0, .int 0, .null, .null, .null, .null, .int 0, .null, .int 0, .null, .null, .null, .int 0, .null, .null, .int 0, .null, .null, .null, .null]) := by rw [eE]; exact (va_up_ne _ _ (by omega)).trans he_o
  clear eE
  refine s_put B hS hin layX11 tyX11 tyX11_ok nmX11 (by omega) he_o rfl 5 (by decide) (tw_4 95 rfl rfl) rfl rfl rfl rfl rfl (Nat.le_of_ble_eq_true rfl) dX11_init_17 (fun H locs hS => ?_)
  obtain ⟨E_4, eE, hrun⟩ := ltE hrun
  have hS : SP X b (n + 2) E_4 s.heap H locs := by rw [eE]; exact hS
  have he_o : E_4 o = .inr (11, [.int 0, .int 0, .int 0, .int 0, .ref (b + n), .ref (b + (n + 1)), .null, .null, .int 0, .null, .null, .int 0, .null, .int 0, .int 0, .int 0, .int 0, .int 0, .int 0, .int 0, .int 0, .int 0, .null, .null, .null, .null, .int 0, .null, .int 0, .null, .null, .null, .int 0, .null, .null, .int 0, .null, .null, .null, .null]) := by rw [eE]; exact va_up_self _ _ _
  clear eE
  refine lv_aload_n hx hb dX11_init_20 rfl (lv_at hl 0 rfl) ?_
  refine lv_bipush (v := 7) hx hb dX11_init_21 (by decide) ?_
  refine s_newa (k0 := 0) B hS rfl (tw_1 86 rfl rfl) rfl (fun C h => by cases h) rfl (N' := 7) (by decide) rfl (by decide) (Nat.le_of_ble_eq_true rfl) (Nat.le_of_ble_eq_true rfl) dX11_init_23 (fun H hS => ?_)
  obtain ⟨E_5, eE, hrun⟩ := ltE hrun
  have hS : SP X b (n + 3) E_5 s.heap H locs := by rw [eE]; exact hS
  have he_o : E_5 o = .inr (11, [.int 0, .int 0, .int 0, .int 0, .ref (b + n), .ref (b + (n + 1)), .null, .null, .int 0, .null, .null, .int 0, .null, .int 0, .int 0, .int 0, .int 0, .int 0, .int 0, .int 0, .int 0, .int 0, .null, .null, .null, .null, .int 0, .null, .int 0, .null, .null, .null, .int 0, .null, .null, .int 0, .null, .null, .null, .null]) := by rw [eE]; exact (va_up_ne _ _ (by omega)).trans he_o
  clear eE
  refine s_put B hS hin layX11 tyX11 tyX11_ok nmX11 (by omega) he_o rfl 6 (by decide) (tw_4 96 rfl rfl) rfl rfl rfl rfl rfl (Nat.le_of_ble_eq_true rfl) dX11_init_25 (fun H locs hS => ?_)
  obtain ⟨E_6, eE, hrun⟩ := ltE hrun
  have hS : SP X b (n + 3) E_6 s.heap H locs := by rw [eE]; exact hS
  have he_o : E_6 o = .inr (11, [.int 0, .int 0, .int 0, .int 0, .ref (b + n), .ref (b + (n + 1)), .ref (b + (n + 2)), .null, .int 0, .null, .null, .int 0, .null, .int 0, .int 0, .int 0, .int 0, .int 0, .int 0, .int 0, .int 0, .int 0, .null, .null, .null, .null, .int 0, .null, .int 0, .null, .null, .null, .int 0, .null, .null, .int 0, .null, .null, .null, .null]) := by rw [eE]; exact va_up_self _ _ _
  clear eE
  refine lv_aload_n hx hb dX11_init_28 rfl (lv_at hl 0 rfl) ?_
  refine lv_bipush (v := 7) hx hb dX11_init_29 (by decide) ?_
  refine s_newa (k0 := 0) B hS rfl (tw_1 86 rfl rfl) rfl (fun C h => by cases h) rfl (N' := 7) (by decide) rfl (by decide) (Nat.le_of_ble_eq_true rfl) (Nat.le_of_ble_eq_true rfl) dX11_init_31 (fun H hS => ?_)
  obtain ⟨E_7, eE, hrun⟩ := ltE hrun
  have hS : SP X b (n + 4) E_7 s.heap H locs := by rw [eE]; exact hS
  have he_o : E_7 o = .inr (11, [.int 0, .int 0, .int 0, .int 0, .ref (b + n), .ref (b + (n + 1)), .ref (b + (n + 2)), .null, .int 0, .null, .null, .int 0, .null, .int 0, .int 0, .int 0, .int 0, .int 0, .int 0, .int 0, .int 0, .int 0, .null, .null, .null, .null, .int 0, .null, .int 0, .null, .null, .null, .int 0, .null, .null, .int 0, .null, .null, .null, .null]) := by rw [eE]; exact (va_up_ne _ _ (by omega)).trans he_o
  clear eE
  refine s_put B hS hin layX11 tyX11 tyX11_ok nmX11 (by omega) he_o rfl 7 (by decide) (tw_4 97 rfl rfl) rfl rfl rfl rfl rfl (Nat.le_of_ble_eq_true rfl) dX11_init_33 (fun H locs hS => ?_)
  obtain ⟨E_8, eE, hrun⟩ := ltE hrun
  have hS : SP X b (n + 4) E_8 s.heap H locs := by rw [eE]; exact hS
  have he_o : E_8 o = .inr (11, [.int 0, .int 0, .int 0, .int 0, .ref (b + n), .ref (b + (n + 1)), .ref (b + (n + 2)), .ref (b + (n + 3)), .int 0, .null, .null, .int 0, .null, .int 0, .int 0, .int 0, .int 0, .int 0, .int 0, .int 0, .int 0, .int 0, .null, .null, .null, .null, .int 0, .null, .int 0, .null, .null, .null, .int 0, .null, .null, .int 0, .null, .null, .null, .null]) := by rw [eE]; exact va_up_self _ _ _
  clear eE
  refine lv_aload_n hx hb dX11_init_36 rfl (lv_at hl 0 rfl) ?_
  refine lv_iconst (v := 4) hx hb dX11_init_37 (by decide) ?_
  refine s_newa (k0 := 0) B hS rfl (tw_1 86 rfl rfl) rfl (fun C h => by cases h) rfl (N' := 4) (by decide) rfl (by decide) (Nat.le_of_ble_eq_true rfl) (Nat.le_of_ble_eq_true rfl) dX11_init_38 (fun H hS => ?_)
  obtain ⟨E_9, eE, hrun⟩ := ltE hrun
  have hS : SP X b (n + 5) E_9 s.heap H locs := by rw [eE]; exact hS
  have he_o : E_9 o = .inr (11, [.int 0, .int 0, .int 0, .int 0, .ref (b + n), .ref (b + (n + 1)), .ref (b + (n + 2)), .ref (b + (n + 3)), .int 0, .null, .null, .int 0, .null, .int 0, .int 0, .int 0, .int 0, .int 0, .int 0, .int 0, .int 0, .int 0, .null, .null, .null, .null, .int 0, .null, .int 0, .null, .null, .null, .int 0, .null, .null, .int 0, .null, .null, .null, .null]) := by rw [eE]; exact (va_up_ne _ _ (by omega)).trans he_o
  clear eE
  refine s_put B hS hin layX11 tyX11 tyX11_ok nmX11 (by omega) he_o rfl 9 (by decide) (tw_4 99 rfl rfl) rfl rfl rfl rfl rfl (Nat.le_of_ble_eq_true rfl) dX11_init_40 (fun H locs hS => ?_)
  obtain ⟨E_10, eE, hrun⟩ := ltE hrun
  have hS : SP X b (n + 5) E_10 s.heap H locs := by rw [eE]; exact hS
  have he_o : E_10 o = .inr (11, [.int 0, .int 0, .int 0, .int 0, .ref (b + n), .ref (b + (n + 1)), .ref (b + (n + 2)), .ref (b + (n + 3)), .int 0, .ref (b + (n + 4)), .null, .int 0, .null, .int 0, .int 0, .int 0, .int 0, .int 0, .int 0, .int 0, .int 0, .int 0, .null, .null, .null, .null, .int 0, .null, .int 0, .null, .null, .null, .int 0, .null, .null, .int 0, .null, .null, .null, .null]) := by rw [eE]; exact va_up_self _ _ _
  clear eE
  refine lv_aload_n hx hb dX11_init_43 rfl (lv_at hl 0 rfl) ?_
  refine lv_bipush (v := 29) hx hb dX11_init_44 (by decide) ?_
  refine s_newa (k0 := 0) B hS rfl (tw_1 86 rfl rfl) rfl (fun C h => by cases h) rfl (N' := 29) (by decide) rfl (by decide) (Nat.le_of_ble_eq_true rfl) (Nat.le_of_ble_eq_true rfl) dX11_init_46 (fun H hS => ?_)
  obtain ⟨E_11, eE, hrun⟩ := ltE hrun
  have hS : SP X b (n + 6) E_11 s.heap H locs := by rw [eE]; exact hS
  have he_o : E_11 o = .inr (11, [.int 0, .int 0, .int 0, .int 0, .ref (b + n), .ref (b + (n + 1)), .ref (b + (n + 2)), .ref (b + (n + 3)), .int 0, .ref (b + (n + 4)), .null, .int 0, .null, .int 0, .int 0, .int 0, .int 0, .int 0, .int 0, .int 0, .int 0, .int 0, .null, .null, .null, .null, .int 0, .null, .int 0, .null, .null, .null, .int 0, .null, .null, .int 0, .null, .null, .null, .null]) := by rw [eE]; exact (va_up_ne _ _ (by omega)).trans he_o
  clear eE
  refine s_put B hS hin layX11 tyX11 tyX11_ok nmX11 (by omega) he_o rfl 10 (by decide) (tw_4 100 rfl rfl) rfl rfl rfl rfl rfl (Nat.le_of_ble_eq_true rfl) dX11_init_48 (fun H locs hS => ?_)
  obtain ⟨E_12, eE, hrun⟩ := ltE hrun
  have hS : SP X b (n + 6) E_12 s.heap H locs := by rw [eE]; exact hS
  have he_o : E_12 o = .inr (11, [.int 0, .int 0, .int 0, .int 0, .ref (b + n), .ref (b + (n + 1)), .ref (b + (n + 2)), .ref (b + (n + 3)), .int 0, .ref (b + (n + 4)), .ref (b + (n + 5)), .int 0, .null, .int 0, .int 0, .int 0, .int 0, .int 0, .int 0, .int 0, .int 0, .int 0, .null, .null, .null, .null, .int 0, .null, .int 0, .null, .null, .null, .int 0, .null, .null, .int 0, .null, .null, .null, .null]) := by rw [eE]; exact va_up_self _ _ _
  clear eE
  refine lv_aload_n hx hb dX11_init_51 rfl (lv_at hl 0 rfl) ?_
  refine lv_sipush (v := 240) hx hb dX11_init_52 (by decide) ?_
  refine s_newa (k0 := 0) B hS rfl (tw_1 86 rfl rfl) rfl (fun C h => by cases h) rfl (N' := 240) (by decide) rfl (by decide) (Nat.le_of_ble_eq_true rfl) (Nat.le_of_ble_eq_true rfl) dX11_init_55 (fun H hS => ?_)
  obtain ⟨E_13, eE, hrun⟩ := ltE hrun
  have hS : SP X b (n + 7) E_13 s.heap H locs := by rw [eE]; exact hS
  have he_o : E_13 o = .inr (11, [.int 0, .int 0, .int 0, .int 0, .ref (b + n), .ref (b + (n + 1)), .ref (b + (n + 2)), .ref (b + (n + 3)), .int 0, .ref (b + (n + 4)), .ref (b + (n + 5)), .int 0, .null, .int 0, .int 0, .int 0, .int 0, .int 0, .int 0, .int 0, .int 0, .int 0, .null, .null, .null, .null, .int 0, .null, .int 0, .null, .null, .null, .int 0, .null, .null, .int 0, .null, .null, .null, .null]) := by rw [eE]; exact (va_up_ne _ _ (by omega)).trans he_o
  clear eE
  refine s_put B hS hin layX11 tyX11 tyX11_ok nmX11 (by omega) he_o rfl 12 (by decide) (tw_4 102 rfl rfl) rfl rfl rfl rfl rfl (Nat.le_of_ble_eq_true rfl) dX11_init_57 (fun H locs hS => ?_)
  obtain ⟨E_14, eE, hrun⟩ := ltE hrun
  have hS : SP X b (n + 7) E_14 s.heap H locs := by rw [eE]; exact hS
  have he_o : E_14 o = .inr (11, [.int 0, .int 0, .int 0, .int 0, .ref (b + n), .ref (b + (n + 1)), .ref (b + (n + 2)), .ref (b + (n + 3)), .int 0, .ref (b + (n + 4)), .ref (b + (n + 5)), .int 0, .ref (b + (n + 6)), .int 0, .int 0, .int 0, .int 0, .int 0, .int 0, .int 0, .int 0, .int 0, .null, .null, .null, .null, .int 0, .null, .int 0, .null, .null, .null, .int 0, .null, .null, .int 0, .null, .null, .null, .null]) := by rw [eE]; exact va_up_self _ _ _
  clear eE
  refine lv_aload_n hx hb dX11_init_60 rfl (lv_at hl 0 rfl) ?_
  refine lv_iconst (v := -1) hx hb dX11_init_61 (by decide) ?_
  refine s_put B hS hin layX11 tyX11 tyX11_ok nmX11 (by omega) he_o rfl 14 (by decide) (tw_4 104 rfl rfl) rfl rfl rfl rfl rfl (Nat.le_of_ble_eq_true rfl) dX11_init_62 (fun H locs hS => ?_)
  obtain ⟨E_15, eE, hrun⟩ := ltE hrun
  have hS : SP X b (n + 7) E_15 s.heap H locs := by rw [eE]; exact hS
  have he_o : E_15 o = .inr (11, [.int 0, .int 0, .int 0, .int 0, .ref (b + n), .ref (b + (n + 1)), .ref (b + (n + 2)), .ref (b + (n + 3)), .int 0, .ref (b + (n + 4)), .ref (b + (n + 5)), .int 0, .ref (b + (n + 6)), .int 0, .int (-1 : Int32), .int 0, .int 0, .int 0, .int 0, .int 0, .int 0, .int 0, .null, .null, .null, .null, .int 0, .null, .int 0, .null, .null, .null, .int 0, .null, .null, .int 0, .null, .null, .null, .null]) := by rw [eE]; exact va_up_self _ _ _
  clear eE
  refine lv_aload_n hx hb dX11_init_65 rfl (lv_at hl 0 rfl) ?_
  refine lv_bipush (v := 7) hx hb dX11_init_66 (by decide) ?_
  refine s_newa (k0 := 0) B hS rfl (tw_1 86 rfl rfl) rfl (fun C h => by cases h) rfl (N' := 7) (by decide) rfl (by decide) (Nat.le_of_ble_eq_true rfl) (Nat.le_of_ble_eq_true rfl) dX11_init_68 (fun H hS => ?_)
  obtain ⟨E_16, eE, hrun⟩ := ltE hrun
  have hS : SP X b (n + 8) E_16 s.heap H locs := by rw [eE]; exact hS
  have he_o : E_16 o = .inr (11, [.int 0, .int 0, .int 0, .int 0, .ref (b + n), .ref (b + (n + 1)), .ref (b + (n + 2)), .ref (b + (n + 3)), .int 0, .ref (b + (n + 4)), .ref (b + (n + 5)), .int 0, .ref (b + (n + 6)), .int 0, .int (-1 : Int32), .int 0, .int 0, .int 0, .int 0, .int 0, .int 0, .int 0, .null, .null, .null, .null, .int 0, .null, .int 0, .null, .null, .null, .int 0, .null, .null, .int 0, .null, .null, .null, .null]) := by rw [eE]; exact (va_up_ne _ _ (by omega)).trans he_o
  clear eE
  refine s_put B hS hin layX11 tyX11 tyX11_ok nmX11 (by omega) he_o rfl 22 (by decide) (tw_4 112 rfl rfl) rfl rfl rfl rfl rfl (Nat.le_of_ble_eq_true rfl) dX11_init_70 (fun H locs hS => ?_)
  obtain ⟨E_17, eE, hrun⟩ := ltE hrun
  have hS : SP X b (n + 8) E_17 s.heap H locs := by rw [eE]; exact hS
  have he_o : E_17 o = .inr (11, [.int 0, .int 0, .int 0, .int 0, .ref (b + n), .ref (b + (n + 1)), .ref (b + (n + 2)), .ref (b + (n + 3)), .int 0, .ref (b + (n + 4)), .ref (b + (n + 5)), .int 0, .ref (b + (n + 6)), .int 0, .int (-1 : Int32), .int 0, .int 0, .int 0, .int 0, .int 0, .int 0, .int 0, .ref (b + (n + 7)), .null, .null, .null, .int 0, .null, .int 0, .null, .null, .null, .int 0, .null, .null, .int 0, .null, .null, .null, .null]) := by rw [eE]; exact va_up_self _ _ _
  clear eE
  refine lv_aload_n hx hb dX11_init_73 rfl (lv_at hl 0 rfl) ?_
  refine lv_bipush (v := 7) hx hb dX11_init_74 (by decide) ?_
  refine s_newa (k0 := 0) B hS rfl (tw_1 86 rfl rfl) rfl (fun C h => by cases h) rfl (N' := 7) (by decide) rfl (by decide) (Nat.le_of_ble_eq_true rfl) (Nat.le_of_ble_eq_true rfl) dX11_init_76 (fun H hS => ?_)
  obtain ⟨E_18, eE, hrun⟩ := ltE hrun
  have hS : SP X b (n + 9) E_18 s.heap H locs := by rw [eE]; exact hS
  have he_o : E_18 o = .inr (11, [.int 0, .int 0, .int 0, .int 0, .ref (b + n), .ref (b + (n + 1)), .ref (b + (n + 2)), .ref (b + (n + 3)), .int 0, .ref (b + (n + 4)), .ref (b + (n + 5)), .int 0, .ref (b + (n + 6)), .int 0, .int (-1 : Int32), .int 0, .int 0, .int 0, .int 0, .int 0, .int 0, .int 0, .ref (b + (n + 7)), .null, .null, .null, .int 0, .null, .int 0, .null, .null, .null, .int 0, .null, .null, .int 0, .null, .null, .null, .null]) := by rw [eE]; exact (va_up_ne _ _ (by omega)).trans he_o
  clear eE
  refine s_put B hS hin layX11 tyX11 tyX11_ok nmX11 (by omega) he_o rfl 23 (by decide) (tw_4 113 rfl rfl) rfl rfl rfl rfl rfl (Nat.le_of_ble_eq_true rfl) dX11_init_78 (fun H locs hS => ?_)
  obtain ⟨E_19, eE, hrun⟩ := ltE hrun
  have hS : SP X b (n + 9) E_19 s.heap H locs := by rw [eE]; exact hS
  have he_o : E_19 o = .inr (11, [.int 0, .int 0, .int 0, .int 0, .ref (b + n), .ref (b + (n + 1)), .ref (b + (n + 2)), .ref (b + (n + 3)), .int 0, .ref (b + (n + 4)), .ref (b + (n + 5)), .int 0, .ref (b + (n + 6)), .int 0, .int (-1 : Int32), .int 0, .int 0, .int 0, .int 0, .int 0, .int 0, .int 0, .ref (b + (n + 7)), .ref (b + (n + 8)), .null, .null, .int 0, .null, .int 0, .null, .null, .null, .int 0, .null, .null, .int 0, .null, .null, .null, .null]) := by rw [eE]; exact va_up_self _ _ _
  clear eE
  refine lv_aload_n hx hb dX11_init_81 rfl (lv_at hl 0 rfl) ?_
  refine lv_bipush (v := 7) hx hb dX11_init_82 (by decide) ?_
  refine s_newa (k0 := 0) B hS rfl (tw_1 86 rfl rfl) rfl (fun C h => by cases h) rfl (N' := 7) (by decide) rfl (by decide) (Nat.le_of_ble_eq_true rfl) (Nat.le_of_ble_eq_true rfl) dX11_init_84 (fun H hS => ?_)
  obtain ⟨E_20, eE, hrun⟩ := ltE hrun
  have hS : SP X b (n + 10) E_20 s.heap H locs := by rw [eE]; exact hS
  have he_o : E_20 o = .inr (11, [.int 0, .int 0, .int 0, .int 0, .ref (b + n), .ref (b + (n + 1)), .ref (b + (n + 2)), .ref (b + (n + 3)), .int 0, .ref (b + (n + 4)), .ref (b + (n + 5)), .int 0, .ref (b + (n + 6)), .int 0, .int (-1 : Int32), .int 0, .int 0, .int 0, .int 0, .int 0, .int 0, .int 0, .ref (b + (n + 7)), .ref (b + (n + 8)), .null, .null, .int 0, .null, .int 0, .null, .null, .null, .int 0, .null, .null, .int 0, .null, .null, .null, .null]) := by rw [eE]; exact (va_up_ne _ _ (by omega)).trans he_o
  clear eE
  refine s_put B hS hin layX11 tyX11 tyX11_ok nmX11 (by omega) he_o rfl 24 (by decide) (tw_4 114 rfl rfl) rfl rfl rfl rfl rfl (Nat.le_of_ble_eq_true rfl) dX11_init_86 (fun H locs hS => ?_)
  obtain ⟨E_21, eE, hrun⟩ := ltE hrun
  have hS : SP X b (n + 10) E_21 s.heap H locs := by rw [eE]; exact hS
  have he_o : E_21 o = .inr (11, [.int 0, .int 0, .int 0, .int 0, .ref (b + n), .ref (b + (n + 1)), .ref (b + (n + 2)), .ref (b + (n + 3)), .int 0, .ref (b + (n + 4)), .ref (b + (n + 5)), .int 0, .ref (b + (n + 6)), .int 0, .int (-1 : Int32), .int 0, .int 0, .int 0, .int 0, .int 0, .int 0, .int 0, .ref (b + (n + 7)), .ref (b + (n + 8)), .ref (b + (n + 9)), .null, .int 0, .null, .int 0, .null, .null, .null, .int 0, .null, .null, .int 0, .null, .null, .null, .null]) := by rw [eE]; exact va_up_self _ _ _
  clear eE
  refine lv_aload_n hx hb dX11_init_89 rfl (lv_at hl 0 rfl) ?_
  refine lv_bipush (v := 7) hx hb dX11_init_90 (by decide) ?_
  refine s_newa (k0 := 0) B hS rfl (tw_1 86 rfl rfl) rfl (fun C h => by cases h) rfl (N' := 7) (by decide) rfl (by decide) (Nat.le_of_ble_eq_true rfl) (Nat.le_of_ble_eq_true rfl) dX11_init_92 (fun H hS => ?_)
  obtain ⟨E_22, eE, hrun⟩ := ltE hrun
  have hS : SP X b (n + 11) E_22 s.heap H locs := by rw [eE]; exact hS
  have he_o : E_22 o = .inr (11, [.int 0, .int 0, .int 0, .int 0, .ref (b + n), .ref (b + (n + 1)), .ref (b + (n + 2)), .ref (b + (n + 3)), .int 0, .ref (b + (n + 4)), .ref (b + (n + 5)), .int 0, .ref (b + (n + 6)), .int 0, .int (-1 : Int32), .int 0, .int 0, .int 0, .int 0, .int 0, .int 0, .int 0, .ref (b + (n + 7)), .ref (b + (n + 8)), .ref (b + (n + 9)), .null, .int 0, .null, .int 0, .null, .null, .null, .int 0, .null, .null, .int 0, .null, .null, .null, .null]) := by rw [eE]; exact (va_up_ne _ _ (by omega)).trans he_o
  clear eE
  refine s_put B hS hin layX11 tyX11 tyX11_ok nmX11 (by omega) he_o rfl 25 (by decide) (tw_4 115 rfl rfl) rfl rfl rfl rfl rfl (Nat.le_of_ble_eq_true rfl) dX11_init_94 (fun H locs hS => ?_)
  obtain ⟨E_23, eE, hrun⟩ := ltE hrun
  have hS : SP X b (n + 11) E_23 s.heap H locs := by rw [eE]; exact hS
  have he_o : E_23 o = .inr (11, [.int 0, .int 0, .int 0, .int 0, .ref (b + n), .ref (b + (n + 1)), .ref (b + (n + 2)), .ref (b + (n + 3)), .int 0, .ref (b + (n + 4)), .ref (b + (n + 5)), .int 0, .ref (b + (n + 6)), .int 0, .int (-1 : Int32), .int 0, .int 0, .int 0, .int 0, .int 0, .int 0, .int 0, .ref (b + (n + 7)), .ref (b + (n + 8)), .ref (b + (n + 9)), .ref (b + (n + 10)), .int 0, .null, .int 0, .null, .null, .null, .int 0, .null, .null, .int 0, .null, .null, .null, .null]) := by rw [eE]; exact va_up_self _ _ _
  clear eE
  refine lv_aload_n hx hb dX11_init_97 rfl (lv_at hl 0 rfl) ?_
  refine lv_iconst (v := 4) hx hb dX11_init_98 (by decide) ?_
  refine s_newa (k0 := 0) B hS rfl (tw_1 86 rfl rfl) rfl (fun C h => by cases h) rfl (N' := 4) (by decide) rfl (by decide) (Nat.le_of_ble_eq_true rfl) (Nat.le_of_ble_eq_true rfl) dX11_init_99 (fun H hS => ?_)
  obtain ⟨E_24, eE, hrun⟩ := ltE hrun
  have hS : SP X b (n + 12) E_24 s.heap H locs := by rw [eE]; exact hS
  have he_o : E_24 o = .inr (11, [.int 0, .int 0, .int 0, .int 0, .ref (b + n), .ref (b + (n + 1)), .ref (b + (n + 2)), .ref (b + (n + 3)), .int 0, .ref (b + (n + 4)), .ref (b + (n + 5)), .int 0, .ref (b + (n + 6)), .int 0, .int (-1 : Int32), .int 0, .int 0, .int 0, .int 0, .int 0, .int 0, .int 0, .ref (b + (n + 7)), .ref (b + (n + 8)), .ref (b + (n + 9)), .ref (b + (n + 10)), .int 0, .null, .int 0, .null, .null, .null, .int 0, .null, .null, .int 0, .null, .null, .null, .null]) := by rw [eE]; exact (va_up_ne _ _ (by omega)).trans he_o
  clear eE
  refine s_put B hS hin layX11 tyX11 tyX11_ok nmX11 (by omega) he_o rfl 27 (by decide) (tw_4 117 rfl rfl) rfl rfl rfl rfl rfl (Nat.le_of_ble_eq_true rfl) dX11_init_101 (fun H locs hS => ?_)
  obtain ⟨E_25, eE, hrun⟩ := ltE hrun
  have hS : SP X b (n + 12) E_25 s.heap H locs := by rw [eE]; exact hS
  have he_o : E_25 o = .inr (11, [.int 0, .int 0, .int 0, .int 0, .ref (b + n), .ref (b + (n + 1)), .ref (b + (n + 2)), .ref (b + (n + 3)), .int 0, .ref (b + (n + 4)), .ref (b + (n + 5)), .int 0, .ref (b + (n + 6)), .int 0, .int (-1 : Int32), .int 0, .int 0, .int 0, .int 0, .int 0, .int 0, .int 0, .ref (b + (n + 7)), .ref (b + (n + 8)), .ref (b + (n + 9)), .ref (b + (n + 10)), .int 0, .ref (b + (n + 11)), .int 0, .null, .null, .null, .int 0, .null, .null, .int 0, .null, .null, .null, .null]) := by rw [eE]; exact va_up_self _ _ _
  clear eE
  refine lv_aload_n hx hb dX11_init_104 rfl (lv_at hl 0 rfl) ?_
  refine lv_sipush (v := 464) hx hb dX11_init_105 (by decide) ?_
  refine s_newa (k0 := 0) B hS rfl (tw_1 86 rfl rfl) rfl (fun C h => by cases h) rfl (N' := 464) (by decide) rfl (by decide) (Nat.le_of_ble_eq_true rfl) (Nat.le_of_ble_eq_true rfl) dX11_init_108 (fun H hS => ?_)
  obtain ⟨E_26, eE, hrun⟩ := ltE hrun
  have hS : SP X b (n + 13) E_26 s.heap H locs := by rw [eE]; exact hS
  have he_o : E_26 o = .inr (11, [.int 0, .int 0, .int 0, .int 0, .ref (b + n), .ref (b + (n + 1)), .ref (b + (n + 2)), .ref (b + (n + 3)), .int 0, .ref (b + (n + 4)), .ref (b + (n + 5)), .int 0, .ref (b + (n + 6)), .int 0, .int (-1 : Int32), .int 0, .int 0, .int 0, .int 0, .int 0, .int 0, .int 0, .ref (b + (n + 7)), .ref (b + (n + 8)), .ref (b + (n + 9)), .ref (b + (n + 10)), .int 0, .ref (b + (n + 11)), .int 0, .null, .null, .null, .int 0, .null, .null, .int 0, .null, .null, .null, .null]) := by rw [eE]; exact (va_up_ne _ _ (by omega)).trans he_o
  clear eE
  refine s_put B hS hin layX11 tyX11 tyX11_ok nmX11 (by omega) he_o rfl 29 (by decide) (tw_4 119 rfl rfl) rfl rfl rfl rfl rfl (Nat.le_of_ble_eq_true rfl) dX11_init_110 (fun H locs hS => ?_)
  obtain ⟨E_27, eE, hrun⟩ := ltE hrun
  have hS : SP X b (n + 13) E_27 s.heap H locs := by rw [eE]; exact hS
  have he_o : E_27 o = .inr (11, [.int 0, .int 0, .int 0, .int 0, .ref (b + n), .ref (b + (n + 1)), .ref (b + (n + 2)), .ref (b + (n + 3)), .int 0, .ref (b + (n + 4)), .ref (b + (n + 5)), .int 0, .ref (b + (n + 6)), .int 0, .int (-1 : Int32), .int 0, .int 0, .int 0, .int 0, .int 0, .int 0, .int 0, .ref (b + (n + 7)), .ref (b + (n + 8)), .ref (b + (n + 9)), .ref (b + (n + 10)), .int 0, .ref (b + (n + 11)), .int 0, .ref (b + (n + 12)), .null, .null, .int 0, .null, .null, .int 0, .null, .null, .null, .null]) := by rw [eE]; exact va_up_self _ _ _
  clear eE
  refine lv_aload_n hx hb dX11_init_113 rfl (lv_at hl 0 rfl) ?_
  refine lv_bipush (v := 29) hx hb dX11_init_114 (by decide) ?_
  refine s_newa (k0 := 0) B hS rfl (tw_1 86 rfl rfl) rfl (fun C h => by cases h) rfl (N' := 29) (by decide) rfl (by decide) (Nat.le_of_ble_eq_true rfl) (Nat.le_of_ble_eq_true rfl) dX11_init_116 (fun H hS => ?_)
  obtain ⟨E_28, eE, hrun⟩ := ltE hrun
  have hS : SP X b (n + 14) E_28 s.heap H locs := by rw [eE]; exact hS
  have he_o : E_28 o = .inr (11, [.int 0, .int 0, .int 0, .int 0, .ref (b + n), .ref (b + (n + 1)), .ref (b + (n + 2)), .ref (b + (n + 3)), .int 0, .ref (b + (n + 4)), .ref (b + (n + 5)), .int 0, .ref (b + (n + 6)), .int 0, .int (-1 : Int32), .int 0, .int 0, .int 0, .int 0, .int 0, .int 0, .int 0, .ref (b + (n + 7)), .ref (b + (n + 8)), .ref (b + (n + 9)), .ref (b + (n + 10)), .int 0, .ref (b + (n + 11)), .int 0, .ref (b + (n + 12)), .null, .null, .int 0, .null, .null, .int 0, .null, .null, .null, .null]) := by rw [eE]; exact (va_up_ne _ _ (by omega)).trans he_o
  clear eE
  refine s_put B hS hin layX11 tyX11 tyX11_ok nmX11 (by omega) he_o rfl 30 (by decide) (tw_4 120 rfl rfl) rfl rfl rfl rfl rfl (Nat.le_of_ble_eq_true rfl) dX11_init_118 (fun H locs hS => ?_)
  obtain ⟨E_29, eE, hrun⟩ := ltE hrun
  have hS : SP X b (n + 14) E_29 s.heap H locs := by rw [eE]; exact hS
  have he_o : E_29 o = .inr (11, [.int 0, .int 0, .int 0, .int 0, .ref (b + n), .ref (b + (n + 1)), .ref (b + (n + 2)), .ref (b + (n + 3)), .int 0, .ref (b + (n + 4)), .ref (b + (n + 5)), .int 0, .ref (b + (n + 6)), .int 0, .int (-1 : Int32), .int 0, .int 0, .int 0, .int 0, .int 0, .int 0, .int 0, .ref (b + (n + 7)), .ref (b + (n + 8)), .ref (b + (n + 9)), .ref (b + (n + 10)), .int 0, .ref (b + (n + 11)), .int 0, .ref (b + (n + 12)), .ref (b + (n + 13)), .null, .int 0, .null, .null, .int 0, .null, .null, .null, .null]) := by rw [eE]; exact va_up_self _ _ _
  clear eE
  refine lv_aload_n hx hb dX11_init_121 rfl (lv_at hl 0 rfl) ?_
  refine lv_bipush (v := 70) hx hb dX11_init_122 (by decide) ?_
  refine s_newa (k0 := 0) B hS rfl (tw_1 86 rfl rfl) rfl (fun C h => by cases h) rfl (N' := 70) (by decide) rfl (by decide) (Nat.le_of_ble_eq_true rfl) (Nat.le_of_ble_eq_true rfl) dX11_init_124 (fun H hS => ?_)
  obtain ⟨E_30, eE, hrun⟩ := ltE hrun
  have hS : SP X b (n + 15) E_30 s.heap H locs := by rw [eE]; exact hS
  have he_o : E_30 o = .inr (11, [.int 0, .int 0, .int 0, .int 0, .ref (b + n), .ref (b + (n + 1)), .ref (b + (n + 2)), .ref (b + (n + 3)), .int 0, .ref (b + (n + 4)), .ref (b + (n + 5)), .int 0, .ref (b + (n + 6)), .int 0, .int (-1 : Int32), .int 0, .int 0, .int 0, .int 0, .int 0, .int 0, .int 0, .ref (b + (n + 7)), .ref (b + (n + 8)), .ref (b + (n + 9)), .ref (b + (n + 10)), .int 0, .ref (b + (n + 11)), .int 0, .ref (b + (n + 12)), .ref (b + (n + 13)), .null, .int 0, .null, .null, .int 0, .null, .null, .null, .null]) := by rw [eE]; exact (va_up_ne _ _ (by omega)).trans he_o
  clear eE
  refine s_put B hS hin layX11 tyX11 tyX11_ok nmX11 (by omega) he_o rfl 31 (by decide) (tw_4 121 rfl rfl) rfl rfl rfl rfl rfl (Nat.le_of_ble_eq_true rfl) dX11_init_126 (fun H locs hS => ?_)
  obtain ⟨E_31, eE, hrun⟩ := ltE hrun
  have hS : SP X b (n + 15) E_31 s.heap H locs := by rw [eE]; exact hS
  have he_o : E_31 o = .inr (11, [.int 0, .int 0, .int 0, .int 0, .ref (b + n), .ref (b + (n + 1)), .ref (b + (n + 2)), .ref (b + (n + 3)), .int 0, .ref (b + (n + 4)), .ref (b + (n + 5)), .int 0, .ref (b + (n + 6)), .int 0, .int (-1 : Int32), .int 0, .int 0, .int 0, .int 0, .int 0, .int 0, .int 0, .ref (b + (n + 7)), .ref (b + (n + 8)), .ref (b + (n + 9)), .ref (b + (n + 10)), .int 0, .ref (b + (n + 11)), .int 0, .ref (b + (n + 12)), .ref (b + (n + 13)), .ref (b + (n + 14)), .int 0, .null, .null, .int 0, .null, .null, .null, .null]) := by rw [eE]; exact va_up_self _ _ _
  clear eE
  refine lv_aload_n hx hb dX11_init_129 rfl (lv_at hl 0 rfl) ?_
  refine lv_bipush (v := 6) hx hb dX11_init_130 (by decide) ?_
  refine s_newa (k0 := 0) B hS rfl (tw_1 86 rfl rfl) rfl (fun C h => by cases h) rfl (N' := 6) (by decide) rfl (by decide) (Nat.le_of_ble_eq_true rfl) (Nat.le_of_ble_eq_true rfl) dX11_init_132 (fun H hS => ?_)
  obtain ⟨E_32, eE, hrun⟩ := ltE hrun
  have hS : SP X b (n + 16) E_32 s.heap H locs := by rw [eE]; exact hS
  have he_o : E_32 o = .inr (11, [.int 0, .int 0, .int 0, .int 0, .ref (b + n), .ref (b + (n + 1)), .ref (b + (n + 2)), .ref (b + (n + 3)), .int 0, .ref (b + (n + 4)), .ref (b + (n + 5)), .int 0, .ref (b + (n + 6)), .int 0, .int (-1 : Int32), .int 0, .int 0, .int 0, .int 0, .int 0, .int 0, .int 0, .ref (b + (n + 7)), .ref (b + (n + 8)), .ref (b + (n + 9)), .ref (b + (n + 10)), .int 0, .ref (b + (n + 11)), .int 0, .ref (b + (n + 12)), .ref (b + (n + 13)), .ref (b + (n + 14)), .int 0, .null, .null, .int 0, .null, .null, .null, .null]) := by rw [eE]; exact (va_up_ne _ _ (by omega)).trans he_o
  clear eE
  refine s_put B hS hin layX11 tyX11 tyX11_ok nmX11 (by omega) he_o rfl 33 (by decide) (tw_4 123 rfl rfl) rfl rfl rfl rfl rfl (Nat.le_of_ble_eq_true rfl) dX11_init_134 (fun H locs hS => ?_)
  obtain ⟨E_33, eE, hrun⟩ := ltE hrun
  have hS : SP X b (n + 16) E_33 s.heap H locs := by rw [eE]; exact hS
  have he_o : E_33 o = .inr (11, [.int 0, .int 0, .int 0, .int 0, .ref (b + n), .ref (b + (n + 1)), .ref (b + (n + 2)), .ref (b + (n + 3)), .int 0, .ref (b + (n + 4)), .ref (b + (n + 5)), .int 0, .ref (b + (n + 6)), .int 0, .int (-1 : Int32), .int 0, .int 0, .int 0, .int 0, .int 0, .int 0, .int 0, .ref (b + (n + 7)), .ref (b + (n + 8)), .ref (b + (n + 9)), .ref (b + (n + 10)), .int 0, .ref (b + (n + 11)), .int 0, .ref (b + (n + 12)), .ref (b + (n + 13)), .ref (b + (n + 14)), .int 0, .ref (b + (n + 15)), .null, .int 0, .null, .null, .null, .null]) := by rw [eE]; exact va_up_self _ _ _
  clear eE
  refine lv_aload_n hx hb dX11_init_137 rfl (lv_at hl 0 rfl) ?_
  refine lv_bipush (v := 6) hx hb dX11_init_138 (by decide) ?_
  refine s_newa (k0 := 0) B hS rfl (tw_1 86 rfl rfl) rfl (fun C h => by cases h) rfl (N' := 6) (by decide) rfl (by decide) (Nat.le_of_ble_eq_true rfl) (Nat.le_of_ble_eq_true rfl) dX11_init_140 (fun H hS => ?_)
  obtain ⟨E_34, eE, hrun⟩ := ltE hrun
  have hS : SP X b (n + 17) E_34 s.heap H locs := by rw [eE]; exact hS
  have he_o : E_34 o = .inr (11, [.int 0, .int 0, .int 0, .int 0, .ref (b + n), .ref (b + (n + 1)), .ref (b + (n + 2)), .ref (b + (n + 3)), .int 0, .ref (b + (n + 4)), .ref (b + (n + 5)), .int 0, .ref (b + (n + 6)), .int 0, .int (-1 : Int32), .int 0, .int 0, .int 0, .int 0, .int 0, .int 0, .int 0, .ref (b + (n + 7)), .ref (b + (n + 8)), .ref (b + (n + 9)), .ref (b + (n + 10)), .int 0, .ref (b + (n + 11)), .int 0, .ref (b + (n + 12)), .ref (b + (n + 13)), .ref (b + (n + 14)), .int 0, .ref (b + (n + 15)), .null, .int 0, .null, .null, .null, .null]) := by rw [eE]; exact (va_up_ne _ _ (by omega)).trans he_o
  clear eE
  refine s_put B hS hin layX11 tyX11 tyX11_ok nmX11 (by omega) he_o rfl 34 (by decide) (tw_4 124 rfl rfl) rfl rfl rfl rfl rfl (Nat.le_of_ble_eq_true rfl) dX11_init_142 (fun H locs hS => ?_)
  obtain ⟨E_35, eE, hrun⟩ := ltE hrun
  have hS : SP X b (n + 17) E_35 s.heap H locs := by rw [eE]; exact hS
  have he_o : E_35 o = .inr (11, [.int 0, .int 0, .int 0, .int 0, .ref (b + n), .ref (b + (n + 1)), .ref (b + (n + 2)), .ref (b + (n + 3)), .int 0, .ref (b + (n + 4)), .ref (b + (n + 5)), .int 0, .ref (b + (n + 6)), .int 0, .int (-1 : Int32), .int 0, .int 0, .int 0, .int 0, .int 0, .int 0, .int 0, .ref (b + (n + 7)), .ref (b + (n + 8)), .ref (b + (n + 9)), .ref (b + (n + 10)), .int 0, .ref (b + (n + 11)), .int 0, .ref (b + (n + 12)), .ref (b + (n + 13)), .ref (b + (n + 14)), .int 0, .ref (b + (n + 15)), .ref (b + (n + 16)), .int 0, .null, .null, .null, .null]) := by rw [eE]; exact va_up_self _ _ _
  clear eE
  refine lv_aload_n hx hb dX11_init_145 rfl (lv_at hl 0 rfl) ?_
  refine lv_bipush (v := 15) hx hb dX11_init_146 (by decide) ?_
  refine s_newa (k0 := 0) B hS rfl (tw_1 86 rfl rfl) rfl (fun C h => by cases h) rfl (N' := 15) (by decide) rfl (by decide) (Nat.le_of_ble_eq_true rfl) (Nat.le_of_ble_eq_true rfl) dX11_init_148 (fun H hS => ?_)
  obtain ⟨E_36, eE, hrun⟩ := ltE hrun
  have hS : SP X b (n + 18) E_36 s.heap H locs := by rw [eE]; exact hS
  have he_o : E_36 o = .inr (11, [.int 0, .int 0, .int 0, .int 0, .ref (b + n), .ref (b + (n + 1)), .ref (b + (n + 2)), .ref (b + (n + 3)), .int 0, .ref (b + (n + 4)), .ref (b + (n + 5)), .int 0, .ref (b + (n + 6)), .int 0, .int (-1 : Int32), .int 0, .int 0, .int 0, .int 0, .int 0, .int 0, .int 0, .ref (b + (n + 7)), .ref (b + (n + 8)), .ref (b + (n + 9)), .ref (b + (n + 10)), .int 0, .ref (b + (n + 11)), .int 0, .ref (b + (n + 12)), .ref (b + (n + 13)), .ref (b + (n + 14)), .int 0, .ref (b + (n + 15)), .ref (b + (n + 16)), .int 0, .null, .null, .null, .null]) := by rw [eE]; exact (va_up_ne _ _ (by omega)).trans he_o
  clear eE
  refine s_put B hS hin layX11 tyX11 tyX11_ok nmX11 (by omega) he_o rfl 36 (by decide) (tw_4 126 rfl rfl) rfl rfl rfl rfl rfl (Nat.le_of_ble_eq_true rfl) dX11_init_150 (fun H locs hS => ?_)
  obtain ⟨E_37, eE, hrun⟩ := ltE hrun
  have hS : SP X b (n + 18) E_37 s.heap H locs := by rw [eE]; exact hS
  have he_o : E_37 o = .inr (11, [.int 0, .int 0, .int 0, .int 0, .ref (b + n), .ref (b + (n + 1)), .ref (b + (n + 2)), .ref (b + (n + 3)), .int 0, .ref (b + (n + 4)), .ref (b + (n + 5)), .int 0, .ref (b + (n + 6)), .int 0, .int (-1 : Int32), .int 0, .int 0, .int 0, .int 0, .int 0, .int 0, .int 0, .ref (b + (n + 7)), .ref (b + (n + 8)), .ref (b + (n + 9)), .ref (b + (n + 10)), .int 0, .ref (b + (n + 11)), .int 0, .ref (b + (n + 12)), .ref (b + (n + 13)), .ref (b + (n + 14)), .int 0, .ref (b + (n + 15)), .ref (b + (n + 16)), .int 0, .ref (b + (n + 17)), .null, .null, .null]) := by rw [eE]; exact va_up_self _ _ _
  clear eE
  refine lv_aload_n hx hb dX11_init_153 rfl (lv_at hl 0 rfl) ?_
  refine lv_bipush (v := 15) hx hb dX11_init_154 (by decide) ?_
  refine s_newa (k0 := 0) B hS rfl (tw_1 86 rfl rfl) rfl (fun C h => by cases h) rfl (N' := 15) (by decide) rfl (by decide) (Nat.le_of_ble_eq_true rfl) (Nat.le_of_ble_eq_true rfl) dX11_init_156 (fun H hS => ?_)
  obtain ⟨E_38, eE, hrun⟩ := ltE hrun
  have hS : SP X b (n + 19) E_38 s.heap H locs := by rw [eE]; exact hS
  have he_o : E_38 o = .inr (11, [.int 0, .int 0, .int 0, .int 0, .ref (b + n), .ref (b + (n + 1)), .ref (b + (n + 2)), .ref (b + (n + 3)), .int 0, .ref (b + (n + 4)), .ref (b + (n + 5)), .int 0, .ref (b + (n + 6)), .int 0, .int (-1 : Int32), .int 0, .int 0, .int 0, .int 0, .int 0, .int 0, .int 0, .ref (b + (n + 7)), .ref (b + (n + 8)), .ref (b + (n + 9)), .ref (b + (n + 10)), .int 0, .ref (b + (n + 11)), .int 0, .ref (b + (n + 12)), .ref (b + (n + 13)), .ref (b + (n + 14)), .int 0, .ref (b + (n + 15)), .ref (b + (n + 16)), .int 0, .ref (b + (n + 17)), .null, .null, .null]) := by rw [eE]; exact (va_up_ne _ _ (by omega)).trans he_o
  clear eE
  refine s_put B hS hin layX11 tyX11 tyX11_ok nmX11 (by omega) he_o rfl 37 (by decide) (tw_4 127 rfl rfl) rfl rfl rfl rfl rfl (Nat.le_of_ble_eq_true rfl) dX11_init_158 (fun H locs hS => ?_)
  obtain ⟨E_39, eE, hrun⟩ := ltE hrun
  have hS : SP X b (n + 19) E_39 s.heap H locs := by rw [eE]; exact hS
  have he_o : E_39 o = .inr (11, [.int 0, .int 0, .int 0, .int 0, .ref (b + n), .ref (b + (n + 1)), .ref (b + (n + 2)), .ref (b + (n + 3)), .int 0, .ref (b + (n + 4)), .ref (b + (n + 5)), .int 0, .ref (b + (n + 6)), .int 0, .int (-1 : Int32), .int 0, .int 0, .int 0, .int 0, .int 0, .int 0, .int 0, .ref (b + (n + 7)), .ref (b + (n + 8)), .ref (b + (n + 9)), .ref (b + (n + 10)), .int 0, .ref (b + (n + 11)), .int 0, .ref (b + (n + 12)), .ref (b + (n + 13)), .ref (b + (n + 14)), .int 0, .ref (b + (n + 15)), .ref (b + (n + 16)), .int 0, .ref (b + (n + 17)), .ref (b + (n + 18)), .null, .null]) := by rw [eE]; exact va_up_self _ _ _
  clear eE
  refine lv_aload_n hx hb dX11_init_161 rfl (lv_at hl 0 rfl) ?_
  refine lv_bipush (v := 60) hx hb dX11_init_162 (by decide) ?_
  refine s_newa (k0 := 0) B hS rfl (tw_1 86 rfl rfl) rfl (fun C h => by cases h) rfl (N' := 60) (by decide) rfl (by decide) (Nat.le_of_ble_eq_true rfl) (Nat.le_of_ble_eq_true rfl) dX11_init_164 (fun H hS => ?_)
  obtain ⟨E_40, eE, hrun⟩ := ltE hrun
  have hS : SP X b (n + 20) E_40 s.heap H locs := by rw [eE]; exact hS
  have he_o : E_40 o = .inr (11, [.int 0, .int 0, .int 0, .int 0, .ref (b + n), .ref (b + (n + 1)), .ref (b + (n + 2)), .ref (b + (n + 3)), .int 0, .ref (b + (n + 4)), .ref (b + (n + 5)), .int 0, .ref (b + (n + 6)), .int 0, .int (-1 : Int32), .int 0, .int 0, .int 0, .int 0, .int 0, .int 0, .int 0, .ref (b + (n + 7)), .ref (b + (n + 8)), .ref (b + (n + 9)), .ref (b + (n + 10)), .int 0, .ref (b + (n + 11)), .int 0, .ref (b + (n + 12)), .ref (b + (n + 13)), .ref (b + (n + 14)), .int 0, .ref (b + (n + 15)), .ref (b + (n + 16)), .int 0, .ref (b + (n + 17)), .ref (b + (n + 18)), .null, .null]) := by rw [eE]; exact (va_up_ne _ _ (by omega)).trans he_o
  clear eE
  refine s_put B hS hin layX11 tyX11 tyX11_ok nmX11 (by omega) he_o rfl 38 (by decide) (tw_4 128 rfl rfl) rfl rfl rfl rfl rfl (Nat.le_of_ble_eq_true rfl) dX11_init_166 (fun H locs hS => ?_)
  obtain ⟨E_41, eE, hrun⟩ := ltE hrun
  have hS : SP X b (n + 20) E_41 s.heap H locs := by rw [eE]; exact hS
  have he_o : E_41 o = .inr (11, [.int 0, .int 0, .int 0, .int 0, .ref (b + n), .ref (b + (n + 1)), .ref (b + (n + 2)), .ref (b + (n + 3)), .int 0, .ref (b + (n + 4)), .ref (b + (n + 5)), .int 0, .ref (b + (n + 6)), .int 0, .int (-1 : Int32), .int 0, .int 0, .int 0, .int 0, .int 0, .int 0, .int 0, .ref (b + (n + 7)), .ref (b + (n + 8)), .ref (b + (n + 9)), .ref (b + (n + 10)), .int 0, .ref (b + (n + 11)), .int 0, .ref (b + (n + 12)), .ref (b + (n + 13)), .ref (b + (n + 14)), .int 0, .ref (b + (n + 15)), .ref (b + (n + 16)), .int 0, .ref (b + (n + 17)), .ref (b + (n + 18)), .ref (b + (n + 19)), .null]) := by rw [eE]; exact va_up_self _ _ _
  clear eE
  refine lv_aload_n hx hb dX11_init_169 rfl (lv_at hl 0 rfl) ?_
  refine lv_iconst (v := 2) hx hb dX11_init_170 (by decide) ?_
  refine s_newa (k0 := 1) B hS rfl (tw_4 211 rfl rfl) rfl (fun C h => by cases h) rfl (N' := 2) (by decide) rfl (by decide) (Nat.le_of_ble_eq_true rfl) (Nat.le_of_ble_eq_true rfl) dX11_init_171 (fun H hS => ?_)
  obtain ⟨E_42, eE, hrun⟩ := ltE hrun
  have hS : SP X b (n + 21) E_42 s.heap H locs := by rw [eE]; exact hS
  have he_o : E_42 o = .inr (11, [.int 0, .int 0, .int 0, .int 0, .ref (b + n), .ref (b + (n + 1)), .ref (b + (n + 2)), .ref (b + (n + 3)), .int 0, .ref (b + (n + 4)), .ref (b + (n + 5)), .int 0, .ref (b + (n + 6)), .int 0, .int (-1 : Int32), .int 0, .int 0, .int 0, .int 0, .int 0, .int 0, .int 0, .ref (b + (n + 7)), .ref (b + (n + 8)), .ref (b + (n + 9)), .ref (b + (n + 10)), .int 0, .ref (b + (n + 11)), .int 0, .ref (b + (n + 12)), .ref (b + (n + 13)), .ref (b + (n + 14)), .int 0, .ref (b + (n + 15)), .ref (b + (n + 16)), .int 0, .ref (b + (n + 17)), .ref (b + (n + 18)), .ref (b + (n + 19)), .null]) := by rw [eE]; exact (va_up_ne _ _ (by omega)).trans he_o
  clear eE
  refine s_put B hS hin layX11 tyX11 tyX11_ok nmX11 (by omega) he_o rfl 39 (by decide) (tw_4 129 rfl rfl) rfl rfl rfl rfl rfl (Nat.le_of_ble_eq_true rfl) dX11_init_173 (fun H locs hS => ?_)
  obtain ⟨E_43, eE, hrun⟩ := ltE hrun
  have hS : SP X b (n + 21) E_43 s.heap H locs := by rw [eE]; exact hS
  have he_o : E_43 o = .inr (11, [.int 0, .int 0, .int 0, .int 0, .ref (b + n), .ref (b + (n + 1)), .ref (b + (n + 2)), .ref (b + (n + 3)), .int 0, .ref (b + (n + 4)), .ref (b + (n + 5)), .int 0, .ref (b + (n + 6)), .int 0, .int (-1 : Int32), .int 0, .int 0, .int 0, .int 0, .int 0, .int 0, .int 0, .ref (b + (n + 7)), .ref (b + (n + 8)), .ref (b + (n + 9)), .ref (b + (n + 10)), .int 0, .ref (b + (n + 11)), .int 0, .ref (b + (n + 12)), .ref (b + (n + 13)), .ref (b + (n + 14)), .int 0, .ref (b + (n + 15)), .ref (b + (n + 16)), .int 0, .ref (b + (n + 17)), .ref (b + (n + 18)), .ref (b + (n + 19)), .ref (b + (n + 20))]) := by rw [eE]; exact va_up_self _ _ _
  clear eE
  refine lv_aload_n hx hb dX11_init_176 rfl (lv_at hl 0 rfl) ?_
  refine lv_iconst (v := 0) hx hb dX11_init_177 (by decide) ?_
  refine s_put B hS hin layX11 tyX11 tyX11_ok nmX11 (by omega) he_o rfl 0 (by decide) (tw_4 90 rfl rfl) rfl rfl rfl rfl rfl (Nat.le_of_ble_eq_true rfl) dX11_init_178 (fun H locs hS => ?_)
  obtain ⟨E_44, eE, hrun⟩ := ltE hrun
  have hS : SP X b (n + 21) E_44 s.heap H locs := by rw [eE]; exact hS
  have he_o : E_44 o = .inr (11, [.int (0 : Int32), .int 0, .int 0, .int 0, .ref (b + n), .ref (b + (n + 1)), .ref (b + (n + 2)), .ref (b + (n + 3)), .int 0, .ref (b + (n + 4)), .ref (b + (n + 5)), .int 0, .ref (b + (n + 6)), .int 0, .int (-1 : Int32), .int 0, .int 0, .int 0, .int 0, .int 0, .int 0, .int 0, .ref (b + (n + 7)), .ref (b + (n + 8)), .ref (b + (n + 9)), .ref (b + (n + 10)), .int 0, .ref (b + (n + 11)), .int 0, .ref (b + (n + 12)), .ref (b + (n + 13)), .ref (b + (n + 14)), .int 0, .ref (b + (n + 15)), .ref (b + (n + 16)), .int 0, .ref (b + (n + 17)), .ref (b + (n + 18)), .ref (b + (n + 19)), .ref (b + (n + 20))]) := by rw [eE]; exact va_up_self _ _ _
  clear eE
  exact hret _ _ _ _ _ hrun hS dX11_init_181
