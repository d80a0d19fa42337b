set_option maxHeartbeats 8000000 in
set_option maxRecDepth 100000 in
theorem whole_open (hpure : ∀ (xs : Nat → Int32) (L : Nat), L ≤ 2048 → fL_law_18 xs L fuelN t0 0 = some 1) {p : Program} {e : Env} {s : State} {m : MethodId} {below : List Frame} {meth : Method} {c : Code} (l : Launch) {b L : Nat} {xs : Nat → Int32} (hL : L ≤ 2048) (C0 : lw_At p s m meth c b L xs) : W p l e room_1 s m #[Value.ref b] below meth c s.heap [] 0 0 (lw_Z below #[Value.ref b] s) (entryFrame m ([Value.ref b] : List Value).toArray 4) := by
  obtain ⟨hx, hb, hr, hml, hown, hts0, hX, hbl, hlocks, hgv⟩ := id C0
  have hts : ∀ w ∈ W0, w.before #[Value.ref b] s = true := fun w h => hts0 w (w0_in w h)
  have hNW : NW s := NW_start hts0
  have hAO : AO s := ⟨va_AO.of (hts0 _ (tq_1 185 rfl)), va_AO.of (hts0 _ (tq_1 88 rfl)), hts0 (Cond.arrayOver (.array .int)) (tq_2 10 rfl)⟩
  obtain ⟨c0, iS0, hKn0⟩ := u_known (C := RX0) (T := TX0) (N := 3) (n := 3) hts layX0 (hts (.instantiable RX0 3) (tw_1 226 rfl rfl))
  obtain ⟨c1, iS1, hKn1⟩ := u_known (C := RX1) (T := TX1) (N := 1) (n := 1) hts layX1 (hts (.instantiable RX1 1) (tw_2 54 rfl rfl))
  obtain ⟨c2, iS2, hKn2⟩ := u_known (C := RX2) (T := TX2) (N := 6) (n := 6) hts layX2 (hts (.instantiable RX2 6) (tw_2 27 rfl rfl))
  obtain ⟨c3, iS3, hKn3⟩ := u_known (C := RX3) (T := TX3) (N := 9) (n := 9) hts layX3 (hts (.instantiable RX3 9) (tw_1 95 rfl rfl))
  obtain ⟨c4, iS4, hKn4⟩ := u_known (C := RX4) (T := TX4) (N := 3) (n := 3) hts layX4 (hts (.instantiable RX4 3) (tw_1 89 rfl rfl))
  obtain ⟨c5, iS5, hKn5⟩ := u_known (C := RX5) (T := TX5) (N := 6) (n := 6) hts layX5 (hts (.instantiable RX5 6) (tw_1 199 rfl rfl))
  obtain ⟨c6, iS6, hKn6⟩ := u_known (C := RX6) (T := TX6) (N := 3) (n := 3) hts layX6 (hts (.instantiable RX6 3) (tw_1 179 rfl rfl))
  obtain ⟨c7, iS7, hKn7⟩ := u_known (C := RX7) (T := TX7) (N := 5) (n := 5) hts layX7 (hts (.instantiable RX7 5) (tw_1 153 rfl rfl))
  obtain ⟨c8, iS8, hKn8⟩ := u_known (C := RX8) (T := TX8) (N := 10) (n := 10) hts layX8 (hts (.instantiable RX8 10) (tw_1 25 rfl rfl))
  obtain ⟨c9, iS9, hKn9⟩ := u_known (C := RX9) (T := TX9) (N := 4) (n := 4) hts layX9 (hts (.instantiable RX9 4) (tw_2 4 rfl rfl))
  obtain ⟨c10, iS10, hKn10⟩ := u_known (C := RX10) (T := TX10) (N := 12) (n := 12) hts layX10 (hts (.instantiable RX10 12) (tw_1 17 rfl rfl))
  obtain ⟨c11, iS11, hKn11⟩ := u_known (C := RX11) (T := TX11) (N := 40) (n := 40) hts layX11 (hts (.instantiable RX11 40) (tw_4 85 rfl rfl))
  obtain ⟨dC, dI, hKc⟩ : ∃ (dC : Nat → ClassId) (dI : Nat → Nat → Nat), ∀ (k : Nat) (q : vw_C), vwCl[k]? = some q → u_Kn s q.1 q.2.1 q.2.2 (dC k) (dI k) := by
    refine ⟨fun k => if k = 0 then c0 else if k = 1 then c1 else if k = 2 then c2 else if k = 3 then c3 else if k = 4 then c4 else if k = 5 then c5 else if k = 6 then c6 else if k = 7 then c7 else if k = 8 then c8 else if k = 9 then c9 else if k = 10 then c10 else c11, fun k => if k = 0 then iS0 else if k = 1 then iS1 else if k = 2 then iS2 else if k = 3 then iS3 else if k = 4 then iS4 else if k = 5 then iS5 else if k = 6 then iS6 else if k = 7 then iS7 else if k = 8 then iS8 else if k = 9 then iS9 else if k = 10 then iS10 else iS11, ?_⟩
    intro k q hq
    match k, hq with
    | 0, hq => cases hq; exact hKn0
    | 1, hq => cases hq; exact hKn1
    | 2, hq => cases hq; exact hKn2
    | 3, hq => cases hq; exact hKn3
    | 4, hq => cases hq; exact hKn4
    | 5, hq => cases hq; exact hKn5
    | 6, hq => cases hq; exact hKn6
    | 7, hq => cases hq; exact hKn7
    | 8, hq => cases hq; exact hKn8
    | 9, hq => cases hq; exact hKn9
    | 10, hq => cases hq; exact hKn10
    | 11, hq => cases hq; exact hKn11
    | k + 12, hq => simp at hq
  obtain ⟨cI, kI, pI, i1, i2, i3⟩ := Cond.arrayClass_spec (hts (.arrayClass .int) (tw_1 86 rfl rfl))
  obtain ⟨cZ, kZ, pZ, z1, z2, z3⟩ := Cond.arrayClass_spec (hts (.arrayClass .boolean) (tw_4 211 rfl rfl))
  obtain ⟨pH, cH, kH, g1, g2, g3, g4, g5⟩ := Cond.arrayOver_spec hAO.1
  obtain ⟨pM, cM, kM, j1, j2, j3, j4, j5⟩ := Cond.arrayOver_spec hAO.2.1
  obtain ⟨pG, cG, kG, q1, q2, q3, q4, q5⟩ := aoA_spec hAO.2.2
  obtain ⟨ca, hca0, hca1, hca2, hca3, hca4⟩ : ∃ ca : Nat → ClassId, ca 0 = cI ∧ ca 1 = cZ ∧ ca 2 = cH ∧ ca 3 = cM ∧ ca 4 = cG := ⟨fun k => if k = 0 then cI else if k = 1 then cZ else if k = 2 then cH else if k = 3 then cM else cG, rfl, rfl, rfl, rfl, rfl⟩
  subst hca0 hca1 hca2 hca3 hca4
  have hK : va_K (wX (dC, dI) s.heap.size ca).1 vwCl (tys0 (wX (dC, dI) s.heap.size ca)) s := by
    refine ⟨hKc, fun k q hk => ?_⟩
    match k, hk with
    | 0, hk => cases hk; exact ⟨fun N z => ⟨(fun q hq => by cases hq), kI, i2, pI, i3⟩, i1⟩
    | 1, hk => cases hk; exact ⟨fun N z => ⟨(fun q hq => by cases hq), kZ, z2, pZ, z3⟩, z1⟩
    | 2, hk => cases hk; exact ⟨fun N z => ⟨(fun q hq => by cases hq), kH, g3, pH, g4⟩, kH, pH, g3, g4, g1, g5⟩
    | 3, hk => cases hk; exact ⟨fun N z => ⟨(fun q hq => by cases hq), kM, j3, pM, j4⟩, kM, pM, j3, j4, j1, j5⟩
    | 4, hk => cases hk; exact ⟨fun N z => ⟨(fun q hq => by cases hq), kG, q3, pG, q4⟩, q5⟩
    | k + 5, hk => simp at hk
  obtain ⟨X, hXe⟩ : ∃ X : Cx, X = wX (dC, dI) s.heap.size ca := ⟨_, rfl⟩
  rw [← hXe] at hK
  have B : By p s m #[Value.ref b] c code 4 X RL := ⟨hx, hb, hml, hown, hts, hK, hNW, hAO⟩
  have hS : SP X s.heap.size 0 (fun _ => .inr (0, [])) s.heap s.heap [] := ⟨fun k q hq => by simp [wp] at hq, rfl, va_S.rf, Nat.le_refl _⟩
  obtain ⟨b0, hb0⟩ : ∃ z, z = s.heap.size := ⟨_, rfl⟩
  have hl := lv_entry ([.ref b]) (n := 4) (Nat.le_of_ble_eq_true rfl)
  rw [lg_entry_eq]
  generalize (lg_sl ([.ref b]) ++ List.replicate (4 - (lg_sl ([.ref b])).length) Slot.unset).toArray = ls at hl ⊢
  have hl : lv_has ls 4 [(0, .ref b)] := hl
  refine s_new (ci := 10) (fs := [.null, .null, .null, .null, .null, .null, .null, .null, .null, .null, .null, .null]) B hS layX10 tyX10 tyX10_ok (tw_1 16 rfl rfl) (tw_1 17 rfl rfl) (tw_1 1 rfl rfl) rfl (fun j hj => by rcases (show j = 0 ∨ j = 1 ∨ j = 2 ∨ j = 3 ∨ j = 4 ∨ j = 5 ∨ j = 6 ∨ j = 7 ∨ j = 8 ∨ j = 9 ∨ j = 10 ∨ j = 11 by omega) with rfl | rfl | rfl | rfl | rfl | rfl | rfl | rfl | rfl | rfl | rfl | rfl <;> rfl) (Nat.le_of_ble_eq_true rfl) (Nat.le_of_ble_eq_true rfl) dL_law_0 (fun H hS => ?_)
  refine lv_dup hx hb dL_law_3 rfl ?_
  refine sI B hS (kX10_init l X s.heap.size 0 1 _ (by omega) (va_up_self _ _ _)) (tw_1 18 rfl rfl) (tw_1 19 rfl rfl) (tw_1 1 rfl rfl) (tw_1 20 rfl rfl) rfl mdX10_init rfl hl.1 rfl (Nat.le_of_ble_eq_true rfl) ⟨Nat.le_of_ble_eq_true rfl, Nat.le_of_ble_eq_true rfl⟩ ⟨Nat.le_of_ble_eq_true rfl, Nat.le_of_ble_eq_true rfl⟩ dL_law_4 (fun H locs hS => ?_)
  refine lv_astore_n (lv' := [(1, .ref (s.heap.size + 0)), (0, .ref b)]) hx hb dL_law_7 rfl hl (by decide) rfl (fun ls hl => ?_)
  have hS : SP X s.heap.size 144 (eX10_init X s.heap.size 0 1 (va_up (fun _ => .inr (0, [])) 0 (.inr (10, [.null, .null, .null, .null, .null, .null, .null, .null, .null, .null, .null, .null])))) s.heap H locs := hS
  refine s_new (ci := 11) (fs := [.int 0, .int 0, .int 0, .int 0, .null, .null, .null, .null, .int 0, .null, .null, .int 0, .null, .int 0, .int 0, .int 0, .int 0, .int 0, .int 0, .int 0, .int 0, .int 0, .null, .null, .null, .null, .int 0, .null, .int 0, .null, .null, .null, .int 0, .null, .null, .int 0, .null, .null, .null, .null]) B hS layX11 tyX11 tyX11_ok (tw_4 84 rfl rfl) (tw_4 85 rfl rfl) (tw_1 12 rfl rfl) rfl (fun j hj => by rcases (show j = 0 ∨ j = 1 ∨ j = 2 ∨ j = 3 ∨ j = 4 ∨ j = 5 ∨ j = 6 ∨ j = 7 ∨ j = 8 ∨ j = 9 ∨ j = 10 ∨ j = 11 ∨ j = 12 ∨ j = 13 ∨ j = 14 ∨ j = 15 ∨ j = 16 ∨ j = 17 ∨ j = 18 ∨ j = 19 ∨ j = 20 ∨ j = 21 ∨ j = 22 ∨ j = 23 ∨ j = 24 ∨ j = 25 ∨ j = 26 ∨ j = 27 ∨ j = 28 ∨ j = 29 ∨ j = 30 ∨ j = 31 ∨ j = 32 ∨ j = 33 ∨ j = 34 ∨ j = 35 ∨ j = 36 ∨ j = 37 ∨ j = 38 ∨ j = 39 by omega) with rfl | rfl | rfl | rfl | rfl | rfl | rfl | rfl | rfl | rfl | rfl | rfl | rfl | rfl | rfl | rfl | rfl | rfl | rfl | rfl | rfl | rfl | rfl | rfl | rfl | rfl | rfl | rfl | rfl | rfl | rfl | rfl | rfl | rfl | rfl | rfl | rfl | rfl | rfl | rfl <;> rfl) (Nat.le_of_ble_eq_true rfl) (Nat.le_of_ble_eq_true rfl) dL_law_8 (fun H hS => ?_)
  refine lv_dup hx hb dL_law_11 rfl ?_
  refine sI B hS (kX11_init l X s.heap.size 144 145 _ (by omega) (va_up_self _ _ _)) (tw_4 86 rfl rfl) (tw_4 87 rfl rfl) (tw_1 12 rfl rfl) (tw_4 88 rfl rfl) rfl mdX11_init rfl hl.1 rfl (Nat.le_of_ble_eq_true rfl) ⟨Nat.le_of_ble_eq_true rfl, Nat.le_of_ble_eq_true rfl⟩ ⟨Nat.le_of_ble_eq_true rfl, Nat.le_of_ble_eq_true rfl⟩ dL_law_12 (fun H locs hS => ?_)
  refine lv_astore_n (lv' := [(2, .ref (s.heap.size + 144)), (1, .ref (s.heap.size + 0)), (0, .ref b)]) hx hb dL_law_15 rfl hl (by decide) rfl (fun ls hl => ?_)
  refine lv_iconst (v := 0) hx hb dL_law_16 (by decide) ?_
  refine lv_istore_n (lv' := [(3, .int 0), (2, .ref (s.heap.size + 144)), (1, .ref (s.heap.size + 0)), (0, .ref b)]) hx hb dL_law_17 rfl hl (by decide) rfl (fun ls hl => ?_)
  obtain ⟨hP, hz, hS1, hb9⟩ := hS
  refine va_forget (fun q hq => hS1.2.2 q hq) ?_
  have hP1 : va_P (dC, dI) vwCl (wp s.heap.size 166 (eAll (wX (dC, dI) s.heap.size ca) s.heap.size (fun _ => .inr (0, [])))) H := by rw [hXe] at hP; exact hP
  have hInj : Inj X := by
    rw [hXe]
    intro i j hi hj hij
    have h9 : s.heap.size + permF i = s.heap.size + permF j := hij
    exact perm_inj i hi j hj (by omega)
  have hfr : ∀ o, o < NC → s.heap.size ≤ X.2.1 o := by
    rw [hXe]
    intro o _
    exact Nat.le_add_right _ _
  have hSS : SS X t0 s.heap H [] := by
    refine ⟨?_, hS1.1, fun q h1 _ => hS1.2.1 q h1 (by omega), fun _ h => by cases h⟩
    intro k q hq
    have hk := wl_lt hq
    rw [wl_at hk] at hq
    cases hq
    rw [hXe]
    exact ew_at hP1 k hk
  have e0 : X.2.1 0 = s.heap.size + 0 := by rw [hXe]; rfl
  have e1 : X.2.1 144 = s.heap.size + 144 := by rw [hXe]; rfl
  exact law_loop l X ⟨hx, hb, hml, hown, hts, hK, hNW, hInj⟩ hX hbl hfr hr hlocks fuelN t0 0 H [] ls hSS (by rw [e0, e1]; exact lv_sub hl [3, 2, 1, 0] rfl) (hpure xs L hL)
