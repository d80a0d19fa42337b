/-! THE CLAIM OUT OF ONE WALK OF THE LAW'S BODY. Your part is whole_start (and what it stands on); all else here is the same for every law, but numbers. -/
def R_law : String := "SongSquaresLaw"
def lw_P (b : Addr) (xs : List Int32) (args : Array Value) (s : State) : Prop := args = #[.ref b] ∧ s.IntsAt b xs ∧ xs.length ≤ 2048 ∧ (Jvm.Cond.and given_1 narrow_1).before args s = true
def lw_Q (_ : Array Value) (s : State) (o : Outcome) (t : State) : Prop := o = .returned (some (.int 1)) ∧ Framed s o t [] 600000 7302250
def lw_Z (below : List Frame) (a : Array Value) (s : State) : State → Prop := fun t => ∃ o, t.status = .running ∧ Ended t below o ∧ lw_Q a s o t
/-- the law's own end, with 1 on the stack, nothing written that was there before, its room as the claim has it -/
theorem lw_ret {p : Program} {l : Launch} {e : Env} {s : State} {m : MethodId} {below : List Frame} {meth : Method} {c : Code} {b : Nat} (hx : p.tables.exec = Jvm.exec) (hb : c.code = code) (hr : meth.sig.returnType = ret) (hlocks : meth.locks = false) {pc : Nat} {H : Heap} {ls : Array Slot} (hdg : decode code pc = .ok (.ireturn, 1)) : W p l e room_1 s m #[Value.ref b] below meth c H [] 600000 7302250 (lw_Z below #[Value.ref b] s) (F0 m pc ls [.int 1]) := by
  intro T hT X
  obtain ⟨fs, hret, hrun, hended, hW, hframe⟩ := X.leave (v := some (.int 1)) (hlocks := hlocks) (fun h => by rw [hr] at h; cases h)
  have hmeth' : T.vm.method? m = some meth := X.method'
  refine ⟨T.setFrames fs, ?_, .returned (some (.int 1)), hrun, hended, rfl, ⟨_, rfl⟩, hW, hframe⟩
  jvm_step X.here [X.here.top, hx, hb, hdg, hmeth', hr, ret, narrow_b1]
  (try refine ⟨rfl, ?_⟩); (try refine ⟨rfl, ?_⟩)
  first | (intro acts; rw [hret _ acts rfl rfl rfl]) | rw [hret _ _ rfl rfl rfl]
  exact Steps.refl _
/-- what holds at the law's entry: the machine, the code, the tables' words (any of lw_tbl by 'hts w (by decide +kernel)'), the script of L ints xs at the cell b, what the Statement gives of the start (any of its parts by flat_of_before) -/
def lw_At (p : Program) (s : State) (m : MethodId) (meth : Method) (c : Code) (b L : Nat) (xs : Nat → Int32) : Prop :=
  p.tables.exec = Jvm.exec ∧ c.code = code ∧ meth.sig.returnType = ret ∧ c.maxLocals = 4 ∧ s.vm.findClass R_law = some m.cls ∧ (∀ w ∈ lw_tbl, w.before #[Value.ref b] s = true) ∧ va_X b L xs s s.heap ∧ b < s.heap.size ∧ meth.locks = false ∧ (Jvm.Cond.and given_1 narrow_1).before #[Value.ref b] s = true
def fL_law_18 (xs : Nat → Int32) (L : Nat) : Nat → St → Int32 → Option Int32
  | 0, _, _ => none
  | n + 1, t, x3 => if (Int32.ofNat L - (4 : Int32)) < x3 then some (1 : Int32) else gd x3 L ((some ((xs x3.toNatClampNeg &&& (31 : Int32)))).bind (fun x_2 => if x_2 = (0 : Int32) then gd (x3 + (1 : Int32)) L (bd2 (fX10_feed t (xs (x3 + (1 : Int32)).toNatClampNeg)) (fun r_6 t_7 => gd (x3 + (1 : Int32)) L (bd2 (fX11_feed t_7 (xs (x3 + (1 : Int32)).toNatClampNeg)) (fun r_10 t_11 => if r_6 = r_10 then (fL_law_18 xs L n) t_11 (x3 + (4 : Int32)) else some (0 : Int32))))) else if x_2 = (1 : Int32) then bd2 (fX10_duchy t) (fun r_14 t_15 => bd2 (fX11_duchy t_15) (fun r_17 t_18 => if r_14 = r_17 then (fL_law_18 xs L n) t_18 (x3 + (4 : Int32)) else some (0 : Int32))) else if x_2 = (2 : Int32) then (fX10_fault t).bind (fun r_21 => (fX11_fault t).bind (fun r_23 => if r_21 = r_23 then (fL_law_18 xs L n) t (x3 + (4 : Int32)) else some (0 : Int32))) else if x_2 = (3 : Int32) then gd (x3 + (1 : Int32)) L (bd2 (fX10_told t (xs (x3 + (1 : Int32)).toNatClampNeg)) (fun r_27 t_28 => gd (x3 + (1 : Int32)) L ((fX11_told t_28 (xs (x3 + (1 : Int32)).toNatClampNeg)).bind (fun r_31 => if r_27 = r_31 then (fL_law_18 xs L n) t_28 (x3 + (4 : Int32)) else some (0 : Int32))))) else if x_2 = (4 : Int32) then gd (x3 + (1 : Int32)) L (gd (x3 + (2 : Int32)) L ((fX10_singer t (xs (x3 + (1 : Int32)).toNatClampNeg) (xs (x3 + (2 : Int32)).toNatClampNeg)).bind (fun r_36 => gd (x3 + (1 : Int32)) L (gd (x3 + (2 : Int32)) L ((fX11_singer t (xs (x3 + (1 : Int32)).toNatClampNeg) (xs (x3 + (2 : Int32)).toNatClampNeg)).bind (fun r_40 => if r_36 = r_40 then (fL_law_18 xs L n) t (x3 + (4 : Int32)) else some (0 : Int32))))))) else if x_2 = (5 : Int32) then gd (x3 + (1 : Int32)) L (gd (x3 + (2 : Int32)) L ((fX10_place t (xs (x3 + (1 : Int32)).toNatClampNeg) (xs (x3 + (2 : Int32)).toNatClampNeg)).bind (fun r_45 => gd (x3 + (1 : Int32)) L (gd (x3 + (2 : Int32)) L ((fX11_place t (xs (x3 + (1 : Int32)).toNatClampNeg) (xs (x3 + (2 : Int32)).toNatClampNeg)).bind (fun r_49 => if r_45 = r_49 then (fL_law_18 xs L n) t (x3 + (4 : Int32)) else some (0 : Int32))))))) else if x_2 = (6 : Int32) then gd (x3 + (1 : Int32)) L (bd2 (fX10_verse t (xs (x3 + (1 : Int32)).toNatClampNeg)) (fun r_53 t_54 => gd (x3 + (1 : Int32)) L (bd2 (fX11_verse t_54 (xs (x3 + (1 : Int32)).toNatClampNeg)) (fun r_57 t_58 => if r_53 = r_57 then (fL_law_18 xs L n) t_58 (x3 + (4 : Int32)) else some (0 : Int32))))) else if x_2 = (7 : Int32) then gd (x3 + (1 : Int32)) L (bd2 (fX10_join t (xs (x3 + (1 : Int32)).toNatClampNeg)) (fun r_62 t_63 => gd (x3 + (1 : Int32)) L (bd2 (fX11_join t_63 (xs (x3 + (1 : Int32)).toNatClampNeg)) (fun r_66 t_67 => if r_62 = r_66 then (fL_law_18 xs L n) t_67 (x3 + (4 : Int32)) else some (0 : Int32))))) else if x_2 = (8 : Int32) then gd (x3 + (1 : Int32)) L (bd2 (fX10_hush t (xs (x3 + (1 : Int32)).toNatClampNeg)) (fun r_71 t_72 => gd (x3 + (1 : Int32)) L (bd2 (fX11_hush t_72 (xs (x3 + (1 : Int32)).toNatClampNeg)) (fun r_75 t_76 => if r_71 = r_75 then (fL_law_18 xs L n) t_76 (x3 + (4 : Int32)) else some (0 : Int32))))) else if x_2 = (9 : Int32) then gd (x3 + (1 : Int32)) L (gd (x3 + (2 : Int32)) L (bd2 (fX10_go t (xs (x3 + (1 : Int32)).toNatClampNeg) (xs (x3 + (2 : Int32)).toNatClampNeg)) (fun r_81 t_82 => gd (x3 + (1 : Int32)) L (gd (x3 + (2 : Int32)) L (bd2 (fX11_go t_82 (xs (x3 + (1 : Int32)).toNatClampNeg) (xs (x3 + (2 : Int32)).toNatClampNeg)) (fun r_86 t_87 => if r_81 = r_86 then (fL_law_18 xs L n) t_87 (x3 + (4 : Int32)) else some (0 : Int32))))))) else if x_2 = (10 : Int32) then gd (x3 + (1 : Int32)) L (gd (x3 + (2 : Int32)) L (bd2 (fX10_give t (xs (x3 + (1 : Int32)).toNatClampNeg) (xs (x3 + (2 : Int32)).toNatClampNeg)) (fun r_92 t_93 => gd (x3 + (1 : Int32)) L (gd (x3 + (2 : Int32)) L (bd2 (fX11_give t_93 (xs (x3 + (1 : Int32)).toNatClampNeg) (xs (x3 + (2 : Int32)).toNatClampNeg)) (fun r_97 t_98 => if r_92 = r_97 then (fL_law_18 xs L n) t_98 (x3 + (4 : Int32)) else some (0 : Int32))))))) else if x_2 = (11 : Int32) then gd (x3 + (1 : Int32)) L (bd2 (fX10_rate t (xs (x3 + (1 : Int32)).toNatClampNeg)) (fun r_102 t_103 => gd (x3 + (1 : Int32)) L (bd2 (fX11_rate t_103 (xs (x3 + (1 : Int32)).toNatClampNeg)) (fun r_106 t_107 => if r_102 = r_106 then (fL_law_18 xs L n) t_107 (x3 + (4 : Int32)) else some (0 : Int32))))) else if x_2 = (12 : Int32) then gd (x3 + (1 : Int32)) L (gd (x3 + (2 : Int32)) L (bd2 (fX10_inspect t (xs (x3 + (1 : Int32)).toNatClampNeg) (xs (x3 + (2 : Int32)).toNatClampNeg)) (fun r_112 t_113 => gd (x3 + (1 : Int32)) L (gd (x3 + (2 : Int32)) L (bd2 (fX11_inspect t_113 (xs (x3 + (1 : Int32)).toNatClampNeg) (xs (x3 + (2 : Int32)).toNatClampNeg)) (fun r_117 t_118 => if r_112 = r_117 then (fL_law_18 xs L n) t_118 (x3 + (4 : Int32)) else some (0 : Int32))))))) else if x_2 = (13 : Int32) then gd (x3 + (1 : Int32)) L (bd2 (fX10_drift t (xs (x3 + (1 : Int32)).toNatClampNeg)) (fun r_122 t_123 => gd (x3 + (1 : Int32)) L (bd2 (fX11_drift t_123 (xs (x3 + (1 : Int32)).toNatClampNeg)) (fun r_126 t_127 => if r_122 = r_126 then (fL_law_18 xs L n) t_127 (x3 + (4 : Int32)) else some (0 : Int32))))) else if x_2 = (14 : Int32) then bd2 (fX10_undo t) (fun r_130 t_131 => bd2 (fX11_undo t_131) (fun r_133 t_134 => if r_130 = r_133 then (fL_law_18 xs L n) t_134 (x3 + (4 : Int32)) else some (0 : Int32))) else if x_2 = (15 : Int32) then gd (x3 + (1 : Int32)) L (bd2 (fX10_treasury t (xs (x3 + (1 : Int32)).toNatClampNeg)) (fun r_138 t_139 => gd (x3 + (1 : Int32)) L (bd2 (fX11_treasury t_139 (xs (x3 + (1 : Int32)).toNatClampNeg)) (fun r_142 t_143 => if r_138 = r_142 then (fL_law_18 xs L n) t_143 (x3 + (4 : Int32)) else some (0 : Int32))))) else if x_2 = (16 : Int32) then gd (x3 + (1 : Int32)) L (bd2 (fX10_lasts t (xs (x3 + (1 : Int32)).toNatClampNeg)) (fun r_147 t_148 => gd (x3 + (1 : Int32)) L (bd2 (fX11_lasts t_148 (xs (x3 + (1 : Int32)).toNatClampNeg)) (fun r_151 t_152 => if r_147 = r_151 then (fL_law_18 xs L n) t_152 (x3 + (4 : Int32)) else some (0 : Int32))))) else if x_2 = (17 : Int32) then gd (x3 + (1 : Int32)) L (gd (x3 + (2 : Int32)) L ((fX10_more t (xs (x3 + (1 : Int32)).toNatClampNeg) (xs (x3 + (2 : Int32)).toNatClampNeg)).bind (fun r_157 => gd (x3 + (1 : Int32)) L (gd (x3 + (2 : Int32)) L ((fX11_more t (xs (x3 + (1 : Int32)).toNatClampNeg) (xs (x3 + (2 : Int32)).toNatClampNeg)).bind (fun r_161 => if r_157 = r_161 then (fL_law_18 xs L n) t (x3 + (4 : Int32)) else some (0 : Int32))))))) else if x_2 = (18 : Int32) then gd (x3 + (1 : Int32)) L (gd (x3 + (2 : Int32)) L (gd (x3 + (3 : Int32)) L ((fX10_bears t (xs (x3 + (1 : Int32)).toNatClampNeg) (xs (x3 + (2 : Int32)).toNatClampNeg) (xs (x3 + (3 : Int32)).toNatClampNeg)).bind (fun r_167 => gd (x3 + (1 : Int32)) L (gd (x3 + (2 : Int32)) L (gd (x3 + (3 : Int32)) L ((fX11_bears t (xs (x3 + (1 : Int32)).toNatClampNeg) (xs (x3 + (2 : Int32)).toNatClampNeg) (xs (x3 + (3 : Int32)).toNatClampNeg)).bind (fun r_172 => if r_167 = r_172 then (fL_law_18 xs L n) t (x3 + (4 : Int32)) else some (0 : Int32))))))))) else if x_2 = (19 : Int32) then gd (x3 + (1 : Int32)) L (gd (x3 + (2 : Int32)) L (bd2 (fX10_shared t (xs (x3 + (1 : Int32)).toNatClampNeg) (xs (x3 + (2 : Int32)).toNatClampNeg)) (fun r_177 t_178 => gd (x3 + (1 : Int32)) L (gd (x3 + (2 : Int32)) L (bd2 (fX11_shared t_178 (xs (x3 + (1 : Int32)).toNatClampNeg) (xs (x3 + (2 : Int32)).toNatClampNeg)) (fun r_182 t_183 => if r_177 = r_182 then (fL_law_18 xs L n) t_183 (x3 + (4 : Int32)) else some (0 : Int32))))))) else if x_2 = (20 : Int32) then gd (x3 + (1 : Int32)) L (gd (x3 + (2 : Int32)) L (bd2 (fX10_groups t (xs (x3 + (1 : Int32)).toNatClampNeg) (xs (x3 + (2 : Int32)).toNatClampNeg)) (fun r_188 t_189 => gd (x3 + (1 : Int32)) L (gd (x3 + (2 : Int32)) L ((fX11_groups t_189 (xs (x3 + (1 : Int32)).toNatClampNeg) (xs (x3 + (2 : Int32)).toNatClampNeg)).bind (fun r_193 => if r_188 = r_193 then (fL_law_18 xs L n) t_189 (x3 + (4 : Int32)) else some (0 : Int32))))))) else if x_2 = (21 : Int32) then gd (x3 + (1 : Int32)) L ((fX10_rates t (xs (x3 + (1 : Int32)).toNatClampNeg)).bind (fun r_197 => gd (x3 + (1 : Int32)) L ((fX11_rates t (xs (x3 + (1 : Int32)).toNatClampNeg)).bind (fun r_200 => if r_197 = r_200 then (fL_law_18 xs L n) t (x3 + (4 : Int32)) else some (0 : Int32))))) else if x_2 = (22 : Int32) then gd (x3 + (1 : Int32)) L (gd (x3 + (2 : Int32)) L ((fX10_dry t (xs (x3 + (1 : Int32)).toNatClampNeg) (xs (x3 + (2 : Int32)).toNatClampNeg)).bind (fun r_205 => gd (x3 + (1 : Int32)) L (gd (x3 + (2 : Int32)) L ((fX11_dry t (xs (x3 + (1 : Int32)).toNatClampNeg) (xs (x3 + (2 : Int32)).toNatClampNeg)).bind (fun r_209 => if r_205 = r_209 then (fL_law_18 xs L n) t (x3 + (4 : Int32)) else some (0 : Int32))))))) else if x_2 = (23 : Int32) then gd (x3 + (1 : Int32)) L (gd (x3 + (2 : Int32)) L (bd2 (fX10_pay t (xs (x3 + (1 : Int32)).toNatClampNeg) (xs (x3 + (2 : Int32)).toNatClampNeg)) (fun r_214 t_215 => gd (x3 + (1 : Int32)) L (gd (x3 + (2 : Int32)) L (bd2 (fX11_pay t_215 (xs (x3 + (1 : Int32)).toNatClampNeg) (xs (x3 + (2 : Int32)).toNatClampNeg)) (fun r_219 t_220 => if r_214 = r_219 then (fL_law_18 xs L n) t_220 (x3 + (4 : Int32)) else some (0 : Int32))))))) else if x_2 = (24 : Int32) then gd (x3 + (1 : Int32)) L (gd (x3 + (2 : Int32)) L (bd2 (fX10_write t (xs (x3 + (1 : Int32)).toNatClampNeg) (xs (x3 + (2 : Int32)).toNatClampNeg)) (fun r_225 t_226 => gd (x3 + (1 : Int32)) L (gd (x3 + (2 : Int32)) L (bd2 (fX11_write t_226 (xs (x3 + (1 : Int32)).toNatClampNeg) (xs (x3 + (2 : Int32)).toNatClampNeg)) (fun r_230 t_231 => if r_225 = r_230 then (fL_law_18 xs L n) t_231 (x3 + (4 : Int32)) else some (0 : Int32))))))) else if x_2 = (25 : Int32) then bd2 (fX10_tear t) (fun r_234 t_235 => bd2 (fX11_tear t_235) (fun r_237 t_238 => if r_234 = r_237 then (fL_law_18 xs L n) t_238 (x3 + (4 : Int32)) else some (0 : Int32))) else if x_2 = (26 : Int32) then (fX10_judge t).bind (fun r_241 => (fX11_judge t).bind (fun r_243 => if r_241 = r_243 then (fL_law_18 xs L n) t (x3 + (4 : Int32)) else some (0 : Int32))) else if x_2 = (27 : Int32) then gd (x3 + (1 : Int32)) L (bd2 (fX10_seed t (xs (x3 + (1 : Int32)).toNatClampNeg)) (fun r_247 t_248 => gd (x3 + (1 : Int32)) L (bd2 (fX11_seed t_248 (xs (x3 + (1 : Int32)).toNatClampNeg)) (fun r_251 t_252 => if r_247 = r_251 then (fL_law_18 xs L n) t_252 (x3 + (4 : Int32)) else some (0 : Int32))))) else if x_2 = (28 : Int32) then gd (x3 + (1 : Int32)) L (bd2 (fX10_keep t (xs (x3 + (1 : Int32)).toNatClampNeg)) (fun r_256 t_257 => gd (x3 + (1 : Int32)) L (bd2 (fX11_keep t_257 (xs (x3 + (1 : Int32)).toNatClampNeg)) (fun r_260 t_261 => if r_256 = r_260 then (fL_law_18 xs L n) t_261 (x3 + (4 : Int32)) else some (0 : Int32))))) else if x_2 = (29 : Int32) then gd (x3 + (1 : Int32)) L (bd2 (fX10_goBack t (xs (x3 + (1 : Int32)).toNatClampNeg)) (fun r_265 t_266 => gd (x3 + (1 : Int32)) L (bd2 (fX11_goBack t_266 (xs (x3 + (1 : Int32)).toNatClampNeg)) (fun r_269 t_270 => if r_265 = r_269 then (fL_law_18 xs L n) t_270 (x3 + (4 : Int32)) else some (0 : Int32))))) else (fL_law_18 xs L n) t (x3 + (4 : Int32))))
theorem fL_law_18_s (xs : Nat → Int32) (L : Nat) (n : Nat) (t : St) (x3 : Int32) : fL_law_18 xs L (n + 1) t x3 = (if (Int32.ofNat L - (4 : Int32)) < x3 then some (1 : Int32) else gd x3 L ((some ((xs x3.toNatClampNeg &&& (31 : Int32)))).bind (fun x_2 => if x_2 = (0 : Int32) then gd (x3 + (1 : Int32)) L (bd2 (fX10_feed t (xs (x3 + (1 : Int32)).toNatClampNeg)) (fun r_6 t_7 => gd (x3 + (1 : Int32)) L (bd2 (fX11_feed t_7 (xs (x3 + (1 : Int32)).toNatClampNeg)) (fun r_10 t_11 => if r_6 = r_10 then (fL_law_18 xs L n) t_11 (x3 + (4 : Int32)) else some (0 : Int32))))) else if x_2 = (1 : Int32) then bd2 (fX10_duchy t) (fun r_14 t_15 => bd2 (fX11_duchy t_15) (fun r_17 t_18 => if r_14 = r_17 then (fL_law_18 xs L n) t_18 (x3 + (4 : Int32)) else some (0 : Int32))) else if x_2 = (2 : Int32) then (fX10_fault t).bind (fun r_21 => (fX11_fault t).bind (fun r_23 => if r_21 = r_23 then (fL_law_18 xs L n) t (x3 + (4 : Int32)) else some (0 : Int32))) else if x_2 = (3 : Int32) then gd (x3 + (1 : Int32)) L (bd2 (fX10_told t (xs (x3 + (1 : Int32)).toNatClampNeg)) (fun r_27 t_28 => gd (x3 + (1 : Int32)) L ((fX11_told t_28 (xs (x3 + (1 : Int32)).toNatClampNeg)).bind (fun r_31 => if r_27 = r_31 then (fL_law_18 xs L n) t_28 (x3 + (4 : Int32)) else some (0 : Int32))))) else if x_2 = (4 : Int32) then gd (x3 + (1 : Int32)) L (gd (x3 + (2 : Int32)) L ((fX10_singer t (xs (x3 + (1 : Int32)).toNatClampNeg) (xs (x3 + (2 : Int32)).toNatClampNeg)).bind (fun r_36 => gd (x3 + (1 : Int32)) L (gd (x3 + (2 : Int32)) L ((fX11_singer t (xs (x3 + (1 : Int32)).toNatClampNeg) (xs (x3 + (2 : Int32)).toNatClampNeg)).bind (fun r_40 => if r_36 = r_40 then (fL_law_18 xs L n) t (x3 + (4 : Int32)) else some (0 : Int32))))))) else if x_2 = (5 : Int32) then gd (x3 + (1 : Int32)) L (gd (x3 + (2 : Int32)) L ((fX10_place t (xs (x3 + (1 : Int32)).toNatClampNeg) (xs (x3 + (2 : Int32)).toNatClampNeg)).bind (fun r_45 => gd (x3 + (1 : Int32)) L (gd (x3 + (2 : Int32)) L ((fX11_place t (xs (x3 + (1 : Int32)).toNatClampNeg) (xs (x3 + (2 : Int32)).toNatClampNeg)).bind (fun r_49 => if r_45 = r_49 then (fL_law_18 xs L n) t (x3 + (4 : Int32)) else some (0 : Int32))))))) else if x_2 = (6 : Int32) then gd (x3 + (1 : Int32)) L (bd2 (fX10_verse t (xs (x3 + (1 : Int32)).toNatClampNeg)) (fun r_53 t_54 => gd (x3 + (1 : Int32)) L (bd2 (fX11_verse t_54 (xs (x3 + (1 : Int32)).toNatClampNeg)) (fun r_57 t_58 => if r_53 = r_57 then (fL_law_18 xs L n) t_58 (x3 + (4 : Int32)) else some (0 : Int32))))) else if x_2 = (7 : Int32) then gd (x3 + (1 : Int32)) L (bd2 (fX10_join t (xs (x3 + (1 : Int32)).toNatClampNeg)) (fun r_62 t_63 => gd (x3 + (1 : Int32)) L (bd2 (fX11_join t_63 (xs (x3 + (1 : Int32)).toNatClampNeg)) (fun r_66 t_67 => if r_62 = r_66 then (fL_law_18 xs L n) t_67 (x3 + (4 : Int32)) else some (0 : Int32))))) else if x_2 = (8 : Int32) then gd (x3 + (1 : Int32)) L (bd2 (fX10_hush t (xs (x3 + (1 : Int32)).toNatClampNeg)) (fun r_71 t_72 => gd (x3 + (1 : Int32)) L (bd2 (fX11_hush t_72 (xs (x3 + (1 : Int32)).toNatClampNeg)) (fun r_75 t_76 => if r_71 = r_75 then (fL_law_18 xs L n) t_76 (x3 + (4 : Int32)) else some (0 : Int32))))) else if x_2 = (9 : Int32) then gd (x3 + (1 : Int32)) L (gd (x3 + (2 : Int32)) L (bd2 (fX10_go t (xs (x3 + (1 : Int32)).toNatClampNeg) (xs (x3 + (2 : Int32)).toNatClampNeg)) (fun r_81 t_82 => gd (x3 + (1 : Int32)) L (gd (x3 + (2 : Int32)) L (bd2 (fX11_go t_82 (xs (x3 + (1 : Int32)).toNatClampNeg) (xs (x3 + (2 : Int32)).toNatClampNeg)) (fun r_86 t_87 => if r_81 = r_86 then (fL_law_18 xs L n) t_87 (x3 + (4 : Int32)) else some (0 : Int32))))))) else if x_2 = (10 : Int32) then gd (x3 + (1 : Int32)) L (gd (x3 + (2 : Int32)) L (bd2 (fX10_give t (xs (x3 + (1 : Int32)).toNatClampNeg) (xs (x3 + (2 : Int32)).toNatClampNeg)) (fun r_92 t_93 => gd (x3 + (1 : Int32)) L (gd (x3 + (2 : Int32)) L (bd2 (fX11_give t_93 (xs (x3 + (1 : Int32)).toNatClampNeg) (xs (x3 + (2 : Int32)).toNatClampNeg)) (fun r_97 t_98 => if r_92 = r_97 then (fL_law_18 xs L n) t_98 (x3 + (4 : Int32)) else some (0 : Int32))))))) else if x_2 = (11 : Int32) then gd (x3 + (1 : Int32)) L (bd2 (fX10_rate t (xs (x3 + (1 : Int32)).toNatClampNeg)) (fun r_102 t_103 => gd (x3 + (1 : Int32)) L (bd2 (fX11_rate t_103 (xs (x3 + (1 : Int32)).toNatClampNeg)) (fun r_106 t_107 => if r_102 = r_106 then (fL_law_18 xs L n) t_107 (x3 + (4 : Int32)) else some (0 : Int32))))) else if x_2 = (12 : Int32) then gd (x3 + (1 : Int32)) L (gd (x3 + (2 : Int32)) L (bd2 (fX10_inspect t (xs (x3 + (1 : Int32)).toNatClampNeg) (xs (x3 + (2 : Int32)).toNatClampNeg)) (fun r_112 t_113 => gd (x3 + (1 : Int32)) L (gd (x3 + (2 : Int32)) L (bd2 (fX11_inspect t_113 (xs (x3 + (1 : Int32)).toNatClampNeg) (xs (x3 + (2 : Int32)).toNatClampNeg)) (fun r_117 t_118 => if r_112 = r_117 then (fL_law_18 xs L n) t_118 (x3 + (4 : Int32)) else some (0 : Int32))))))) else if x_2 = (13 : Int32) then gd (x3 + (1 : Int32)) L (bd2 (fX10_drift t (xs (x3 + (1 : Int32)).toNatClampNeg)) (fun r_122 t_123 => gd (x3 + (1 : Int32)) L (bd2 (fX11_drift t_123 (xs (x3 + (1 : Int32)).toNatClampNeg)) (fun r_126 t_127 => if r_122 = r_126 then (fL_law_18 xs L n) t_127 (x3 + (4 : Int32)) else some (0 : Int32))))) else if x_2 = (14 : Int32) then bd2 (fX10_undo t) (fun r_130 t_131 => bd2 (fX11_undo t_131) (fun r_133 t_134 => if r_130 = r_133 then (fL_law_18 xs L n) t_134 (x3 + (4 : Int32)) else some (0 : Int32))) else if x_2 = (15 : Int32) then gd (x3 + (1 : Int32)) L (bd2 (fX10_treasury t (xs (x3 + (1 : Int32)).toNatClampNeg)) (fun r_138 t_139 => gd (x3 + (1 : Int32)) L (bd2 (fX11_treasury t_139 (xs (x3 + (1 : Int32)).toNatClampNeg)) (fun r_142 t_143 => if r_138 = r_142 then (fL_law_18 xs L n) t_143 (x3 + (4 : Int32)) else some (0 : Int32))))) else if x_2 = (16 : Int32) then gd (x3 + (1 : Int32)) L (bd2 (fX10_lasts t (xs (x3 + (1 : Int32)).toNatClampNeg)) (fun r_147 t_148 => gd (x3 + (1 : Int32)) L (bd2 (fX11_lasts t_148 (xs (x3 + (1 : Int32)).toNatClampNeg)) (fun r_151 t_152 => if r_147 = r_151 then (fL_law_18 xs L n) t_152 (x3 + (4 : Int32)) else some (0 : Int32))))) else if x_2 = (17 : Int32) then gd (x3 + (1 : Int32)) L (gd (x3 + (2 : Int32)) L ((fX10_more t (xs (x3 + (1 : Int32)).toNatClampNeg) (xs (x3 + (2 : Int32)).toNatClampNeg)).bind (fun r_157 => gd (x3 + (1 : Int32)) L (gd (x3 + (2 : Int32)) L ((fX11_more t (xs (x3 + (1 : Int32)).toNatClampNeg) (xs (x3 + (2 : Int32)).toNatClampNeg)).bind (fun r_161 => if r_157 = r_161 then (fL_law_18 xs L n) t (x3 + (4 : Int32)) else some (0 : Int32))))))) else if x_2 = (18 : Int32) then gd (x3 + (1 : Int32)) L (gd (x3 + (2 : Int32)) L (gd (x3 + (3 : Int32)) L ((fX10_bears t (xs (x3 + (1 : Int32)).toNatClampNeg) (xs (x3 + (2 : Int32)).toNatClampNeg) (xs (x3 + (3 : Int32)).toNatClampNeg)).bind (fun r_167 => gd (x3 + (1 : Int32)) L (gd (x3 + (2 : Int32)) L (gd (x3 + (3 : Int32)) L ((fX11_bears t (xs (x3 + (1 : Int32)).toNatClampNeg) (xs (x3 + (2 : Int32)).toNatClampNeg) (xs (x3 + (3 : Int32)).toNatClampNeg)).bind (fun r_172 => if r_167 = r_172 then (fL_law_18 xs L n) t (x3 + (4 : Int32)) else some (0 : Int32))))))))) else if x_2 = (19 : Int32) then gd (x3 + (1 : Int32)) L (gd (x3 + (2 : Int32)) L (bd2 (fX10_shared t (xs (x3 + (1 : Int32)).toNatClampNeg) (xs (x3 + (2 : Int32)).toNatClampNeg)) (fun r_177 t_178 => gd (x3 + (1 : Int32)) L (gd (x3 + (2 : Int32)) L (bd2 (fX11_shared t_178 (xs (x3 + (1 : Int32)).toNatClampNeg) (xs (x3 + (2 : Int32)).toNatClampNeg)) (fun r_182 t_183 => if r_177 = r_182 then (fL_law_18 xs L n) t_183 (x3 + (4 : Int32)) else some (0 : Int32))))))) else if x_2 = (20 : Int32) then gd (x3 + (1 : Int32)) L (gd (x3 + (2 : Int32)) L (bd2 (fX10_groups t (xs (x3 + (1 : Int32)).toNatClampNeg) (xs (x3 + (2 : Int32)).toNatClampNeg)) (fun r_188 t_189 => gd (x3 + (1 : Int32)) L (gd (x3 + (2 : Int32)) L ((fX11_groups t_189 (xs (x3 + (1 : Int32)).toNatClampNeg) (xs (x3 + (2 : Int32)).toNatClampNeg)).bind (fun r_193 => if r_188 = r_193 then (fL_law_18 xs L n) t_189 (x3 + (4 : Int32)) else some (0 : Int32))))))) else if x_2 = (21 : Int32) then gd (x3 + (1 : Int32)) L ((fX10_rates t (xs (x3 + (1 : Int32)).toNatClampNeg)).bind (fun r_197 => gd (x3 + (1 : Int32)) L ((fX11_rates t (xs (x3 + (1 : Int32)).toNatClampNeg)).bind (fun r_200 => if r_197 = r_200 then (fL_law_18 xs L n) t (x3 + (4 : Int32)) else some (0 : Int32))))) else if x_2 = (22 : Int32) then gd (x3 + (1 : Int32)) L (gd (x3 + (2 : Int32)) L ((fX10_dry t (xs (x3 + (1 : Int32)).toNatClampNeg) (xs (x3 + (2 : Int32)).toNatClampNeg)).bind (fun r_205 => gd (x3 + (1 : Int32)) L (gd (x3 + (2 : Int32)) L ((fX11_dry t (xs (x3 + (1 : Int32)).toNatClampNeg) (xs (x3 + (2 : Int32)).toNatClampNeg)).bind (fun r_209 => if r_205 = r_209 then (fL_law_18 xs L n) t (x3 + (4 : Int32)) else some (0 : Int32))))))) else if x_2 = (23 : Int32) then gd (x3 + (1 : Int32)) L (gd (x3 + (2 : Int32)) L (bd2 (fX10_pay t (xs (x3 + (1 : Int32)).toNatClampNeg) (xs (x3 + (2 : Int32)).toNatClampNeg)) (fun r_214 t_215 => gd (x3 + (1 : Int32)) L (gd (x3 + (2 : Int32)) L (bd2 (fX11_pay t_215 (xs (x3 + (1 : Int32)).toNatClampNeg) (xs (x3 + (2 : Int32)).toNatClampNeg)) (fun r_219 t_220 => if r_214 = r_219 then (fL_law_18 xs L n) t_220 (x3 + (4 : Int32)) else some (0 : Int32))))))) else if x_2 = (24 : Int32) then gd (x3 + (1 : Int32)) L (gd (x3 + (2 : Int32)) L (bd2 (fX10_write t (xs (x3 + (1 : Int32)).toNatClampNeg) (xs (x3 + (2 : Int32)).toNatClampNeg)) (fun r_225 t_226 => gd (x3 + (1 : Int32)) L (gd (x3 + (2 : Int32)) L (bd2 (fX11_write t_226 (xs (x3 + (1 : Int32)).toNatClampNeg) (xs (x3 + (2 : Int32)).toNatClampNeg)) (fun r_230 t_231 => if r_225 = r_230 then (fL_law_18 xs L n) t_231 (x3 + (4 : Int32)) else some (0 : Int32))))))) else if x_2 = (25 : Int32) then bd2 (fX10_tear t) (fun r_234 t_235 => bd2 (fX11_tear t_235) (fun r_237 t_238 => if r_234 = r_237 then (fL_law_18 xs L n) t_238 (x3 + (4 : Int32)) else some (0 : Int32))) else if x_2 = (26 : Int32) then (fX10_judge t).bind (fun r_241 => (fX11_judge t).bind (fun r_243 => if r_241 = r_243 then (fL_law_18 xs L n) t (x3 + (4 : Int32)) else some (0 : Int32))) else if x_2 = (27 : Int32) then gd (x3 + (1 : Int32)) L (bd2 (fX10_seed t (xs (x3 + (1 : Int32)).toNatClampNeg)) (fun r_247 t_248 => gd (x3 + (1 : Int32)) L (bd2 (fX11_seed t_248 (xs (x3 + (1 : Int32)).toNatClampNeg)) (fun r_251 t_252 => if r_247 = r_251 then (fL_law_18 xs L n) t_252 (x3 + (4 : Int32)) else some (0 : Int32))))) else if x_2 = (28 : Int32) then gd (x3 + (1 : Int32)) L (bd2 (fX10_keep t (xs (x3 + (1 : Int32)).toNatClampNeg)) (fun r_256 t_257 => gd (x3 + (1 : Int32)) L (bd2 (fX11_keep t_257 (xs (x3 + (1 : Int32)).toNatClampNeg)) (fun r_260 t_261 => if r_256 = r_260 then (fL_law_18 xs L n) t_261 (x3 + (4 : Int32)) else some (0 : Int32))))) else if x_2 = (29 : Int32) then gd (x3 + (1 : Int32)) L (bd2 (fX10_goBack t (xs (x3 + (1 : Int32)).toNatClampNeg)) (fun r_265 t_266 => gd (x3 + (1 : Int32)) L (bd2 (fX11_goBack t_266 (xs (x3 + (1 : Int32)).toNatClampNeg)) (fun r_269 t_270 => if r_265 = r_269 then (fL_law_18 xs L n) t_270 (x3 + (4 : Int32)) else some (0 : Int32))))) else (fL_law_18 xs L n) t (x3 + (4 : Int32))))) := rfl
section QL
variable {p : Program} {l : Launch} {e : Env} {R : Room} {s : State} {m : MethodId} {args : Array Value} {below : List Frame} {meth : Method} {c : Code} {H : Heap} {locs : List Loc} {cells slots : Nat} {Q : State → Prop}
variable {cc : ByteArray} {pc : Nat} {ls : Array Slot} {rest : List Value} {X : Cx} {t : St} {H0 : Heap} {nL : Nat}
theorem qL_13 (B : Bx p s m args c cc nL X RL) (hS : SS X t H0 H locs) {x1 : Int32} {r : Int32} {t' : St} (hM : fX10_feed t x1 = some (r, t')) (hsz : ls.size = nL) (hW : (rest.map fun v => v.category).sum ≤ 8) (hR : 1 + 1 ≤ R.frames ∧ 8 + (2 + 11) + 21 ≤ R.locals) (hR2 : cells ≤ R.cells ∧ slots ≤ R.slots) (hdg : decode cc pc = .ok (.invokevirtual 13, 3)) (kk : ∀ (H1 : Heap) (locs1 : List Loc), SS X t' H0 H1 locs1 → W p l e R s m args below meth c H1 locs1 cells slots Q (F0 m (pc + 3) ls (.int r :: rest))) : W p l e R s m args below meth c H locs cells slots Q (F0 m pc ls (.int x1 :: .ref (X.2.1 0) :: rest)) :=
  xVi B hS (kX10_feed l X t x1 r t' hM) (tw_2 101 rfl rfl) (tw_2 102 rfl rfl) (tw_2 103 rfl rfl) (tw_1 1 rfl rfl) (tw_2 104 rfl rfl) mdX10_feed (by decide) (ceX10 _) rfl rfl rfl hsz rfl hW hR hR2 hdg kk
theorem qL_17 (B : Bx p s m args c cc nL X RL) (hS : SS X t H0 H locs) {x1 : Int32} {r : Int32} {t' : St} (hM : fX11_feed t x1 = some (r, t')) (hsz : ls.size = nL) (hW : (rest.map fun v => v.category).sum ≤ 8) (hR : 1 + 1 ≤ R.frames ∧ 8 + (2 + 11) + 25 ≤ R.locals) (hR2 : cells ≤ R.cells ∧ slots ≤ R.slots) (hdg : decode cc pc = .ok (.invokevirtual 17, 3)) (kk : ∀ (H1 : Heap) (locs1 : List Loc), SS X t' H0 H1 locs1 → W p l e R s m args below meth c H1 locs1 cells slots Q (F0 m (pc + 3) ls (.int r :: rest))) : W p l e R s m args below meth c H locs cells slots Q (F0 m pc ls (.int x1 :: .ref (X.2.1 144) :: rest)) :=
  xVi B hS (kX11_feed l X t x1 r t' hM) (tw_4 212 rfl rfl) (tw_4 213 rfl rfl) (tw_4 214 rfl rfl) (tw_1 12 rfl rfl) (tw_4 215 rfl rfl) mdX11_feed (by decide) (ceX11 _) rfl rfl rfl hsz rfl hW hR hR2 hdg kk
theorem qL_18 (B : Bx p s m args c cc nL X RL) (hS : SS X t H0 H locs) {r : Int32} {t' : St} (hM : fX10_duchy t = some (r, t')) (hsz : ls.size = nL) (hW : (rest.map fun v => v.category).sum ≤ 8) (hR : 6 + 1 ≤ R.frames ∧ 8 + (3 + 11) + 134 ≤ R.locals) (hR2 : cells ≤ R.cells ∧ slots ≤ R.slots) (hdg : decode cc pc = .ok (.invokevirtual 18, 3)) (kk : ∀ (H1 : Heap) (locs1 : List Loc), SS X t' H0 H1 locs1 → W p l e R s m args below meth c H1 locs1 cells slots Q (F0 m (pc + 3) ls (.int r :: rest))) : W p l e R s m args below meth c H locs cells slots Q (F0 m pc ls (.ref (X.2.1 0) :: rest)) :=
  xVi B hS (kX10_duchy l X t r t' hM) (tw_2 111 rfl rfl) (tw_2 112 rfl rfl) (tw_2 113 rfl rfl) (tw_1 1 rfl rfl) (tw_2 114 rfl rfl) mdX10_duchy (by decide) (ceX10 _) rfl rfl rfl hsz rfl hW hR hR2 hdg kk
theorem qL_22 (B : Bx p s m args c cc nL X RL) (hS : SS X t H0 H locs) {r : Int32} {t' : St} (hM : fX11_duchy t = some (r, t')) (hsz : ls.size = nL) (hW : (rest.map fun v => v.category).sum ≤ 8) (hR : 5 + 1 ≤ R.frames ∧ 8 + (2 + 11) + 119 ≤ R.locals) (hR2 : cells ≤ R.cells ∧ slots ≤ R.slots) (hdg : decode cc pc = .ok (.invokevirtual 22, 3)) (kk : ∀ (H1 : Heap) (locs1 : List Loc), SS X t' H0 H1 locs1 → W p l e R s m args below meth c H1 locs1 cells slots Q (F0 m (pc + 3) ls (.int r :: rest))) : W p l e R s m args below meth c H locs cells slots Q (F0 m pc ls (.ref (X.2.1 144) :: rest)) :=
  xVi B hS (kX11_duchy l X t r t' hM) (tw_4 222 rfl rfl) (tw_4 223 rfl rfl) (tw_4 224 rfl rfl) (tw_1 12 rfl rfl) (tw_4 225 rfl rfl) mdX11_duchy (by decide) (ceX11 _) rfl rfl rfl hsz rfl hW hR hR2 hdg kk
theorem qL_23 (B : Bx p s m args c cc nL X RL) (hS : SS X t H0 H locs) {r : Int32} (hM : fX10_fault t = some r) (hsz : ls.size = nL) (hW : (rest.map fun v => v.category).sum ≤ 8) (hR : 0 + 1 ≤ R.frames ∧ 8 + (1 + 11) + 0 ≤ R.locals) (hR2 : cells ≤ R.cells ∧ slots ≤ R.slots) (hdg : decode cc pc = .ok (.invokevirtual 23, 3)) (kk : ∀ (H1 : Heap) (locs1 : List Loc), SS X t H0 H1 locs1 → W p l e R s m args below meth c H1 locs1 cells slots Q (F0 m (pc + 3) ls (.int r :: rest))) : W p l e R s m args below meth c H locs cells slots Q (F0 m pc ls (.ref (X.2.1 0) :: rest)) :=
  xVi B hS (kX10_fault l X t r hM) (tw_2 190 rfl rfl) (tw_2 191 rfl rfl) (tw_2 192 rfl rfl) (tw_1 1 rfl rfl) (tw_2 193 rfl rfl) mdX10_fault (by decide) (ceX10 _) rfl rfl rfl hsz rfl hW hR hR2 hdg kk
theorem qL_26 (B : Bx p s m args c cc nL X RL) (hS : SS X t H0 H locs) {r : Int32} (hM : fX11_fault t = some r) (hsz : ls.size = nL) (hW : (rest.map fun v => v.category).sum ≤ 8) (hR : 0 + 1 ≤ R.frames ∧ 8 + (1 + 11) + 0 ≤ R.locals) (hR2 : cells ≤ R.cells ∧ slots ≤ R.slots) (hdg : decode cc pc = .ok (.invokevirtual 26, 3)) (kk : ∀ (H1 : Heap) (locs1 : List Loc), SS X t H0 H1 locs1 → W p l e R s m args below meth c H1 locs1 cells slots Q (F0 m (pc + 3) ls (.int r :: rest))) : W p l e R s m args below meth c H locs cells slots Q (F0 m pc ls (.ref (X.2.1 144) :: rest)) :=
  xVi B hS (kX11_fault l X t r hM) (tw_5 29 rfl rfl) (tw_5 30 rfl rfl) (tw_5 31 rfl rfl) (tw_1 12 rfl rfl) (tw_5 32 rfl rfl) mdX11_fault (by decide) (ceX11 _) rfl rfl rfl hsz rfl hW hR hR2 hdg kk
theorem qL_27 (B : Bx p s m args c cc nL X RL) (hS : SS X t H0 H locs) {x1 : Int32} {r : Int32} {t' : St} (hM : fX10_told t x1 = some (r, t')) (hsz : ls.size = nL) (hW : (rest.map fun v => v.category).sum ≤ 8) (hR : 6 + 1 ≤ R.frames ∧ 8 + (2 + 11) + 141 ≤ R.locals) (hR2 : cells ≤ R.cells ∧ slots ≤ R.slots) (hdg : decode cc pc = .ok (.invokevirtual 27, 3)) (kk : ∀ (H1 : Heap) (locs1 : List Loc), SS X t' H0 H1 locs1 → W p l e R s m args below meth c H1 locs1 cells slots Q (F0 m (pc + 3) ls (.int r :: rest))) : W p l e R s m args below meth c H locs cells slots Q (F0 m pc ls (.int x1 :: .ref (X.2.1 0) :: rest)) :=
  xVi B hS (kX10_told l X t x1 r t' hM) (tw_2 194 rfl rfl) (tw_2 195 rfl rfl) (tw_2 196 rfl rfl) (tw_1 1 rfl rfl) (tw_2 197 rfl rfl) mdX10_told (by decide) (ceX10 _) rfl rfl rfl hsz rfl hW hR hR2 hdg kk
theorem qL_30 (B : Bx p s m args c cc nL X RL) (hS : SS X t H0 H locs) {x1 : Int32} {r : Int32} (hM : fX11_told t x1 = some r) (hsz : ls.size = nL) (hW : (rest.map fun v => v.category).sum ≤ 8) (hR : 7 + 1 ≤ R.frames ∧ 8 + (2 + 11) + 165 ≤ R.locals) (hR2 : cells ≤ R.cells ∧ slots ≤ R.slots) (hdg : decode cc pc = .ok (.invokevirtual 30, 3)) (kk : ∀ (H1 : Heap) (locs1 : List Loc), SS X t H0 H1 locs1 → W p l e R s m args below meth c H1 locs1 cells slots Q (F0 m (pc + 3) ls (.int r :: rest))) : W p l e R s m args below meth c H locs cells slots Q (F0 m pc ls (.int x1 :: .ref (X.2.1 144) :: rest)) :=
  xVi B hS (kX11_told l X t x1 r hM) (tw_5 33 rfl rfl) (tw_5 34 rfl rfl) (tw_5 35 rfl rfl) (tw_1 12 rfl rfl) (tw_5 36 rfl rfl) mdX11_told (by decide) (ceX11 _) rfl rfl rfl hsz rfl hW hR hR2 hdg kk
theorem qL_31 (B : Bx p s m args c cc nL X RL) (hS : SS X t H0 H locs) {x1 : Int32} {x2 : Int32} {r : Int32} (hM : fX10_singer t x1 x2 = some r) (hsz : ls.size = nL) (hW : (rest.map fun v => v.category).sum ≤ 8) (hR : 3 + 1 ≤ R.frames ∧ 8 + (3 + 11) + 70 ≤ R.locals) (hR2 : cells ≤ R.cells ∧ slots ≤ R.slots) (hdg : decode cc pc = .ok (.invokevirtual 31, 3)) (kk : ∀ (H1 : Heap) (locs1 : List Loc), SS X t H0 H1 locs1 → W p l e R s m args below meth c H1 locs1 cells slots Q (F0 m (pc + 3) ls (.int r :: rest))) : W p l e R s m args below meth c H locs cells slots Q (F0 m pc ls (.int x2 :: .int x1 :: .ref (X.2.1 0) :: rest)) :=
  xVi B hS (kX10_singer l X t x1 x2 r hM) (tw_3 46 rfl rfl) (tw_3 47 rfl rfl) (tw_3 48 rfl rfl) (tw_1 1 rfl rfl) (tw_3 49 rfl rfl) mdX10_singer (by decide) (ceX10 _) rfl rfl rfl hsz rfl hW hR hR2 hdg kk
theorem qL_35 (B : Bx p s m args c cc nL X RL) (hS : SS X t H0 H locs) {x1 : Int32} {x2 : Int32} {r : Int32} (hM : fX11_singer t x1 x2 = some r) (hsz : ls.size = nL) (hW : (rest.map fun v => v.category).sum ≤ 8) (hR : 3 + 1 ≤ R.frames ∧ 8 + (3 + 11) + 69 ≤ R.locals) (hR2 : cells ≤ R.cells ∧ slots ≤ R.slots) (hdg : decode cc pc = .ok (.invokevirtual 35, 3)) (kk : ∀ (H1 : Heap) (locs1 : List Loc), SS X t H0 H1 locs1 → W p l e R s m args below meth c H1 locs1 cells slots Q (F0 m (pc + 3) ls (.int r :: rest))) : W p l e R s m args below meth c H locs cells slots Q (F0 m pc ls (.int x2 :: .int x1 :: .ref (X.2.1 144) :: rest)) :=
  xVi B hS (kX11_singer l X t x1 x2 r hM) (tw_5 103 rfl rfl) (tw_5 104 rfl rfl) (tw_5 105 rfl rfl) (tw_1 12 rfl rfl) (tw_5 106 rfl rfl) mdX11_singer (by decide) (ceX11 _) rfl rfl rfl hsz rfl hW hR hR2 hdg kk
theorem qL_36 (B : Bx p s m args c cc nL X RL) (hS : SS X t H0 H locs) {x1 : Int32} {x2 : Int32} {r : Int32} (hM : fX10_place t x1 x2 = some r) (hsz : ls.size = nL) (hW : (rest.map fun v => v.category).sum ≤ 8) (hR : 4 + 1 ≤ R.frames ∧ 8 + (3 + 11) + 93 ≤ R.locals) (hR2 : cells ≤ R.cells ∧ slots ≤ R.slots) (hdg : decode cc pc = .ok (.invokevirtual 36, 3)) (kk : ∀ (H1 : Heap) (locs1 : List Loc), SS X t H0 H1 locs1 → W p l e R s m args below meth c H1 locs1 cells slots Q (F0 m (pc + 3) ls (.int r :: rest))) : W p l e R s m args below meth c H locs cells slots Q (F0 m pc ls (.int x2 :: .int x1 :: .ref (X.2.1 0) :: rest)) :=
  xVi B hS (kX10_place l X t x1 x2 r hM) (tw_3 53 rfl rfl) (tw_3 54 rfl rfl) (tw_3 55 rfl rfl) (tw_1 1 rfl rfl) (tw_3 56 rfl rfl) mdX10_place (by decide) (ceX10 _) rfl rfl rfl hsz rfl hW hR hR2 hdg kk
theorem qL_39 (B : Bx p s m args c cc nL X RL) (hS : SS X t H0 H locs) {x1 : Int32} {x2 : Int32} {r : Int32} (hM : fX11_place t x1 x2 = some r) (hsz : ls.size = nL) (hW : (rest.map fun v => v.category).sum ≤ 8) (hR : 4 + 1 ≤ R.frames ∧ 8 + (3 + 11) + 92 ≤ R.locals) (hR2 : cells ≤ R.cells ∧ slots ≤ R.slots) (hdg : decode cc pc = .ok (.invokevirtual 39, 3)) (kk : ∀ (H1 : Heap) (locs1 : List Loc), SS X t H0 H1 locs1 → W p l e R s m args below meth c H1 locs1 cells slots Q (F0 m (pc + 3) ls (.int r :: rest))) : W p l e R s m args below meth c H locs cells slots Q (F0 m pc ls (.int x2 :: .int x1 :: .ref (X.2.1 144) :: rest)) :=
  xVi B hS (kX11_place l X t x1 x2 r hM) (tw_5 112 rfl rfl) (tw_5 113 rfl rfl) (tw_5 114 rfl rfl) (tw_1 12 rfl rfl) (tw_5 115 rfl rfl) mdX11_place (by decide) (ceX11 _) rfl rfl rfl hsz rfl hW hR hR2 hdg kk
theorem qL_40 (B : Bx p s m args c cc nL X RL) (hS : SS X t H0 H locs) {x1 : Int32} {r : Int32} {t' : St} (hM : fX10_verse t x1 = some (r, t')) (hsz : ls.size = nL) (hW : (rest.map fun v => v.category).sum ≤ 8) (hR : 4 + 1 ≤ R.frames ∧ 8 + (4 + 11) + 102 ≤ R.locals) (hR2 : cells ≤ R.cells ∧ slots ≤ R.slots) (hdg : decode cc pc = .ok (.invokevirtual 40, 3)) (kk : ∀ (H1 : Heap) (locs1 : List Loc), SS X t' H0 H1 locs1 → W p l e R s m args below meth c H1 locs1 cells slots Q (F0 m (pc + 3) ls (.int r :: rest))) : W p l e R s m args below meth c H locs cells slots Q (F0 m pc ls (.int x1 :: .ref (X.2.1 0) :: rest)) :=
  xVi B hS (kX10_verse l X t x1 r t' hM) (tw_3 70 rfl rfl) (tw_3 71 rfl rfl) (tw_3 72 rfl rfl) (tw_1 1 rfl rfl) (tw_3 73 rfl rfl) mdX10_verse (by decide) (ceX10 _) rfl rfl rfl hsz rfl hW hR hR2 hdg kk
theorem qL_43 (B : Bx p s m args c cc nL X RL) (hS : SS X t H0 H locs) {x1 : Int32} {r : Int32} {t' : St} (hM : fX11_verse t x1 = some (r, t')) (hsz : ls.size = nL) (hW : (rest.map fun v => v.category).sum ≤ 8) (hR : 4 + 1 ≤ R.frames ∧ 8 + (4 + 11) + 95 ≤ R.locals) (hR2 : cells ≤ R.cells ∧ slots ≤ R.slots) (hdg : decode cc pc = .ok (.invokevirtual 43, 3)) (kk : ∀ (H1 : Heap) (locs1 : List Loc), SS X t' H0 H1 locs1 → W p l e R s m args below meth c H1 locs1 cells slots Q (F0 m (pc + 3) ls (.int r :: rest))) : W p l e R s m args below meth c H locs cells slots Q (F0 m pc ls (.int x1 :: .ref (X.2.1 144) :: rest)) :=
  xVi B hS (kX11_verse l X t x1 r t' hM) (tw_5 128 rfl rfl) (tw_5 129 rfl rfl) (tw_5 130 rfl rfl) (tw_1 12 rfl rfl) (tw_5 131 rfl rfl) mdX11_verse (by decide) (ceX11 _) rfl rfl rfl hsz rfl hW hR hR2 hdg kk
theorem qL_44 (B : Bx p s m args c cc nL X RL) (hS : SS X t H0 H locs) {x1 : Int32} {r : Int32} {t' : St} (hM : fX10_join t x1 = some (r, t')) (hsz : ls.size = nL) (hW : (rest.map fun v => v.category).sum ≤ 8) (hR : 3 + 1 ≤ R.frames ∧ 8 + (2 + 11) + 102 ≤ R.locals) (hR2 : cells ≤ R.cells ∧ slots ≤ R.slots) (hdg : decode cc pc = .ok (.invokevirtual 44, 3)) (kk : ∀ (H1 : Heap) (locs1 : List Loc), SS X t' H0 H1 locs1 → W p l e R s m args below meth c H1 locs1 cells slots Q (F0 m (pc + 3) ls (.int r :: rest))) : W p l e R s m args below meth c H locs cells slots Q (F0 m pc ls (.int x1 :: .ref (X.2.1 0) :: rest)) :=
  xVi B hS (kX10_join l X t x1 r t' hM) (tw_3 104 rfl rfl) (tw_3 105 rfl rfl) (tw_3 106 rfl rfl) (tw_1 1 rfl rfl) (tw_3 107 rfl rfl) mdX10_join (by decide) (ceX10 _) rfl rfl rfl hsz rfl hW hR hR2 hdg kk
theorem qL_47 (B : Bx p s m args c cc nL X RL) (hS : SS X t H0 H locs) {x1 : Int32} {r : Int32} {t' : St} (hM : fX11_join t x1 = some (r, t')) (hsz : ls.size = nL) (hW : (rest.map fun v => v.category).sum ≤ 8) (hR : 4 + 1 ≤ R.frames ∧ 8 + (2 + 11) + 85 ≤ R.locals) (hR2 : cells ≤ R.cells ∧ slots ≤ R.slots) (hdg : decode cc pc = .ok (.invokevirtual 47, 3)) (kk : ∀ (H1 : Heap) (locs1 : List Loc), SS X t' H0 H1 locs1 → W p l e R s m args below meth c H1 locs1 cells slots Q (F0 m (pc + 3) ls (.int r :: rest))) : W p l e R s m args below meth c H locs cells slots Q (F0 m pc ls (.int x1 :: .ref (X.2.1 144) :: rest)) :=
  xVi B hS (kX11_join l X t x1 r t' hM) (tw_5 151 rfl rfl) (tw_5 152 rfl rfl) (tw_5 153 rfl rfl) (tw_1 12 rfl rfl) (tw_5 154 rfl rfl) mdX11_join (by decide) (ceX11 _) rfl rfl rfl hsz rfl hW hR hR2 hdg kk
theorem qL_48 (B : Bx p s m args c cc nL X RL) (hS : SS X t H0 H locs) {x1 : Int32} {r : Int32} {t' : St} (hM : fX10_hush t x1 = some (r, t')) (hsz : ls.size = nL) (hW : (rest.map fun v => v.category).sum ≤ 8) (hR : 3 + 1 ≤ R.frames ∧ 8 + (2 + 11) + 102 ≤ R.locals) (hR2 : cells ≤ R.cells ∧ slots ≤ R.slots) (hdg : decode cc pc = .ok (.invokevirtual 48, 3)) (kk : ∀ (H1 : Heap) (locs1 : List Loc), SS X t' H0 H1 locs1 → W p l e R s m args below meth c H1 locs1 cells slots Q (F0 m (pc + 3) ls (.int r :: rest))) : W p l e R s m args below meth c H locs cells slots Q (F0 m pc ls (.int x1 :: .ref (X.2.1 0) :: rest)) :=
  xVi B hS (kX10_hush l X t x1 r t' hM) (tw_3 120 rfl rfl) (tw_3 121 rfl rfl) (tw_3 122 rfl rfl) (tw_1 1 rfl rfl) (tw_3 123 rfl rfl) mdX10_hush (by decide) (ceX10 _) rfl rfl rfl hsz rfl hW hR hR2 hdg kk
theorem qL_51 (B : Bx p s m args c cc nL X RL) (hS : SS X t H0 H locs) {x1 : Int32} {r : Int32} {t' : St} (hM : fX11_hush t x1 = some (r, t')) (hsz : ls.size = nL) (hW : (rest.map fun v => v.category).sum ≤ 8) (hR : 3 + 1 ≤ R.frames ∧ 8 + (2 + 11) + 64 ≤ R.locals) (hR2 : cells ≤ R.cells ∧ slots ≤ R.slots) (hdg : decode cc pc = .ok (.invokevirtual 51, 3)) (kk : ∀ (H1 : Heap) (locs1 : List Loc), SS X t' H0 H1 locs1 → W p l e R s m args below meth c H1 locs1 cells slots Q (F0 m (pc + 3) ls (.int r :: rest))) : W p l e R s m args below meth c H locs cells slots Q (F0 m pc ls (.int x1 :: .ref (X.2.1 144) :: rest)) :=
  xVi B hS (kX11_hush l X t x1 r t' hM) (tw_5 163 rfl rfl) (tw_5 164 rfl rfl) (tw_5 165 rfl rfl) (tw_1 12 rfl rfl) (tw_5 166 rfl rfl) mdX11_hush (by decide) (ceX11 _) rfl rfl rfl hsz rfl hW hR hR2 hdg kk
theorem qL_52 (B : Bx p s m args c cc nL X RL) (hS : SS X t H0 H locs) {x1 : Int32} {x2 : Int32} {r : Int32} {t' : St} (hM : fX10_go t x1 x2 = some (r, t')) (hsz : ls.size = nL) (hW : (rest.map fun v => v.category).sum ≤ 8) (hR : 4 + 1 ≤ R.frames ∧ 8 + (4 + 11) + 102 ≤ R.locals) (hR2 : cells ≤ R.cells ∧ slots ≤ R.slots) (hdg : decode cc pc = .ok (.invokevirtual 52, 3)) (kk : ∀ (H1 : Heap) (locs1 : List Loc), SS X t' H0 H1 locs1 → W p l e R s m args below meth c H1 locs1 cells slots Q (F0 m (pc + 3) ls (.int r :: rest))) : W p l e R s m args below meth c H locs cells slots Q (F0 m pc ls (.int x2 :: .int x1 :: .ref (X.2.1 0) :: rest)) :=
  xVi B hS (kX10_go l X t x1 x2 r t' hM) (tw_3 126 rfl rfl) (tw_3 127 rfl rfl) (tw_3 128 rfl rfl) (tw_1 1 rfl rfl) (tw_3 129 rfl rfl) mdX10_go (by decide) (ceX10 _) rfl rfl rfl hsz rfl hW hR hR2 hdg kk
theorem qL_55 (B : Bx p s m args c cc nL X RL) (hS : SS X t H0 H locs) {x1 : Int32} {x2 : Int32} {r : Int32} {t' : St} (hM : fX11_go t x1 x2 = some (r, t')) (hsz : ls.size = nL) (hW : (rest.map fun v => v.category).sum ≤ 8) (hR : 2 + 1 ≤ R.frames ∧ 8 + (4 + 11) + 46 ≤ R.locals) (hR2 : cells ≤ R.cells ∧ slots ≤ R.slots) (hdg : decode cc pc = .ok (.invokevirtual 55, 3)) (kk : ∀ (H1 : Heap) (locs1 : List Loc), SS X t' H0 H1 locs1 → W p l e R s m args below meth c H1 locs1 cells slots Q (F0 m (pc + 3) ls (.int r :: rest))) : W p l e R s m args below meth c H locs cells slots Q (F0 m pc ls (.int x2 :: .int x1 :: .ref (X.2.1 144) :: rest)) :=
  xVi B hS (kX11_go l X t x1 x2 r t' hM) (tw_5 167 rfl rfl) (tw_5 168 rfl rfl) (tw_5 169 rfl rfl) (tw_1 12 rfl rfl) (tw_5 170 rfl rfl) mdX11_go (by decide) (ceX11 _) rfl rfl rfl hsz rfl hW hR hR2 hdg kk
theorem qL_56 (B : Bx p s m args c cc nL X RL) (hS : SS X t H0 H locs) {x1 : Int32} {x2 : Int32} {r : Int32} {t' : St} (hM : fX10_give t x1 x2 = some (r, t')) (hsz : ls.size = nL) (hW : (rest.map fun v => v.category).sum ≤ 8) (hR : 3 + 1 ≤ R.frames ∧ 8 + (3 + 11) + 102 ≤ R.locals) (hR2 : cells ≤ R.cells ∧ slots ≤ R.slots) (hdg : decode cc pc = .ok (.invokevirtual 56, 3)) (kk : ∀ (H1 : Heap) (locs1 : List Loc), SS X t' H0 H1 locs1 → W p l e R s m args below meth c H1 locs1 cells slots Q (F0 m (pc + 3) ls (.int r :: rest))) : W p l e R s m args below meth c H locs cells slots Q (F0 m pc ls (.int x2 :: .int x1 :: .ref (X.2.1 0) :: rest)) :=
  xVi B hS (kX10_give l X t x1 x2 r t' hM) (tw_3 134 rfl rfl) (tw_3 135 rfl rfl) (tw_3 136 rfl rfl) (tw_1 1 rfl rfl) (tw_3 137 rfl rfl) mdX10_give (by decide) (ceX10 _) rfl rfl rfl hsz rfl hW hR hR2 hdg kk
theorem qL_59 (B : Bx p s m args c cc nL X RL) (hS : SS X t H0 H locs) {x1 : Int32} {x2 : Int32} {r : Int32} {t' : St} (hM : fX11_give t x1 x2 = some (r, t')) (hsz : ls.size = nL) (hW : (rest.map fun v => v.category).sum ≤ 8) (hR : 2 + 1 ≤ R.frames ∧ 8 + (3 + 11) + 46 ≤ R.locals) (hR2 : cells ≤ R.cells ∧ slots ≤ R.slots) (hdg : decode cc pc = .ok (.invokevirtual 59, 3)) (kk : ∀ (H1 : Heap) (locs1 : List Loc), SS X t' H0 H1 locs1 → W p l e R s m args below meth c H1 locs1 cells slots Q (F0 m (pc + 3) ls (.int r :: rest))) : W p l e R s m args below meth c H locs cells slots Q (F0 m pc ls (.int x2 :: .int x1 :: .ref (X.2.1 144) :: rest)) :=
  xVi B hS (kX11_give l X t x1 x2 r t' hM) (tw_5 175 rfl rfl) (tw_5 176 rfl rfl) (tw_5 177 rfl rfl) (tw_1 12 rfl rfl) (tw_5 178 rfl rfl) mdX11_give (by decide) (ceX11 _) rfl rfl rfl hsz rfl hW hR hR2 hdg kk
theorem qL_60 (B : Bx p s m args c cc nL X RL) (hS : SS X t H0 H locs) {x1 : Int32} {r : Int32} {t' : St} (hM : fX10_rate t x1 = some (r, t')) (hsz : ls.size = nL) (hW : (rest.map fun v => v.category).sum ≤ 8) (hR : 3 + 1 ≤ R.frames ∧ 8 + (3 + 11) + 102 ≤ R.locals) (hR2 : cells ≤ R.cells ∧ slots ≤ R.slots) (hdg : decode cc pc = .ok (.invokevirtual 60, 3)) (kk : ∀ (H1 : Heap) (locs1 : List Loc), SS X t' H0 H1 locs1 → W p l e R s m args below meth c H1 locs1 cells slots Q (F0 m (pc + 3) ls (.int r :: rest))) : W p l e R s m args below meth c H locs cells slots Q (F0 m pc ls (.int x1 :: .ref (X.2.1 0) :: rest)) :=
  xVi B hS (kX10_rate l X t x1 r t' hM) (tw_3 142 rfl rfl) (tw_3 143 rfl rfl) (tw_3 144 rfl rfl) (tw_1 1 rfl rfl) (tw_3 145 rfl rfl) mdX10_rate (by decide) (ceX10 _) rfl rfl rfl hsz rfl hW hR hR2 hdg kk
theorem qL_63 (B : Bx p s m args c cc nL X RL) (hS : SS X t H0 H locs) {x1 : Int32} {r : Int32} {t' : St} (hM : fX11_rate t x1 = some (r, t')) (hsz : ls.size = nL) (hW : (rest.map fun v => v.category).sum ≤ 8) (hR : 1 + 1 ≤ R.frames ∧ 8 + (3 + 11) + 25 ≤ R.locals) (hR2 : cells ≤ R.cells ∧ slots ≤ R.slots) (hdg : decode cc pc = .ok (.invokevirtual 63, 3)) (kk : ∀ (H1 : Heap) (locs1 : List Loc), SS X t' H0 H1 locs1 → W p l e R s m args below meth c H1 locs1 cells slots Q (F0 m (pc + 3) ls (.int r :: rest))) : W p l e R s m args below meth c H locs cells slots Q (F0 m pc ls (.int x1 :: .ref (X.2.1 144) :: rest)) :=
  xVi B hS (kX11_rate l X t x1 r t' hM) (tw_5 184 rfl rfl) (tw_5 185 rfl rfl) (tw_5 186 rfl rfl) (tw_1 12 rfl rfl) (tw_5 187 rfl rfl) mdX11_rate (by decide) (ceX11 _) rfl rfl rfl hsz rfl hW hR hR2 hdg kk
theorem qL_64 (B : Bx p s m args c cc nL X RL) (hS : SS X t H0 H locs) {x1 : Int32} {x2 : Int32} {r : Int32} {t' : St} (hM : fX10_inspect t x1 x2 = some (r, t')) (hsz : ls.size = nL) (hW : (rest.map fun v => v.category).sum ≤ 8) (hR : 3 + 1 ≤ R.frames ∧ 8 + (4 + 11) + 102 ≤ R.locals) (hR2 : cells ≤ R.cells ∧ slots ≤ R.slots) (hdg : decode cc pc = .ok (.invokevirtual 64, 3)) (kk : ∀ (H1 : Heap) (locs1 : List Loc), SS X t' H0 H1 locs1 → W p l e R s m args below meth c H1 locs1 cells slots Q (F0 m (pc + 3) ls (.int r :: rest))) : W p l e R s m args below meth c H locs cells slots Q (F0 m pc ls (.int x2 :: .int x1 :: .ref (X.2.1 0) :: rest)) :=
  xVi B hS (kX10_inspect l X t x1 x2 r t' hM) (tw_3 146 rfl rfl) (tw_3 147 rfl rfl) (tw_3 148 rfl rfl) (tw_1 1 rfl rfl) (tw_3 149 rfl rfl) mdX10_inspect (by decide) (ceX10 _) rfl rfl rfl hsz rfl hW hR hR2 hdg kk
theorem qL_67 (B : Bx p s m args c cc nL X RL) (hS : SS X t H0 H locs) {x1 : Int32} {x2 : Int32} {r : Int32} {t' : St} (hM : fX11_inspect t x1 x2 = some (r, t')) (hsz : ls.size = nL) (hW : (rest.map fun v => v.category).sum ≤ 8) (hR : 2 + 1 ≤ R.frames ∧ 8 + (4 + 11) + 46 ≤ R.locals) (hR2 : cells ≤ R.cells ∧ slots ≤ R.slots) (hdg : decode cc pc = .ok (.invokevirtual 67, 3)) (kk : ∀ (H1 : Heap) (locs1 : List Loc), SS X t' H0 H1 locs1 → W p l e R s m args below meth c H1 locs1 cells slots Q (F0 m (pc + 3) ls (.int r :: rest))) : W p l e R s m args below meth c H locs cells slots Q (F0 m pc ls (.int x2 :: .int x1 :: .ref (X.2.1 144) :: rest)) :=
  xVi B hS (kX11_inspect l X t x1 x2 r t' hM) (tw_5 189 rfl rfl) (tw_5 190 rfl rfl) (tw_5 191 rfl rfl) (tw_1 12 rfl rfl) (tw_5 192 rfl rfl) mdX11_inspect (by decide) (ceX11 _) rfl rfl rfl hsz rfl hW hR hR2 hdg kk
theorem qL_68 (B : Bx p s m args c cc nL X RL) (hS : SS X t H0 H locs) {x1 : Int32} {r : Int32} {t' : St} (hM : fX10_drift t x1 = some (r, t')) (hsz : ls.size = nL) (hW : (rest.map fun v => v.category).sum ≤ 8) (hR : 5 + 1 ≤ R.frames ∧ 8 + (4 + 11) + 108 ≤ R.locals) (hR2 : cells ≤ R.cells ∧ slots ≤ R.slots) (hdg : decode cc pc = .ok (.invokevirtual 68, 3)) (kk : ∀ (H1 : Heap) (locs1 : List Loc), SS X t' H0 H1 locs1 → W p l e R s m args below meth c H1 locs1 cells slots Q (F0 m (pc + 3) ls (.int r :: rest))) : W p l e R s m args below meth c H locs cells slots Q (F0 m pc ls (.int x1 :: .ref (X.2.1 0) :: rest)) :=
  xVi B hS (kX10_drift l X t x1 r t' hM) (tw_3 154 rfl rfl) (tw_3 155 rfl rfl) (tw_3 156 rfl rfl) (tw_1 1 rfl rfl) (tw_3 157 rfl rfl) mdX10_drift (by decide) (ceX10 _) rfl rfl rfl hsz rfl hW hR hR2 hdg kk
theorem qL_71 (B : Bx p s m args c cc nL X RL) (hS : SS X t H0 H locs) {x1 : Int32} {r : Int32} {t' : St} (hM : fX11_drift t x1 = some (r, t')) (hsz : ls.size = nL) (hW : (rest.map fun v => v.category).sum ≤ 8) (hR : 5 + 1 ≤ R.frames ∧ 8 + (4 + 11) + 108 ≤ R.locals) (hR2 : cells ≤ R.cells ∧ slots ≤ R.slots) (hdg : decode cc pc = .ok (.invokevirtual 71, 3)) (kk : ∀ (H1 : Heap) (locs1 : List Loc), SS X t' H0 H1 locs1 → W p l e R s m args below meth c H1 locs1 cells slots Q (F0 m (pc + 3) ls (.int r :: rest))) : W p l e R s m args below meth c H locs cells slots Q (F0 m pc ls (.int x1 :: .ref (X.2.1 144) :: rest)) :=
  xVi B hS (kX11_drift l X t x1 r t' hM) (tw_5 193 rfl rfl) (tw_5 194 rfl rfl) (tw_5 195 rfl rfl) (tw_1 12 rfl rfl) (tw_5 196 rfl rfl) mdX11_drift (by decide) (ceX11 _) rfl rfl rfl hsz rfl hW hR hR2 hdg kk
theorem qL_72 (B : Bx p s m args c cc nL X RL) (hS : SS X t H0 H locs) {r : Int32} {t' : St} (hM : fX10_undo t = some (r, t')) (hsz : ls.size = nL) (hW : (rest.map fun v => v.category).sum ≤ 8) (hR : 3 + 1 ≤ R.frames ∧ 8 + (1 + 11) + 102 ≤ R.locals) (hR2 : cells ≤ R.cells ∧ slots ≤ R.slots) (hdg : decode cc pc = .ok (.invokevirtual 72, 3)) (kk : ∀ (H1 : Heap) (locs1 : List Loc), SS X t' H0 H1 locs1 → W p l e R s m args below meth c H1 locs1 cells slots Q (F0 m (pc + 3) ls (.int r :: rest))) : W p l e R s m args below meth c H locs cells slots Q (F0 m pc ls (.ref (X.2.1 0) :: rest)) :=
  xVi B hS (kX10_undo l X t r t' hM) (tw_3 174 rfl rfl) (tw_3 175 rfl rfl) (tw_3 176 rfl rfl) (tw_1 1 rfl rfl) (tw_3 177 rfl rfl) mdX10_undo (by decide) (ceX10 _) rfl rfl rfl hsz rfl hW hR hR2 hdg kk
theorem qL_75 (B : Bx p s m args c cc nL X RL) (hS : SS X t H0 H locs) {r : Int32} {t' : St} (hM : fX11_undo t = some (r, t')) (hsz : ls.size = nL) (hW : (rest.map fun v => v.category).sum ≤ 8) (hR : 0 + 1 ≤ R.frames ∧ 8 + (2 + 11) + 0 ≤ R.locals) (hR2 : cells ≤ R.cells ∧ slots ≤ R.slots) (hdg : decode cc pc = .ok (.invokevirtual 75, 3)) (kk : ∀ (H1 : Heap) (locs1 : List Loc), SS X t' H0 H1 locs1 → W p l e R s m args below meth c H1 locs1 cells slots Q (F0 m (pc + 3) ls (.int r :: rest))) : W p l e R s m args below meth c H locs cells slots Q (F0 m pc ls (.ref (X.2.1 144) :: rest)) :=
  xVi B hS (kX11_undo l X t r t' hM) (tw_5 209 rfl rfl) (tw_5 210 rfl rfl) (tw_5 211 rfl rfl) (tw_1 12 rfl rfl) (tw_5 212 rfl rfl) mdX11_undo (by decide) (ceX11 _) rfl rfl rfl hsz rfl hW hR hR2 hdg kk
theorem qL_76 (B : Bx p s m args c cc nL X RL) (hS : SS X t H0 H locs) {x1 : Int32} {r : Int32} {t' : St} (hM : fX10_treasury t x1 = some (r, t')) (hsz : ls.size = nL) (hW : (rest.map fun v => v.category).sum ≤ 8) (hR : 4 + 1 ≤ R.frames ∧ 8 + (3 + 11) + 93 ≤ R.locals) (hR2 : cells ≤ R.cells ∧ slots ≤ R.slots) (hdg : decode cc pc = .ok (.invokevirtual 76, 3)) (kk : ∀ (H1 : Heap) (locs1 : List Loc), SS X t' H0 H1 locs1 → W p l e R s m args below meth c H1 locs1 cells slots Q (F0 m (pc + 3) ls (.int r :: rest))) : W p l e R s m args below meth c H locs cells slots Q (F0 m pc ls (.int x1 :: .ref (X.2.1 0) :: rest)) :=
  xVi B hS (kX10_treasury l X t x1 r t' hM) (tw_3 182 rfl rfl) (tw_3 183 rfl rfl) (tw_3 184 rfl rfl) (tw_1 1 rfl rfl) (tw_3 185 rfl rfl) mdX10_treasury (by decide) (ceX10 _) rfl rfl rfl hsz rfl hW hR hR2 hdg kk
theorem qL_79 (B : Bx p s m args c cc nL X RL) (hS : SS X t H0 H locs) {x1 : Int32} {r : Int32} {t' : St} (hM : fX11_treasury t x1 = some (r, t')) (hsz : ls.size = nL) (hW : (rest.map fun v => v.category).sum ≤ 8) (hR : 4 + 1 ≤ R.frames ∧ 8 + (3 + 11) + 95 ≤ R.locals) (hR2 : cells ≤ R.cells ∧ slots ≤ R.slots) (hdg : decode cc pc = .ok (.invokevirtual 79, 3)) (kk : ∀ (H1 : Heap) (locs1 : List Loc), SS X t' H0 H1 locs1 → W p l e R s m args below meth c H1 locs1 cells slots Q (F0 m (pc + 3) ls (.int r :: rest))) : W p l e R s m args below meth c H locs cells slots Q (F0 m pc ls (.int x1 :: .ref (X.2.1 144) :: rest)) :=
  xVi B hS (kX11_treasury l X t x1 r t' hM) (tw_5 213 rfl rfl) (tw_5 214 rfl rfl) (tw_5 215 rfl rfl) (tw_1 12 rfl rfl) (tw_5 216 rfl rfl) mdX11_treasury (by decide) (ceX11 _) rfl rfl rfl hsz rfl hW hR hR2 hdg kk
theorem qL_80 (B : Bx p s m args c cc nL X RL) (hS : SS X t H0 H locs) {x1 : Int32} {r : Int32} {t' : St} (hM : fX10_lasts t x1 = some (r, t')) (hsz : ls.size = nL) (hW : (rest.map fun v => v.category).sum ≤ 8) (hR : 4 + 1 ≤ R.frames ∧ 8 + (3 + 11) + 93 ≤ R.locals) (hR2 : cells ≤ R.cells ∧ slots ≤ R.slots) (hdg : decode cc pc = .ok (.invokevirtual 80, 3)) (kk : ∀ (H1 : Heap) (locs1 : List Loc), SS X t' H0 H1 locs1 → W p l e R s m args below meth c H1 locs1 cells slots Q (F0 m (pc + 3) ls (.int r :: rest))) : W p l e R s m args below meth c H locs cells slots Q (F0 m pc ls (.int x1 :: .ref (X.2.1 0) :: rest)) :=
  xVi B hS (kX10_lasts l X t x1 r t' hM) (tw_3 187 rfl rfl) (tw_3 188 rfl rfl) (tw_3 189 rfl rfl) (tw_1 1 rfl rfl) (tw_3 190 rfl rfl) mdX10_lasts (by decide) (ceX10 _) rfl rfl rfl hsz rfl hW hR hR2 hdg kk
theorem qL_83 (B : Bx p s m args c cc nL X RL) (hS : SS X t H0 H locs) {x1 : Int32} {r : Int32} {t' : St} (hM : fX11_lasts t x1 = some (r, t')) (hsz : ls.size = nL) (hW : (rest.map fun v => v.category).sum ≤ 8) (hR : 4 + 1 ≤ R.frames ∧ 8 + (4 + 11) + 95 ≤ R.locals) (hR2 : cells ≤ R.cells ∧ slots ≤ R.slots) (hdg : decode cc pc = .ok (.invokevirtual 83, 3)) (kk : ∀ (H1 : Heap) (locs1 : List Loc), SS X t' H0 H1 locs1 → W p l e R s m args below meth c H1 locs1 cells slots Q (F0 m (pc + 3) ls (.int r :: rest))) : W p l e R s m args below meth c H locs cells slots Q (F0 m pc ls (.int x1 :: .ref (X.2.1 144) :: rest)) :=
  xVi B hS (kX11_lasts l X t x1 r t' hM) (tw_5 218 rfl rfl) (tw_5 219 rfl rfl) (tw_5 220 rfl rfl) (tw_1 12 rfl rfl) (tw_5 221 rfl rfl) mdX11_lasts (by decide) (ceX11 _) rfl rfl rfl hsz rfl hW hR hR2 hdg kk
theorem qL_84 (B : Bx p s m args c cc nL X RL) (hS : SS X t H0 H locs) {x1 : Int32} {x2 : Int32} {r : Int32} (hM : fX10_more t x1 x2 = some r) (hsz : ls.size = nL) (hW : (rest.map fun v => v.category).sum ≤ 8) (hR : 2 + 1 ≤ R.frames ∧ 8 + (3 + 11) + 48 ≤ R.locals) (hR2 : cells ≤ R.cells ∧ slots ≤ R.slots) (hdg : decode cc pc = .ok (.invokevirtual 84, 3)) (kk : ∀ (H1 : Heap) (locs1 : List Loc), SS X t H0 H1 locs1 → W p l e R s m args below meth c H1 locs1 cells slots Q (F0 m (pc + 3) ls (.int r :: rest))) : W p l e R s m args below meth c H locs cells slots Q (F0 m pc ls (.int x2 :: .int x1 :: .ref (X.2.1 0) :: rest)) :=
  xVi B hS (kX10_more l X t x1 x2 r hM) (tw_3 191 rfl rfl) (tw_3 192 rfl rfl) (tw_3 193 rfl rfl) (tw_1 1 rfl rfl) (tw_3 194 rfl rfl) mdX10_more (by decide) (ceX10 _) rfl rfl rfl hsz rfl hW hR hR2 hdg kk
theorem qL_87 (B : Bx p s m args c cc nL X RL) (hS : SS X t H0 H locs) {x1 : Int32} {x2 : Int32} {r : Int32} (hM : fX11_more t x1 x2 = some r) (hsz : ls.size = nL) (hW : (rest.map fun v => v.category).sum ≤ 8) (hR : 3 + 1 ≤ R.frames ∧ 8 + (3 + 11) + 64 ≤ R.locals) (hR2 : cells ≤ R.cells ∧ slots ≤ R.slots) (hdg : decode cc pc = .ok (.invokevirtual 87, 3)) (kk : ∀ (H1 : Heap) (locs1 : List Loc), SS X t H0 H1 locs1 → W p l e R s m args below meth c H1 locs1 cells slots Q (F0 m (pc + 3) ls (.int r :: rest))) : W p l e R s m args below meth c H locs cells slots Q (F0 m pc ls (.int x2 :: .int x1 :: .ref (X.2.1 144) :: rest)) :=
  xVi B hS (kX11_more l X t x1 x2 r hM) (tw_5 222 rfl rfl) (tw_5 223 rfl rfl) (tw_5 224 rfl rfl) (tw_1 12 rfl rfl) (tw_5 225 rfl rfl) mdX11_more (by decide) (ceX11 _) rfl rfl rfl hsz rfl hW hR hR2 hdg kk
theorem qL_88 (B : Bx p s m args c cc nL X RL) (hS : SS X t H0 H locs) {x1 : Int32} {x2 : Int32} {x3 : Int32} {r : Int32} (hM : fX10_bears t x1 x2 x3 = some r) (hsz : ls.size = nL) (hW : (rest.map fun v => v.category).sum ≤ 8) (hR : 4 + 1 ≤ R.frames ∧ 8 + (5 + 11) + 96 ≤ R.locals) (hR2 : cells ≤ R.cells ∧ slots ≤ R.slots) (hdg : decode cc pc = .ok (.invokevirtual 88, 3)) (kk : ∀ (H1 : Heap) (locs1 : List Loc), SS X t H0 H1 locs1 → W p l e R s m args below meth c H1 locs1 cells slots Q (F0 m (pc + 3) ls (.int r :: rest))) : W p l e R s m args below meth c H locs cells slots Q (F0 m pc ls (.int x3 :: .int x2 :: .int x1 :: .ref (X.2.1 0) :: rest)) :=
  xVi B hS (kX10_bears l X t x1 x2 x3 r hM) (tw_3 196 rfl rfl) (tw_3 197 rfl rfl) (tw_3 198 rfl rfl) (tw_1 1 rfl rfl) (tw_3 199 rfl rfl) mdX10_bears (by decide) (ceX10 _) rfl rfl rfl hsz rfl hW hR hR2 hdg kk
theorem qL_92 (B : Bx p s m args c cc nL X RL) (hS : SS X t H0 H locs) {x1 : Int32} {x2 : Int32} {x3 : Int32} {r : Int32} (hM : fX11_bears t x1 x2 x3 = some r) (hsz : ls.size = nL) (hW : (rest.map fun v => v.category).sum ≤ 8) (hR : 3 + 1 ≤ R.frames ∧ 8 + (7 + 11) + 73 ≤ R.locals) (hR2 : cells ≤ R.cells ∧ slots ≤ R.slots) (hdg : decode cc pc = .ok (.invokevirtual 92, 3)) (kk : ∀ (H1 : Heap) (locs1 : List Loc), SS X t H0 H1 locs1 → W p l e R s m args below meth c H1 locs1 cells slots Q (F0 m (pc + 3) ls (.int r :: rest))) : W p l e R s m args below meth c H locs cells slots Q (F0 m pc ls (.int x3 :: .int x2 :: .int x1 :: .ref (X.2.1 144) :: rest)) :=
  xVi B hS (kX11_bears l X t x1 x2 x3 r hM) (tw_5 226 rfl rfl) (tw_5 227 rfl rfl) (tw_5 228 rfl rfl) (tw_1 12 rfl rfl) (tw_5 229 rfl rfl) mdX11_bears (by decide) (ceX11 _) rfl rfl rfl hsz rfl hW hR hR2 hdg kk
theorem qL_93 (B : Bx p s m args c cc nL X RL) (hS : SS X t H0 H locs) {x1 : Int32} {x2 : Int32} {r : Int32} {t' : St} (hM : fX10_shared t x1 x2 = some (r, t')) (hsz : ls.size = nL) (hW : (rest.map fun v => v.category).sum ≤ 8) (hR : 4 + 1 ≤ R.frames ∧ 8 + (3 + 11) + 96 ≤ R.locals) (hR2 : cells ≤ R.cells ∧ slots ≤ R.slots) (hdg : decode cc pc = .ok (.invokevirtual 93, 3)) (kk : ∀ (H1 : Heap) (locs1 : List Loc), SS X t' H0 H1 locs1 → W p l e R s m args below meth c H1 locs1 cells slots Q (F0 m (pc + 3) ls (.int r :: rest))) : W p l e R s m args below meth c H locs cells slots Q (F0 m pc ls (.int x2 :: .int x1 :: .ref (X.2.1 0) :: rest)) :=
  xVi B hS (kX10_shared l X t x1 x2 r t' hM) (tw_3 214 rfl rfl) (tw_3 215 rfl rfl) (tw_3 216 rfl rfl) (tw_1 1 rfl rfl) (tw_3 217 rfl rfl) mdX10_shared (by decide) (ceX10 _) rfl rfl rfl hsz rfl hW hR hR2 hdg kk
theorem qL_96 (B : Bx p s m args c cc nL X RL) (hS : SS X t H0 H locs) {x1 : Int32} {x2 : Int32} {r : Int32} {t' : St} (hM : fX11_shared t x1 x2 = some (r, t')) (hsz : ls.size = nL) (hW : (rest.map fun v => v.category).sum ≤ 8) (hR : 4 + 1 ≤ R.frames ∧ 8 + (10 + 11) + 93 ≤ R.locals) (hR2 : cells ≤ R.cells ∧ slots ≤ R.slots) (hdg : decode cc pc = .ok (.invokevirtual 96, 3)) (kk : ∀ (H1 : Heap) (locs1 : List Loc), SS X t' H0 H1 locs1 → W p l e R s m args below meth c H1 locs1 cells slots Q (F0 m (pc + 3) ls (.int r :: rest))) : W p l e R s m args below meth c H locs cells slots Q (F0 m pc ls (.int x2 :: .int x1 :: .ref (X.2.1 144) :: rest)) :=
  xVi B hS (kX11_shared l X t x1 x2 r t' hM) (tw_5 238 rfl rfl) (tw_5 239 rfl rfl) (tw_6 0 rfl rfl) (tw_1 12 rfl rfl) (tw_6 1 rfl rfl) mdX11_shared (by decide) (ceX11 _) rfl rfl rfl hsz rfl hW hR hR2 hdg kk
theorem qL_97 (B : Bx p s m args c cc nL X RL) (hS : SS X t H0 H locs) {x1 : Int32} {x2 : Int32} {r : Int32} {t' : St} (hM : fX10_groups t x1 x2 = some (r, t')) (hsz : ls.size = nL) (hW : (rest.map fun v => v.category).sum ≤ 8) (hR : 6 + 1 ≤ R.frames ∧ 8 + (3 + 11) + 148 ≤ R.locals) (hR2 : cells ≤ R.cells ∧ slots ≤ R.slots) (hdg : decode cc pc = .ok (.invokevirtual 97, 3)) (kk : ∀ (H1 : Heap) (locs1 : List Loc), SS X t' H0 H1 locs1 → W p l e R s m args below meth c H1 locs1 cells slots Q (F0 m (pc + 3) ls (.int r :: rest))) : W p l e R s m args below meth c H locs cells slots Q (F0 m pc ls (.int x2 :: .int x1 :: .ref (X.2.1 0) :: rest)) :=
  xVi B hS (kX10_groups l X t x1 x2 r t' hM) (tw_4 2 rfl rfl) (tw_4 3 rfl rfl) (tw_4 4 rfl rfl) (tw_1 1 rfl rfl) (tw_4 5 rfl rfl) mdX10_groups (by decide) (ceX10 _) rfl rfl rfl hsz rfl hW hR hR2 hdg kk
theorem qL_100 (B : Bx p s m args c cc nL X RL) (hS : SS X t H0 H locs) {x1 : Int32} {x2 : Int32} {r : Int32} (hM : fX11_groups t x1 x2 = some r) (hsz : ls.size = nL) (hW : (rest.map fun v => v.category).sum ≤ 8) (hR : 4 + 1 ≤ R.frames ∧ 8 + (8 + 11) + 100 ≤ R.locals) (hR2 : cells ≤ R.cells ∧ slots ≤ R.slots) (hdg : decode cc pc = .ok (.invokevirtual 100, 3)) (kk : ∀ (H1 : Heap) (locs1 : List Loc), SS X t H0 H1 locs1 → W p l e R s m args below meth c H1 locs1 cells slots Q (F0 m (pc + 3) ls (.int r :: rest))) : W p l e R s m args below meth c H locs cells slots Q (F0 m pc ls (.int x2 :: .int x1 :: .ref (X.2.1 144) :: rest)) :=
  xVi B hS (kX11_groups l X t x1 x2 r hM) (tw_6 16 rfl rfl) (tw_6 17 rfl rfl) (tw_6 18 rfl rfl) (tw_1 12 rfl rfl) (tw_6 19 rfl rfl) mdX11_groups (by decide) (ceX11 _) rfl rfl rfl hsz rfl hW hR hR2 hdg kk
theorem qL_101 (B : Bx p s m args c cc nL X RL) (hS : SS X t H0 H locs) {x1 : Int32} {r : Int32} (hM : fX10_rates t x1 = some r) (hsz : ls.size = nL) (hW : (rest.map fun v => v.category).sum ≤ 8) (hR : 4 + 1 ≤ R.frames ∧ 8 + (3 + 11) + 93 ≤ R.locals) (hR2 : cells ≤ R.cells ∧ slots ≤ R.slots) (hdg : decode cc pc = .ok (.invokevirtual 101, 3)) (kk : ∀ (H1 : Heap) (locs1 : List Loc), SS X t H0 H1 locs1 → W p l e R s m args below meth c H1 locs1 cells slots Q (F0 m (pc + 3) ls (.int r :: rest))) : W p l e R s m args below meth c H locs cells slots Q (F0 m pc ls (.int x1 :: .ref (X.2.1 0) :: rest)) :=
  xVi B hS (kX10_rates l X t x1 r hM) (tw_4 28 rfl rfl) (tw_4 29 rfl rfl) (tw_4 30 rfl rfl) (tw_1 1 rfl rfl) (tw_4 31 rfl rfl) mdX10_rates (by decide) (ceX10 _) rfl rfl rfl hsz rfl hW hR hR2 hdg kk
theorem qL_104 (B : Bx p s m args c cc nL X RL) (hS : SS X t H0 H locs) {x1 : Int32} {r : Int32} (hM : fX11_rates t x1 = some r) (hsz : ls.size = nL) (hW : (rest.map fun v => v.category).sum ≤ 8) (hR : 2 + 1 ≤ R.frames ∧ 8 + (6 + 11) + 48 ≤ R.locals) (hR2 : cells ≤ R.cells ∧ slots ≤ R.slots) (hdg : decode cc pc = .ok (.invokevirtual 104, 3)) (kk : ∀ (H1 : Heap) (locs1 : List Loc), SS X t H0 H1 locs1 → W p l e R s m args below meth c H1 locs1 cells slots Q (F0 m (pc + 3) ls (.int r :: rest))) : W p l e R s m args below meth c H locs cells slots Q (F0 m pc ls (.int x1 :: .ref (X.2.1 144) :: rest)) :=
  xVi B hS (kX11_rates l X t x1 r hM) (tw_6 24 rfl rfl) (tw_6 25 rfl rfl) (tw_6 26 rfl rfl) (tw_1 12 rfl rfl) (tw_6 27 rfl rfl) mdX11_rates (by decide) (ceX11 _) rfl rfl rfl hsz rfl hW hR hR2 hdg kk
theorem qL_105 (B : Bx p s m args c cc nL X RL) (hS : SS X t H0 H locs) {x1 : Int32} {x2 : Int32} {r : Int32} (hM : fX10_dry t x1 x2 = some r) (hsz : ls.size = nL) (hW : (rest.map fun v => v.category).sum ≤ 8) (hR : 0 + 1 ≤ R.frames ∧ 8 + (6 + 11) + 0 ≤ R.locals) (hR2 : cells ≤ R.cells ∧ slots ≤ R.slots) (hdg : decode cc pc = .ok (.invokevirtual 105, 3)) (kk : ∀ (H1 : Heap) (locs1 : List Loc), SS X t H0 H1 locs1 → W p l e R s m args below meth c H1 locs1 cells slots Q (F0 m (pc + 3) ls (.int r :: rest))) : W p l e R s m args below meth c H locs cells slots Q (F0 m pc ls (.int x2 :: .int x1 :: .ref (X.2.1 0) :: rest)) :=
  xVi B hS (kX10_dry l X t x1 x2 r hM) (tw_4 37 rfl rfl) (tw_4 38 rfl rfl) (tw_4 39 rfl rfl) (tw_1 1 rfl rfl) (tw_4 40 rfl rfl) mdX10_dry (by decide) (ceX10 _) rfl rfl rfl hsz rfl hW hR hR2 hdg kk
theorem qL_108 (B : Bx p s m args c cc nL X RL) (hS : SS X t H0 H locs) {x1 : Int32} {x2 : Int32} {r : Int32} (hM : fX11_dry t x1 x2 = some r) (hsz : ls.size = nL) (hW : (rest.map fun v => v.category).sum ≤ 8) (hR : 1 + 1 ≤ R.frames ∧ 8 + (6 + 11) + 25 ≤ R.locals) (hR2 : cells ≤ R.cells ∧ slots ≤ R.slots) (hdg : decode cc pc = .ok (.invokevirtual 108, 3)) (kk : ∀ (H1 : Heap) (locs1 : List Loc), SS X t H0 H1 locs1 → W p l e R s m args below meth c H1 locs1 cells slots Q (F0 m (pc + 3) ls (.int r :: rest))) : W p l e R s m args below meth c H locs cells slots Q (F0 m pc ls (.int x2 :: .int x1 :: .ref (X.2.1 144) :: rest)) :=
  xVi B hS (kX11_dry l X t x1 x2 r hM) (tw_6 29 rfl rfl) (tw_6 30 rfl rfl) (tw_6 31 rfl rfl) (tw_1 12 rfl rfl) (tw_6 32 rfl rfl) mdX11_dry (by decide) (ceX11 _) rfl rfl rfl hsz rfl hW hR hR2 hdg kk
theorem qL_109 (B : Bx p s m args c cc nL X RL) (hS : SS X t H0 H locs) {x1 : Int32} {x2 : Int32} {r : Int32} {t' : St} (hM : fX10_pay t x1 x2 = some (r, t')) (hsz : ls.size = nL) (hW : (rest.map fun v => v.category).sum ≤ 8) (hR : 1 + 1 ≤ R.frames ∧ 8 + (3 + 11) + 22 ≤ R.locals) (hR2 : cells ≤ R.cells ∧ slots ≤ R.slots) (hdg : decode cc pc = .ok (.invokevirtual 109, 3)) (kk : ∀ (H1 : Heap) (locs1 : List Loc), SS X t' H0 H1 locs1 → W p l e R s m args below meth c H1 locs1 cells slots Q (F0 m (pc + 3) ls (.int r :: rest))) : W p l e R s m args below meth c H locs cells slots Q (F0 m pc ls (.int x2 :: .int x1 :: .ref (X.2.1 0) :: rest)) :=
  xVi B hS (kX10_pay l X t x1 x2 r t' hM) (tw_4 43 rfl rfl) (tw_4 44 rfl rfl) (tw_4 45 rfl rfl) (tw_1 1 rfl rfl) (tw_4 46 rfl rfl) mdX10_pay (by decide) (ceX10 _) rfl rfl rfl hsz rfl hW hR hR2 hdg kk
theorem qL_112 (B : Bx p s m args c cc nL X RL) (hS : SS X t H0 H locs) {x1 : Int32} {x2 : Int32} {r : Int32} {t' : St} (hM : fX11_pay t x1 x2 = some (r, t')) (hsz : ls.size = nL) (hW : (rest.map fun v => v.category).sum ≤ 8) (hR : 2 + 1 ≤ R.frames ∧ 8 + (3 + 11) + 46 ≤ R.locals) (hR2 : cells ≤ R.cells ∧ slots ≤ R.slots) (hdg : decode cc pc = .ok (.invokevirtual 112, 3)) (kk : ∀ (H1 : Heap) (locs1 : List Loc), SS X t' H0 H1 locs1 → W p l e R s m args below meth c H1 locs1 cells slots Q (F0 m (pc + 3) ls (.int r :: rest))) : W p l e R s m args below meth c H locs cells slots Q (F0 m pc ls (.int x2 :: .int x1 :: .ref (X.2.1 144) :: rest)) :=
  xVi B hS (kX11_pay l X t x1 x2 r t' hM) (tw_6 35 rfl rfl) (tw_6 36 rfl rfl) (tw_6 37 rfl rfl) (tw_1 12 rfl rfl) (tw_6 38 rfl rfl) mdX11_pay (by decide) (ceX11 _) rfl rfl rfl hsz rfl hW hR hR2 hdg kk
theorem qL_113 (B : Bx p s m args c cc nL X RL) (hS : SS X t H0 H locs) {x1 : Int32} {x2 : Int32} {r : Int32} {t' : St} (hM : fX10_write t x1 x2 = some (r, t')) (hsz : ls.size = nL) (hW : (rest.map fun v => v.category).sum ≤ 8) (hR : 1 + 1 ≤ R.frames ∧ 8 + (3 + 11) + 22 ≤ R.locals) (hR2 : cells ≤ R.cells ∧ slots ≤ R.slots) (hdg : decode cc pc = .ok (.invokevirtual 113, 3)) (kk : ∀ (H1 : Heap) (locs1 : List Loc), SS X t' H0 H1 locs1 → W p l e R s m args below meth c H1 locs1 cells slots Q (F0 m (pc + 3) ls (.int r :: rest))) : W p l e R s m args below meth c H locs cells slots Q (F0 m pc ls (.int x2 :: .int x1 :: .ref (X.2.1 0) :: rest)) :=
  xVi B hS (kX10_write l X t x1 x2 r t' hM) (tw_4 51 rfl rfl) (tw_4 52 rfl rfl) (tw_4 53 rfl rfl) (tw_1 1 rfl rfl) (tw_4 54 rfl rfl) mdX10_write (by decide) (ceX10 _) rfl rfl rfl hsz rfl hW hR hR2 hdg kk
theorem qL_116 (B : Bx p s m args c cc nL X RL) (hS : SS X t H0 H locs) {x1 : Int32} {x2 : Int32} {r : Int32} {t' : St} (hM : fX11_write t x1 x2 = some (r, t')) (hsz : ls.size = nL) (hW : (rest.map fun v => v.category).sum ≤ 8) (hR : 2 + 1 ≤ R.frames ∧ 8 + (3 + 11) + 46 ≤ R.locals) (hR2 : cells ≤ R.cells ∧ slots ≤ R.slots) (hdg : decode cc pc = .ok (.invokevirtual 116, 3)) (kk : ∀ (H1 : Heap) (locs1 : List Loc), SS X t' H0 H1 locs1 → W p l e R s m args below meth c H1 locs1 cells slots Q (F0 m (pc + 3) ls (.int r :: rest))) : W p l e R s m args below meth c H locs cells slots Q (F0 m pc ls (.int x2 :: .int x1 :: .ref (X.2.1 144) :: rest)) :=
  xVi B hS (kX11_write l X t x1 x2 r t' hM) (tw_6 40 rfl rfl) (tw_6 41 rfl rfl) (tw_6 42 rfl rfl) (tw_1 12 rfl rfl) (tw_6 43 rfl rfl) mdX11_write (by decide) (ceX11 _) rfl rfl rfl hsz rfl hW hR hR2 hdg kk
theorem qL_117 (B : Bx p s m args c cc nL X RL) (hS : SS X t H0 H locs) {r : Int32} {t' : St} (hM : fX10_tear t = some (r, t')) (hsz : ls.size = nL) (hW : (rest.map fun v => v.category).sum ≤ 8) (hR : 1 + 1 ≤ R.frames ∧ 8 + (2 + 11) + 20 ≤ R.locals) (hR2 : cells ≤ R.cells ∧ slots ≤ R.slots) (hdg : decode cc pc = .ok (.invokevirtual 117, 3)) (kk : ∀ (H1 : Heap) (locs1 : List Loc), SS X t' H0 H1 locs1 → W p l e R s m args below meth c H1 locs1 cells slots Q (F0 m (pc + 3) ls (.int r :: rest))) : W p l e R s m args below meth c H locs cells slots Q (F0 m pc ls (.ref (X.2.1 0) :: rest)) :=
  xVi B hS (kX10_tear l X t r t' hM) (tw_4 59 rfl rfl) (tw_4 60 rfl rfl) (tw_4 61 rfl rfl) (tw_1 1 rfl rfl) (tw_4 62 rfl rfl) mdX10_tear (by decide) (ceX10 _) rfl rfl rfl hsz rfl hW hR hR2 hdg kk
theorem qL_120 (B : Bx p s m args c cc nL X RL) (hS : SS X t H0 H locs) {r : Int32} {t' : St} (hM : fX11_tear t = some (r, t')) (hsz : ls.size = nL) (hW : (rest.map fun v => v.category).sum ≤ 8) (hR : 0 + 1 ≤ R.frames ∧ 8 + (2 + 11) + 0 ≤ R.locals) (hR2 : cells ≤ R.cells ∧ slots ≤ R.slots) (hdg : decode cc pc = .ok (.invokevirtual 120, 3)) (kk : ∀ (H1 : Heap) (locs1 : List Loc), SS X t' H0 H1 locs1 → W p l e R s m args below meth c H1 locs1 cells slots Q (F0 m (pc + 3) ls (.int r :: rest))) : W p l e R s m args below meth c H locs cells slots Q (F0 m pc ls (.ref (X.2.1 144) :: rest)) :=
  xVi B hS (kX11_tear l X t r t' hM) (tw_6 44 rfl rfl) (tw_6 45 rfl rfl) (tw_6 46 rfl rfl) (tw_1 12 rfl rfl) (tw_6 47 rfl rfl) mdX11_tear (by decide) (ceX11 _) rfl rfl rfl hsz rfl hW hR hR2 hdg kk
theorem qL_121 (B : Bx p s m args c cc nL X RL) (hS : SS X t H0 H locs) {r : Int32} (hM : fX10_judge t = some r) (hsz : ls.size = nL) (hW : (rest.map fun v => v.category).sum ≤ 8) (hR : 2 + 1 ≤ R.frames ∧ 8 + (1 + 11) + 44 ≤ R.locals) (hR2 : cells ≤ R.cells ∧ slots ≤ R.slots) (hdg : decode cc pc = .ok (.invokevirtual 121, 3)) (kk : ∀ (H1 : Heap) (locs1 : List Loc), SS X t H0 H1 locs1 → W p l e R s m args below meth c H1 locs1 cells slots Q (F0 m (pc + 3) ls (.int r :: rest))) : W p l e R s m args below meth c H locs cells slots Q (F0 m pc ls (.ref (X.2.1 0) :: rest)) :=
  xVi B hS (kX10_judge l X t r hM) (tw_4 63 rfl rfl) (tw_4 64 rfl rfl) (tw_4 65 rfl rfl) (tw_1 1 rfl rfl) (tw_4 66 rfl rfl) mdX10_judge (by decide) (ceX10 _) rfl rfl rfl hsz rfl hW hR hR2 hdg kk
theorem qL_124 (B : Bx p s m args c cc nL X RL) (hS : SS X t H0 H locs) {r : Int32} (hM : fX11_judge t = some r) (hsz : ls.size = nL) (hW : (rest.map fun v => v.category).sum ≤ 8) (hR : 0 + 1 ≤ R.frames ∧ 8 + (2 + 11) + 0 ≤ R.locals) (hR2 : cells ≤ R.cells ∧ slots ≤ R.slots) (hdg : decode cc pc = .ok (.invokevirtual 124, 3)) (kk : ∀ (H1 : Heap) (locs1 : List Loc), SS X t H0 H1 locs1 → W p l e R s m args below meth c H1 locs1 cells slots Q (F0 m (pc + 3) ls (.int r :: rest))) : W p l e R s m args below meth c H locs cells slots Q (F0 m pc ls (.ref (X.2.1 144) :: rest)) :=
  xVi B hS (kX11_judge l X t r hM) (tw_6 48 rfl rfl) (tw_6 49 rfl rfl) (tw_6 50 rfl rfl) (tw_1 12 rfl rfl) (tw_6 51 rfl rfl) mdX11_judge (by decide) (ceX11 _) rfl rfl rfl hsz rfl hW hR hR2 hdg kk
theorem qL_125 (B : Bx p s m args c cc nL X RL) (hS : SS X t H0 H locs) {x1 : Int32} {r : Int32} {t' : St} (hM : fX10_seed t x1 = some (r, t')) (hsz : ls.size = nL) (hW : (rest.map fun v => v.category).sum ≤ 8) (hR : 0 + 1 ≤ R.frames ∧ 8 + (3 + 11) + 0 ≤ R.locals) (hR2 : cells ≤ R.cells ∧ slots ≤ R.slots) (hdg : decode cc pc = .ok (.invokevirtual 125, 3)) (kk : ∀ (H1 : Heap) (locs1 : List Loc), SS X t' H0 H1 locs1 → W p l e R s m args below meth c H1 locs1 cells slots Q (F0 m (pc + 3) ls (.int r :: rest))) : W p l e R s m args below meth c H locs cells slots Q (F0 m pc ls (.int x1 :: .ref (X.2.1 0) :: rest)) :=
  xVi B hS (kX10_seed l X t x1 r t' hM) (tw_4 72 rfl rfl) (tw_4 73 rfl rfl) (tw_4 74 rfl rfl) (tw_1 1 rfl rfl) (tw_4 75 rfl rfl) mdX10_seed (by decide) (ceX10 _) rfl rfl rfl hsz rfl hW hR hR2 hdg kk
theorem qL_128 (B : Bx p s m args c cc nL X RL) (hS : SS X t H0 H locs) {x1 : Int32} {r : Int32} {t' : St} (hM : fX11_seed t x1 = some (r, t')) (hsz : ls.size = nL) (hW : (rest.map fun v => v.category).sum ≤ 8) (hR : 0 + 1 ≤ R.frames ∧ 8 + (3 + 11) + 0 ≤ R.locals) (hR2 : cells ≤ R.cells ∧ slots ≤ R.slots) (hdg : decode cc pc = .ok (.invokevirtual 128, 3)) (kk : ∀ (H1 : Heap) (locs1 : List Loc), SS X t' H0 H1 locs1 → W p l e R s m args below meth c H1 locs1 cells slots Q (F0 m (pc + 3) ls (.int r :: rest))) : W p l e R s m args below meth c H locs cells slots Q (F0 m pc ls (.int x1 :: .ref (X.2.1 144) :: rest)) :=
  xVi B hS (kX11_seed l X t x1 r t' hM) (tw_6 52 rfl rfl) (tw_6 53 rfl rfl) (tw_6 54 rfl rfl) (tw_1 12 rfl rfl) (tw_6 55 rfl rfl) mdX11_seed (by decide) (ceX11 _) rfl rfl rfl hsz rfl hW hR hR2 hdg kk
theorem qL_129 (B : Bx p s m args c cc nL X RL) (hS : SS X t H0 H locs) {x1 : Int32} {r : Int32} {t' : St} (hM : fX10_keep t x1 = some (r, t')) (hsz : ls.size = nL) (hW : (rest.map fun v => v.category).sum ≤ 8) (hR : 2 + 1 ≤ R.frames ∧ 8 + (2 + 11) + 81 ≤ R.locals) (hR2 : cells ≤ R.cells ∧ slots ≤ R.slots) (hdg : decode cc pc = .ok (.invokevirtual 129, 3)) (kk : ∀ (H1 : Heap) (locs1 : List Loc), SS X t' H0 H1 locs1 → W p l e R s m args below meth c H1 locs1 cells slots Q (F0 m (pc + 3) ls (.int r :: rest))) : W p l e R s m args below meth c H locs cells slots Q (F0 m pc ls (.int x1 :: .ref (X.2.1 0) :: rest)) :=
  xVi B hS (kX10_keep l X t x1 r t' hM) (tw_4 76 rfl rfl) (tw_4 77 rfl rfl) (tw_4 78 rfl rfl) (tw_1 1 rfl rfl) (tw_4 79 rfl rfl) mdX10_keep (by decide) (ceX10 _) rfl rfl rfl hsz rfl hW hR hR2 hdg kk
theorem qL_132 (B : Bx p s m args c cc nL X RL) (hS : SS X t H0 H locs) {x1 : Int32} {r : Int32} {t' : St} (hM : fX11_keep t x1 = some (r, t')) (hsz : ls.size = nL) (hW : (rest.map fun v => v.category).sum ≤ 8) (hR : 1 + 1 ≤ R.frames ∧ 8 + (3 + 11) + 25 ≤ R.locals) (hR2 : cells ≤ R.cells ∧ slots ≤ R.slots) (hdg : decode cc pc = .ok (.invokevirtual 132, 3)) (kk : ∀ (H1 : Heap) (locs1 : List Loc), SS X t' H0 H1 locs1 → W p l e R s m args below meth c H1 locs1 cells slots Q (F0 m (pc + 3) ls (.int r :: rest))) : W p l e R s m args below meth c H locs cells slots Q (F0 m pc ls (.int x1 :: .ref (X.2.1 144) :: rest)) :=
  xVi B hS (kX11_keep l X t x1 r t' hM) (tw_6 56 rfl rfl) (tw_6 57 rfl rfl) (tw_6 58 rfl rfl) (tw_1 12 rfl rfl) (tw_6 59 rfl rfl) mdX11_keep (by decide) (ceX11 _) rfl rfl rfl hsz rfl hW hR hR2 hdg kk
theorem qL_133 (B : Bx p s m args c cc nL X RL) (hS : SS X t H0 H locs) {x1 : Int32} {r : Int32} {t' : St} (hM : fX10_goBack t x1 = some (r, t')) (hsz : ls.size = nL) (hW : (rest.map fun v => v.category).sum ≤ 8) (hR : 2 + 1 ≤ R.frames ∧ 8 + (2 + 11) + 81 ≤ R.locals) (hR2 : cells ≤ R.cells ∧ slots ≤ R.slots) (hdg : decode cc pc = .ok (.invokevirtual 133, 3)) (kk : ∀ (H1 : Heap) (locs1 : List Loc), SS X t' H0 H1 locs1 → W p l e R s m args below meth c H1 locs1 cells slots Q (F0 m (pc + 3) ls (.int r :: rest))) : W p l e R s m args below meth c H locs cells slots Q (F0 m pc ls (.int x1 :: .ref (X.2.1 0) :: rest)) :=
  xVi B hS (kX10_goBack l X t x1 r t' hM) (tw_4 80 rfl rfl) (tw_4 81 rfl rfl) (tw_4 82 rfl rfl) (tw_1 1 rfl rfl) (tw_4 83 rfl rfl) mdX10_goBack (by decide) (ceX10 _) rfl rfl rfl hsz rfl hW hR hR2 hdg kk
theorem qL_136 (B : Bx p s m args c cc nL X RL) (hS : SS X t H0 H locs) {x1 : Int32} {r : Int32} {t' : St} (hM : fX11_goBack t x1 = some (r, t')) (hsz : ls.size = nL) (hW : (rest.map fun v => v.category).sum ≤ 8) (hR : 1 + 1 ≤ R.frames ∧ 8 + (3 + 11) + 25 ≤ R.locals) (hR2 : cells ≤ R.cells ∧ slots ≤ R.slots) (hdg : decode cc pc = .ok (.invokevirtual 136, 3)) (kk : ∀ (H1 : Heap) (locs1 : List Loc), SS X t' H0 H1 locs1 → W p l e R s m args below meth c H1 locs1 cells slots Q (F0 m (pc + 3) ls (.int r :: rest))) : W p l e R s m args below meth c H locs cells slots Q (F0 m pc ls (.int x1 :: .ref (X.2.1 144) :: rest)) :=
  xVi B hS (kX11_goBack l X t x1 r t' hM) (tw_6 60 rfl rfl) (tw_6 61 rfl rfl) (tw_6 62 rfl rfl) (tw_1 12 rfl rfl) (tw_6 63 rfl rfl) mdX11_goBack (by decide) (ceX11 _) rfl rfl rfl hsz rfl hW hR hR2 hdg kk
end QL
set_option maxHeartbeats 8000000 in
set_option maxRecDepth 100000 in
theorem law_loop {p : Program} {e : Env} {s : State} {m : MethodId} {below : List Frame} {meth : Method} {c : Code} (l : Launch) {b L : Nat} {xs : Nat → Int32} (X : Cx) (B : Bx p s m #[Value.ref b] c code 4 X RL) (hX : va_X b L xs s s.heap) (hbl : b < s.heap.size) (hfr : ∀ o, o < NC → s.heap.size ≤ X.2.1 o) (hr : meth.sig.returnType = ret) (hlk : meth.locks = false) : ∀ (n18 : Nat) (t : St) (x3 : Int32) (H : Heap) (locs : List Loc) (ls : Array Slot), SS X t s.heap H locs → lv_has ls 4 [(0, .ref b), (1, .ref (X.2.1 0)), (2, .ref (X.2.1 144)), (3, .int x3)] → fL_law_18 xs L n18 t x3 = some 1 → W p l e room_1 s m #[Value.ref b] below meth c H locs 166 6348 (lw_Z below #[Value.ref b] s) (F0 m 18 ls []) := by
  have hx := B.1
  have hb := B.2.1
  have hown := B.2.2.2.1
  have hts := B.2.2.2.2.1
  have hbA : ¬ AN X b := fun h => by
    obtain ⟨o, ho, hq⟩ := h
    have := hfr o ho
    omega
  have hfin : ∀ (t : St) (pc : Nat) (ls : Array Slot) (H : Heap) (locs : List Loc), SS X t s.heap H locs → decode code pc = .ok (.ireturn, 1) → W p l e room_1 s m #[Value.ref b] below meth c H locs 166 6348 (lw_Z below #[Value.ref b] s) (F0 m pc ls [.int 1]) := by
    intro t pc ls H locs hS hdg
    refine va_forget (fun q hq => ?_) ?_
    · obtain ⟨o, ho, h9⟩ := hS.2.2.2 q hq
      rw [h9]
      exact hfr o ho
    · refine W.widen (k := 600000) (n := 7302250) (Nat.le_of_ble_eq_true rfl) (Nat.le_of_ble_eq_true rfl) ?_
      exact lw_ret hx hb hr hlk hdg
  intro n18
  induction n18 with
  | zero =>
    intro t x3 H locs ls hS hl hrun
    cases (show (none : Option Int32) = some 1 from hrun)
  | succ n18 ih18 =>
    intro t x3 H locs ls hS hl hrun
    rw [fL_law_18_s] at hrun
    refine lv_iload_n hx hb dL_law_18 rfl (lv_at hl 3 rfl) ?_
    refine lv_aload_n hx hb dL_law_19 rfl (lv_at hl 0 rfl) ?_
    refine va_slen hx hb hX hbl hbA hS.2 dL_law_20 ?_
    refine lv_iconst (v := 4) hx hb dL_law_21 (by decide) ?_
    refine lv_isub hx hb dL_law_22 ?_
    refine lv_icmp_gt (tgt := 944) hx hb dL_law_23 (by decide) (fun hc => ?_) (fun hc => ?_)
    · have hrun := ip hc hrun
      refine lv_iconst (v := 1) hx hb dL_law_944 (by decide) ?_
      exact hfin _ _ _ _ _ hS dL_law_945
    · have hrun := iq hc hrun
      refine lv_aload_n hx hb dL_law_26 rfl (lv_at hl 0 rfl) ?_
      refine lv_iload_n hx hb dL_law_27 rfl (lv_at hl 3 rfl) ?_
      obtain ⟨hi_1, hrun⟩ := gdE hrun
      refine va_sld hx hb hX hbl hbA hS.2 hi_1 dL_law_28 ?_
      refine lv_bipush (v := 31) hx hb dL_law_29 (by decide) ?_
      refine lv_iand hx hb dL_law_31 ?_
      refine lv_topi (fun x_2 ex => ?_)
      obtain ⟨z, ez, hrun⟩ := bsE hrun
      obtain rfl : x_2 = z := ex.trans ez.symm
      clear ex ez
      by_cases hw_3 : x_2 = (0 : Int32)
      · have hrun := ip hw_3 hrun
        refine lv_tableIn (off := 136) (tgt := 168) hx hb dL_law_32 (by rw [hw_3]; decide) (by rw [hw_3]; decide) (by rw [hw_3]; rfl) (by decide) ?_
        refine lv_aload_n hx hb dL_law_168 rfl (lv_at hl 1 rfl) ?_
        refine lv_aload_n hx hb dL_law_169 rfl (lv_at hl 0 rfl) ?_
        refine lv_iload_n hx hb dL_law_170 rfl (lv_at hl 3 rfl) ?_
        refine lv_iconst (v := 1) hx hb dL_law_171 (by decide) ?_
        refine lv_iadd hx hb dL_law_172 ?_
        obtain ⟨hi_4, hrun⟩ := gdE hrun
        refine va_sld hx hb hX hbl hbA hS.2 hi_4 dL_law_173 ?_
        obtain ⟨r_6, t_7, hc_5, hrun⟩ := bd2E hrun
        refine qL_13 B hS hc_5 hl.1 (Nat.le_of_ble_eq_true rfl) ⟨Nat.le_of_ble_eq_true rfl, Nat.le_of_ble_eq_true rfl⟩ ⟨Nat.le_of_ble_eq_true rfl, Nat.le_of_ble_eq_true rfl⟩ dL_law_174 (fun H locs hS => ?_)
        refine lv_aload_n hx hb dL_law_177 rfl (lv_at hl 2 rfl) ?_
        refine lv_aload_n hx hb dL_law_178 rfl (lv_at hl 0 rfl) ?_
        refine lv_iload_n hx hb dL_law_179 rfl (lv_at hl 3 rfl) ?_
        refine lv_iconst (v := 1) hx hb dL_law_180 (by decide) ?_
        refine lv_iadd hx hb dL_law_181 ?_
        obtain ⟨hi_8, hrun⟩ := gdE hrun
        refine va_sld hx hb hX hbl hbA hS.2 hi_8 dL_law_182 ?_
        obtain ⟨r_10, t_11, hc_9, hrun⟩ := bd2E hrun
        refine qL_17 B hS hc_9 hl.1 (Nat.le_of_ble_eq_true rfl) ⟨Nat.le_of_ble_eq_true rfl, Nat.le_of_ble_eq_true rfl⟩ ⟨Nat.le_of_ble_eq_true rfl, Nat.le_of_ble_eq_true rfl⟩ dL_law_183 (fun H locs hS => ?_)
        refine lv_icmp_eq (tgt := 938) hx hb dL_law_186 (by decide) (fun hc => ?_) (fun hc => ?_)
        · have hrun := ip hc hrun
          refine lv_iinc (v := x3 + (4 : Int32)) (k := 3) (lv' := [(3, .int (x3 + (4 : Int32))), (0, .ref b), (1, .ref (X.2.1 0)), (2, .ref (X.2.1 144))]) hx hb dL_law_938 hl rfl rfl (by decide) rfl (fun ls hl => ?_)
          refine lv_goto (tgt := 18) hx hb dL_law_941 (by decide) ?_
          exact ih18 t_11 (x3 + (4 : Int32)) _ _ _ hS (lv_sub hl [1, 2, 3, 0] rfl) hrun
        · have hrun := iq hc hrun
          refine lv_iconst (v := 0) hx hb dL_law_189 (by decide) ?_
          exact absurd (Option.some.inj hrun) (by decide)
      have hrun := iq hw_3 hrun
      by_cases hw_12 : x_2 = (1 : Int32)
      · have hrun := ip hw_12 hrun
        refine lv_tableIn (off := 159) (tgt := 191) hx hb dL_law_32 (by rw [hw_12]; decide) (by rw [hw_12]; decide) (by rw [hw_12]; rfl) (by decide) ?_
        refine lv_aload_n hx hb dL_law_191 rfl (lv_at hl 1 rfl) ?_
        obtain ⟨r_14, t_15, hc_13, hrun⟩ := bd2E hrun
        refine qL_18 B hS hc_13 hl.1 (Nat.le_of_ble_eq_true rfl) ⟨Nat.le_of_ble_eq_true rfl, Nat.le_of_ble_eq_true rfl⟩ ⟨Nat.le_of_ble_eq_true rfl, Nat.le_of_ble_eq_true rfl⟩ dL_law_192 (fun H locs hS => ?_)
        refine lv_aload_n hx hb dL_law_195 rfl (lv_at hl 2 rfl) ?_
        obtain ⟨r_17, t_18, hc_16, hrun⟩ := bd2E hrun
        refine qL_22 B hS hc_16 hl.1 (Nat.le_of_ble_eq_true rfl) ⟨Nat.le_of_ble_eq_true rfl, Nat.le_of_ble_eq_true rfl⟩ ⟨Nat.le_of_ble_eq_true rfl, Nat.le_of_ble_eq_true rfl⟩ dL_law_196 (fun H locs hS => ?_)
        refine lv_icmp_eq (tgt := 938) hx hb dL_law_199 (by decide) (fun hc => ?_) (fun hc => ?_)
        · have hrun := ip hc hrun
          refine lv_iinc (v := x3 + (4 : Int32)) (k := 3) (lv' := [(3, .int (x3 + (4 : Int32))), (0, .ref b), (1, .ref (X.2.1 0)), (2, .ref (X.2.1 144))]) hx hb dL_law_938 hl rfl rfl (by decide) rfl (fun ls hl => ?_)
          refine lv_goto (tgt := 18) hx hb dL_law_941 (by decide) ?_
          exact ih18 t_18 (x3 + (4 : Int32)) _ _ _ hS (lv_sub hl [1, 2, 3, 0] rfl) hrun
        · have hrun := iq hc hrun
          refine lv_iconst (v := 0) hx hb dL_law_202 (by decide) ?_
          exact absurd (Option.some.inj hrun) (by decide)
      have hrun := iq hw_12 hrun
      by_cases hw_19 : x_2 = (2 : Int32)
      · have hrun := ip hw_19 hrun
        refine lv_tableIn (off := 172) (tgt := 204) hx hb dL_law_32 (by rw [hw_19]; decide) (by rw [hw_19]; decide) (by rw [hw_19]; rfl) (by decide) ?_
        refine lv_aload_n hx hb dL_law_204 rfl (lv_at hl 1 rfl) ?_
        obtain ⟨r_21, hc_20, hrun⟩ := bdE hrun
        refine qL_23 B hS hc_20 hl.1 (Nat.le_of_ble_eq_true rfl) ⟨Nat.le_of_ble_eq_true rfl, Nat.le_of_ble_eq_true rfl⟩ ⟨Nat.le_of_ble_eq_true rfl, Nat.le_of_ble_eq_true rfl⟩ dL_law_205 (fun H locs hS => ?_)
        refine lv_aload_n hx hb dL_law_208 rfl (lv_at hl 2 rfl) ?_
        obtain ⟨r_23, hc_22, hrun⟩ := bdE hrun
        refine qL_26 B hS hc_22 hl.1 (Nat.le_of_ble_eq_true rfl) ⟨Nat.le_of_ble_eq_true rfl, Nat.le_of_ble_eq_true rfl⟩ ⟨Nat.le_of_ble_eq_true rfl, Nat.le_of_ble_eq_true rfl⟩ dL_law_209 (fun H locs hS => ?_)
        refine lv_icmp_eq (tgt := 938) hx hb dL_law_212 (by decide) (fun hc => ?_) (fun hc => ?_)
        · have hrun := ip hc hrun
          refine lv_iinc (v := x3 + (4 : Int32)) (k := 3) (lv' := [(3, .int (x3 + (4 : Int32))), (0, .ref b), (1, .ref (X.2.1 0)), (2, .ref (X.2.1 144))]) hx hb dL_law_938 hl rfl rfl (by decide) rfl (fun ls hl => ?_)
          refine lv_goto (tgt := 18) hx hb dL_law_941 (by decide) ?_
          exact ih18 t (x3 + (4 : Int32)) _ _ _ hS (lv_sub hl [1, 2, 3, 0] rfl) hrun
        · have hrun := iq hc hrun
          refine lv_iconst (v := 0) hx hb dL_law_215 (by decide) ?_
          exact absurd (Option.some.inj hrun) (by decide)
      have hrun := iq hw_19 hrun
      by_cases hw_24 : x_2 = (3 : Int32)
      · have hrun := ip hw_24 hrun
        refine lv_tableIn (off := 185) (tgt := 217) hx hb dL_law_32 (by rw [hw_24]; decide) (by rw [hw_24]; decide) (by rw [hw_24]; rfl) (by decide) ?_
        refine lv_aload_n hx hb dL_law_217 rfl (lv_at hl 1 rfl) ?_
        refine lv_aload_n hx hb dL_law_218 rfl (lv_at hl 0 rfl) ?_
        refine lv_iload_n hx hb dL_law_219 rfl (lv_at hl 3 rfl) ?_
        refine lv_iconst (v := 1) hx hb dL_law_220 (by decide) ?_
        refine lv_iadd hx hb dL_law_221 ?_
        obtain ⟨hi_25, hrun⟩ := gdE hrun
        refine va_sld hx hb hX hbl hbA hS.2 hi_25 dL_law_222 ?_
        obtain ⟨r_27, t_28, hc_26, hrun⟩ := bd2E hrun
        refine qL_27 B hS hc_26 hl.1 (Nat.le_of_ble_eq_true rfl) ⟨Nat.le_of_ble_eq_true rfl, Nat.le_of_ble_eq_true rfl⟩ ⟨Nat.le_of_ble_eq_true rfl, Nat.le_of_ble_eq_true rfl⟩ dL_law_223 (fun H locs hS => ?_)
        refine lv_aload_n hx hb dL_law_226 rfl (lv_at hl 2 rfl) ?_
        refine lv_aload_n hx hb dL_law_227 rfl (lv_at hl 0 rfl) ?_
        refine lv_iload_n hx hb dL_law_228 rfl (lv_at hl 3 rfl) ?_
        refine lv_iconst (v := 1) hx hb dL_law_229 (by decide) ?_
        refine lv_iadd hx hb dL_law_230 ?_
        obtain ⟨hi_29, hrun⟩ := gdE hrun
        refine va_sld hx hb hX hbl hbA hS.2 hi_29 dL_law_231 ?_
        obtain ⟨r_31, hc_30, hrun⟩ := bdE hrun
        refine qL_30 B hS hc_30 hl.1 (Nat.le_of_ble_eq_true rfl) ⟨Nat.le_of_ble_eq_true rfl, Nat.le_of_ble_eq_true rfl⟩ ⟨Nat.le_of_ble_eq_true rfl, Nat.le_of_ble_eq_true rfl⟩ dL_law_232 (fun H locs hS => ?_)
        refine lv_icmp_eq (tgt := 938) hx hb dL_law_235 (by decide) (fun hc => ?_) (fun hc => ?_)
        · have hrun := ip hc hrun
          refine lv_iinc (v := x3 + (4 : Int32)) (k := 3) (lv' := [(3, .int (x3 + (4 : Int32))), (0, .ref b), (1, .ref (X.2.1 0)), (2, .ref (X.2.1 144))]) hx hb dL_law_938 hl rfl rfl (by decide) rfl (fun ls hl => ?_)
          refine lv_goto (tgt := 18) hx hb dL_law_941 (by decide) ?_
          exact ih18 t_28 (x3 + (4 : Int32)) _ _ _ hS (lv_sub hl [1, 2, 3, 0] rfl) hrun
        · have hrun := iq hc hrun
          refine lv_iconst (v := 0) hx hb dL_law_238 (by decide) ?_
          exact absurd (Option.some.inj hrun) (by decide)
      have hrun := iq hw_24 hrun
      by_cases hw_32 : x_2 = (4 : Int32)
      · have hrun := ip hw_32 hrun
        refine lv_tableIn (off := 208) (tgt := 240) hx hb dL_law_32 (by rw [hw_32]; decide) (by rw [hw_32]; decide) (by rw [hw_32]; rfl) (by decide) ?_
        refine lv_aload_n hx hb dL_law_240 rfl (lv_at hl 1 rfl) ?_
        refine lv_aload_n hx hb dL_law_241 rfl (lv_at hl 0 rfl) ?_
        refine lv_iload_n hx hb dL_law_242 rfl (lv_at hl 3 rfl) ?_
        refine lv_iconst (v := 1) hx hb dL_law_243 (by decide) ?_
        refine lv_iadd hx hb dL_law_244 ?_
        obtain ⟨hi_33, hrun⟩ := gdE hrun
        refine va_sld hx hb hX hbl hbA hS.2 hi_33 dL_law_245 ?_
        refine lv_aload_n hx hb dL_law_246 rfl (lv_at hl 0 rfl) ?_
        refine lv_iload_n hx hb dL_law_247 rfl (lv_at hl 3 rfl) ?_
        refine lv_iconst (v := 2) hx hb dL_law_248 (by decide) ?_
        refine lv_iadd hx hb dL_law_249 ?_
        obtain ⟨hi_34, hrun⟩ := gdE hrun
        refine va_sld hx hb hX hbl hbA hS.2 hi_34 dL_law_250 ?_
        obtain ⟨r_36, hc_35, hrun⟩ := bdE hrun
        refine qL_31 B hS hc_35 hl.1 (Nat.le_of_ble_eq_true rfl) ⟨Nat.le_of_ble_eq_true rfl, Nat.le_of_ble_eq_true rfl⟩ ⟨Nat.le_of_ble_eq_true rfl, Nat.le_of_ble_eq_true rfl⟩ dL_law_251 (fun H locs hS => ?_)
        refine lv_aload_n hx hb dL_law_254 rfl (lv_at hl 2 rfl) ?_
        refine lv_aload_n hx hb dL_law_255 rfl (lv_at hl 0 rfl) ?_
        refine lv_iload_n hx hb dL_law_256 rfl (lv_at hl 3 rfl) ?_
        refine lv_iconst (v := 1) hx hb dL_law_257 (by decide) ?_
        refine lv_iadd hx hb dL_law_258 ?_
        obtain ⟨hi_37, hrun⟩ := gdE hrun
        refine va_sld hx hb hX hbl hbA hS.2 hi_37 dL_law_259 ?_
        refine lv_aload_n hx hb dL_law_260 rfl (lv_at hl 0 rfl) ?_
        refine lv_iload_n hx hb dL_law_261 rfl (lv_at hl 3 rfl) ?_
        refine lv_iconst (v := 2) hx hb dL_law_262 (by decide) ?_
        refine lv_iadd hx hb dL_law_263 ?_
        obtain ⟨hi_38, hrun⟩ := gdE hrun
        refine va_sld hx hb hX hbl hbA hS.2 hi_38 dL_law_264 ?_
        obtain ⟨r_40, hc_39, hrun⟩ := bdE hrun
        refine qL_35 B hS hc_39 hl.1 (Nat.le_of_ble_eq_true rfl) ⟨Nat.le_of_ble_eq_true rfl, Nat.le_of_ble_eq_true rfl⟩ ⟨Nat.le_of_ble_eq_true rfl, Nat.le_of_ble_eq_true rfl⟩ dL_law_265 (fun H locs hS => ?_)
        refine lv_icmp_eq (tgt := 938) hx hb dL_law_268 (by decide) (fun hc => ?_) (fun hc => ?_)
        · have hrun := ip hc hrun
          refine lv_iinc (v := x3 + (4 : Int32)) (k := 3) (lv' := [(3, .int (x3 + (4 : Int32))), (0, .ref b), (1, .ref (X.2.1 0)), (2, .ref (X.2.1 144))]) hx hb dL_law_938 hl rfl rfl (by decide) rfl (fun ls hl => ?_)
          refine lv_goto (tgt := 18) hx hb dL_law_941 (by decide) ?_
          exact ih18 t (x3 + (4 : Int32)) _ _ _ hS (lv_sub hl [1, 2, 3, 0] rfl) hrun
        · have hrun := iq hc hrun
          refine lv_iconst (v := 0) hx hb dL_law_271 (by decide) ?_
          exact absurd (Option.some.inj hrun) (by decide)
      have hrun := iq hw_32 hrun
      by_cases hw_41 : x_2 = (5 : Int32)
      · have hrun := ip hw_41 hrun
        refine lv_tableIn (off := 241) (tgt := 273) hx hb dL_law_32 (by rw [hw_41]; decide) (by rw [hw_41]; decide) (by rw [hw_41]; rfl) (by decide) ?_
        refine lv_aload_n hx hb dL_law_273 rfl (lv_at hl 1 rfl) ?_
        refine lv_aload_n hx hb dL_law_274 rfl (lv_at hl 0 rfl) ?_
        refine lv_iload_n hx hb dL_law_275 rfl (lv_at hl 3 rfl) ?_
        refine lv_iconst (v := 1) hx hb dL_law_276 (by decide) ?_
        refine lv_iadd hx hb dL_law_277 ?_
        obtain ⟨hi_42, hrun⟩ := gdE hrun
        refine va_sld hx hb hX hbl hbA hS.2 hi_42 dL_law_278 ?_
        refine lv_aload_n hx hb dL_law_279 rfl (lv_at hl 0 rfl) ?_
        refine lv_iload_n hx hb dL_law_280 rfl (lv_at hl 3 rfl) ?_
        refine lv_iconst (v := 2) hx hb dL_law_281 (by decide) ?_
        refine lv_iadd hx hb dL_law_282 ?_
        obtain ⟨hi_43, hrun⟩ := gdE hrun
        refine va_sld hx hb hX hbl hbA hS.2 hi_43 dL_law_283 ?_
        obtain ⟨r_45, hc_44, hrun⟩ := bdE hrun
        refine qL_36 B hS hc_44 hl.1 (Nat.le_of_ble_eq_true rfl) ⟨Nat.le_of_ble_eq_true rfl, Nat.le_of_ble_eq_true rfl⟩ ⟨Nat.le_of_ble_eq_true rfl, Nat.le_of_ble_eq_true rfl⟩ dL_law_284 (fun H locs hS => ?_)
        refine lv_aload_n hx hb dL_law_287 rfl (lv_at hl 2 rfl) ?_
        refine lv_aload_n hx hb dL_law_288 rfl (lv_at hl 0 rfl) ?_
        refine lv_iload_n hx hb dL_law_289 rfl (lv_at hl 3 rfl) ?_
        refine lv_iconst (v := 1) hx hb dL_law_290 (by decide) ?_
        refine lv_iadd hx hb dL_law_291 ?_
        obtain ⟨hi_46, hrun⟩ := gdE hrun
        refine va_sld hx hb hX hbl hbA hS.2 hi_46 dL_law_292 ?_
        refine lv_aload_n hx hb dL_law_293 rfl (lv_at hl 0 rfl) ?_
        refine lv_iload_n hx hb dL_law_294 rfl (lv_at hl 3 rfl) ?_
        refine lv_iconst (v := 2) hx hb dL_law_295 (by decide) ?_
        refine lv_iadd hx hb dL_law_296 ?_
        obtain ⟨hi_47, hrun⟩ := gdE hrun
        refine va_sld hx hb hX hbl hbA hS.2 hi_47 dL_law_297 ?_
        obtain ⟨r_49, hc_48, hrun⟩ := bdE hrun
        refine qL_39 B hS hc_48 hl.1 (Nat.le_of_ble_eq_true rfl) ⟨Nat.le_of_ble_eq_true rfl, Nat.le_of_ble_eq_true rfl⟩ ⟨Nat.le_of_ble_eq_true rfl, Nat.le_of_ble_eq_true rfl⟩ dL_law_298 (fun H locs hS => ?_)
        refine lv_icmp_eq (tgt := 938) hx hb dL_law_301 (by decide) (fun hc => ?_) (fun hc => ?_)
        · have hrun := ip hc hrun
          refine lv_iinc (v := x3 + (4 : Int32)) (k := 3) (lv' := [(3, .int (x3 + (4 : Int32))), (0, .ref b), (1, .ref (X.2.1 0)), (2, .ref (X.2.1 144))]) hx hb dL_law_938 hl rfl rfl (by decide) rfl (fun ls hl => ?_)
          refine lv_goto (tgt := 18) hx hb dL_law_941 (by decide) ?_
          exact ih18 t (x3 + (4 : Int32)) _ _ _ hS (lv_sub hl [1, 2, 3, 0] rfl) hrun
        · have hrun := iq hc hrun
          refine lv_iconst (v := 0) hx hb dL_law_304 (by decide) ?_
          exact absurd (Option.some.inj hrun) (by decide)
      have hrun := iq hw_41 hrun
      by_cases hw_50 : x_2 = (6 : Int32)
      · have hrun := ip hw_50 hrun
        refine lv_tableIn (off := 274) (tgt := 306) hx hb dL_law_32 (by rw [hw_50]; decide) (by rw [hw_50]; decide) (by rw [hw_50]; rfl) (by decide) ?_
        refine lv_aload_n hx hb dL_law_306 rfl (lv_at hl 1 rfl) ?_
        refine lv_aload_n hx hb dL_law_307 rfl (lv_at hl 0 rfl) ?_
        refine lv_iload_n hx hb dL_law_308 rfl (lv_at hl 3 rfl) ?_
        refine lv_iconst (v := 1) hx hb dL_law_309 (by decide) ?_
        refine lv_iadd hx hb dL_law_310 ?_
        obtain ⟨hi_51, hrun⟩ := gdE hrun
        refine va_sld hx hb hX hbl hbA hS.2 hi_51 dL_law_311 ?_
        obtain ⟨r_53, t_54, hc_52, hrun⟩ := bd2E hrun
        refine qL_40 B hS hc_52 hl.1 (Nat.le_of_ble_eq_true rfl) ⟨Nat.le_of_ble_eq_true rfl, Nat.le_of_ble_eq_true rfl⟩ ⟨Nat.le_of_ble_eq_true rfl, Nat.le_of_ble_eq_true rfl⟩ dL_law_312 (fun H locs hS => ?_)
        refine lv_aload_n hx hb dL_law_315 rfl (lv_at hl 2 rfl) ?_
        refine lv_aload_n hx hb dL_law_316 rfl (lv_at hl 0 rfl) ?_
        refine lv_iload_n hx hb dL_law_317 rfl (lv_at hl 3 rfl) ?_
        refine lv_iconst (v := 1) hx hb dL_law_318 (by decide) ?_
        refine lv_iadd hx hb dL_law_319 ?_
        obtain ⟨hi_55, hrun⟩ := gdE hrun
        refine va_sld hx hb hX hbl hbA hS.2 hi_55 dL_law_320 ?_
        obtain ⟨r_57, t_58, hc_56, hrun⟩ := bd2E hrun
        refine qL_43 B hS hc_56 hl.1 (Nat.le_of_ble_eq_true rfl) ⟨Nat.le_of_ble_eq_true rfl, Nat.le_of_ble_eq_true rfl⟩ ⟨Nat.le_of_ble_eq_true rfl, Nat.le_of_ble_eq_true rfl⟩ dL_law_321 (fun H locs hS => ?_)
        refine lv_icmp_eq (tgt := 938) hx hb dL_law_324 (by decide) (fun hc => ?_) (fun hc => ?_)
        · have hrun := ip hc hrun
          refine lv_iinc (v := x3 + (4 : Int32)) (k := 3) (lv' := [(3, .int (x3 + (4 : Int32))), (0, .ref b), (1, .ref (X.2.1 0)), (2, .ref (X.2.1 144))]) hx hb dL_law_938 hl rfl rfl (by decide) rfl (fun ls hl => ?_)
          refine lv_goto (tgt := 18) hx hb dL_law_941 (by decide) ?_
          exact ih18 t_58 (x3 + (4 : Int32)) _ _ _ hS (lv_sub hl [1, 2, 3, 0] rfl) hrun
        · have hrun := iq hc hrun
          refine lv_iconst (v := 0) hx hb dL_law_327 (by decide) ?_
          exact absurd (Option.some.inj hrun) (by decide)
      have hrun := iq hw_50 hrun
      by_cases hw_59 : x_2 = (7 : Int32)
      · have hrun := ip hw_59 hrun
        refine lv_tableIn (off := 297) (tgt := 329) hx hb dL_law_32 (by rw [hw_59]; decide) (by rw [hw_59]; decide) (by rw [hw_59]; rfl) (by decide) ?_
        refine lv_aload_n hx hb dL_law_329 rfl (lv_at hl 1 rfl) ?_
        refine lv_aload_n hx hb dL_law_330 rfl (lv_at hl 0 rfl) ?_
        refine lv_iload_n hx hb dL_law_331 rfl (lv_at hl 3 rfl) ?_
        refine lv_iconst (v := 1) hx hb dL_law_332 (by decide) ?_
        refine lv_iadd hx hb dL_law_333 ?_
        obtain ⟨hi_60, hrun⟩ := gdE hrun
        refine va_sld hx hb hX hbl hbA hS.2 hi_60 dL_law_334 ?_
        obtain ⟨r_62, t_63, hc_61, hrun⟩ := bd2E hrun
        refine qL_44 B hS hc_61 hl.1 (Nat.le_of_ble_eq_true rfl) ⟨Nat.le_of_ble_eq_true rfl, Nat.le_of_ble_eq_true rfl⟩ ⟨Nat.le_of_ble_eq_true rfl, Nat.le_of_ble_eq_true rfl⟩ dL_law_335 (fun H locs hS => ?_)
        refine lv_aload_n hx hb dL_law_338 rfl (lv_at hl 2 rfl) ?_
        refine lv_aload_n hx hb dL_law_339 rfl (lv_at hl 0 rfl) ?_
        refine lv_iload_n hx hb dL_law_340 rfl (lv_at hl 3 rfl) ?_
        refine lv_iconst (v := 1) hx hb dL_law_341 (by decide) ?_
        refine lv_iadd hx hb dL_law_342 ?_
        obtain ⟨hi_64, hrun⟩ := gdE hrun
        refine va_sld hx hb hX hbl hbA hS.2 hi_64 dL_law_343 ?_
        obtain ⟨r_66, t_67, hc_65, hrun⟩ := bd2E hrun
        refine qL_47 B hS hc_65 hl.1 (Nat.le_of_ble_eq_true rfl) ⟨Nat.le_of_ble_eq_true rfl, Nat.le_of_ble_eq_true rfl⟩ ⟨Nat.le_of_ble_eq_true rfl, Nat.le_of_ble_eq_true rfl⟩ dL_law_344 (fun H locs hS => ?_)
        refine lv_icmp_eq (tgt := 938) hx hb dL_law_347 (by decide) (fun hc => ?_) (fun hc => ?_)
        · have hrun := ip hc hrun
          refine lv_iinc (v := x3 + (4 : Int32)) (k := 3) (lv' := [(3, .int (x3 + (4 : Int32))), (0, .ref b), (1, .ref (X.2.1 0)), (2, .ref (X.2.1 144))]) hx hb dL_law_938 hl rfl rfl (by decide) rfl (fun ls hl => ?_)
          refine lv_goto (tgt := 18) hx hb dL_law_941 (by decide) ?_
          exact ih18 t_67 (x3 + (4 : Int32)) _ _ _ hS (lv_sub hl [1, 2, 3, 0] rfl) hrun
        · have hrun := iq hc hrun
          refine lv_iconst (v := 0) hx hb dL_law_350 (by decide) ?_
          exact absurd (Option.some.inj hrun) (by decide)
      have hrun := iq hw_59 hrun
      by_cases hw_68 : x_2 = (8 : Int32)
      · have hrun := ip hw_68 hrun
        refine lv_tableIn (off := 320) (tgt := 352) hx hb dL_law_32 (by rw [hw_68]; decide) (by rw [hw_68]; decide) (by rw [hw_68]; rfl) (by decide) ?_
        refine lv_aload_n hx hb dL_law_352 rfl (lv_at hl 1 rfl) ?_
        refine lv_aload_n hx hb dL_law_353 rfl (lv_at hl 0 rfl) ?_
        refine lv_iload_n hx hb dL_law_354 rfl (lv_at hl 3 rfl) ?_
        refine lv_iconst (v := 1) hx hb dL_law_355 (by decide) ?_
        refine lv_iadd hx hb dL_law_356 ?_
        obtain ⟨hi_69, hrun⟩ := gdE hrun
        refine va_sld hx hb hX hbl hbA hS.2 hi_69 dL_law_357 ?_
        obtain ⟨r_71, t_72, hc_70, hrun⟩ := bd2E hrun
        refine qL_48 B hS hc_70 hl.1 (Nat.le_of_ble_eq_true rfl) ⟨Nat.le_of_ble_eq_true rfl, Nat.le_of_ble_eq_true rfl⟩ ⟨Nat.le_of_ble_eq_true rfl, Nat.le_of_ble_eq_true rfl⟩ dL_law_358 (fun H locs hS => ?_)
        refine lv_aload_n hx hb dL_law_361 rfl (lv_at hl 2 rfl) ?_
        refine lv_aload_n hx hb dL_law_362 rfl (lv_at hl 0 rfl) ?_
        refine lv_iload_n hx hb dL_law_363 rfl (lv_at hl 3 rfl) ?_
        refine lv_iconst (v := 1) hx hb dL_law_364 (by decide) ?_
        refine lv_iadd hx hb dL_law_365 ?_
        obtain ⟨hi_73, hrun⟩ := gdE hrun
        refine va_sld hx hb hX hbl hbA hS.2 hi_73 dL_law_366 ?_
        obtain ⟨r_75, t_76, hc_74, hrun⟩ := bd2E hrun
        refine qL_51 B hS hc_74 hl.1 (Nat.le_of_ble_eq_true rfl) ⟨Nat.le_of_ble_eq_true rfl, Nat.le_of_ble_eq_true rfl⟩ ⟨Nat.le_of_ble_eq_true rfl, Nat.le_of_ble_eq_true rfl⟩ dL_law_367 (fun H locs hS => ?_)
        refine lv_icmp_eq (tgt := 938) hx hb dL_law_370 (by decide) (fun hc => ?_) (fun hc => ?_)
        · have hrun := ip hc hrun
          refine lv_iinc (v := x3 + (4 : Int32)) (k := 3) (lv' := [(3, .int (x3 + (4 : Int32))), (0, .ref b), (1, .ref (X.2.1 0)), (2, .ref (X.2.1 144))]) hx hb dL_law_938 hl rfl rfl (by decide) rfl (fun ls hl => ?_)
          refine lv_goto (tgt := 18) hx hb dL_law_941 (by decide) ?_
          exact ih18 t_76 (x3 + (4 : Int32)) _ _ _ hS (lv_sub hl [1, 2, 3, 0] rfl) hrun
        · have hrun := iq hc hrun
          refine lv_iconst (v := 0) hx hb dL_law_373 (by decide) ?_
          exact absurd (Option.some.inj hrun) (by decide)
      have hrun := iq hw_68 hrun
      by_cases hw_77 : x_2 = (9 : Int32)
      · have hrun := ip hw_77 hrun
        refine lv_tableIn (off := 343) (tgt := 375) hx hb dL_law_32 (by rw [hw_77]; decide) (by rw [hw_77]; decide) (by rw [hw_77]; rfl) (by decide) ?_
        refine lv_aload_n hx hb dL_law_375 rfl (lv_at hl 1 rfl) ?_
        refine lv_aload_n hx hb dL_law_376 rfl (lv_at hl 0 rfl) ?_
        refine lv_iload_n hx hb dL_law_377 rfl (lv_at hl 3 rfl) ?_
        refine lv_iconst (v := 1) hx hb dL_law_378 (by decide) ?_
        refine lv_iadd hx hb dL_law_379 ?_
        obtain ⟨hi_78, hrun⟩ := gdE hrun
        refine va_sld hx hb hX hbl hbA hS.2 hi_78 dL_law_380 ?_
        refine lv_aload_n hx hb dL_law_381 rfl (lv_at hl 0 rfl) ?_
        refine lv_iload_n hx hb dL_law_382 rfl (lv_at hl 3 rfl) ?_
        refine lv_iconst (v := 2) hx hb dL_law_383 (by decide) ?_
        refine lv_iadd hx hb dL_law_384 ?_
        obtain ⟨hi_79, hrun⟩ := gdE hrun
        refine va_sld hx hb hX hbl hbA hS.2 hi_79 dL_law_385 ?_
        obtain ⟨r_81, t_82, hc_80, hrun⟩ := bd2E hrun
        refine qL_52 B hS hc_80 hl.1 (Nat.le_of_ble_eq_true rfl) ⟨Nat.le_of_ble_eq_true rfl, Nat.le_of_ble_eq_true rfl⟩ ⟨Nat.le_of_ble_eq_true rfl, Nat.le_of_ble_eq_true rfl⟩ dL_law_386 (fun H locs hS => ?_)
        refine lv_aload_n hx hb dL_law_389 rfl (lv_at hl 2 rfl) ?_
        refine lv_aload_n hx hb dL_law_390 rfl (lv_at hl 0 rfl) ?_
        refine lv_iload_n hx hb dL_law_391 rfl (lv_at hl 3 rfl) ?_
        refine lv_iconst (v := 1) hx hb dL_law_392 (by decide) ?_
        refine lv_iadd hx hb dL_law_393 ?_
        obtain ⟨hi_83, hrun⟩ := gdE hrun
        refine va_sld hx hb hX hbl hbA hS.2 hi_83 dL_law_394 ?_
        refine lv_aload_n hx hb dL_law_395 rfl (lv_at hl 0 rfl) ?_
        refine lv_iload_n hx hb dL_law_396 rfl (lv_at hl 3 rfl) ?_
        refine lv_iconst (v := 2) hx hb dL_law_397 (by decide) ?_
        refine lv_iadd hx hb dL_law_398 ?_
        obtain ⟨hi_84, hrun⟩ := gdE hrun
        refine va_sld hx hb hX hbl hbA hS.2 hi_84 dL_law_399 ?_
        obtain ⟨r_86, t_87, hc_85, hrun⟩ := bd2E hrun
        refine qL_55 B hS hc_85 hl.1 (Nat.le_of_ble_eq_true rfl) ⟨Nat.le_of_ble_eq_true rfl, Nat.le_of_ble_eq_true rfl⟩ ⟨Nat.le_of_ble_eq_true rfl, Nat.le_of_ble_eq_true rfl⟩ dL_law_400 (fun H locs hS => ?_)
        refine lv_icmp_eq (tgt := 938) hx hb dL_law_403 (by decide) (fun hc => ?_) (fun hc => ?_)
        · have hrun := ip hc hrun
          refine lv_iinc (v := x3 + (4 : Int32)) (k := 3) (lv' := [(3, .int (x3 + (4 : Int32))), (0, .ref b), (1, .ref (X.2.1 0)), (2, .ref (X.2.1 144))]) hx hb dL_law_938 hl rfl rfl (by decide) rfl (fun ls hl => ?_)
          refine lv_goto (tgt := 18) hx hb dL_law_941 (by decide) ?_
          exact ih18 t_87 (x3 + (4 : Int32)) _ _ _ hS (lv_sub hl [1, 2, 3, 0] rfl) hrun
        · have hrun := iq hc hrun
          refine lv_iconst (v := 0) hx hb dL_law_406 (by decide) ?_
          exact absurd (Option.some.inj hrun) (by decide)
      have hrun := iq hw_77 hrun
      by_cases hw_88 : x_2 = (10 : Int32)
      · have hrun := ip hw_88 hrun
        refine lv_tableIn (off := 376) (tgt := 408) hx hb dL_law_32 (by rw [hw_88]; decide) (by rw [hw_88]; decide) (by rw [hw_88]; rfl) (by decide) ?_
        refine lv_aload_n hx hb dL_law_408 rfl (lv_at hl 1 rfl) ?_
        refine lv_aload_n hx hb dL_law_409 rfl (lv_at hl 0 rfl) ?_
        refine lv_iload_n hx hb dL_law_410 rfl (lv_at hl 3 rfl) ?_
        refine lv_iconst (v := 1) hx hb dL_law_411 (by decide) ?_
        refine lv_iadd hx hb dL_law_412 ?_
        obtain ⟨hi_89, hrun⟩ := gdE hrun
        refine va_sld hx hb hX hbl hbA hS.2 hi_89 dL_law_413 ?_
        refine lv_aload_n hx hb dL_law_414 rfl (lv_at hl 0 rfl) ?_
        refine lv_iload_n hx hb dL_law_415 rfl (lv_at hl 3 rfl) ?_
        refine lv_iconst (v := 2) hx hb dL_law_416 (by decide) ?_
        refine lv_iadd hx hb dL_law_417 ?_
        obtain ⟨hi_90, hrun⟩ := gdE hrun
        refine va_sld hx hb hX hbl hbA hS.2 hi_90 dL_law_418 ?_
        obtain ⟨r_92, t_93, hc_91, hrun⟩ := bd2E hrun
        refine qL_56 B hS hc_91 hl.1 (Nat.le_of_ble_eq_true rfl) ⟨Nat.le_of_ble_eq_true rfl, Nat.le_of_ble_eq_true rfl⟩ ⟨Nat.le_of_ble_eq_true rfl, Nat.le_of_ble_eq_true rfl⟩ dL_law_419 (fun H locs hS => ?_)
        refine lv_aload_n hx hb dL_law_422 rfl (lv_at hl 2 rfl) ?_
        refine lv_aload_n hx hb dL_law_423 rfl (lv_at hl 0 rfl) ?_
        refine lv_iload_n hx hb dL_law_424 rfl (lv_at hl 3 rfl) ?_
        refine lv_iconst (v := 1) hx hb dL_law_425 (by decide) ?_
        refine lv_iadd hx hb dL_law_426 ?_
        obtain ⟨hi_94, hrun⟩ := gdE hrun
        refine va_sld hx hb hX hbl hbA hS.2 hi_94 dL_law_427 ?_
        refine lv_aload_n hx hb dL_law_428 rfl (lv_at hl 0 rfl) ?_
        refine lv_iload_n hx hb dL_law_429 rfl (lv_at hl 3 rfl) ?_
        refine lv_iconst (v := 2) hx hb dL_law_430 (by decide) ?_
        refine lv_iadd hx hb dL_law_431 ?_
        obtain ⟨hi_95, hrun⟩ := gdE hrun
        refine va_sld hx hb hX hbl hbA hS.2 hi_95 dL_law_432 ?_
        obtain ⟨r_97, t_98, hc_96, hrun⟩ := bd2E hrun
        refine qL_59 B hS hc_96 hl.1 (Nat.le_of_ble_eq_true rfl) ⟨Nat.le_of_ble_eq_true rfl, Nat.le_of_ble_eq_true rfl⟩ ⟨Nat.le_of_ble_eq_true rfl, Nat.le_of_ble_eq_true rfl⟩ dL_law_433 (fun H locs hS => ?_)
        refine lv_icmp_eq (tgt := 938) hx hb dL_law_436 (by decide) (fun hc => ?_) (fun hc => ?_)
        · have hrun := ip hc hrun
          refine lv_iinc (v := x3 + (4 : Int32)) (k := 3) (lv' := [(3, .int (x3 + (4 : Int32))), (0, .ref b), (1, .ref (X.2.1 0)), (2, .ref (X.2.1 144))]) hx hb dL_law_938 hl rfl rfl (by decide) rfl (fun ls hl => ?_)
          refine lv_goto (tgt := 18) hx hb dL_law_941 (by decide) ?_
          exact ih18 t_98 (x3 + (4 : Int32)) _ _ _ hS (lv_sub hl [1, 2, 3, 0] rfl) hrun
        · have hrun := iq hc hrun
          refine lv_iconst (v := 0) hx hb dL_law_439 (by decide) ?_
          exact absurd (Option.some.inj hrun) (by decide)
      have hrun := iq hw_88 hrun
      by_cases hw_99 : x_2 = (11 : Int32)
      · have hrun := ip hw_99 hrun
        refine lv_tableIn (off := 409) (tgt := 441) hx hb dL_law_32 (by rw [hw_99]; decide) (by rw [hw_99]; decide) (by rw [hw_99]; rfl) (by decide) ?_
        refine lv_aload_n hx hb dL_law_441 rfl (lv_at hl 1 rfl) ?_
        refine lv_aload_n hx hb dL_law_442 rfl (lv_at hl 0 rfl) ?_
        refine lv_iload_n hx hb dL_law_443 rfl (lv_at hl 3 rfl) ?_
        refine lv_iconst (v := 1) hx hb dL_law_444 (by decide) ?_
        refine lv_iadd hx hb dL_law_445 ?_
        obtain ⟨hi_100, hrun⟩ := gdE hrun
        refine va_sld hx hb hX hbl hbA hS.2 hi_100 dL_law_446 ?_
        obtain ⟨r_102, t_103, hc_101, hrun⟩ := bd2E hrun
        refine qL_60 B hS hc_101 hl.1 (Nat.le_of_ble_eq_true rfl) ⟨Nat.le_of_ble_eq_true rfl, Nat.le_of_ble_eq_true rfl⟩ ⟨Nat.le_of_ble_eq_true rfl, Nat.le_of_ble_eq_true rfl⟩ dL_law_447 (fun H locs hS => ?_)
        refine lv_aload_n hx hb dL_law_450 rfl (lv_at hl 2 rfl) ?_
        refine lv_aload_n hx hb dL_law_451 rfl (lv_at hl 0 rfl) ?_
        refine lv_iload_n hx hb dL_law_452 rfl (lv_at hl 3 rfl) ?_
        refine lv_iconst (v := 1) hx hb dL_law_453 (by decide) ?_
        refine lv_iadd hx hb dL_law_454 ?_
        obtain ⟨hi_104, hrun⟩ := gdE hrun
        refine va_sld hx hb hX hbl hbA hS.2 hi_104 dL_law_455 ?_
        obtain ⟨r_106, t_107, hc_105, hrun⟩ := bd2E hrun
        refine qL_63 B hS hc_105 hl.1 (Nat.le_of_ble_eq_true rfl) ⟨Nat.le_of_ble_eq_true rfl, Nat.le_of_ble_eq_true rfl⟩ ⟨Nat.le_of_ble_eq_true rfl, Nat.le_of_ble_eq_true rfl⟩ dL_law_456 (fun H locs hS => ?_)
        refine lv_icmp_eq (tgt := 938) hx hb dL_law_459 (by decide) (fun hc => ?_) (fun hc => ?_)
        · have hrun := ip hc hrun
          refine lv_iinc (v := x3 + (4 : Int32)) (k := 3) (lv' := [(3, .int (x3 + (4 : Int32))), (0, .ref b), (1, .ref (X.2.1 0)), (2, .ref (X.2.1 144))]) hx hb dL_law_938 hl rfl rfl (by decide) rfl (fun ls hl => ?_)
          refine lv_goto (tgt := 18) hx hb dL_law_941 (by decide) ?_
          exact ih18 t_107 (x3 + (4 : Int32)) _ _ _ hS (lv_sub hl [1, 2, 3, 0] rfl) hrun
        · have hrun := iq hc hrun
          refine lv_iconst (v := 0) hx hb dL_law_462 (by decide) ?_
          exact absurd (Option.some.inj hrun) (by decide)
      have hrun := iq hw_99 hrun
      by_cases hw_108 : x_2 = (12 : Int32)
      · have hrun := ip hw_108 hrun
        refine lv_tableIn (off := 432) (tgt := 464) hx hb dL_law_32 (by rw [hw_108]; decide) (by rw [hw_108]; decide) (by rw [hw_108]; rfl) (by decide) ?_
        refine lv_aload_n hx hb dL_law_464 rfl (lv_at hl 1 rfl) ?_
        refine lv_aload_n hx hb dL_law_465 rfl (lv_at hl 0 rfl) ?_
        refine lv_iload_n hx hb dL_law_466 rfl (lv_at hl 3 rfl) ?_
        refine lv_iconst (v := 1) hx hb dL_law_467 (by decide) ?_
        refine lv_iadd hx hb dL_law_468 ?_
        obtain ⟨hi_109, hrun⟩ := gdE hrun
        refine va_sld hx hb hX hbl hbA hS.2 hi_109 dL_law_469 ?_
        refine lv_aload_n hx hb dL_law_470 rfl (lv_at hl 0 rfl) ?_
        refine lv_iload_n hx hb dL_law_471 rfl (lv_at hl 3 rfl) ?_
        refine lv_iconst (v := 2) hx hb dL_law_472 (by decide) ?_
        refine lv_iadd hx hb dL_law_473 ?_
        obtain ⟨hi_110, hrun⟩ := gdE hrun
        refine va_sld hx hb hX hbl hbA hS.2 hi_110 dL_law_474 ?_
        obtain ⟨r_112, t_113, hc_111, hrun⟩ := bd2E hrun
        refine qL_64 B hS hc_111 hl.1 (Nat.le_of_ble_eq_true rfl) ⟨Nat.le_of_ble_eq_true rfl, Nat.le_of_ble_eq_true rfl⟩ ⟨Nat.le_of_ble_eq_true rfl, Nat.le_of_ble_eq_true rfl⟩ dL_law_475 (fun H locs hS => ?_)
        refine lv_aload_n hx hb dL_law_478 rfl (lv_at hl 2 rfl) ?_
        refine lv_aload_n hx hb dL_law_479 rfl (lv_at hl 0 rfl) ?_
        refine lv_iload_n hx hb dL_law_480 rfl (lv_at hl 3 rfl) ?_
        refine lv_iconst (v := 1) hx hb dL_law_481 (by decide) ?_
        refine lv_iadd hx hb dL_law_482 ?_
        obtain ⟨hi_114, hrun⟩ := gdE hrun
        refine va_sld hx hb hX hbl hbA hS.2 hi_114 dL_law_483 ?_
        refine lv_aload_n hx hb dL_law_484 rfl (lv_at hl 0 rfl) ?_
        refine lv_iload_n hx hb dL_law_485 rfl (lv_at hl 3 rfl) ?_
        refine lv_iconst (v := 2) hx hb dL_law_486 (by decide) ?_
        refine lv_iadd hx hb dL_law_487 ?_
        obtain ⟨hi_115, hrun⟩ := gdE hrun
        refine va_sld hx hb hX hbl hbA hS.2 hi_115 dL_law_488 ?_
        obtain ⟨r_117, t_118, hc_116, hrun⟩ := bd2E hrun
        refine qL_67 B hS hc_116 hl.1 (Nat.le_of_ble_eq_true rfl) ⟨Nat.le_of_ble_eq_true rfl, Nat.le_of_ble_eq_true rfl⟩ ⟨Nat.le_of_ble_eq_true rfl, Nat.le_of_ble_eq_true rfl⟩ dL_law_489 (fun H locs hS => ?_)
        refine lv_icmp_eq (tgt := 938) hx hb dL_law_492 (by decide) (fun hc => ?_) (fun hc => ?_)
        · have hrun := ip hc hrun
          refine lv_iinc (v := x3 + (4 : Int32)) (k := 3) (lv' := [(3, .int (x3 + (4 : Int32))), (0, .ref b), (1, .ref (X.2.1 0)), (2, .ref (X.2.1 144))]) hx hb dL_law_938 hl rfl rfl (by decide) rfl (fun ls hl => ?_)
          refine lv_goto (tgt := 18) hx hb dL_law_941 (by decide) ?_
          exact ih18 t_118 (x3 + (4 : Int32)) _ _ _ hS (lv_sub hl [1, 2, 3, 0] rfl) hrun
        · have hrun := iq hc hrun
          refine lv_iconst (v := 0) hx hb dL_law_495 (by decide) ?_
          exact absurd (Option.some.inj hrun) (by decide)
      have hrun := iq hw_108 hrun
      by_cases hw_119 : x_2 = (13 : Int32)
      · have hrun := ip hw_119 hrun
        refine lv_tableIn (off := 465) (tgt := 497) hx hb dL_law_32 (by rw [hw_119]; decide) (by rw [hw_119]; decide) (by rw [hw_119]; rfl) (by decide) ?_
        refine lv_aload_n hx hb dL_law_497 rfl (lv_at hl 1 rfl) ?_
        refine lv_aload_n hx hb dL_law_498 rfl (lv_at hl 0 rfl) ?_
        refine lv_iload_n hx hb dL_law_499 rfl (lv_at hl 3 rfl) ?_
        refine lv_iconst (v := 1) hx hb dL_law_500 (by decide) ?_
        refine lv_iadd hx hb dL_law_501 ?_
        obtain ⟨hi_120, hrun⟩ := gdE hrun
        refine va_sld hx hb hX hbl hbA hS.2 hi_120 dL_law_502 ?_
        obtain ⟨r_122, t_123, hc_121, hrun⟩ := bd2E hrun
        refine qL_68 B hS hc_121 hl.1 (Nat.le_of_ble_eq_true rfl) ⟨Nat.le_of_ble_eq_true rfl, Nat.le_of_ble_eq_true rfl⟩ ⟨Nat.le_of_ble_eq_true rfl, Nat.le_of_ble_eq_true rfl⟩ dL_law_503 (fun H locs hS => ?_)
        refine lv_aload_n hx hb dL_law_506 rfl (lv_at hl 2 rfl) ?_
        refine lv_aload_n hx hb dL_law_507 rfl (lv_at hl 0 rfl) ?_
        refine lv_iload_n hx hb dL_law_508 rfl (lv_at hl 3 rfl) ?_
        refine lv_iconst (v := 1) hx hb dL_law_509 (by decide) ?_
        refine lv_iadd hx hb dL_law_510 ?_
        obtain ⟨hi_124, hrun⟩ := gdE hrun
        refine va_sld hx hb hX hbl hbA hS.2 hi_124 dL_law_511 ?_
        obtain ⟨r_126, t_127, hc_125, hrun⟩ := bd2E hrun
        refine qL_71 B hS hc_125 hl.1 (Nat.le_of_ble_eq_true rfl) ⟨Nat.le_of_ble_eq_true rfl, Nat.le_of_ble_eq_true rfl⟩ ⟨Nat.le_of_ble_eq_true rfl, Nat.le_of_ble_eq_true rfl⟩ dL_law_512 (fun H locs hS => ?_)
        refine lv_icmp_eq (tgt := 938) hx hb dL_law_515 (by decide) (fun hc => ?_) (fun hc => ?_)
        · have hrun := ip hc hrun
          refine lv_iinc (v := x3 + (4 : Int32)) (k := 3) (lv' := [(3, .int (x3 + (4 : Int32))), (0, .ref b), (1, .ref (X.2.1 0)), (2, .ref (X.2.1 144))]) hx hb dL_law_938 hl rfl rfl (by decide) rfl (fun ls hl => ?_)
          refine lv_goto (tgt := 18) hx hb dL_law_941 (by decide) ?_
          exact ih18 t_127 (x3 + (4 : Int32)) _ _ _ hS (lv_sub hl [1, 2, 3, 0] rfl) hrun
        · have hrun := iq hc hrun
          refine lv_iconst (v := 0) hx hb dL_law_518 (by decide) ?_
          exact absurd (Option.some.inj hrun) (by decide)
      have hrun := iq hw_119 hrun
      by_cases hw_128 : x_2 = (14 : Int32)
      · have hrun := ip hw_128 hrun
        refine lv_tableIn (off := 488) (tgt := 520) hx hb dL_law_32 (by rw [hw_128]; decide) (by rw [hw_128]; decide) (by rw [hw_128]; rfl) (by decide) ?_
        refine lv_aload_n hx hb dL_law_520 rfl (lv_at hl 1 rfl) ?_
        obtain ⟨r_130, t_131, hc_129, hrun⟩ := bd2E hrun
        refine qL_72 B hS hc_129 hl.1 (Nat.le_of_ble_eq_true rfl) ⟨Nat.le_of_ble_eq_true rfl, Nat.le_of_ble_eq_true rfl⟩ ⟨Nat.le_of_ble_eq_true rfl, Nat.le_of_ble_eq_true rfl⟩ dL_law_521 (fun H locs hS => ?_)
        refine lv_aload_n hx hb dL_law_524 rfl (lv_at hl 2 rfl) ?_
        obtain ⟨r_133, t_134, hc_132, hrun⟩ := bd2E hrun
        refine qL_75 B hS hc_132 hl.1 (Nat.le_of_ble_eq_true rfl) ⟨Nat.le_of_ble_eq_true rfl, Nat.le_of_ble_eq_true rfl⟩ ⟨Nat.le_of_ble_eq_true rfl, Nat.le_of_ble_eq_true rfl⟩ dL_law_525 (fun H locs hS => ?_)
        refine lv_icmp_eq (tgt := 938) hx hb dL_law_528 (by decide) (fun hc => ?_) (fun hc => ?_)
        · have hrun := ip hc hrun
          refine lv_iinc (v := x3 + (4 : Int32)) (k := 3) (lv' := [(3, .int (x3 + (4 : Int32))), (0, .ref b), (1, .ref (X.2.1 0)), (2, .ref (X.2.1 144))]) hx hb dL_law_938 hl rfl rfl (by decide) rfl (fun ls hl => ?_)
          refine lv_goto (tgt := 18) hx hb dL_law_941 (by decide) ?_
          exact ih18 t_134 (x3 + (4 : Int32)) _ _ _ hS (lv_sub hl [1, 2, 3, 0] rfl) hrun
        · have hrun := iq hc hrun
          refine lv_iconst (v := 0) hx hb dL_law_531 (by decide) ?_
          exact absurd (Option.some.inj hrun) (by decide)
      have hrun := iq hw_128 hrun
      by_cases hw_135 : x_2 = (15 : Int32)
      · have hrun := ip hw_135 hrun
        refine lv_tableIn (off := 501) (tgt := 533) hx hb dL_law_32 (by rw [hw_135]; decide) (by rw [hw_135]; decide) (by rw [hw_135]; rfl) (by decide) ?_
        refine lv_aload_n hx hb dL_law_533 rfl (lv_at hl 1 rfl) ?_
        refine lv_aload_n hx hb dL_law_534 rfl (lv_at hl 0 rfl) ?_
        refine lv_iload_n hx hb dL_law_535 rfl (lv_at hl 3 rfl) ?_
        refine lv_iconst (v := 1) hx hb dL_law_536 (by decide) ?_
        refine lv_iadd hx hb dL_law_537 ?_
        obtain ⟨hi_136, hrun⟩ := gdE hrun
        refine va_sld hx hb hX hbl hbA hS.2 hi_136 dL_law_538 ?_
        obtain ⟨r_138, t_139, hc_137, hrun⟩ := bd2E hrun
        refine qL_76 B hS hc_137 hl.1 (Nat.le_of_ble_eq_true rfl) ⟨Nat.le_of_ble_eq_true rfl, Nat.le_of_ble_eq_true rfl⟩ ⟨Nat.le_of_ble_eq_true rfl, Nat.le_of_ble_eq_true rfl⟩ dL_law_539 (fun H locs hS => ?_)
        refine lv_aload_n hx hb dL_law_542 rfl (lv_at hl 2 rfl) ?_
        refine lv_aload_n hx hb dL_law_543 rfl (lv_at hl 0 rfl) ?_
        refine lv_iload_n hx hb dL_law_544 rfl (lv_at hl 3 rfl) ?_
        refine lv_iconst (v := 1) hx hb dL_law_545 (by decide) ?_
        refine lv_iadd hx hb dL_law_546 ?_
        obtain ⟨hi_140, hrun⟩ := gdE hrun
        refine va_sld hx hb hX hbl hbA hS.2 hi_140 dL_law_547 ?_
        obtain ⟨r_142, t_143, hc_141, hrun⟩ := bd2E hrun
        refine qL_79 B hS hc_141 hl.1 (Nat.le_of_ble_eq_true rfl) ⟨Nat.le_of_ble_eq_true rfl, Nat.le_of_ble_eq_true rfl⟩ ⟨Nat.le_of_ble_eq_true rfl, Nat.le_of_ble_eq_true rfl⟩ dL_law_548 (fun H locs hS => ?_)
        refine lv_icmp_eq (tgt := 938) hx hb dL_law_551 (by decide) (fun hc => ?_) (fun hc => ?_)
        · have hrun := ip hc hrun
          refine lv_iinc (v := x3 + (4 : Int32)) (k := 3) (lv' := [(3, .int (x3 + (4 : Int32))), (0, .ref b), (1, .ref (X.2.1 0)), (2, .ref (X.2.1 144))]) hx hb dL_law_938 hl rfl rfl (by decide) rfl (fun ls hl => ?_)
          refine lv_goto (tgt := 18) hx hb dL_law_941 (by decide) ?_
          exact ih18 t_143 (x3 + (4 : Int32)) _ _ _ hS (lv_sub hl [1, 2, 3, 0] rfl) hrun
        · have hrun := iq hc hrun
          refine lv_iconst (v := 0) hx hb dL_law_554 (by decide) ?_
          exact absurd (Option.some.inj hrun) (by decide)
      have hrun := iq hw_135 hrun
      by_cases hw_144 : x_2 = (16 : Int32)
      · have hrun := ip hw_144 hrun
        refine lv_tableIn (off := 524) (tgt := 556) hx hb dL_law_32 (by rw [hw_144]; decide) (by rw [hw_144]; decide) (by rw [hw_144]; rfl) (by decide) ?_
        refine lv_aload_n hx hb dL_law_556 rfl (lv_at hl 1 rfl) ?_
        refine lv_aload_n hx hb dL_law_557 rfl (lv_at hl 0 rfl) ?_
        refine lv_iload_n hx hb dL_law_558 rfl (lv_at hl 3 rfl) ?_
        refine lv_iconst (v := 1) hx hb dL_law_559 (by decide) ?_
        refine lv_iadd hx hb dL_law_560 ?_
        obtain ⟨hi_145, hrun⟩ := gdE hrun
        refine va_sld hx hb hX hbl hbA hS.2 hi_145 dL_law_561 ?_
        obtain ⟨r_147, t_148, hc_146, hrun⟩ := bd2E hrun
        refine qL_80 B hS hc_146 hl.1 (Nat.le_of_ble_eq_true rfl) ⟨Nat.le_of_ble_eq_true rfl, Nat.le_of_ble_eq_true rfl⟩ ⟨Nat.le_of_ble_eq_true rfl, Nat.le_of_ble_eq_true rfl⟩ dL_law_562 (fun H locs hS => ?_)
        refine lv_aload_n hx hb dL_law_565 rfl (lv_at hl 2 rfl) ?_
        refine lv_aload_n hx hb dL_law_566 rfl (lv_at hl 0 rfl) ?_
        refine lv_iload_n hx hb dL_law_567 rfl (lv_at hl 3 rfl) ?_
        refine lv_iconst (v := 1) hx hb dL_law_568 (by decide) ?_
        refine lv_iadd hx hb dL_law_569 ?_
        obtain ⟨hi_149, hrun⟩ := gdE hrun
        refine va_sld hx hb hX hbl hbA hS.2 hi_149 dL_law_570 ?_
        obtain ⟨r_151, t_152, hc_150, hrun⟩ := bd2E hrun
        refine qL_83 B hS hc_150 hl.1 (Nat.le_of_ble_eq_true rfl) ⟨Nat.le_of_ble_eq_true rfl, Nat.le_of_ble_eq_true rfl⟩ ⟨Nat.le_of_ble_eq_true rfl, Nat.le_of_ble_eq_true rfl⟩ dL_law_571 (fun H locs hS => ?_)
        refine lv_icmp_eq (tgt := 938) hx hb dL_law_574 (by decide) (fun hc => ?_) (fun hc => ?_)
        · have hrun := ip hc hrun
          refine lv_iinc (v := x3 + (4 : Int32)) (k := 3) (lv' := [(3, .int (x3 + (4 : Int32))), (0, .ref b), (1, .ref (X.2.1 0)), (2, .ref (X.2.1 144))]) hx hb dL_law_938 hl rfl rfl (by decide) rfl (fun ls hl => ?_)
          refine lv_goto (tgt := 18) hx hb dL_law_941 (by decide) ?_
          exact ih18 t_152 (x3 + (4 : Int32)) _ _ _ hS (lv_sub hl [1, 2, 3, 0] rfl) hrun
        · have hrun := iq hc hrun
          refine lv_iconst (v := 0) hx hb dL_law_577 (by decide) ?_
          exact absurd (Option.some.inj hrun) (by decide)
      have hrun := iq hw_144 hrun
      by_cases hw_153 : x_2 = (17 : Int32)
      · have hrun := ip hw_153 hrun
        refine lv_tableIn (off := 547) (tgt := 579) hx hb dL_law_32 (by rw [hw_153]; decide) (by rw [hw_153]; decide) (by rw [hw_153]; rfl) (by decide) ?_
        refine lv_aload_n hx hb dL_law_579 rfl (lv_at hl 1 rfl) ?_
        refine lv_aload_n hx hb dL_law_580 rfl (lv_at hl 0 rfl) ?_
        refine lv_iload_n hx hb dL_law_581 rfl (lv_at hl 3 rfl) ?_
        refine lv_iconst (v := 1) hx hb dL_law_582 (by decide) ?_
        refine lv_iadd hx hb dL_law_583 ?_
        obtain ⟨hi_154, hrun⟩ := gdE hrun
        refine va_sld hx hb hX hbl hbA hS.2 hi_154 dL_law_584 ?_
        refine lv_aload_n hx hb dL_law_585 rfl (lv_at hl 0 rfl) ?_
        refine lv_iload_n hx hb dL_law_586 rfl (lv_at hl 3 rfl) ?_
        refine lv_iconst (v := 2) hx hb dL_law_587 (by decide) ?_
        refine lv_iadd hx hb dL_law_588 ?_
        obtain ⟨hi_155, hrun⟩ := gdE hrun
        refine va_sld hx hb hX hbl hbA hS.2 hi_155 dL_law_589 ?_
        obtain ⟨r_157, hc_156, hrun⟩ := bdE hrun
        refine qL_84 B hS hc_156 hl.1 (Nat.le_of_ble_eq_true rfl) ⟨Nat.le_of_ble_eq_true rfl, Nat.le_of_ble_eq_true rfl⟩ ⟨Nat.le_of_ble_eq_true rfl, Nat.le_of_ble_eq_true rfl⟩ dL_law_590 (fun H locs hS => ?_)
        refine lv_aload_n hx hb dL_law_593 rfl (lv_at hl 2 rfl) ?_
        refine lv_aload_n hx hb dL_law_594 rfl (lv_at hl 0 rfl) ?_
        refine lv_iload_n hx hb dL_law_595 rfl (lv_at hl 3 rfl) ?_
        refine lv_iconst (v := 1) hx hb dL_law_596 (by decide) ?_
        refine lv_iadd hx hb dL_law_597 ?_
        obtain ⟨hi_158, hrun⟩ := gdE hrun
        refine va_sld hx hb hX hbl hbA hS.2 hi_158 dL_law_598 ?_
        refine lv_aload_n hx hb dL_law_599 rfl (lv_at hl 0 rfl) ?_
        refine lv_iload_n hx hb dL_law_600 rfl (lv_at hl 3 rfl) ?_
        refine lv_iconst (v := 2) hx hb dL_law_601 (by decide) ?_
        refine lv_iadd hx hb dL_law_602 ?_
        obtain ⟨hi_159, hrun⟩ := gdE hrun
        refine va_sld hx hb hX hbl hbA hS.2 hi_159 dL_law_603 ?_
        obtain ⟨r_161, hc_160, hrun⟩ := bdE hrun
        refine qL_87 B hS hc_160 hl.1 (Nat.le_of_ble_eq_true rfl) ⟨Nat.le_of_ble_eq_true rfl, Nat.le_of_ble_eq_true rfl⟩ ⟨Nat.le_of_ble_eq_true rfl, Nat.le_of_ble_eq_true rfl⟩ dL_law_604 (fun H locs hS => ?_)
        refine lv_icmp_eq (tgt := 938) hx hb dL_law_607 (by decide) (fun hc => ?_) (fun hc => ?_)
        · have hrun := ip hc hrun
          refine lv_iinc (v := x3 + (4 : Int32)) (k := 3) (lv' := [(3, .int (x3 + (4 : Int32))), (0, .ref b), (1, .ref (X.2.1 0)), (2, .ref (X.2.1 144))]) hx hb dL_law_938 hl rfl rfl (by decide) rfl (fun ls hl => ?_)
          refine lv_goto (tgt := 18) hx hb dL_law_941 (by decide) ?_
          exact ih18 t (x3 + (4 : Int32)) _ _ _ hS (lv_sub hl [1, 2, 3, 0] rfl) hrun
        · have hrun := iq hc hrun
          refine lv_iconst (v := 0) hx hb dL_law_610 (by decide) ?_
          exact absurd (Option.some.inj hrun) (by decide)
      have hrun := iq hw_153 hrun
      by_cases hw_162 : x_2 = (18 : Int32)
      · have hrun := ip hw_162 hrun
        refine lv_tableIn (off := 580) (tgt := 612) hx hb dL_law_32 (by rw [hw_162]; decide) (by rw [hw_162]; decide) (by rw [hw_162]; rfl) (by decide) ?_
        refine lv_aload_n hx hb dL_law_612 rfl (lv_at hl 1 rfl) ?_
        refine lv_aload_n hx hb dL_law_613 rfl (lv_at hl 0 rfl) ?_
        refine lv_iload_n hx hb dL_law_614 rfl (lv_at hl 3 rfl) ?_
        refine lv_iconst (v := 1) hx hb dL_law_615 (by decide) ?_
        refine lv_iadd hx hb dL_law_616 ?_
        obtain ⟨hi_163, hrun⟩ := gdE hrun
        refine va_sld hx hb hX hbl hbA hS.2 hi_163 dL_law_617 ?_
        refine lv_aload_n hx hb dL_law_618 rfl (lv_at hl 0 rfl) ?_
        refine lv_iload_n hx hb dL_law_619 rfl (lv_at hl 3 rfl) ?_
        refine lv_iconst (v := 2) hx hb dL_law_620 (by decide) ?_
        refine lv_iadd hx hb dL_law_621 ?_
        obtain ⟨hi_164, hrun⟩ := gdE hrun
        refine va_sld hx hb hX hbl hbA hS.2 hi_164 dL_law_622 ?_
        refine lv_aload_n hx hb dL_law_623 rfl (lv_at hl 0 rfl) ?_
        refine lv_iload_n hx hb dL_law_624 rfl (lv_at hl 3 rfl) ?_
        refine lv_iconst (v := 3) hx hb dL_law_625 (by decide) ?_
        refine lv_iadd hx hb dL_law_626 ?_
        obtain ⟨hi_165, hrun⟩ := gdE hrun
        refine va_sld hx hb hX hbl hbA hS.2 hi_165 dL_law_627 ?_
        obtain ⟨r_167, hc_166, hrun⟩ := bdE hrun
        refine qL_88 B hS hc_166 hl.1 (Nat.le_of_ble_eq_true rfl) ⟨Nat.le_of_ble_eq_true rfl, Nat.le_of_ble_eq_true rfl⟩ ⟨Nat.le_of_ble_eq_true rfl, Nat.le_of_ble_eq_true rfl⟩ dL_law_628 (fun H locs hS => ?_)
        refine lv_aload_n hx hb dL_law_631 rfl (lv_at hl 2 rfl) ?_
        refine lv_aload_n hx hb dL_law_632 rfl (lv_at hl 0 rfl) ?_
        refine lv_iload_n hx hb dL_law_633 rfl (lv_at hl 3 rfl) ?_
        refine lv_iconst (v := 1) hx hb dL_law_634 (by decide) ?_
        refine lv_iadd hx hb dL_law_635 ?_
        obtain ⟨hi_168, hrun⟩ := gdE hrun
        refine va_sld hx hb hX hbl hbA hS.2 hi_168 dL_law_636 ?_
        refine lv_aload_n hx hb dL_law_637 rfl (lv_at hl 0 rfl) ?_
        refine lv_iload_n hx hb dL_law_638 rfl (lv_at hl 3 rfl) ?_
        refine lv_iconst (v := 2) hx hb dL_law_639 (by decide) ?_
        refine lv_iadd hx hb dL_law_640 ?_
        obtain ⟨hi_169, hrun⟩ := gdE hrun
        refine va_sld hx hb hX hbl hbA hS.2 hi_169 dL_law_641 ?_
        refine lv_aload_n hx hb dL_law_642 rfl (lv_at hl 0 rfl) ?_
        refine lv_iload_n hx hb dL_law_643 rfl (lv_at hl 3 rfl) ?_
        refine lv_iconst (v := 3) hx hb dL_law_644 (by decide) ?_
        refine lv_iadd hx hb dL_law_645 ?_
        obtain ⟨hi_170, hrun⟩ := gdE hrun
        refine va_sld hx hb hX hbl hbA hS.2 hi_170 dL_law_646 ?_
        obtain ⟨r_172, hc_171, hrun⟩ := bdE hrun
        refine qL_92 B hS hc_171 hl.1 (Nat.le_of_ble_eq_true rfl) ⟨Nat.le_of_ble_eq_true rfl, Nat.le_of_ble_eq_true rfl⟩ ⟨Nat.le_of_ble_eq_true rfl, Nat.le_of_ble_eq_true rfl⟩ dL_law_647 (fun H locs hS => ?_)
        refine lv_icmp_eq (tgt := 938) hx hb dL_law_650 (by decide) (fun hc => ?_) (fun hc => ?_)
        · have hrun := ip hc hrun
          refine lv_iinc (v := x3 + (4 : Int32)) (k := 3) (lv' := [(3, .int (x3 + (4 : Int32))), (0, .ref b), (1, .ref (X.2.1 0)), (2, .ref (X.2.1 144))]) hx hb dL_law_938 hl rfl rfl (by decide) rfl (fun ls hl => ?_)
          refine lv_goto (tgt := 18) hx hb dL_law_941 (by decide) ?_
          exact ih18 t (x3 + (4 : Int32)) _ _ _ hS (lv_sub hl [1, 2, 3, 0] rfl) hrun
        · have hrun := iq hc hrun
          refine lv_iconst (v := 0) hx hb dL_law_653 (by decide) ?_
          exact absurd (Option.some.inj hrun) (by decide)
      have hrun := iq hw_162 hrun
      by_cases hw_173 : x_2 = (19 : Int32)
      · have hrun := ip hw_173 hrun
        refine lv_tableIn (off := 623) (tgt := 655) hx hb dL_law_32 (by rw [hw_173]; decide) (by rw [hw_173]; decide) (by rw [hw_173]; rfl) (by decide) ?_
        refine lv_aload_n hx hb dL_law_655 rfl (lv_at hl 1 rfl) ?_
        refine lv_aload_n hx hb dL_law_656 rfl (lv_at hl 0 rfl) ?_
        refine lv_iload_n hx hb dL_law_657 rfl (lv_at hl 3 rfl) ?_
        refine lv_iconst (v := 1) hx hb dL_law_658 (by decide) ?_
        refine lv_iadd hx hb dL_law_659 ?_
        obtain ⟨hi_174, hrun⟩ := gdE hrun
        refine va_sld hx hb hX hbl hbA hS.2 hi_174 dL_law_660 ?_
        refine lv_aload_n hx hb dL_law_661 rfl (lv_at hl 0 rfl) ?_
        refine lv_iload_n hx hb dL_law_662 rfl (lv_at hl 3 rfl) ?_
        refine lv_iconst (v := 2) hx hb dL_law_663 (by decide) ?_
        refine lv_iadd hx hb dL_law_664 ?_
        obtain ⟨hi_175, hrun⟩ := gdE hrun
        refine va_sld hx hb hX hbl hbA hS.2 hi_175 dL_law_665 ?_
        obtain ⟨r_177, t_178, hc_176, hrun⟩ := bd2E hrun
        refine qL_93 B hS hc_176 hl.1 (Nat.le_of_ble_eq_true rfl) ⟨Nat.le_of_ble_eq_true rfl, Nat.le_of_ble_eq_true rfl⟩ ⟨Nat.le_of_ble_eq_true rfl, Nat.le_of_ble_eq_true rfl⟩ dL_law_666 (fun H locs hS => ?_)
        refine lv_aload_n hx hb dL_law_669 rfl (lv_at hl 2 rfl) ?_
        refine lv_aload_n hx hb dL_law_670 rfl (lv_at hl 0 rfl) ?_
        refine lv_iload_n hx hb dL_law_671 rfl (lv_at hl 3 rfl) ?_
        refine lv_iconst (v := 1) hx hb dL_law_672 (by decide) ?_
        refine lv_iadd hx hb dL_law_673 ?_
        obtain ⟨hi_179, hrun⟩ := gdE hrun
        refine va_sld hx hb hX hbl hbA hS.2 hi_179 dL_law_674 ?_
        refine lv_aload_n hx hb dL_law_675 rfl (lv_at hl 0 rfl) ?_
        refine lv_iload_n hx hb dL_law_676 rfl (lv_at hl 3 rfl) ?_
        refine lv_iconst (v := 2) hx hb dL_law_677 (by decide) ?_
        refine lv_iadd hx hb dL_law_678 ?_
        obtain ⟨hi_180, hrun⟩ := gdE hrun
        refine va_sld hx hb hX hbl hbA hS.2 hi_180 dL_law_679 ?_
        obtain ⟨r_182, t_183, hc_181, hrun⟩ := bd2E hrun
        refine qL_96 B hS hc_181 hl.1 (Nat.le_of_ble_eq_true rfl) ⟨Nat.le_of_ble_eq_true rfl, Nat.le_of_ble_eq_true rfl⟩ ⟨Nat.le_of_ble_eq_true rfl, Nat.le_of_ble_eq_true rfl⟩ dL_law_680 (fun H locs hS => ?_)
        refine lv_icmp_eq (tgt := 938) hx hb dL_law_683 (by decide) (fun hc => ?_) (fun hc => ?_)
        · have hrun := ip hc hrun
          refine lv_iinc (v := x3 + (4 : Int32)) (k := 3) (lv' := [(3, .int (x3 + (4 : Int32))), (0, .ref b), (1, .ref (X.2.1 0)), (2, .ref (X.2.1 144))]) hx hb dL_law_938 hl rfl rfl (by decide) rfl (fun ls hl => ?_)
          refine lv_goto (tgt := 18) hx hb dL_law_941 (by decide) ?_
          exact ih18 t_183 (x3 + (4 : Int32)) _ _ _ hS (lv_sub hl [1, 2, 3, 0] rfl) hrun
        · have hrun := iq hc hrun
          refine lv_iconst (v := 0) hx hb dL_law_686 (by decide) ?_
          exact absurd (Option.some.inj hrun) (by decide)
      have hrun := iq hw_173 hrun
      by_cases hw_184 : x_2 = (20 : Int32)
      · have hrun := ip hw_184 hrun
        refine lv_tableIn (off := 656) (tgt := 688) hx hb dL_law_32 (by rw [hw_184]; decide) (by rw [hw_184]; decide) (by rw [hw_184]; rfl) (by decide) ?_
        refine lv_aload_n hx hb dL_law_688 rfl (lv_at hl 1 rfl) ?_
        refine lv_aload_n hx hb dL_law_689 rfl (lv_at hl 0 rfl) ?_
        refine lv_iload_n hx hb dL_law_690 rfl (lv_at hl 3 rfl) ?_
        refine lv_iconst (v := 1) hx hb dL_law_691 (by decide) ?_
        refine lv_iadd hx hb dL_law_692 ?_
        obtain ⟨hi_185, hrun⟩ := gdE hrun
        refine va_sld hx hb hX hbl hbA hS.2 hi_185 dL_law_693 ?_
        refine lv_aload_n hx hb dL_law_694 rfl (lv_at hl 0 rfl) ?_
        refine lv_iload_n hx hb dL_law_695 rfl (lv_at hl 3 rfl) ?_
        refine lv_iconst (v := 2) hx hb dL_law_696 (by decide) ?_
        refine lv_iadd hx hb dL_law_697 ?_
        obtain ⟨hi_186, hrun⟩ := gdE hrun
        refine va_sld hx hb hX hbl hbA hS.2 hi_186 dL_law_698 ?_
        obtain ⟨r_188, t_189, hc_187, hrun⟩ := bd2E hrun
        refine qL_97 B hS hc_187 hl.1 (Nat.le_of_ble_eq_true rfl) ⟨Nat.le_of_ble_eq_true rfl, Nat.le_of_ble_eq_true rfl⟩ ⟨Nat.le_of_ble_eq_true rfl, Nat.le_of_ble_eq_true rfl⟩ dL_law_699 (fun H locs hS => ?_)
        refine lv_aload_n hx hb dL_law_702 rfl (lv_at hl 2 rfl) ?_
        refine lv_aload_n hx hb dL_law_703 rfl (lv_at hl 0 rfl) ?_
        refine lv_iload_n hx hb dL_law_704 rfl (lv_at hl 3 rfl) ?_
        refine lv_iconst (v := 1) hx hb dL_law_705 (by decide) ?_
        refine lv_iadd hx hb dL_law_706 ?_
        obtain ⟨hi_190, hrun⟩ := gdE hrun
        refine va_sld hx hb hX hbl hbA hS.2 hi_190 dL_law_707 ?_
        refine lv_aload_n hx hb dL_law_708 rfl (lv_at hl 0 rfl) ?_
        refine lv_iload_n hx hb dL_law_709 rfl (lv_at hl 3 rfl) ?_
        refine lv_iconst (v := 2) hx hb dL_law_710 (by decide) ?_
        refine lv_iadd hx hb dL_law_711 ?_
        obtain ⟨hi_191, hrun⟩ := gdE hrun
        refine va_sld hx hb hX hbl hbA hS.2 hi_191 dL_law_712 ?_
        obtain ⟨r_193, hc_192, hrun⟩ := bdE hrun
        refine qL_100 B hS hc_192 hl.1 (Nat.le_of_ble_eq_true rfl) ⟨Nat.le_of_ble_eq_true rfl, Nat.le_of_ble_eq_true rfl⟩ ⟨Nat.le_of_ble_eq_true rfl, Nat.le_of_ble_eq_true rfl⟩ dL_law_713 (fun H locs hS => ?_)
        refine lv_icmp_eq (tgt := 938) hx hb dL_law_716 (by decide) (fun hc => ?_) (fun hc => ?_)
        · have hrun := ip hc hrun
          refine lv_iinc (v := x3 + (4 : Int32)) (k := 3) (lv' := [(3, .int (x3 + (4 : Int32))), (0, .ref b), (1, .ref (X.2.1 0)), (2, .ref (X.2.1 144))]) hx hb dL_law_938 hl rfl rfl (by decide) rfl (fun ls hl => ?_)
          refine lv_goto (tgt := 18) hx hb dL_law_941 (by decide) ?_
          exact ih18 t_189 (x3 + (4 : Int32)) _ _ _ hS (lv_sub hl [1, 2, 3, 0] rfl) hrun
        · have hrun := iq hc hrun
          refine lv_iconst (v := 0) hx hb dL_law_719 (by decide) ?_
          exact absurd (Option.some.inj hrun) (by decide)
      have hrun := iq hw_184 hrun
      by_cases hw_194 : x_2 = (21 : Int32)
      · have hrun := ip hw_194 hrun
        refine lv_tableIn (off := 689) (tgt := 721) hx hb dL_law_32 (by rw [hw_194]; decide) (by rw [hw_194]; decide) (by rw [hw_194]; rfl) (by decide) ?_
        refine lv_aload_n hx hb dL_law_721 rfl (lv_at hl 1 rfl) ?_
        refine lv_aload_n hx hb dL_law_722 rfl (lv_at hl 0 rfl) ?_
        refine lv_iload_n hx hb dL_law_723 rfl (lv_at hl 3 rfl) ?_
        refine lv_iconst (v := 1) hx hb dL_law_724 (by decide) ?_
        refine lv_iadd hx hb dL_law_725 ?_
        obtain ⟨hi_195, hrun⟩ := gdE hrun
        refine va_sld hx hb hX hbl hbA hS.2 hi_195 dL_law_726 ?_
        obtain ⟨r_197, hc_196, hrun⟩ := bdE hrun
        refine qL_101 B hS hc_196 hl.1 (Nat.le_of_ble_eq_true rfl) ⟨Nat.le_of_ble_eq_true rfl, Nat.le_of_ble_eq_true rfl⟩ ⟨Nat.le_of_ble_eq_true rfl, Nat.le_of_ble_eq_true rfl⟩ dL_law_727 (fun H locs hS => ?_)
        refine lv_aload_n hx hb dL_law_730 rfl (lv_at hl 2 rfl) ?_
        refine lv_aload_n hx hb dL_law_731 rfl (lv_at hl 0 rfl) ?_
        refine lv_iload_n hx hb dL_law_732 rfl (lv_at hl 3 rfl) ?_
        refine lv_iconst (v := 1) hx hb dL_law_733 (by decide) ?_
        refine lv_iadd hx hb dL_law_734 ?_
        obtain ⟨hi_198, hrun⟩ := gdE hrun
        refine va_sld hx hb hX hbl hbA hS.2 hi_198 dL_law_735 ?_
        obtain ⟨r_200, hc_199, hrun⟩ := bdE hrun
        refine qL_104 B hS hc_199 hl.1 (Nat.le_of_ble_eq_true rfl) ⟨Nat.le_of_ble_eq_true rfl, Nat.le_of_ble_eq_true rfl⟩ ⟨Nat.le_of_ble_eq_true rfl, Nat.le_of_ble_eq_true rfl⟩ dL_law_736 (fun H locs hS => ?_)
        refine lv_icmp_eq (tgt := 938) hx hb dL_law_739 (by decide) (fun hc => ?_) (fun hc => ?_)
        · have hrun := ip hc hrun
          refine lv_iinc (v := x3 + (4 : Int32)) (k := 3) (lv' := [(3, .int (x3 + (4 : Int32))), (0, .ref b), (1, .ref (X.2.1 0)), (2, .ref (X.2.1 144))]) hx hb dL_law_938 hl rfl rfl (by decide) rfl (fun ls hl => ?_)
          refine lv_goto (tgt := 18) hx hb dL_law_941 (by decide) ?_
          exact ih18 t (x3 + (4 : Int32)) _ _ _ hS (lv_sub hl [1, 2, 3, 0] rfl) hrun
        · have hrun := iq hc hrun
          refine lv_iconst (v := 0) hx hb dL_law_742 (by decide) ?_
          exact absurd (Option.some.inj hrun) (by decide)
      have hrun := iq hw_194 hrun
      by_cases hw_201 : x_2 = (22 : Int32)
      · have hrun := ip hw_201 hrun
        refine lv_tableIn (off := 712) (tgt := 744) hx hb dL_law_32 (by rw [hw_201]; decide) (by rw [hw_201]; decide) (by rw [hw_201]; rfl) (by decide) ?_
        refine lv_aload_n hx hb dL_law_744 rfl (lv_at hl 1 rfl) ?_
        refine lv_aload_n hx hb dL_law_745 rfl (lv_at hl 0 rfl) ?_
        refine lv_iload_n hx hb dL_law_746 rfl (lv_at hl 3 rfl) ?_
        refine lv_iconst (v := 1) hx hb dL_law_747 (by decide) ?_
        refine lv_iadd hx hb dL_law_748 ?_
        obtain ⟨hi_202, hrun⟩ := gdE hrun
        refine va_sld hx hb hX hbl hbA hS.2 hi_202 dL_law_749 ?_
        refine lv_aload_n hx hb dL_law_750 rfl (lv_at hl 0 rfl) ?_
        refine lv_iload_n hx hb dL_law_751 rfl (lv_at hl 3 rfl) ?_
        refine lv_iconst (v := 2) hx hb dL_law_752 (by decide) ?_
        refine lv_iadd hx hb dL_law_753 ?_
        obtain ⟨hi_203, hrun⟩ := gdE hrun
        refine va_sld hx hb hX hbl hbA hS.2 hi_203 dL_law_754 ?_
        obtain ⟨r_205, hc_204, hrun⟩ := bdE hrun
        refine qL_105 B hS hc_204 hl.1 (Nat.le_of_ble_eq_true rfl) ⟨Nat.le_of_ble_eq_true rfl, Nat.le_of_ble_eq_true rfl⟩ ⟨Nat.le_of_ble_eq_true rfl, Nat.le_of_ble_eq_true rfl⟩ dL_law_755 (fun H locs hS => ?_)
        refine lv_aload_n hx hb dL_law_758 rfl (lv_at hl 2 rfl) ?_
        refine lv_aload_n hx hb dL_law_759 rfl (lv_at hl 0 rfl) ?_
        refine lv_iload_n hx hb dL_law_760 rfl (lv_at hl 3 rfl) ?_
        refine lv_iconst (v := 1) hx hb dL_law_761 (by decide) ?_
        refine lv_iadd hx hb dL_law_762 ?_
        obtain ⟨hi_206, hrun⟩ := gdE hrun
        refine va_sld hx hb hX hbl hbA hS.2 hi_206 dL_law_763 ?_
        refine lv_aload_n hx hb dL_law_764 rfl (lv_at hl 0 rfl) ?_
        refine lv_iload_n hx hb dL_law_765 rfl (lv_at hl 3 rfl) ?_
        refine lv_iconst (v := 2) hx hb dL_law_766 (by decide) ?_
        refine lv_iadd hx hb dL_law_767 ?_
        obtain ⟨hi_207, hrun⟩ := gdE hrun
        refine va_sld hx hb hX hbl hbA hS.2 hi_207 dL_law_768 ?_
        obtain ⟨r_209, hc_208, hrun⟩ := bdE hrun
        refine qL_108 B hS hc_208 hl.1 (Nat.le_of_ble_eq_true rfl) ⟨Nat.le_of_ble_eq_true rfl, Nat.le_of_ble_eq_true rfl⟩ ⟨Nat.le_of_ble_eq_true rfl, Nat.le_of_ble_eq_true rfl⟩ dL_law_769 (fun H locs hS => ?_)
        refine lv_icmp_eq (tgt := 938) hx hb dL_law_772 (by decide) (fun hc => ?_) (fun hc => ?_)
        · have hrun := ip hc hrun
          refine lv_iinc (v := x3 + (4 : Int32)) (k := 3) (lv' := [(3, .int (x3 + (4 : Int32))), (0, .ref b), (1, .ref (X.2.1 0)), (2, .ref (X.2.1 144))]) hx hb dL_law_938 hl rfl rfl (by decide) rfl (fun ls hl => ?_)
          refine lv_goto (tgt := 18) hx hb dL_law_941 (by decide) ?_
          exact ih18 t (x3 + (4 : Int32)) _ _ _ hS (lv_sub hl [1, 2, 3, 0] rfl) hrun
        · have hrun := iq hc hrun
          refine lv_iconst (v := 0) hx hb dL_law_775 (by decide) ?_
          exact absurd (Option.some.inj hrun) (by decide)
      have hrun := iq hw_201 hrun
      by_cases hw_210 : x_2 = (23 : Int32)
      · have hrun := ip hw_210 hrun
        refine lv_tableIn (off := 745) (tgt := 777) hx hb dL_law_32 (by rw [hw_210]; decide) (by rw [hw_210]; decide) (by rw [hw_210]; rfl) (by decide) ?_
        refine lv_aload_n hx hb dL_law_777 rfl (lv_at hl 1 rfl) ?_
        refine lv_aload_n hx hb dL_law_778 rfl (lv_at hl 0 rfl) ?_
        refine lv_iload_n hx hb dL_law_779 rfl (lv_at hl 3 rfl) ?_
        refine lv_iconst (v := 1) hx hb dL_law_780 (by decide) ?_
        refine lv_iadd hx hb dL_law_781 ?_
        obtain ⟨hi_211, hrun⟩ := gdE hrun
        refine va_sld hx hb hX hbl hbA hS.2 hi_211 dL_law_782 ?_
        refine lv_aload_n hx hb dL_law_783 rfl (lv_at hl 0 rfl) ?_
        refine lv_iload_n hx hb dL_law_784 rfl (lv_at hl 3 rfl) ?_
        refine lv_iconst (v := 2) hx hb dL_law_785 (by decide) ?_
        refine lv_iadd hx hb dL_law_786 ?_
        obtain ⟨hi_212, hrun⟩ := gdE hrun
        refine va_sld hx hb hX hbl hbA hS.2 hi_212 dL_law_787 ?_
        obtain ⟨r_214, t_215, hc_213, hrun⟩ := bd2E hrun
        refine qL_109 B hS hc_213 hl.1 (Nat.le_of_ble_eq_true rfl) ⟨Nat.le_of_ble_eq_true rfl, Nat.le_of_ble_eq_true rfl⟩ ⟨Nat.le_of_ble_eq_true rfl, Nat.le_of_ble_eq_true rfl⟩ dL_law_788 (fun H locs hS => ?_)
        refine lv_aload_n hx hb dL_law_791 rfl (lv_at hl 2 rfl) ?_
        refine lv_aload_n hx hb dL_law_792 rfl (lv_at hl 0 rfl) ?_
        refine lv_iload_n hx hb dL_law_793 rfl (lv_at hl 3 rfl) ?_
        refine lv_iconst (v := 1) hx hb dL_law_794 (by decide) ?_
        refine lv_iadd hx hb dL_law_795 ?_
        obtain ⟨hi_216, hrun⟩ := gdE hrun
        refine va_sld hx hb hX hbl hbA hS.2 hi_216 dL_law_796 ?_
        refine lv_aload_n hx hb dL_law_797 rfl (lv_at hl 0 rfl) ?_
        refine lv_iload_n hx hb dL_law_798 rfl (lv_at hl 3 rfl) ?_
        refine lv_iconst (v := 2) hx hb dL_law_799 (by decide) ?_
        refine lv_iadd hx hb dL_law_800 ?_
        obtain ⟨hi_217, hrun⟩ := gdE hrun
        refine va_sld hx hb hX hbl hbA hS.2 hi_217 dL_law_801 ?_
        obtain ⟨r_219, t_220, hc_218, hrun⟩ := bd2E hrun
        refine qL_112 B hS hc_218 hl.1 (Nat.le_of_ble_eq_true rfl) ⟨Nat.le_of_ble_eq_true rfl, Nat.le_of_ble_eq_true rfl⟩ ⟨Nat.le_of_ble_eq_true rfl, Nat.le_of_ble_eq_true rfl⟩ dL_law_802 (fun H locs hS => ?_)
        refine lv_icmp_eq (tgt := 938) hx hb dL_law_805 (by decide) (fun hc => ?_) (fun hc => ?_)
        · have hrun := ip hc hrun
          refine lv_iinc (v := x3 + (4 : Int32)) (k := 3) (lv' := [(3, .int (x3 + (4 : Int32))), (0, .ref b), (1, .ref (X.2.1 0)), (2, .ref (X.2.1 144))]) hx hb dL_law_938 hl rfl rfl (by decide) rfl (fun ls hl => ?_)
          refine lv_goto (tgt := 18) hx hb dL_law_941 (by decide) ?_
          exact ih18 t_220 (x3 + (4 : Int32)) _ _ _ hS (lv_sub hl [1, 2, 3, 0] rfl) hrun
        · have hrun := iq hc hrun
          refine lv_iconst (v := 0) hx hb dL_law_808 (by decide) ?_
          exact absurd (Option.some.inj hrun) (by decide)
      have hrun := iq hw_210 hrun
      by_cases hw_221 : x_2 = (24 : Int32)
      · have hrun := ip hw_221 hrun
        refine lv_tableIn (off := 778) (tgt := 810) hx hb dL_law_32 (by rw [hw_221]; decide) (by rw [hw_221]; decide) (by rw [hw_221]; rfl) (by decide) ?_
        refine lv_aload_n hx hb dL_law_810 rfl (lv_at hl 1 rfl) ?_
        refine lv_aload_n hx hb dL_law_811 rfl (lv_at hl 0 rfl) ?_
        refine lv_iload_n hx hb dL_law_812 rfl (lv_at hl 3 rfl) ?_
        refine lv_iconst (v := 1) hx hb dL_law_813 (by decide) ?_
        refine lv_iadd hx hb dL_law_814 ?_
        obtain ⟨hi_222, hrun⟩ := gdE hrun
        refine va_sld hx hb hX hbl hbA hS.2 hi_222 dL_law_815 ?_
        refine lv_aload_n hx hb dL_law_816 rfl (lv_at hl 0 rfl) ?_
        refine lv_iload_n hx hb dL_law_817 rfl (lv_at hl 3 rfl) ?_
        refine lv_iconst (v := 2) hx hb dL_law_818 (by decide) ?_
        refine lv_iadd hx hb dL_law_819 ?_
        obtain ⟨hi_223, hrun⟩ := gdE hrun
        refine va_sld hx hb hX hbl hbA hS.2 hi_223 dL_law_820 ?_
        obtain ⟨r_225, t_226, hc_224, hrun⟩ := bd2E hrun
        refine qL_113 B hS hc_224 hl.1 (Nat.le_of_ble_eq_true rfl) ⟨Nat.le_of_ble_eq_true rfl, Nat.le_of_ble_eq_true rfl⟩ ⟨Nat.le_of_ble_eq_true rfl, Nat.le_of_ble_eq_true rfl⟩ dL_law_821 (fun H locs hS => ?_)
        refine lv_aload_n hx hb dL_law_824 rfl (lv_at hl 2 rfl) ?_
        refine lv_aload_n hx hb dL_law_825 rfl (lv_at hl 0 rfl) ?_
        refine lv_iload_n hx hb dL_law_826 rfl (lv_at hl 3 rfl) ?_
        refine lv_iconst (v := 1) hx hb dL_law_827 (by decide) ?_
        refine lv_iadd hx hb dL_law_828 ?_
        obtain ⟨hi_227, hrun⟩ := gdE hrun
        refine va_sld hx hb hX hbl hbA hS.2 hi_227 dL_law_829 ?_
        refine lv_aload_n hx hb dL_law_830 rfl (lv_at hl 0 rfl) ?_
        refine lv_iload_n hx hb dL_law_831 rfl (lv_at hl 3 rfl) ?_
        refine lv_iconst (v := 2) hx hb dL_law_832 (by decide) ?_
        refine lv_iadd hx hb dL_law_833 ?_
        obtain ⟨hi_228, hrun⟩ := gdE hrun
        refine va_sld hx hb hX hbl hbA hS.2 hi_228 dL_law_834 ?_
        obtain ⟨r_230, t_231, hc_229, hrun⟩ := bd2E hrun
        refine qL_116 B hS hc_229 hl.1 (Nat.le_of_ble_eq_true rfl) ⟨Nat.le_of_ble_eq_true rfl, Nat.le_of_ble_eq_true rfl⟩ ⟨Nat.le_of_ble_eq_true rfl, Nat.le_of_ble_eq_true rfl⟩ dL_law_835 (fun H locs hS => ?_)
        refine lv_icmp_eq (tgt := 938) hx hb dL_law_838 (by decide) (fun hc => ?_) (fun hc => ?_)
        · have hrun := ip hc hrun
          refine lv_iinc (v := x3 + (4 : Int32)) (k := 3) (lv' := [(3, .int (x3 + (4 : Int32))), (0, .ref b), (1, .ref (X.2.1 0)), (2, .ref (X.2.1 144))]) hx hb dL_law_938 hl rfl rfl (by decide) rfl (fun ls hl => ?_)
          refine lv_goto (tgt := 18) hx hb dL_law_941 (by decide) ?_
          exact ih18 t_231 (x3 + (4 : Int32)) _ _ _ hS (lv_sub hl [1, 2, 3, 0] rfl) hrun
        · have hrun := iq hc hrun
          refine lv_iconst (v := 0) hx hb dL_law_841 (by decide) ?_
          exact absurd (Option.some.inj hrun) (by decide)
      have hrun := iq hw_221 hrun
      by_cases hw_232 : x_2 = (25 : Int32)
      · have hrun := ip hw_232 hrun
        refine lv_tableIn (off := 811) (tgt := 843) hx hb dL_law_32 (by rw [hw_232]; decide) (by rw [hw_232]; decide) (by rw [hw_232]; rfl) (by decide) ?_
        refine lv_aload_n hx hb dL_law_843 rfl (lv_at hl 1 rfl) ?_
        obtain ⟨r_234, t_235, hc_233, hrun⟩ := bd2E hrun
        refine qL_117 B hS hc_233 hl.1 (Nat.le_of_ble_eq_true rfl) ⟨Nat.le_of_ble_eq_true rfl, Nat.le_of_ble_eq_true rfl⟩ ⟨Nat.le_of_ble_eq_true rfl, Nat.le_of_ble_eq_true rfl⟩ dL_law_844 (fun H locs hS => ?_)
        refine lv_aload_n hx hb dL_law_847 rfl (lv_at hl 2 rfl) ?_
        obtain ⟨r_237, t_238, hc_236, hrun⟩ := bd2E hrun
        refine qL_120 B hS hc_236 hl.1 (Nat.le_of_ble_eq_true rfl) ⟨Nat.le_of_ble_eq_true rfl, Nat.le_of_ble_eq_true rfl⟩ ⟨Nat.le_of_ble_eq_true rfl, Nat.le_of_ble_eq_true rfl⟩ dL_law_848 (fun H locs hS => ?_)
        refine lv_icmp_eq (tgt := 938) hx hb dL_law_851 (by decide) (fun hc => ?_) (fun hc => ?_)
        · have hrun := ip hc hrun
          refine lv_iinc (v := x3 + (4 : Int32)) (k := 3) (lv' := [(3, .int (x3 + (4 : Int32))), (0, .ref b), (1, .ref (X.2.1 0)), (2, .ref (X.2.1 144))]) hx hb dL_law_938 hl rfl rfl (by decide) rfl (fun ls hl => ?_)
          refine lv_goto (tgt := 18) hx hb dL_law_941 (by decide) ?_
          exact ih18 t_238 (x3 + (4 : Int32)) _ _ _ hS (lv_sub hl [1, 2, 3, 0] rfl) hrun
        · have hrun := iq hc hrun
          refine lv_iconst (v := 0) hx hb dL_law_854 (by decide) ?_
          exact absurd (Option.some.inj hrun) (by decide)
      have hrun := iq hw_232 hrun
      by_cases hw_239 : x_2 = (26 : Int32)
      · have hrun := ip hw_239 hrun
        refine lv_tableIn (off := 824) (tgt := 856) hx hb dL_law_32 (by rw [hw_239]; decide) (by rw [hw_239]; decide) (by rw [hw_239]; rfl) (by decide) ?_
        refine lv_aload_n hx hb dL_law_856 rfl (lv_at hl 1 rfl) ?_
        obtain ⟨r_241, hc_240, hrun⟩ := bdE hrun
        refine qL_121 B hS hc_240 hl.1 (Nat.le_of_ble_eq_true rfl) ⟨Nat.le_of_ble_eq_true rfl, Nat.le_of_ble_eq_true rfl⟩ ⟨Nat.le_of_ble_eq_true rfl, Nat.le_of_ble_eq_true rfl⟩ dL_law_857 (fun H locs hS => ?_)
        refine lv_aload_n hx hb dL_law_860 rfl (lv_at hl 2 rfl) ?_
        obtain ⟨r_243, hc_242, hrun⟩ := bdE hrun
        refine qL_124 B hS hc_242 hl.1 (Nat.le_of_ble_eq_true rfl) ⟨Nat.le_of_ble_eq_true rfl, Nat.le_of_ble_eq_true rfl⟩ ⟨Nat.le_of_ble_eq_true rfl, Nat.le_of_ble_eq_true rfl⟩ dL_law_861 (fun H locs hS => ?_)
        refine lv_icmp_eq (tgt := 938) hx hb dL_law_864 (by decide) (fun hc => ?_) (fun hc => ?_)
        · have hrun := ip hc hrun
          refine lv_iinc (v := x3 + (4 : Int32)) (k := 3) (lv' := [(3, .int (x3 + (4 : Int32))), (0, .ref b), (1, .ref (X.2.1 0)), (2, .ref (X.2.1 144))]) hx hb dL_law_938 hl rfl rfl (by decide) rfl (fun ls hl => ?_)
          refine lv_goto (tgt := 18) hx hb dL_law_941 (by decide) ?_
          exact ih18 t (x3 + (4 : Int32)) _ _ _ hS (lv_sub hl [1, 2, 3, 0] rfl) hrun
        · have hrun := iq hc hrun
          refine lv_iconst (v := 0) hx hb dL_law_867 (by decide) ?_
          exact absurd (Option.some.inj hrun) (by decide)
      have hrun := iq hw_239 hrun
      by_cases hw_244 : x_2 = (27 : Int32)
      · have hrun := ip hw_244 hrun
        refine lv_tableIn (off := 837) (tgt := 869) hx hb dL_law_32 (by rw [hw_244]; decide) (by rw [hw_244]; decide) (by rw [hw_244]; rfl) (by decide) ?_
        refine lv_aload_n hx hb dL_law_869 rfl (lv_at hl 1 rfl) ?_
        refine lv_aload_n hx hb dL_law_870 rfl (lv_at hl 0 rfl) ?_
        refine lv_iload_n hx hb dL_law_871 rfl (lv_at hl 3 rfl) ?_
        refine lv_iconst (v := 1) hx hb dL_law_872 (by decide) ?_
        refine lv_iadd hx hb dL_law_873 ?_
        obtain ⟨hi_245, hrun⟩ := gdE hrun
        refine va_sld hx hb hX hbl hbA hS.2 hi_245 dL_law_874 ?_
        obtain ⟨r_247, t_248, hc_246, hrun⟩ := bd2E hrun
        refine qL_125 B hS hc_246 hl.1 (Nat.le_of_ble_eq_true rfl) ⟨Nat.le_of_ble_eq_true rfl, Nat.le_of_ble_eq_true rfl⟩ ⟨Nat.le_of_ble_eq_true rfl, Nat.le_of_ble_eq_true rfl⟩ dL_law_875 (fun H locs hS => ?_)
        refine lv_aload_n hx hb dL_law_878 rfl (lv_at hl 2 rfl) ?_
        refine lv_aload_n hx hb dL_law_879 rfl (lv_at hl 0 rfl) ?_
        refine lv_iload_n hx hb dL_law_880 rfl (lv_at hl 3 rfl) ?_
        refine lv_iconst (v := 1) hx hb dL_law_881 (by decide) ?_
        refine lv_iadd hx hb dL_law_882 ?_
        obtain ⟨hi_249, hrun⟩ := gdE hrun
        refine va_sld hx hb hX hbl hbA hS.2 hi_249 dL_law_883 ?_
        obtain ⟨r_251, t_252, hc_250, hrun⟩ := bd2E hrun
        refine qL_128 B hS hc_250 hl.1 (Nat.le_of_ble_eq_true rfl) ⟨Nat.le_of_ble_eq_true rfl, Nat.le_of_ble_eq_true rfl⟩ ⟨Nat.le_of_ble_eq_true rfl, Nat.le_of_ble_eq_true rfl⟩ dL_law_884 (fun H locs hS => ?_)
        refine lv_icmp_eq (tgt := 938) hx hb dL_law_887 (by decide) (fun hc => ?_) (fun hc => ?_)
        · have hrun := ip hc hrun
          refine lv_iinc (v := x3 + (4 : Int32)) (k := 3) (lv' := [(3, .int (x3 + (4 : Int32))), (0, .ref b), (1, .ref (X.2.1 0)), (2, .ref (X.2.1 144))]) hx hb dL_law_938 hl rfl rfl (by decide) rfl (fun ls hl => ?_)
          refine lv_goto (tgt := 18) hx hb dL_law_941 (by decide) ?_
          exact ih18 t_252 (x3 + (4 : Int32)) _ _ _ hS (lv_sub hl [1, 2, 3, 0] rfl) hrun
        · have hrun := iq hc hrun
          refine lv_iconst (v := 0) hx hb dL_law_890 (by decide) ?_
          exact absurd (Option.some.inj hrun) (by decide)
      have hrun := iq hw_244 hrun
      by_cases hw_253 : x_2 = (28 : Int32)
      · have hrun := ip hw_253 hrun
        refine lv_tableIn (off := 860) (tgt := 892) hx hb dL_law_32 (by rw [hw_253]; decide) (by rw [hw_253]; decide) (by rw [hw_253]; rfl) (by decide) ?_
        refine lv_aload_n hx hb dL_law_892 rfl (lv_at hl 1 rfl) ?_
        refine lv_aload_n hx hb dL_law_893 rfl (lv_at hl 0 rfl) ?_
        refine lv_iload_n hx hb dL_law_894 rfl (lv_at hl 3 rfl) ?_
        refine lv_iconst (v := 1) hx hb dL_law_895 (by decide) ?_
        refine lv_iadd hx hb dL_law_896 ?_
        obtain ⟨hi_254, hrun⟩ := gdE hrun
        refine va_sld hx hb hX hbl hbA hS.2 hi_254 dL_law_897 ?_
        obtain ⟨r_256, t_257, hc_255, hrun⟩ := bd2E hrun
        refine qL_129 B hS hc_255 hl.1 (Nat.le_of_ble_eq_true rfl) ⟨Nat.le_of_ble_eq_true rfl, Nat.le_of_ble_eq_true rfl⟩ ⟨Nat.le_of_ble_eq_true rfl, Nat.le_of_ble_eq_true rfl⟩ dL_law_898 (fun H locs hS => ?_)
        refine lv_aload_n hx hb dL_law_901 rfl (lv_at hl 2 rfl) ?_
        refine lv_aload_n hx hb dL_law_902 rfl (lv_at hl 0 rfl) ?_
        refine lv_iload_n hx hb dL_law_903 rfl (lv_at hl 3 rfl) ?_
        refine lv_iconst (v := 1) hx hb dL_law_904 (by decide) ?_
        refine lv_iadd hx hb dL_law_905 ?_
        obtain ⟨hi_258, hrun⟩ := gdE hrun
        refine va_sld hx hb hX hbl hbA hS.2 hi_258 dL_law_906 ?_
        obtain ⟨r_260, t_261, hc_259, hrun⟩ := bd2E hrun
        refine qL_132 B hS hc_259 hl.1 (Nat.le_of_ble_eq_true rfl) ⟨Nat.le_of_ble_eq_true rfl, Nat.le_of_ble_eq_true rfl⟩ ⟨Nat.le_of_ble_eq_true rfl, Nat.le_of_ble_eq_true rfl⟩ dL_law_907 (fun H locs hS => ?_)
        refine lv_icmp_eq (tgt := 938) hx hb dL_law_910 (by decide) (fun hc => ?_) (fun hc => ?_)
        · have hrun := ip hc hrun
          refine lv_iinc (v := x3 + (4 : Int32)) (k := 3) (lv' := [(3, .int (x3 + (4 : Int32))), (0, .ref b), (1, .ref (X.2.1 0)), (2, .ref (X.2.1 144))]) hx hb dL_law_938 hl rfl rfl (by decide) rfl (fun ls hl => ?_)
          refine lv_goto (tgt := 18) hx hb dL_law_941 (by decide) ?_
          exact ih18 t_261 (x3 + (4 : Int32)) _ _ _ hS (lv_sub hl [1, 2, 3, 0] rfl) hrun
        · have hrun := iq hc hrun
          refine lv_iconst (v := 0) hx hb dL_law_913 (by decide) ?_
          exact absurd (Option.some.inj hrun) (by decide)
      have hrun := iq hw_253 hrun
      by_cases hw_262 : x_2 = (29 : Int32)
      · have hrun := ip hw_262 hrun
        refine lv_tableIn (off := 883) (tgt := 915) hx hb dL_law_32 (by rw [hw_262]; decide) (by rw [hw_262]; decide) (by rw [hw_262]; rfl) (by decide) ?_
        refine lv_aload_n hx hb dL_law_915 rfl (lv_at hl 1 rfl) ?_
        refine lv_aload_n hx hb dL_law_916 rfl (lv_at hl 0 rfl) ?_
        refine lv_iload_n hx hb dL_law_917 rfl (lv_at hl 3 rfl) ?_
        refine lv_iconst (v := 1) hx hb dL_law_918 (by decide) ?_
        refine lv_iadd hx hb dL_law_919 ?_
        obtain ⟨hi_263, hrun⟩ := gdE hrun
        refine va_sld hx hb hX hbl hbA hS.2 hi_263 dL_law_920 ?_
        obtain ⟨r_265, t_266, hc_264, hrun⟩ := bd2E hrun
        refine qL_133 B hS hc_264 hl.1 (Nat.le_of_ble_eq_true rfl) ⟨Nat.le_of_ble_eq_true rfl, Nat.le_of_ble_eq_true rfl⟩ ⟨Nat.le_of_ble_eq_true rfl, Nat.le_of_ble_eq_true rfl⟩ dL_law_921 (fun H locs hS => ?_)
        refine lv_aload_n hx hb dL_law_924 rfl (lv_at hl 2 rfl) ?_
        refine lv_aload_n hx hb dL_law_925 rfl (lv_at hl 0 rfl) ?_
        refine lv_iload_n hx hb dL_law_926 rfl (lv_at hl 3 rfl) ?_
        refine lv_iconst (v := 1) hx hb dL_law_927 (by decide) ?_
        refine lv_iadd hx hb dL_law_928 ?_
        obtain ⟨hi_267, hrun⟩ := gdE hrun
        refine va_sld hx hb hX hbl hbA hS.2 hi_267 dL_law_929 ?_
        obtain ⟨r_269, t_270, hc_268, hrun⟩ := bd2E hrun
        refine qL_136 B hS hc_268 hl.1 (Nat.le_of_ble_eq_true rfl) ⟨Nat.le_of_ble_eq_true rfl, Nat.le_of_ble_eq_true rfl⟩ ⟨Nat.le_of_ble_eq_true rfl, Nat.le_of_ble_eq_true rfl⟩ dL_law_930 (fun H locs hS => ?_)
        refine lv_icmp_eq (tgt := 938) hx hb dL_law_933 (by decide) (fun hc => ?_) (fun hc => ?_)
        · have hrun := ip hc hrun
          refine lv_iinc (v := x3 + (4 : Int32)) (k := 3) (lv' := [(3, .int (x3 + (4 : Int32))), (0, .ref b), (1, .ref (X.2.1 0)), (2, .ref (X.2.1 144))]) hx hb dL_law_938 hl rfl rfl (by decide) rfl (fun ls hl => ?_)
          refine lv_goto (tgt := 18) hx hb dL_law_941 (by decide) ?_
          exact ih18 t_270 (x3 + (4 : Int32)) _ _ _ hS (lv_sub hl [1, 2, 3, 0] rfl) hrun
        · have hrun := iq hc hrun
          refine lv_iconst (v := 0) hx hb dL_law_936 (by decide) ?_
          exact absurd (Option.some.inj hrun) (by decide)
      have hrun := iq hw_262 hrun
      have hw_3 := lv_neT (a := 0) hw_3 (by decide)
      have hw_12 := lv_neT (a := 1) hw_12 (by decide)
      have hw_19 := lv_neT (a := 2) hw_19 (by decide)
      have hw_24 := lv_neT (a := 3) hw_24 (by decide)
      have hw_32 := lv_neT (a := 4) hw_32 (by decide)
      have hw_41 := lv_neT (a := 5) hw_41 (by decide)
      have hw_50 := lv_neT (a := 6) hw_50 (by decide)
      have hw_59 := lv_neT (a := 7) hw_59 (by decide)
      have hw_68 := lv_neT (a := 8) hw_68 (by decide)
      have hw_77 := lv_neT (a := 9) hw_77 (by decide)
      have hw_88 := lv_neT (a := 10) hw_88 (by decide)
      have hw_99 := lv_neT (a := 11) hw_99 (by decide)
      have hw_108 := lv_neT (a := 12) hw_108 (by decide)
      have hw_119 := lv_neT (a := 13) hw_119 (by decide)
      have hw_128 := lv_neT (a := 14) hw_128 (by decide)
      have hw_135 := lv_neT (a := 15) hw_135 (by decide)
      have hw_144 := lv_neT (a := 16) hw_144 (by decide)
      have hw_153 := lv_neT (a := 17) hw_153 (by decide)
      have hw_162 := lv_neT (a := 18) hw_162 (by decide)
      have hw_173 := lv_neT (a := 19) hw_173 (by decide)
      have hw_184 := lv_neT (a := 20) hw_184 (by decide)
      have hw_194 := lv_neT (a := 21) hw_194 (by decide)
      have hw_201 := lv_neT (a := 22) hw_201 (by decide)
      have hw_210 := lv_neT (a := 23) hw_210 (by decide)
      have hw_221 := lv_neT (a := 24) hw_221 (by decide)
      have hw_232 := lv_neT (a := 25) hw_232 (by decide)
      have hw_239 := lv_neT (a := 26) hw_239 (by decide)
      have hw_244 := lv_neT (a := 27) hw_244 (by decide)
      have hw_253 := lv_neT (a := 28) hw_253 (by decide)
      have hw_262 := lv_neT (a := 29) hw_262 (by decide)
      refine lv_tableOut (tgt := 938) hx hb dL_law_32 (by omega) (by decide) ?_
      refine lv_iinc (v := x3 + (4 : Int32)) (k := 3) (lv' := [(3, .int (x3 + (4 : Int32))), (0, .ref b), (1, .ref (X.2.1 0)), (2, .ref (X.2.1 144))]) hx hb dL_law_938 hl rfl rfl (by decide) rfl (fun ls hl => ?_)
      refine lv_goto (tgt := 18) hx hb dL_law_941 (by decide) ?_
      exact ih18 t (x3 + (4 : Int32)) _ _ _ hS (lv_sub hl [1, 2, 3, 0] rfl) hrun
