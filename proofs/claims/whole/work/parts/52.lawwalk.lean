def lw_P (b : Addr) (xs : List Int32) (args : Array Value) (s : State) : Prop := args = #[.ref b] ∧ s.IntsAt b xs ∧ xs.length ≤ 384 ∧ (Jvm.Cond.and given_1 narrow_1).before args s = true
def lw_Q (_ : Array Value) (s : State) (o : Outcome) (t : State) : Prop := o = .returned (some (.int 1)) ∧ Framed s o t [] 600000 7302250
def lw_Z (below : List Frame) (a : Array Value) (s : State) : State → Prop := fun t => ∃ o, t.status = .running ∧ Ended t below o ∧ lw_Q a s o t
/-- the law's own end, with 1 on the stack, nothing written that was there before, its room as the claim has it -/
theorem lw_ret {p : Program} {l : Launch} {e : Env} {s : State} {m : MethodId} {below : List Frame} {meth : Method} {c : Code} {b : Nat} (hx : p.tables.exec = Jvm.exec) (hb : c.code = code) (hr : meth.sig.returnType = ret) (hlocks : meth.locks = false) {pc : Nat} {H : Heap} {ls : Array Slot} (hdg : decode code pc = .ok (.ireturn, 1)) : W p l e room_1 s m #[Value.ref b] below meth c H [] 600000 7302250 (lw_Z below #[Value.ref b] s) (F0 m pc ls [.int 1]) := by
  intro T hT X
  obtain ⟨fs, hret, hrun, hended, hW, hframe⟩ := X.leave (v := some (.int 1)) (hlocks := hlocks) (fun h => by rw [hr] at h; cases h)
  have hmeth' : T.vm.method? m = some meth := X.method'
  refine ⟨T.setFrames fs, ?_, .returned (some (.int 1)), hrun, hended, rfl, ⟨_, rfl⟩, hW, hframe⟩
  jvm_step X.here [X.here.top, hx, hb, hdg, hmeth', hr, ret, narrow_b1]
  (try refine ⟨rfl, ?_⟩); (try refine ⟨rfl, ?_⟩)
  first | (intro acts; rw [hret _ acts rfl rfl rfl]) | rw [hret _ _ rfl rfl rfl]
  exact Steps.refl _
/-- what holds at the law's entry: the machine, the code, the tables' words (any of lw_tbl by 'hts w (by decide +kernel)'), the script of L ints xs at the cell b, what the Statement gives of the start (any of its parts by flat_of_before) -/
def lw_At (p : Program) (s : State) (m : MethodId) (meth : Method) (c : Code) (b L : Nat) (xs : Nat → Int32) : Prop :=
  p.tables.exec = Jvm.exec ∧ c.code = code ∧ meth.sig.returnType = ret ∧ c.maxLocals = 4 ∧ s.vm.findClass R_law = some m.cls ∧ (∀ w ∈ lw_tbl, w.before #[Value.ref b] s = true) ∧ va_X b L xs s s.heap ∧ b < s.heap.size ∧ meth.locks = false ∧ (Jvm.Cond.and given_1 narrow_1).before #[Value.ref b] s = true
def L_law_l18 (xs : Nat → Int32) (L N : Nat) : Nat → HS → Int32 → Option HS
  | 0, _, _ => none
  | n + 1, h, v3 => (if ((nI L) - 6) < v3 then some h else (if v3 < 0 ∨ L ≤ v3.toNatClampNeg then none else (if ((xs v3.toNatClampNeg) &&& 63) = 0 then (if (v3 + 1) < 0 ∨ L ≤ (v3 + 1).toNatClampNeg then none else (if (v3 + 2) < 0 ∨ L ≤ (v3 + 2).toNatClampNeg then none else (if (v3 + 3) < 0 ∨ L ≤ (v3 + 3).toNatClampNeg then none else (if (v3 + 4) < 0 ∨ L ≤ (v3 + 4).toNatClampNeg then none else (if (v3 + 5) < 0 ∨ L ≤ (v3 + 5).toNatClampNeg then none else bd2 (X10_feed N h 1 (xs (v3 + 1).toNatClampNeg) (xs (v3 + 2).toNatClampNeg) (xs (v3 + 3).toNatClampNeg) (xs (v3 + 4).toNatClampNeg) (xs (v3 + 5).toNatClampNeg)) fun r10 h11 => (if (v3 + 1) < 0 ∨ L ≤ (v3 + 1).toNatClampNeg then none else (if (v3 + 2) < 0 ∨ L ≤ (v3 + 2).toNatClampNeg then none else (if (v3 + 3) < 0 ∨ L ≤ (v3 + 3).toNatClampNeg then none else (if (v3 + 4) < 0 ∨ L ≤ (v3 + 4).toNatClampNeg then none else (if (v3 + 5) < 0 ∨ L ≤ (v3 + 5).toNatClampNeg then none else bd2 (X11_feed N h11 237 (xs (v3 + 1).toNatClampNeg) (xs (v3 + 2).toNatClampNeg) (xs (v3 + 3).toNatClampNeg) (xs (v3 + 4).toNatClampNeg) (xs (v3 + 5).toNatClampNeg)) fun r18 h19 => (if r10 = r18 then L_law_l18 xs L N n h19 (v3 + 6) else none))))))))))) else (if ((xs v3.toNatClampNeg) &&& 63) = 1 then (if (v3 + 1) < 0 ∨ L ≤ (v3 + 1).toNatClampNeg then none else bd2 (X10_end N h 1 (xs (v3 + 1).toNatClampNeg)) fun r24 h25 => (if (v3 + 1) < 0 ∨ L ≤ (v3 + 1).toNatClampNeg then none else bd2 (X11_end N h25 237 (xs (v3 + 1).toNatClampNeg)) fun r28 h29 => (if r24 = r28 then L_law_l18 xs L N n h29 (v3 + 6) else none))) else (if ((xs v3.toNatClampNeg) &&& 63) = 2 then (if (v3 + 1) < 0 ∨ L ≤ (v3 + 1).toNatClampNeg then none else (if (v3 + 2) < 0 ∨ L ≤ (v3 + 2).toNatClampNeg then none else bd2 (X10_text N h 1 (xs (v3 + 1).toNatClampNeg) (xs (v3 + 2).toNatClampNeg)) fun r35 h36 => (if (v3 + 1) < 0 ∨ L ≤ (v3 + 1).toNatClampNeg then none else (if (v3 + 2) < 0 ∨ L ≤ (v3 + 2).toNatClampNeg then none else bd2 (X11_text N h36 237 (xs (v3 + 1).toNatClampNeg) (xs (v3 + 2).toNatClampNeg)) fun r40 h41 => (if r35 = r40 then L_law_l18 xs L N n h41 (v3 + 6) else none))))) else (if ((xs v3.toNatClampNeg) &&& 63) = 3 then (if (v3 + 1) < 0 ∨ L ≤ (v3 + 1).toNatClampNeg then none else bd1 (X10_fault N h 1 (xs (v3 + 1).toNatClampNeg)) fun r46 => (if (v3 + 1) < 0 ∨ L ≤ (v3 + 1).toNatClampNeg then none else bd1 (X11_fault N h 237 (xs (v3 + 1).toNatClampNeg)) fun r50 => (if r46 = r50 then L_law_l18 xs L N n h (v3 + 6) else none))) else (if ((xs v3.toNatClampNeg) &&& 63) = 4 then (if (v3 + 1) < 0 ∨ L ≤ (v3 + 1).toNatClampNeg then none else (if (v3 + 2) < 0 ∨ L ≤ (v3 + 2).toNatClampNeg then none else bd1 (X10_house N h 1 (xs (v3 + 1).toNatClampNeg) (xs (v3 + 2).toNatClampNeg)) fun r57 => (if (v3 + 1) < 0 ∨ L ≤ (v3 + 1).toNatClampNeg then none else (if (v3 + 2) < 0 ∨ L ≤ (v3 + 2).toNatClampNeg then none else bd2 (X11_house N h 237 (xs (v3 + 1).toNatClampNeg) (xs (v3 + 2).toNatClampNeg)) fun r62 h63 => (if r57 = r62 then L_law_l18 xs L N n h63 (v3 + 6) else none))))) else (if ((xs v3.toNatClampNeg) &&& 63) = 5 then (if (v3 + 1) < 0 ∨ L ≤ (v3 + 1).toNatClampNeg then none else (if (v3 + 2) < 0 ∨ L ≤ (v3 + 2).toNatClampNeg then none else (if (v3 + 3) < 0 ∨ L ≤ (v3 + 3).toNatClampNeg then none else bd1 (X10_deed N h 1 (xs (v3 + 1).toNatClampNeg) (xs (v3 + 2).toNatClampNeg) (xs (v3 + 3).toNatClampNeg)) fun r70 => (if (v3 + 1) < 0 ∨ L ≤ (v3 + 1).toNatClampNeg then none else (if (v3 + 2) < 0 ∨ L ≤ (v3 + 2).toNatClampNeg then none else (if (v3 + 3) < 0 ∨ L ≤ (v3 + 3).toNatClampNeg then none else bd2 (X11_deed N h 237 (xs (v3 + 1).toNatClampNeg) (xs (v3 + 2).toNatClampNeg) (xs (v3 + 3).toNatClampNeg)) fun r76 h77 => (if r70 = r76 then L_law_l18 xs L N n h77 (v3 + 6) else none))))))) else (if ((xs v3.toNatClampNeg) &&& 63) = 6 then (if (v3 + 1) < 0 ∨ L ≤ (v3 + 1).toNatClampNeg then none else (if (v3 + 2) < 0 ∨ L ≤ (v3 + 2).toNatClampNeg then none else bd2 (X10_stop N h 1 (xs (v3 + 1).toNatClampNeg) (xs (v3 + 2).toNatClampNeg)) fun r83 h84 => (if (v3 + 1) < 0 ∨ L ≤ (v3 + 1).toNatClampNeg then none else (if (v3 + 2) < 0 ∨ L ≤ (v3 + 2).toNatClampNeg then none else bd2 (X11_stop N h84 237 (xs (v3 + 1).toNatClampNeg) (xs (v3 + 2).toNatClampNeg)) fun r88 h89 => (if r83 = r88 then L_law_l18 xs L N n h89 (v3 + 6) else none))))) else (if ((xs v3.toNatClampNeg) &&& 63) = 7 then (if (v3 + 1) < 0 ∨ L ≤ (v3 + 1).toNatClampNeg then none else (if (v3 + 2) < 0 ∨ L ≤ (v3 + 2).toNatClampNeg then none else (if (v3 + 3) < 0 ∨ L ≤ (v3 + 3).toNatClampNeg then none else (if (v3 + 4) < 0 ∨ L ≤ (v3 + 4).toNatClampNeg then none else bd2 (X10_state N h 1 (xs (v3 + 1).toNatClampNeg) (xs (v3 + 2).toNatClampNeg) (xs (v3 + 3).toNatClampNeg) (xs (v3 + 4).toNatClampNeg)) fun r97 h98 => (if (v3 + 1) < 0 ∨ L ≤ (v3 + 1).toNatClampNeg then none else (if (v3 + 2) < 0 ∨ L ≤ (v3 + 2).toNatClampNeg then none else (if (v3 + 3) < 0 ∨ L ≤ (v3 + 3).toNatClampNeg then none else (if (v3 + 4) < 0 ∨ L ≤ (v3 + 4).toNatClampNeg then none else bd2 (X11_state N h98 237 (xs (v3 + 1).toNatClampNeg) (xs (v3 + 2).toNatClampNeg) (xs (v3 + 3).toNatClampNeg) (xs (v3 + 4).toNatClampNeg)) fun r104 h105 => (if r97 = r104 then L_law_l18 xs L N n h105 (v3 + 6) else none))))))))) else (if ((xs v3.toNatClampNeg) &&& 63) = 8 then (if (v3 + 1) < 0 ∨ L ≤ (v3 + 1).toNatClampNeg then none else (if (v3 + 2) < 0 ∨ L ≤ (v3 + 2).toNatClampNeg then none else bd2 (X10_rota N h 1 (xs (v3 + 1).toNatClampNeg) (xs (v3 + 2).toNatClampNeg)) fun r111 h112 => (if (v3 + 1) < 0 ∨ L ≤ (v3 + 1).toNatClampNeg then none else (if (v3 + 2) < 0 ∨ L ≤ (v3 + 2).toNatClampNeg then none else bd2 (X11_rota N h112 237 (xs (v3 + 1).toNatClampNeg) (xs (v3 + 2).toNatClampNeg)) fun r116 h117 => (if r111 = r116 then L_law_l18 xs L N n h117 (v3 + 6) else none))))) else (if ((xs v3.toNatClampNeg) &&& 63) = 9 then (if (v3 + 1) < 0 ∨ L ≤ (v3 + 1).toNatClampNeg then none else (if (v3 + 2) < 0 ∨ L ≤ (v3 + 2).toNatClampNeg then none else (if (xs (v3 + 2).toNatClampNeg) = 0 then bd2 (X10_few N h 1 (xs (v3 + 1).toNatClampNeg) 0) fun r124 h125 => (if (v3 + 1) < 0 ∨ L ≤ (v3 + 1).toNatClampNeg then none else (if (v3 + 2) < 0 ∨ L ≤ (v3 + 2).toNatClampNeg then none else (if (xs (v3 + 2).toNatClampNeg) = 0 then bd2 (X11_few N h125 237 (xs (v3 + 1).toNatClampNeg) 0) fun r130 h131 => (if r124 = r130 then L_law_l18 xs L N n h131 (v3 + 6) else none) else bd2 (X11_few N h125 237 (xs (v3 + 1).toNatClampNeg) 1) fun r134 h135 => (if r124 = r134 then L_law_l18 xs L N n h135 (v3 + 6) else none)))) else bd2 (X10_few N h 1 (xs (v3 + 1).toNatClampNeg) 1) fun r138 h139 => (if (v3 + 1) < 0 ∨ L ≤ (v3 + 1).toNatClampNeg then none else (if (v3 + 2) < 0 ∨ L ≤ (v3 + 2).toNatClampNeg then none else (if (xs (v3 + 2).toNatClampNeg) = 0 then bd2 (X11_few N h139 237 (xs (v3 + 1).toNatClampNeg) 0) fun r144 h145 => (if r138 = r144 then L_law_l18 xs L N n h145 (v3 + 6) else none) else bd2 (X11_few N h139 237 (xs (v3 + 1).toNatClampNeg) 1) fun r148 h149 => (if r138 = r148 then L_law_l18 xs L N n h149 (v3 + 6) else none))))))) else (if ((xs v3.toNatClampNeg) &&& 63) = 10 then (if (v3 + 1) < 0 ∨ L ≤ (v3 + 1).toNatClampNeg then none else (if (v3 + 2) < 0 ∨ L ≤ (v3 + 2).toNatClampNeg then none else (if (xs (v3 + 2).toNatClampNeg) = 0 then bd2 (X10_far N h 1 (xs (v3 + 1).toNatClampNeg) 0) fun r156 h157 => (if (v3 + 1) < 0 ∨ L ≤ (v3 + 1).toNatClampNeg then none else (if (v3 + 2) < 0 ∨ L ≤ (v3 + 2).toNatClampNeg then none else (if (xs (v3 + 2).toNatClampNeg) = 0 then bd2 (X11_far N h157 237 (xs (v3 + 1).toNatClampNeg) 0) fun r162 h163 => (if r156 = r162 then L_law_l18 xs L N n h163 (v3 + 6) else none) else bd2 (X11_far N h157 237 (xs (v3 + 1).toNatClampNeg) 1) fun r166 h167 => (if r156 = r166 then L_law_l18 xs L N n h167 (v3 + 6) else none)))) else bd2 (X10_far N h 1 (xs (v3 + 1).toNatClampNeg) 1) fun r170 h171 => (if (v3 + 1) < 0 ∨ L ≤ (v3 + 1).toNatClampNeg then none else (if (v3 + 2) < 0 ∨ L ≤ (v3 + 2).toNatClampNeg then none else (if (xs (v3 + 2).toNatClampNeg) = 0 then bd2 (X11_far N h171 237 (xs (v3 + 1).toNatClampNeg) 0) fun r176 h177 => (if r170 = r176 then L_law_l18 xs L N n h177 (v3 + 6) else none) else bd2 (X11_far N h171 237 (xs (v3 + 1).toNatClampNeg) 1) fun r180 h181 => (if r170 = r180 then L_law_l18 xs L N n h181 (v3 + 6) else none))))))) else (if ((xs v3.toNatClampNeg) &&& 63) = 11 then (if (v3 + 1) < 0 ∨ L ≤ (v3 + 1).toNatClampNeg then none else (if (v3 + 2) < 0 ∨ L ≤ (v3 + 2).toNatClampNeg then none else (if (xs (v3 + 2).toNatClampNeg) = 0 then bd2 (X10_wakes N h 1 (xs (v3 + 1).toNatClampNeg) 0) fun r188 h189 => (if (v3 + 1) < 0 ∨ L ≤ (v3 + 1).toNatClampNeg then none else (if (v3 + 2) < 0 ∨ L ≤ (v3 + 2).toNatClampNeg then none else (if (xs (v3 + 2).toNatClampNeg) = 0 then bd2 (X11_wakes N h189 237 (xs (v3 + 1).toNatClampNeg) 0) fun r194 h195 => (if (lg_cmp r188 r194) = 0 then L_law_l18 xs L N n h195 (v3 + 6) else none) else bd2 (X11_wakes N h189 237 (xs (v3 + 1).toNatClampNeg) 1) fun r198 h199 => (if (lg_cmp r188 r198) = 0 then L_law_l18 xs L N n h199 (v3 + 6) else none)))) else bd2 (X10_wakes N h 1 (xs (v3 + 1).toNatClampNeg) 1) fun r202 h203 => (if (v3 + 1) < 0 ∨ L ≤ (v3 + 1).toNatClampNeg then none else (if (v3 + 2) < 0 ∨ L ≤ (v3 + 2).toNatClampNeg then none else (if (xs (v3 + 2).toNatClampNeg) = 0 then bd2 (X11_wakes N h203 237 (xs (v3 + 1).toNatClampNeg) 0) fun r208 h209 => (if (lg_cmp r202 r208) = 0 then L_law_l18 xs L N n h209 (v3 + 6) else none) else bd2 (X11_wakes N h203 237 (xs (v3 + 1).toNatClampNeg) 1) fun r212 h213 => (if (lg_cmp r202 r212) = 0 then L_law_l18 xs L N n h213 (v3 + 6) else none))))))) else (if ((xs v3.toNatClampNeg) &&& 63) = 12 then (if (v3 + 1) < 0 ∨ L ≤ (v3 + 1).toNatClampNeg then none else bd2 (X10_change N h 1 (xs (v3 + 1).toNatClampNeg)) fun r218 h219 => (if (v3 + 1) < 0 ∨ L ≤ (v3 + 1).toNatClampNeg then none else bd2 (X11_change N h219 237 (xs (v3 + 1).toNatClampNeg)) fun r222 h223 => (if r218 = r222 then L_law_l18 xs L N n h223 (v3 + 6) else none))) else (if ((xs v3.toNatClampNeg) &&& 63) = 13 then (if (v3 + 1) < 0 ∨ L ≤ (v3 + 1).toNatClampNeg then none else (if (v3 + 2) < 0 ∨ L ≤ (v3 + 2).toNatClampNeg then none else (if (v3 + 3) < 0 ∨ L ≤ (v3 + 3).toNatClampNeg then none else (if (xs (v3 + 3).toNatClampNeg) = 0 then bd2 (X10_tussle N h 1 (xs (v3 + 1).toNatClampNeg) (xs (v3 + 2).toNatClampNeg) 0) fun r231 h232 => (if (v3 + 1) < 0 ∨ L ≤ (v3 + 1).toNatClampNeg then none else (if (v3 + 2) < 0 ∨ L ≤ (v3 + 2).toNatClampNeg then none else (if (v3 + 3) < 0 ∨ L ≤ (v3 + 3).toNatClampNeg then none else (if (xs (v3 + 3).toNatClampNeg) = 0 then bd2 (X11_tussle N h232 237 (xs (v3 + 1).toNatClampNeg) (xs (v3 + 2).toNatClampNeg) 0) fun r238 h239 => (if r231 = r238 then L_law_l18 xs L N n h239 (v3 + 6) else none) else bd2 (X11_tussle N h232 237 (xs (v3 + 1).toNatClampNeg) (xs (v3 + 2).toNatClampNeg) 1) fun r242 h243 => (if r231 = r242 then L_law_l18 xs L N n h243 (v3 + 6) else none))))) else bd2 (X10_tussle N h 1 (xs (v3 + 1).toNatClampNeg) (xs (v3 + 2).toNatClampNeg) 1) fun r246 h247 => (if (v3 + 1) < 0 ∨ L ≤ (v3 + 1).toNatClampNeg then none else (if (v3 + 2) < 0 ∨ L ≤ (v3 + 2).toNatClampNeg then none else (if (v3 + 3) < 0 ∨ L ≤ (v3 + 3).toNatClampNeg then none else (if (xs (v3 + 3).toNatClampNeg) = 0 then bd2 (X11_tussle N h247 237 (xs (v3 + 1).toNatClampNeg) (xs (v3 + 2).toNatClampNeg) 0) fun r253 h254 => (if r246 = r253 then L_law_l18 xs L N n h254 (v3 + 6) else none) else bd2 (X11_tussle N h247 237 (xs (v3 + 1).toNatClampNeg) (xs (v3 + 2).toNatClampNeg) 1) fun r257 h258 => (if r246 = r257 then L_law_l18 xs L N n h258 (v3 + 6) else none))))))))) else (if ((xs v3.toNatClampNeg) &&& 63) = 14 then (if (v3 + 1) < 0 ∨ L ≤ (v3 + 1).toNatClampNeg then none else (if (v3 + 2) < 0 ∨ L ≤ (v3 + 2).toNatClampNeg then none else bd2 (X10_tunes N h 1 (xs (v3 + 1).toNatClampNeg) (xs (v3 + 2).toNatClampNeg)) fun r264 h265 => (if (v3 + 1) < 0 ∨ L ≤ (v3 + 1).toNatClampNeg then none else (if (v3 + 2) < 0 ∨ L ≤ (v3 + 2).toNatClampNeg then none else bd2 (X11_tunes N h265 237 (xs (v3 + 1).toNatClampNeg) (xs (v3 + 2).toNatClampNeg)) fun r269 h270 => (if r264 = r269 then L_law_l18 xs L N n h270 (v3 + 6) else none))))) else (if ((xs v3.toNatClampNeg) &&& 63) = 15 then (if (v3 + 1) < 0 ∨ L ≤ (v3 + 1).toNatClampNeg then none else (if (v3 + 2) < 0 ∨ L ≤ (v3 + 2).toNatClampNeg then none else (if (v3 + 3) < 0 ∨ L ≤ (v3 + 3).toNatClampNeg then none else bd1 (X10_fact N h 1 (xs (v3 + 1).toNatClampNeg) (xs (v3 + 2).toNatClampNeg) (xs (v3 + 3).toNatClampNeg)) fun r277 => (if (v3 + 1) < 0 ∨ L ≤ (v3 + 1).toNatClampNeg then none else (if (v3 + 2) < 0 ∨ L ≤ (v3 + 2).toNatClampNeg then none else (if (v3 + 3) < 0 ∨ L ≤ (v3 + 3).toNatClampNeg then none else bd2 (X11_fact N h 237 (xs (v3 + 1).toNatClampNeg) (xs (v3 + 2).toNatClampNeg) (xs (v3 + 3).toNatClampNeg)) fun r283 h284 => (if r277 = r283 then L_law_l18 xs L N n h284 (v3 + 6) else none))))))) else (if ((xs v3.toNatClampNeg) &&& 63) = 16 then (if (v3 + 1) < 0 ∨ L ≤ (v3 + 1).toNatClampNeg then none else (if (v3 + 2) < 0 ∨ L ≤ (v3 + 2).toNatClampNeg then none else (if (v3 + 3) < 0 ∨ L ≤ (v3 + 3).toNatClampNeg then none else bd2 (X10_fits N h 1 (xs (v3 + 1).toNatClampNeg) (xs (v3 + 2).toNatClampNeg) (xs (v3 + 3).toNatClampNeg)) fun r291 h292 => (if (v3 + 1) < 0 ∨ L ≤ (v3 + 1).toNatClampNeg then none else (if (v3 + 2) < 0 ∨ L ≤ (v3 + 2).toNatClampNeg then none else (if (v3 + 3) < 0 ∨ L ≤ (v3 + 3).toNatClampNeg then none else bd2 (X11_fits N h292 237 (xs (v3 + 1).toNatClampNeg) (xs (v3 + 2).toNatClampNeg) (xs (v3 + 3).toNatClampNeg)) fun r297 h298 => (if r291 = r297 then L_law_l18 xs L N n h298 (v3 + 6) else none))))))) else (if ((xs v3.toNatClampNeg) &&& 63) = 17 then (if (v3 + 1) < 0 ∨ L ≤ (v3 + 1).toNatClampNeg then none else (if (v3 + 2) < 0 ∨ L ≤ (v3 + 2).toNatClampNeg then none else (if (v3 + 3) < 0 ∨ L ≤ (v3 + 3).toNatClampNeg then none else (if (v3 + 4) < 0 ∨ L ≤ (v3 + 4).toNatClampNeg then none else bd2 (X10_drawn N h 1 (xs (v3 + 1).toNatClampNeg) (xs (v3 + 2).toNatClampNeg) (xs (v3 + 3).toNatClampNeg) (xs (v3 + 4).toNatClampNeg)) fun r306 h307 => (if (v3 + 1) < 0 ∨ L ≤ (v3 + 1).toNatClampNeg then none else (if (v3 + 2) < 0 ∨ L ≤ (v3 + 2).toNatClampNeg then none else (if (v3 + 3) < 0 ∨ L ≤ (v3 + 3).toNatClampNeg then none else (if (v3 + 4) < 0 ∨ L ≤ (v3 + 4).toNatClampNeg then none else bd2 (X11_drawn N h307 237 (xs (v3 + 1).toNatClampNeg) (xs (v3 + 2).toNatClampNeg) (xs (v3 + 3).toNatClampNeg) (xs (v3 + 4).toNatClampNeg)) fun r313 h314 => (if r306 = r313 then L_law_l18 xs L N n h314 (v3 + 6) else none))))))))) else (if ((xs v3.toNatClampNeg) &&& 63) = 18 then (if (v3 + 1) < 0 ∨ L ≤ (v3 + 1).toNatClampNeg then none else (if (v3 + 2) < 0 ∨ L ≤ (v3 + 2).toNatClampNeg then none else (if (v3 + 3) < 0 ∨ L ≤ (v3 + 3).toNatClampNeg then none else (if (xs (v3 + 3).toNatClampNeg) = 0 then bd2 (X10_sung N h 1 (xs (v3 + 1).toNatClampNeg) (xs (v3 + 2).toNatClampNeg) 0) fun r322 h323 => (if (v3 + 1) < 0 ∨ L ≤ (v3 + 1).toNatClampNeg then none else (if (v3 + 2) < 0 ∨ L ≤ (v3 + 2).toNatClampNeg then none else (if (v3 + 3) < 0 ∨ L ≤ (v3 + 3).toNatClampNeg then none else (if (xs (v3 + 3).toNatClampNeg) = 0 then bd2 (X11_sung N h323 237 (xs (v3 + 1).toNatClampNeg) (xs (v3 + 2).toNatClampNeg) 0) fun r329 h330 => (if r322 = r329 then L_law_l18 xs L N n h330 (v3 + 6) else none) else bd2 (X11_sung N h323 237 (xs (v3 + 1).toNatClampNeg) (xs (v3 + 2).toNatClampNeg) 1) fun r333 h334 => (if r322 = r333 then L_law_l18 xs L N n h334 (v3 + 6) else none))))) else bd2 (X10_sung N h 1 (xs (v3 + 1).toNatClampNeg) (xs (v3 + 2).toNatClampNeg) 1) fun r337 h338 => (if (v3 + 1) < 0 ∨ L ≤ (v3 + 1).toNatClampNeg then none else (if (v3 + 2) < 0 ∨ L ≤ (v3 + 2).toNatClampNeg then none else (if (v3 + 3) < 0 ∨ L ≤ (v3 + 3).toNatClampNeg then none else (if (xs (v3 + 3).toNatClampNeg) = 0 then bd2 (X11_sung N h338 237 (xs (v3 + 1).toNatClampNeg) (xs (v3 + 2).toNatClampNeg) 0) fun r344 h345 => (if r337 = r344 then L_law_l18 xs L N n h345 (v3 + 6) else none) else bd2 (X11_sung N h338 237 (xs (v3 + 1).toNatClampNeg) (xs (v3 + 2).toNatClampNeg) 1) fun r348 h349 => (if r337 = r348 then L_law_l18 xs L N n h349 (v3 + 6) else none))))))))) else (if ((xs v3.toNatClampNeg) &&& 63) = 19 then (if (v3 + 1) < 0 ∨ L ≤ (v3 + 1).toNatClampNeg then none else (if (v3 + 2) < 0 ∨ L ≤ (v3 + 2).toNatClampNeg then none else bd2 (X10_spare N h 1 (xs (v3 + 1).toNatClampNeg) (xs (v3 + 2).toNatClampNeg)) fun r355 h356 => (if (v3 + 1) < 0 ∨ L ≤ (v3 + 1).toNatClampNeg then none else (if (v3 + 2) < 0 ∨ L ≤ (v3 + 2).toNatClampNeg then none else bd2 (X11_spare N h356 237 (xs (v3 + 1).toNatClampNeg) (xs (v3 + 2).toNatClampNeg)) fun r360 h361 => (if r355 = r360 then L_law_l18 xs L N n h361 (v3 + 6) else none))))) else (if ((xs v3.toNatClampNeg) &&& 63) = 20 then (if (v3 + 1) < 0 ∨ L ≤ (v3 + 1).toNatClampNeg then none else (if (v3 + 2) < 0 ∨ L ≤ (v3 + 2).toNatClampNeg then none else bd2 (X10_ease N h 1 (xs (v3 + 1).toNatClampNeg) (xs (v3 + 2).toNatClampNeg)) fun r367 h368 => (if (v3 + 1) < 0 ∨ L ≤ (v3 + 1).toNatClampNeg then none else (if (v3 + 2) < 0 ∨ L ≤ (v3 + 2).toNatClampNeg then none else bd2 (X11_ease N h368 237 (xs (v3 + 1).toNatClampNeg) (xs (v3 + 2).toNatClampNeg)) fun r372 h373 => (if r367 = r372 then L_law_l18 xs L N n h373 (v3 + 6) else none))))) else (if ((xs v3.toNatClampNeg) &&& 63) = 21 then (if (v3 + 1) < 0 ∨ L ≤ (v3 + 1).toNatClampNeg then none else (if (v3 + 2) < 0 ∨ L ≤ (v3 + 2).toNatClampNeg then none else bd1 (X10_roof N h 1 (xs (v3 + 1).toNatClampNeg) (xs (v3 + 2).toNatClampNeg)) fun r379 => (if (v3 + 1) < 0 ∨ L ≤ (v3 + 1).toNatClampNeg then none else (if (v3 + 2) < 0 ∨ L ≤ (v3 + 2).toNatClampNeg then none else bd2 (X11_roof N h 237 (xs (v3 + 1).toNatClampNeg) (xs (v3 + 2).toNatClampNeg)) fun r384 h385 => (if r379 = r384 then L_law_l18 xs L N n h385 (v3 + 6) else none))))) else (if ((xs v3.toNatClampNeg) &&& 63) = 22 then (if (v3 + 1) < 0 ∨ L ≤ (v3 + 1).toNatClampNeg then none else (if (v3 + 2) < 0 ∨ L ≤ (v3 + 2).toNatClampNeg then none else (if (v3 + 3) < 0 ∨ L ≤ (v3 + 3).toNatClampNeg then none else (if (xs (v3 + 3).toNatClampNeg) = 0 then bd2 (X10_sleep N h 1 (xs (v3 + 1).toNatClampNeg) (xs (v3 + 2).toNatClampNeg) 0) fun r393 h394 => (if (v3 + 1) < 0 ∨ L ≤ (v3 + 1).toNatClampNeg then none else (if (v3 + 2) < 0 ∨ L ≤ (v3 + 2).toNatClampNeg then none else (if (v3 + 3) < 0 ∨ L ≤ (v3 + 3).toNatClampNeg then none else (if (xs (v3 + 3).toNatClampNeg) = 0 then bd2 (X11_sleep N h394 237 (xs (v3 + 1).toNatClampNeg) (xs (v3 + 2).toNatClampNeg) 0) fun r400 h401 => (if (lg_cmp r393 r400) = 0 then L_law_l18 xs L N n h401 (v3 + 6) else none) else bd2 (X11_sleep N h394 237 (xs (v3 + 1).toNatClampNeg) (xs (v3 + 2).toNatClampNeg) 1) fun r404 h405 => (if (lg_cmp r393 r404) = 0 then L_law_l18 xs L N n h405 (v3 + 6) else none))))) else bd2 (X10_sleep N h 1 (xs (v3 + 1).toNatClampNeg) (xs (v3 + 2).toNatClampNeg) 1) fun r408 h409 => (if (v3 + 1) < 0 ∨ L ≤ (v3 + 1).toNatClampNeg then none else (if (v3 + 2) < 0 ∨ L ≤ (v3 + 2).toNatClampNeg then none else (if (v3 + 3) < 0 ∨ L ≤ (v3 + 3).toNatClampNeg then none else (if (xs (v3 + 3).toNatClampNeg) = 0 then bd2 (X11_sleep N h409 237 (xs (v3 + 1).toNatClampNeg) (xs (v3 + 2).toNatClampNeg) 0) fun r415 h416 => (if (lg_cmp r408 r415) = 0 then L_law_l18 xs L N n h416 (v3 + 6) else none) else bd2 (X11_sleep N h409 237 (xs (v3 + 1).toNatClampNeg) (xs (v3 + 2).toNatClampNeg) 1) fun r419 h420 => (if (lg_cmp r408 r419) = 0 then L_law_l18 xs L N n h420 (v3 + 6) else none))))))))) else (if ((xs v3.toNatClampNeg) &&& 63) = 23 then (if (v3 + 1) < 0 ∨ L ≤ (v3 + 1).toNatClampNeg then none else (if (v3 + 2) < 0 ∨ L ≤ (v3 + 2).toNatClampNeg then none else (if (v3 + 3) < 0 ∨ L ≤ (v3 + 3).toNatClampNeg then none else (if (xs (v3 + 3).toNatClampNeg) = 0 then bd2 (X10_census N h 1 (xs (v3 + 1).toNatClampNeg) (xs (v3 + 2).toNatClampNeg) 0) fun r428 h429 => (if (v3 + 1) < 0 ∨ L ≤ (v3 + 1).toNatClampNeg then none else (if (v3 + 2) < 0 ∨ L ≤ (v3 + 2).toNatClampNeg then none else (if (v3 + 3) < 0 ∨ L ≤ (v3 + 3).toNatClampNeg then none else (if (xs (v3 + 3).toNatClampNeg) = 0 then bd2 (X11_census N h429 237 (xs (v3 + 1).toNatClampNeg) (xs (v3 + 2).toNatClampNeg) 0) fun r435 h436 => (if (lg_cmp r428 r435) = 0 then L_law_l18 xs L N n h436 (v3 + 6) else none) else bd2 (X11_census N h429 237 (xs (v3 + 1).toNatClampNeg) (xs (v3 + 2).toNatClampNeg) 1) fun r439 h440 => (if (lg_cmp r428 r439) = 0 then L_law_l18 xs L N n h440 (v3 + 6) else none))))) else bd2 (X10_census N h 1 (xs (v3 + 1).toNatClampNeg) (xs (v3 + 2).toNatClampNeg) 1) fun r443 h444 => (if (v3 + 1) < 0 ∨ L ≤ (v3 + 1).toNatClampNeg then none else (if (v3 + 2) < 0 ∨ L ≤ (v3 + 2).toNatClampNeg then none else (if (v3 + 3) < 0 ∨ L ≤ (v3 + 3).toNatClampNeg then none else (if (xs (v3 + 3).toNatClampNeg) = 0 then bd2 (X11_census N h444 237 (xs (v3 + 1).toNatClampNeg) (xs (v3 + 2).toNatClampNeg) 0) fun r450 h451 => (if (lg_cmp r443 r450) = 0 then L_law_l18 xs L N n h451 (v3 + 6) else none) else bd2 (X11_census N h444 237 (xs (v3 + 1).toNatClampNeg) (xs (v3 + 2).toNatClampNeg) 1) fun r454 h455 => (if (lg_cmp r443 r454) = 0 then L_law_l18 xs L N n h455 (v3 + 6) else none))))))))) else (if ((xs v3.toNatClampNeg) &&& 63) = 24 then (if (v3 + 1) < 0 ∨ L ≤ (v3 + 1).toNatClampNeg then none else (if (v3 + 2) < 0 ∨ L ≤ (v3 + 2).toNatClampNeg then none else (if (v3 + 3) < 0 ∨ L ≤ (v3 + 3).toNatClampNeg then none else bd1 (X10_move N h 1 (xs (v3 + 1).toNatClampNeg) (xs (v3 + 2).toNatClampNeg) (xs (v3 + 3).toNatClampNeg)) fun r462 => (if (v3 + 1) < 0 ∨ L ≤ (v3 + 1).toNatClampNeg then none else (if (v3 + 2) < 0 ∨ L ≤ (v3 + 2).toNatClampNeg then none else (if (v3 + 3) < 0 ∨ L ≤ (v3 + 3).toNatClampNeg then none else bd2 (X11_move N h 237 (xs (v3 + 1).toNatClampNeg) (xs (v3 + 2).toNatClampNeg) (xs (v3 + 3).toNatClampNeg)) fun r468 h469 => (if r462 = r468 then L_law_l18 xs L N n h469 (v3 + 6) else none))))))) else (if ((xs v3.toNatClampNeg) &&& 63) = 25 then (if (v3 + 1) < 0 ∨ L ≤ (v3 + 1).toNatClampNeg then none else (if (v3 + 2) < 0 ∨ L ≤ (v3 + 2).toNatClampNeg then none else bd1 (X10_range N h 1 (xs (v3 + 1).toNatClampNeg) (xs (v3 + 2).toNatClampNeg)) fun r475 => (if (v3 + 1) < 0 ∨ L ≤ (v3 + 1).toNatClampNeg then none else (if (v3 + 2) < 0 ∨ L ≤ (v3 + 2).toNatClampNeg then none else bd2 (X11_range N h 237 (xs (v3 + 1).toNatClampNeg) (xs (v3 + 2).toNatClampNeg)) fun r480 h481 => (if r475 = r480 then L_law_l18 xs L N n h481 (v3 + 6) else none))))) else (if ((xs v3.toNatClampNeg) &&& 63) = 26 then (if (v3 + 1) < 0 ∨ L ≤ (v3 + 1).toNatClampNeg then none else (if (v3 + 2) < 0 ∨ L ≤ (v3 + 2).toNatClampNeg then none else (if (xs (v3 + 2).toNatClampNeg) = 0 then bd1 (X10_choir N h 1 (xs (v3 + 1).toNatClampNeg) 0) fun r488 => (if (v3 + 1) < 0 ∨ L ≤ (v3 + 1).toNatClampNeg then none else (if (v3 + 2) < 0 ∨ L ≤ (v3 + 2).toNatClampNeg then none else (if (xs (v3 + 2).toNatClampNeg) = 0 then bd2 (X11_choir N h 237 (xs (v3 + 1).toNatClampNeg) 0) fun r494 h495 => (if r488 = r494 then L_law_l18 xs L N n h495 (v3 + 6) else none) else bd2 (X11_choir N h 237 (xs (v3 + 1).toNatClampNeg) 1) fun r498 h499 => (if r488 = r498 then L_law_l18 xs L N n h499 (v3 + 6) else none)))) else bd1 (X10_choir N h 1 (xs (v3 + 1).toNatClampNeg) 1) fun r502 => (if (v3 + 1) < 0 ∨ L ≤ (v3 + 1).toNatClampNeg then none else (if (v3 + 2) < 0 ∨ L ≤ (v3 + 2).toNatClampNeg then none else (if (xs (v3 + 2).toNatClampNeg) = 0 then bd2 (X11_choir N h 237 (xs (v3 + 1).toNatClampNeg) 0) fun r508 h509 => (if r502 = r508 then L_law_l18 xs L N n h509 (v3 + 6) else none) else bd2 (X11_choir N h 237 (xs (v3 + 1).toNatClampNeg) 1) fun r512 h513 => (if r502 = r512 then L_law_l18 xs L N n h513 (v3 + 6) else none))))))) else (if ((xs v3.toNatClampNeg) &&& 63) = 27 then (if (v3 + 1) < 0 ∨ L ≤ (v3 + 1).toNatClampNeg then none else (if (v3 + 2) < 0 ∨ L ≤ (v3 + 2).toNatClampNeg then none else (if (v3 + 3) < 0 ∨ L ≤ (v3 + 3).toNatClampNeg then none else bd2 (X10_after N h 1 (xs (v3 + 1).toNatClampNeg) (xs (v3 + 2).toNatClampNeg) (xs (v3 + 3).toNatClampNeg)) fun r520 h521 => (if (v3 + 1) < 0 ∨ L ≤ (v3 + 1).toNatClampNeg then none else (if (v3 + 2) < 0 ∨ L ≤ (v3 + 2).toNatClampNeg then none else (if (v3 + 3) < 0 ∨ L ≤ (v3 + 3).toNatClampNeg then none else bd2 (X11_after N h521 237 (xs (v3 + 1).toNatClampNeg) (xs (v3 + 2).toNatClampNeg) (xs (v3 + 3).toNatClampNeg)) fun r526 h527 => (if r520 = r526 then L_law_l18 xs L N n h527 (v3 + 6) else none))))))) else (if ((xs v3.toNatClampNeg) &&& 63) = 28 then (if (v3 + 1) < 0 ∨ L ≤ (v3 + 1).toNatClampNeg then none else (if (v3 + 2) < 0 ∨ L ≤ (v3 + 2).toNatClampNeg then none else (if (v3 + 3) < 0 ∨ L ≤ (v3 + 3).toNatClampNeg then none else (if (v3 + 4) < 0 ∨ L ≤ (v3 + 4).toNatClampNeg then none else (if (xs (v3 + 4).toNatClampNeg) = 0 then bd2 (X10_odds N h 1 (xs (v3 + 1).toNatClampNeg) (xs (v3 + 2).toNatClampNeg) (xs (v3 + 3).toNatClampNeg) 0) fun r536 h537 => (if (v3 + 1) < 0 ∨ L ≤ (v3 + 1).toNatClampNeg then none else (if (v3 + 2) < 0 ∨ L ≤ (v3 + 2).toNatClampNeg then none else (if (v3 + 3) < 0 ∨ L ≤ (v3 + 3).toNatClampNeg then none else (if (v3 + 4) < 0 ∨ L ≤ (v3 + 4).toNatClampNeg then none else (if (xs (v3 + 4).toNatClampNeg) = 0 then bd2 (X11_odds N h537 237 (xs (v3 + 1).toNatClampNeg) (xs (v3 + 2).toNatClampNeg) (xs (v3 + 3).toNatClampNeg) 0) fun r544 h545 => (if (lg_cmp r536 r544) = 0 then L_law_l18 xs L N n h545 (v3 + 6) else none) else bd2 (X11_odds N h537 237 (xs (v3 + 1).toNatClampNeg) (xs (v3 + 2).toNatClampNeg) (xs (v3 + 3).toNatClampNeg) 1) fun r548 h549 => (if (lg_cmp r536 r548) = 0 then L_law_l18 xs L N n h549 (v3 + 6) else none)))))) else bd2 (X10_odds N h 1 (xs (v3 + 1).toNatClampNeg) (xs (v3 + 2).toNatClampNeg) (xs (v3 + 3).toNatClampNeg) 1) fun r552 h553 => (if (v3 + 1) < 0 ∨ L ≤ (v3 + 1).toNatClampNeg then none else (if (v3 + 2) < 0 ∨ L ≤ (v3 + 2).toNatClampNeg then none else (if (v3 + 3) < 0 ∨ L ≤ (v3 + 3).toNatClampNeg then none else (if (v3 + 4) < 0 ∨ L ≤ (v3 + 4).toNatClampNeg then none else (if (xs (v3 + 4).toNatClampNeg) = 0 then bd2 (X11_odds N h553 237 (xs (v3 + 1).toNatClampNeg) (xs (v3 + 2).toNatClampNeg) (xs (v3 + 3).toNatClampNeg) 0) fun r560 h561 => (if (lg_cmp r552 r560) = 0 then L_law_l18 xs L N n h561 (v3 + 6) else none) else bd2 (X11_odds N h553 237 (xs (v3 + 1).toNatClampNeg) (xs (v3 + 2).toNatClampNeg) (xs (v3 + 3).toNatClampNeg) 1) fun r564 h565 => (if (lg_cmp r552 r564) = 0 then L_law_l18 xs L N n h565 (v3 + 6) else none))))))))))) else (if ((xs v3.toNatClampNeg) &&& 63) = 29 then (if (v3 + 1) < 0 ∨ L ≤ (v3 + 1).toNatClampNeg then none else bd2 (X10_hire N h 1 (xs (v3 + 1).toNatClampNeg)) fun r570 h571 => (if (v3 + 1) < 0 ∨ L ≤ (v3 + 1).toNatClampNeg then none else bd2 (X11_hire N h571 237 (xs (v3 + 1).toNatClampNeg)) fun r574 h575 => (if r570 = r574 then L_law_l18 xs L N n h575 (v3 + 6) else none))) else (if ((xs v3.toNatClampNeg) &&& 63) = 30 then (if (v3 + 1) < 0 ∨ L ≤ (v3 + 1).toNatClampNeg then none else (if (v3 + 2) < 0 ∨ L ≤ (v3 + 2).toNatClampNeg then none else bd1 (X10_shift N h 1 (xs (v3 + 1).toNatClampNeg) (xs (v3 + 2).toNatClampNeg)) fun r581 => (if (v3 + 1) < 0 ∨ L ≤ (v3 + 1).toNatClampNeg then none else (if (v3 + 2) < 0 ∨ L ≤ (v3 + 2).toNatClampNeg then none else bd2 (X11_shift N h 237 (xs (v3 + 1).toNatClampNeg) (xs (v3 + 2).toNatClampNeg)) fun r586 h587 => (if r581 = r586 then L_law_l18 xs L N n h587 (v3 + 6) else none))))) else (if ((xs v3.toNatClampNeg) &&& 63) = 31 then (if (v3 + 1) < 0 ∨ L ≤ (v3 + 1).toNatClampNeg then none else bd1 (X10_tuned N h 1 (xs (v3 + 1).toNatClampNeg)) fun r592 => (if (v3 + 1) < 0 ∨ L ≤ (v3 + 1).toNatClampNeg then none else bd2 (X11_tuned N h 237 (xs (v3 + 1).toNatClampNeg)) fun r596 h597 => (if r592 = r596 then L_law_l18 xs L N n h597 (v3 + 6) else none))) else (if ((xs v3.toNatClampNeg) &&& 63) = 32 then (if (v3 + 1) < 0 ∨ L ≤ (v3 + 1).toNatClampNeg then none else (if (v3 + 2) < 0 ∨ L ≤ (v3 + 2).toNatClampNeg then none else (if (xs (v3 + 2).toNatClampNeg) = 0 then bd1 (X10_landing N h 1 (xs (v3 + 1).toNatClampNeg) 0) fun r604 => (if (v3 + 1) < 0 ∨ L ≤ (v3 + 1).toNatClampNeg then none else (if (v3 + 2) < 0 ∨ L ≤ (v3 + 2).toNatClampNeg then none else (if (xs (v3 + 2).toNatClampNeg) = 0 then bd2 (X11_landing N h 237 (xs (v3 + 1).toNatClampNeg) 0) fun r610 h611 => (if r604 = r610 then L_law_l18 xs L N n h611 (v3 + 6) else none) else bd2 (X11_landing N h 237 (xs (v3 + 1).toNatClampNeg) 1) fun r614 h615 => (if r604 = r614 then L_law_l18 xs L N n h615 (v3 + 6) else none)))) else bd1 (X10_landing N h 1 (xs (v3 + 1).toNatClampNeg) 1) fun r618 => (if (v3 + 1) < 0 ∨ L ≤ (v3 + 1).toNatClampNeg then none else (if (v3 + 2) < 0 ∨ L ≤ (v3 + 2).toNatClampNeg then none else (if (xs (v3 + 2).toNatClampNeg) = 0 then bd2 (X11_landing N h 237 (xs (v3 + 1).toNatClampNeg) 0) fun r624 h625 => (if r618 = r624 then L_law_l18 xs L N n h625 (v3 + 6) else none) else bd2 (X11_landing N h 237 (xs (v3 + 1).toNatClampNeg) 1) fun r628 h629 => (if r618 = r628 then L_law_l18 xs L N n h629 (v3 + 6) else none))))))) else (if ((xs v3.toNatClampNeg) &&& 63) = 33 then (if (v3 + 1) < 0 ∨ L ≤ (v3 + 1).toNatClampNeg then none else bd1 (X10_count N h 1 (xs (v3 + 1).toNatClampNeg)) fun r634 => (if (v3 + 1) < 0 ∨ L ≤ (v3 + 1).toNatClampNeg then none else bd1 (X11_count N h 237 (xs (v3 + 1).toNatClampNeg)) fun r638 => (if r634 = r638 then L_law_l18 xs L N n h (v3 + 6) else none))) else (if ((xs v3.toNatClampNeg) &&& 63) = 34 then (if (v3 + 1) < 0 ∨ L ≤ (v3 + 1).toNatClampNeg then none else bd2 (X10_image N h 1 (xs (v3 + 1).toNatClampNeg)) fun r644 h645 => (if (v3 + 1) < 0 ∨ L ≤ (v3 + 1).toNatClampNeg then none else bd2 (X11_image N h645 237 (xs (v3 + 1).toNatClampNeg)) fun r648 h649 => (if r644 = r648 then L_law_l18 xs L N n h649 (v3 + 6) else none))) else (if ((xs v3.toNatClampNeg) &&& 63) = 35 then (if (v3 + 1) < 0 ∨ L ≤ (v3 + 1).toNatClampNeg then none else bd2 (X10_again N h 1 (xs (v3 + 1).toNatClampNeg)) fun r654 h655 => (if (v3 + 1) < 0 ∨ L ≤ (v3 + 1).toNatClampNeg then none else bd2 (X11_again N h655 237 (xs (v3 + 1).toNatClampNeg)) fun r658 h659 => (if r654 = r658 then L_law_l18 xs L N n h659 (v3 + 6) else none))) else L_law_l18 xs L N n h (v3 + 6)))))))))))))))))))))))))))))))))))))))
/-- the law's end: nothing old was written -/
theorem l_end {p : Program} {l : Launch} {e : Env} {s : State} {m : MethodId} {below : List Frame} {meth : Method} {c : Code} {H : Heap} {locs : List Loc} {G : GT} {h : HS} {bs pc : Nat} {ls : Array Slot} (E : CallFix p m c code 4 s #[Value.ref bs] UW R_law) (w : WD G s h H locs) (hrt : meth.sig.returnType = ret) (hlk : meth.locks = false) (hA : ∀ q, AD G q → s.heap.size ≤ q) (d : decode code pc = .ok (.ireturn, 1)) : W p l e room_1 s m #[Value.ref bs] below meth c H locs 256 8674 (lw_Z below #[Value.ref bs] s) (F0 m pc ls [.int 1]) := by
  refine va_forget (fun q hq => hA _ (w.2.2.2.2.2.2.2 q hq)) ?_
  refine W.widen (k := 600000) (n := 7302250) (by decide) (by decide) ?_
  exact lw_ret E.1 E.2.1 hrt hlk d
set_option maxRecDepth 20000 in
set_option maxHeartbeats 20000000 in
theorem L_law_l18_w {p : Program} {l : Launch} {e : Env} {s : State} {m : MethodId} {below : List Frame} {meth : Method} {c : Code} {G : GT} {N bs L : Nat} {xs : Nat → Int32} {z : HS} (E : CallFix p m c code 4 s #[Value.ref bs] UW R_law) (hrt : meth.sig.returnType = ret) (hlk : meth.locks = false) (hX : va_X bs L xs s s.heap) (hbl : bs < s.heap.size) (hA : ∀ q, AD G q → s.heap.size ≤ q) : ∀ (n : Nat) (h : HS) (H : Heap) (locs : List Loc) (ls : Array Slot) (v3 : Int32), L_law_l18 xs L N n h v3 = some z → WD G s h H locs → lv_has ls 4 [(0, .ref bs), (1, .ref (ad G 1)), (2, .ref (ad G 237)), (3, .int v3)] → W p l e room_1 s m #[Value.ref bs] below meth c H locs 256 8674 (lw_Z below #[Value.ref bs] s) (F0 m 18 ls []) := by
  have g1 : sh 1 = 10 := by decide +kernel
  have g2 : sh 237 = 11 := by decide +kernel
  have hbA : ¬ AD G bs := fun z => absurd (hA _ z) (by omega)
  intro n
  induction n with
  | zero =>
    intro h H locs ls v3 hf
    cases hf
  | succ n ih =>
    intro h H locs ls v3 hf w hl
    unfold L_law_l18 at hf
    refine lv_iload_n E.1 E.2.1 dL_law_18 rfl (lv_at hl 3 rfl) ?_
    refine lv_aload_n E.1 E.2.1 dL_law_19 rfl (lv_at hl 0 rfl) ?_
    refine va_slen E.1 E.2.1 hX hbl hbA w.2.2.2.2.2 dL_law_20 ?_
    refine lv_bipush (v := 6) E.1 E.2.1 dL_law_21 rfl ?_
    refine lv_isub E.1 E.2.1 dL_law_23 ?_
    refine lv_icmp_gt (tgt := 1650) E.1 E.2.1 dL_law_24 (by decide) (fun c1 => ?_) (fun c1 => ?_)
    · have hf := q_pos c1 hf
      refine lv_iconst (v := 1) E.1 E.2.1 dL_law_1650 rfl ?_
      exact l_end E w hrt hlk hA dL_law_1651
    · have hf := q_neg c1 hf
      refine lv_aload_n E.1 E.2.1 dL_law_27 rfl (lv_at hl 0 rfl) ?_
      refine lv_iload_n E.1 E.2.1 dL_law_28 rfl (lv_at hl 3 rfl) ?_
      obtain ⟨b2, hf⟩ := q_if hf
      refine va_sld E.1 E.2.1 hX hbl hbA w.2.2.2.2.2 b2 dL_law_29 ?_
      refine lv_bipush (v := 63) E.1 E.2.1 dL_law_30 rfl ?_
      refine lv_iand E.1 E.2.1 dL_law_32 ?_
      by_cases c3 : ((xs v3.toNatClampNeg) &&& 63) = 0
      · have hf := q_pos c3 hf
        refine lv_tableIn (off := 159) (tgt := 192) E.1 E.2.1 dL_law_33 (by rw [c3]; decide) (by rw [c3]; decide) (by rw [c3]; rfl) (by decide) ?_
        refine lv_aload_n E.1 E.2.1 dL_law_192 rfl (lv_at hl 1 rfl) ?_
        refine lv_aload_n E.1 E.2.1 dL_law_193 rfl (lv_at hl 0 rfl) ?_
        refine lv_iload_n E.1 E.2.1 dL_law_194 rfl (lv_at hl 3 rfl) ?_
        refine lv_iconst (v := 1) E.1 E.2.1 dL_law_195 rfl ?_
        refine lv_iadd E.1 E.2.1 dL_law_196 ?_
        obtain ⟨b4, hf⟩ := q_if hf
        refine va_sld E.1 E.2.1 hX hbl hbA w.2.2.2.2.2 b4 dL_law_197 ?_
        refine lv_aload_n E.1 E.2.1 dL_law_198 rfl (lv_at hl 0 rfl) ?_
        refine lv_iload_n E.1 E.2.1 dL_law_199 rfl (lv_at hl 3 rfl) ?_
        refine lv_iconst (v := 2) E.1 E.2.1 dL_law_200 rfl ?_
        refine lv_iadd E.1 E.2.1 dL_law_201 ?_
        obtain ⟨b5, hf⟩ := q_if hf
        refine va_sld E.1 E.2.1 hX hbl hbA w.2.2.2.2.2 b5 dL_law_202 ?_
        refine lv_aload_n E.1 E.2.1 dL_law_203 rfl (lv_at hl 0 rfl) ?_
        refine lv_iload_n E.1 E.2.1 dL_law_204 rfl (lv_at hl 3 rfl) ?_
        refine lv_iconst (v := 3) E.1 E.2.1 dL_law_205 rfl ?_
        refine lv_iadd E.1 E.2.1 dL_law_206 ?_
        obtain ⟨b6, hf⟩ := q_if hf
        refine va_sld E.1 E.2.1 hX hbl hbA w.2.2.2.2.2 b6 dL_law_207 ?_
        refine lv_aload_n E.1 E.2.1 dL_law_208 rfl (lv_at hl 0 rfl) ?_
        refine lv_iload_n E.1 E.2.1 dL_law_209 rfl (lv_at hl 3 rfl) ?_
        refine lv_iconst (v := 4) E.1 E.2.1 dL_law_210 rfl ?_
        refine lv_iadd E.1 E.2.1 dL_law_211 ?_
        obtain ⟨b7, hf⟩ := q_if hf
        refine va_sld E.1 E.2.1 hX hbl hbA w.2.2.2.2.2 b7 dL_law_212 ?_
        refine lv_aload_n E.1 E.2.1 dL_law_213 rfl (lv_at hl 0 rfl) ?_
        refine lv_iload_n E.1 E.2.1 dL_law_214 rfl (lv_at hl 3 rfl) ?_
        refine lv_iconst (v := 5) E.1 E.2.1 dL_law_215 rfl ?_
        refine lv_iadd E.1 E.2.1 dL_law_216 ?_
        obtain ⟨b8, hf⟩ := q_if hf
        refine va_sld E.1 E.2.1 hX hbl hbA w.2.2.2.2.2 b8 dL_law_217 ?_
        obtain ⟨r10, h11, hc9, hf⟩ := bd2_e hf
        refine k_Vi (As := [.int (xs (v3 + 1).toNatClampNeg), .int (xs (v3 + 2).toNatClampNeg), .int (xs (v3 + 3).toNatClampNeg), .int (xs (v3 + 4).toNatClampNeg), .int (xs (v3 + 5).toNatClampNeg)]) (rest := []) E w g1 ⟨by decide, rfl⟩ (X10_feed_c g1 hc9) mv_R_law_13 rfl rfl hl.1 ⟨Nat.le_of_ble_eq_true rfl, Nat.le_of_ble_eq_true rfl⟩ (Nat.le_of_ble_eq_true rfl) ⟨Nat.le_of_ble_eq_true rfl, Nat.le_of_ble_eq_true rfl⟩ dL_law_218 (fun H locs w => ?_)
        refine lv_aload_n E.1 E.2.1 dL_law_221 rfl (lv_at hl 2 rfl) ?_
        refine lv_aload_n E.1 E.2.1 dL_law_222 rfl (lv_at hl 0 rfl) ?_
        refine lv_iload_n E.1 E.2.1 dL_law_223 rfl (lv_at hl 3 rfl) ?_
        refine lv_iconst (v := 1) E.1 E.2.1 dL_law_224 rfl ?_
        refine lv_iadd E.1 E.2.1 dL_law_225 ?_
        obtain ⟨b12, hf⟩ := q_if hf
        refine va_sld E.1 E.2.1 hX hbl hbA w.2.2.2.2.2 b12 dL_law_226 ?_
        refine lv_aload_n E.1 E.2.1 dL_law_227 rfl (lv_at hl 0 rfl) ?_
        refine lv_iload_n E.1 E.2.1 dL_law_228 rfl (lv_at hl 3 rfl) ?_
        refine lv_iconst (v := 2) E.1 E.2.1 dL_law_229 rfl ?_
        refine lv_iadd E.1 E.2.1 dL_law_230 ?_
        obtain ⟨b13, hf⟩ := q_if hf
        refine va_sld E.1 E.2.1 hX hbl hbA w.2.2.2.2.2 b13 dL_law_231 ?_
        refine lv_aload_n E.1 E.2.1 dL_law_232 rfl (lv_at hl 0 rfl) ?_
        refine lv_iload_n E.1 E.2.1 dL_law_233 rfl (lv_at hl 3 rfl) ?_
        refine lv_iconst (v := 3) E.1 E.2.1 dL_law_234 rfl ?_
        refine lv_iadd E.1 E.2.1 dL_law_235 ?_
        obtain ⟨b14, hf⟩ := q_if hf
        refine va_sld E.1 E.2.1 hX hbl hbA w.2.2.2.2.2 b14 dL_law_236 ?_
        refine lv_aload_n E.1 E.2.1 dL_law_237 rfl (lv_at hl 0 rfl) ?_
        refine lv_iload_n E.1 E.2.1 dL_law_238 rfl (lv_at hl 3 rfl) ?_
        refine lv_iconst (v := 4) E.1 E.2.1 dL_law_239 rfl ?_
        refine lv_iadd E.1 E.2.1 dL_law_240 ?_
        obtain ⟨b15, hf⟩ := q_if hf
        refine va_sld E.1 E.2.1 hX hbl hbA w.2.2.2.2.2 b15 dL_law_241 ?_
        refine lv_aload_n E.1 E.2.1 dL_law_242 rfl (lv_at hl 0 rfl) ?_
        refine lv_iload_n E.1 E.2.1 dL_law_243 rfl (lv_at hl 3 rfl) ?_
        refine lv_iconst (v := 5) E.1 E.2.1 dL_law_244 rfl ?_
        refine lv_iadd E.1 E.2.1 dL_law_245 ?_
        obtain ⟨b16, hf⟩ := q_if hf
        refine va_sld E.1 E.2.1 hX hbl hbA w.2.2.2.2.2 b16 dL_law_246 ?_
        obtain ⟨r18, h19, hc17, hf⟩ := bd2_e hf
        refine k_Vi (As := [.int (xs (v3 + 1).toNatClampNeg), .int (xs (v3 + 2).toNatClampNeg), .int (xs (v3 + 3).toNatClampNeg), .int (xs (v3 + 4).toNatClampNeg), .int (xs (v3 + 5).toNatClampNeg)]) (rest := [.int r10]) E w g2 ⟨by decide, rfl⟩ (X11_feed_c g2 hc17) mv_R_law_17 rfl rfl hl.1 ⟨Nat.le_of_ble_eq_true rfl, Nat.le_of_ble_eq_true rfl⟩ (Nat.le_of_ble_eq_true rfl) ⟨Nat.le_of_ble_eq_true rfl, Nat.le_of_ble_eq_true rfl⟩ dL_law_247 (fun H locs w => ?_)
        refine lv_icmp_eq (tgt := 1644) E.1 E.2.1 dL_law_250 (by decide) (fun c20 => ?_) (fun c20 => ?_)
        · have hf := q_pos c20 hf
          refine lv_iinc (v := v3 + 6) (lv' := [(3, .int (v3 + 6)), (0, .ref bs), (1, .ref (ad G 1)), (2, .ref (ad G 237))]) E.1 E.2.1 dL_law_1644 hl (k := 3) rfl rfl (by decide) rfl (fun ls hl => ?_)
          refine lv_goto (tgt := 18) E.1 E.2.1 dL_law_1647 (by decide) ?_
          exact ih _ _ _ _ _ hf w (lv_sub hl [1, 2, 3, 0] rfl)
        · have hf := q_neg c20 hf
          refine lv_iconst (v := 0) E.1 E.2.1 dL_law_253 rfl ?_
          cases hf
      have hf := q_neg c3 hf
      by_cases c21 : ((xs v3.toNatClampNeg) &&& 63) = 1
      · have hf := q_pos c21 hf
        refine lv_tableIn (off := 222) (tgt := 255) E.1 E.2.1 dL_law_33 (by rw [c21]; decide) (by rw [c21]; decide) (by rw [c21]; rfl) (by decide) ?_
        refine lv_aload_n E.1 E.2.1 dL_law_255 rfl (lv_at hl 1 rfl) ?_
        refine lv_aload_n E.1 E.2.1 dL_law_256 rfl (lv_at hl 0 rfl) ?_
        refine lv_iload_n E.1 E.2.1 dL_law_257 rfl (lv_at hl 3 rfl) ?_
        refine lv_iconst (v := 1) E.1 E.2.1 dL_law_258 rfl ?_
        refine lv_iadd E.1 E.2.1 dL_law_259 ?_
        obtain ⟨b22, hf⟩ := q_if hf
        refine va_sld E.1 E.2.1 hX hbl hbA w.2.2.2.2.2 b22 dL_law_260 ?_
        obtain ⟨r24, h25, hc23, hf⟩ := bd2_e hf
        refine k_Vi (As := [.int (xs (v3 + 1).toNatClampNeg)]) (rest := []) E w g1 ⟨by decide, rfl⟩ (X10_end_c g1 hc23) mv_R_law_18 rfl rfl hl.1 ⟨Nat.le_of_ble_eq_true rfl, Nat.le_of_ble_eq_true rfl⟩ (Nat.le_of_ble_eq_true rfl) ⟨Nat.le_of_ble_eq_true rfl, Nat.le_of_ble_eq_true rfl⟩ dL_law_261 (fun H locs w => ?_)
        refine lv_aload_n E.1 E.2.1 dL_law_264 rfl (lv_at hl 2 rfl) ?_
        refine lv_aload_n E.1 E.2.1 dL_law_265 rfl (lv_at hl 0 rfl) ?_
        refine lv_iload_n E.1 E.2.1 dL_law_266 rfl (lv_at hl 3 rfl) ?_
        refine lv_iconst (v := 1) E.1 E.2.1 dL_law_267 rfl ?_
        refine lv_iadd E.1 E.2.1 dL_law_268 ?_
        obtain ⟨b26, hf⟩ := q_if hf
        refine va_sld E.1 E.2.1 hX hbl hbA w.2.2.2.2.2 b26 dL_law_269 ?_
        obtain ⟨r28, h29, hc27, hf⟩ := bd2_e hf
        refine k_Vi (As := [.int (xs (v3 + 1).toNatClampNeg)]) (rest := [.int r24]) E w g2 ⟨by decide, rfl⟩ (X11_end_c g2 hc27) mv_R_law_22 rfl rfl hl.1 ⟨Nat.le_of_ble_eq_true rfl, Nat.le_of_ble_eq_true rfl⟩ (Nat.le_of_ble_eq_true rfl) ⟨Nat.le_of_ble_eq_true rfl, Nat.le_of_ble_eq_true rfl⟩ dL_law_270 (fun H locs w => ?_)
        refine lv_icmp_eq (tgt := 1644) E.1 E.2.1 dL_law_273 (by decide) (fun c30 => ?_) (fun c30 => ?_)
        · have hf := q_pos c30 hf
          refine lv_iinc (v := v3 + 6) (lv' := [(3, .int (v3 + 6)), (0, .ref bs), (1, .ref (ad G 1)), (2, .ref (ad G 237))]) E.1 E.2.1 dL_law_1644 hl (k := 3) rfl rfl (by decide) rfl (fun ls hl => ?_)
          refine lv_goto (tgt := 18) E.1 E.2.1 dL_law_1647 (by decide) ?_
          exact ih _ _ _ _ _ hf w (lv_sub hl [1, 2, 3, 0] rfl)
        · have hf := q_neg c30 hf
          refine lv_iconst (v := 0) E.1 E.2.1 dL_law_276 rfl ?_
          cases hf
      have hf := q_neg c21 hf
      by_cases c31 : ((xs v3.toNatClampNeg) &&& 63) = 2
      · have hf := q_pos c31 hf
        refine lv_tableIn (off := 245) (tgt := 278) E.1 E.2.1 dL_law_33 (by rw [c31]; decide) (by rw [c31]; decide) (by rw [c31]; rfl) (by decide) ?_
        refine lv_aload_n E.1 E.2.1 dL_law_278 rfl (lv_at hl 1 rfl) ?_
        refine lv_aload_n E.1 E.2.1 dL_law_279 rfl (lv_at hl 0 rfl) ?_
        refine lv_iload_n E.1 E.2.1 dL_law_280 rfl (lv_at hl 3 rfl) ?_
        refine lv_iconst (v := 1) E.1 E.2.1 dL_law_281 rfl ?_
        refine lv_iadd E.1 E.2.1 dL_law_282 ?_
        obtain ⟨b32, hf⟩ := q_if hf
        refine va_sld E.1 E.2.1 hX hbl hbA w.2.2.2.2.2 b32 dL_law_283 ?_
        refine lv_aload_n E.1 E.2.1 dL_law_284 rfl (lv_at hl 0 rfl) ?_
        refine lv_iload_n E.1 E.2.1 dL_law_285 rfl (lv_at hl 3 rfl) ?_
        refine lv_iconst (v := 2) E.1 E.2.1 dL_law_286 rfl ?_
        refine lv_iadd E.1 E.2.1 dL_law_287 ?_
        obtain ⟨b33, hf⟩ := q_if hf
        refine va_sld E.1 E.2.1 hX hbl hbA w.2.2.2.2.2 b33 dL_law_288 ?_
        obtain ⟨r35, h36, hc34, hf⟩ := bd2_e hf
        refine k_Vi (As := [.int (xs (v3 + 1).toNatClampNeg), .int (xs (v3 + 2).toNatClampNeg)]) (rest := []) E w g1 ⟨by decide, rfl⟩ (X10_text_c g1 hc34) mv_R_law_23 rfl rfl hl.1 ⟨Nat.le_of_ble_eq_true rfl, Nat.le_of_ble_eq_true rfl⟩ (Nat.le_of_ble_eq_true rfl) ⟨Nat.le_of_ble_eq_true rfl, Nat.le_of_ble_eq_true rfl⟩ dL_law_289 (fun H locs w => ?_)
        refine lv_aload_n E.1 E.2.1 dL_law_292 rfl (lv_at hl 2 rfl) ?_
        refine lv_aload_n E.1 E.2.1 dL_law_293 rfl (lv_at hl 0 rfl) ?_
        refine lv_iload_n E.1 E.2.1 dL_law_294 rfl (lv_at hl 3 rfl) ?_
        refine lv_iconst (v := 1) E.1 E.2.1 dL_law_295 rfl ?_
        refine lv_iadd E.1 E.2.1 dL_law_296 ?_
        obtain ⟨b37, hf⟩ := q_if hf
        refine va_sld E.1 E.2.1 hX hbl hbA w.2.2.2.2.2 b37 dL_law_297 ?_
        refine lv_aload_n E.1 E.2.1 dL_law_298 rfl (lv_at hl 0 rfl) ?_
        refine lv_iload_n E.1 E.2.1 dL_law_299 rfl (lv_at hl 3 rfl) ?_
        refine lv_iconst (v := 2) E.1 E.2.1 dL_law_300 rfl ?_
        refine lv_iadd E.1 E.2.1 dL_law_301 ?_
        obtain ⟨b38, hf⟩ := q_if hf
        refine va_sld E.1 E.2.1 hX hbl hbA w.2.2.2.2.2 b38 dL_law_302 ?_
        obtain ⟨r40, h41, hc39, hf⟩ := bd2_e hf
        refine k_Vi (As := [.int (xs (v3 + 1).toNatClampNeg), .int (xs (v3 + 2).toNatClampNeg)]) (rest := [.int r35]) E w g2 ⟨by decide, rfl⟩ (X11_text_c g2 hc39) mv_R_law_27 rfl rfl hl.1 ⟨Nat.le_of_ble_eq_true rfl, Nat.le_of_ble_eq_true rfl⟩ (Nat.le_of_ble_eq_true rfl) ⟨Nat.le_of_ble_eq_true rfl, Nat.le_of_ble_eq_true rfl⟩ dL_law_303 (fun H locs w => ?_)
        refine lv_icmp_eq (tgt := 1644) E.1 E.2.1 dL_law_306 (by decide) (fun c42 => ?_) (fun c42 => ?_)
        · have hf := q_pos c42 hf
          refine lv_iinc (v := v3 + 6) (lv' := [(3, .int (v3 + 6)), (0, .ref bs), (1, .ref (ad G 1)), (2, .ref (ad G 237))]) E.1 E.2.1 dL_law_1644 hl (k := 3) rfl rfl (by decide) rfl (fun ls hl => ?_)
          refine lv_goto (tgt := 18) E.1 E.2.1 dL_law_1647 (by decide) ?_
          exact ih _ _ _ _ _ hf w (lv_sub hl [1, 2, 3, 0] rfl)
        · have hf := q_neg c42 hf
          refine lv_iconst (v := 0) E.1 E.2.1 dL_law_309 rfl ?_
          cases hf
      have hf := q_neg c31 hf
      by_cases c43 : ((xs v3.toNatClampNeg) &&& 63) = 3
      · have hf := q_pos c43 hf
        refine lv_tableIn (off := 278) (tgt := 311) E.1 E.2.1 dL_law_33 (by rw [c43]; decide) (by rw [c43]; decide) (by rw [c43]; rfl) (by decide) ?_
        refine lv_aload_n E.1 E.2.1 dL_law_311 rfl (lv_at hl 1 rfl) ?_
        refine lv_aload_n E.1 E.2.1 dL_law_312 rfl (lv_at hl 0 rfl) ?_
        refine lv_iload_n E.1 E.2.1 dL_law_313 rfl (lv_at hl 3 rfl) ?_
        refine lv_iconst (v := 1) E.1 E.2.1 dL_law_314 rfl ?_
        refine lv_iadd E.1 E.2.1 dL_law_315 ?_
        obtain ⟨b44, hf⟩ := q_if hf
        refine va_sld E.1 E.2.1 hX hbl hbA w.2.2.2.2.2 b44 dL_law_316 ?_
        obtain ⟨r46, hc45, hf⟩ := bd1_e hf
        refine k_Vi (As := [.int (xs (v3 + 1).toNatClampNeg)]) (rest := []) E w g1 ⟨by decide, rfl⟩ (X10_fault_c g1 hc45) mv_R_law_28 rfl rfl hl.1 ⟨Nat.le_of_ble_eq_true rfl, Nat.le_of_ble_eq_true rfl⟩ (Nat.le_of_ble_eq_true rfl) ⟨Nat.le_of_ble_eq_true rfl, Nat.le_of_ble_eq_true rfl⟩ dL_law_317 (fun H locs w => ?_)
        refine lv_aload_n E.1 E.2.1 dL_law_320 rfl (lv_at hl 2 rfl) ?_
        refine lv_aload_n E.1 E.2.1 dL_law_321 rfl (lv_at hl 0 rfl) ?_
        refine lv_iload_n E.1 E.2.1 dL_law_322 rfl (lv_at hl 3 rfl) ?_
        refine lv_iconst (v := 1) E.1 E.2.1 dL_law_323 rfl ?_
        refine lv_iadd E.1 E.2.1 dL_law_324 ?_
        obtain ⟨b48, hf⟩ := q_if hf
        refine va_sld E.1 E.2.1 hX hbl hbA w.2.2.2.2.2 b48 dL_law_325 ?_
        obtain ⟨r50, hc49, hf⟩ := bd1_e hf
        refine k_Vi (As := [.int (xs (v3 + 1).toNatClampNeg)]) (rest := [.int r46]) E w g2 ⟨by decide, rfl⟩ (X11_fault_c g2 hc49) mv_R_law_31 rfl rfl hl.1 ⟨Nat.le_of_ble_eq_true rfl, Nat.le_of_ble_eq_true rfl⟩ (Nat.le_of_ble_eq_true rfl) ⟨Nat.le_of_ble_eq_true rfl, Nat.le_of_ble_eq_true rfl⟩ dL_law_326 (fun H locs w => ?_)
        refine lv_icmp_eq (tgt := 1644) E.1 E.2.1 dL_law_329 (by decide) (fun c52 => ?_) (fun c52 => ?_)
        · have hf := q_pos c52 hf
          refine lv_iinc (v := v3 + 6) (lv' := [(3, .int (v3 + 6)), (0, .ref bs), (1, .ref (ad G 1)), (2, .ref (ad G 237))]) E.1 E.2.1 dL_law_1644 hl (k := 3) rfl rfl (by decide) rfl (fun ls hl => ?_)
          refine lv_goto (tgt := 18) E.1 E.2.1 dL_law_1647 (by decide) ?_
          exact ih _ _ _ _ _ hf w (lv_sub hl [1, 2, 3, 0] rfl)
        · have hf := q_neg c52 hf
          refine lv_iconst (v := 0) E.1 E.2.1 dL_law_332 rfl ?_
          cases hf
      have hf := q_neg c43 hf
      by_cases c53 : ((xs v3.toNatClampNeg) &&& 63) = 4
      · have hf := q_pos c53 hf
        refine lv_tableIn (off := 301) (tgt := 334) E.1 E.2.1 dL_law_33 (by rw [c53]; decide) (by rw [c53]; decide) (by rw [c53]; rfl) (by decide) ?_
        refine lv_aload_n E.1 E.2.1 dL_law_334 rfl (lv_at hl 1 rfl) ?_
        refine lv_aload_n E.1 E.2.1 dL_law_335 rfl (lv_at hl 0 rfl) ?_
        refine lv_iload_n E.1 E.2.1 dL_law_336 rfl (lv_at hl 3 rfl) ?_
        refine lv_iconst (v := 1) E.1 E.2.1 dL_law_337 rfl ?_
        refine lv_iadd E.1 E.2.1 dL_law_338 ?_
        obtain ⟨b54, hf⟩ := q_if hf
        refine va_sld E.1 E.2.1 hX hbl hbA w.2.2.2.2.2 b54 dL_law_339 ?_
        refine lv_aload_n E.1 E.2.1 dL_law_340 rfl (lv_at hl 0 rfl) ?_
        refine lv_iload_n E.1 E.2.1 dL_law_341 rfl (lv_at hl 3 rfl) ?_
        refine lv_iconst (v := 2) E.1 E.2.1 dL_law_342 rfl ?_
        refine lv_iadd E.1 E.2.1 dL_law_343 ?_
        obtain ⟨b55, hf⟩ := q_if hf
        refine va_sld E.1 E.2.1 hX hbl hbA w.2.2.2.2.2 b55 dL_law_344 ?_
        obtain ⟨r57, hc56, hf⟩ := bd1_e hf
        refine k_Vi (As := [.int (xs (v3 + 1).toNatClampNeg), .int (xs (v3 + 2).toNatClampNeg)]) (rest := []) E w g1 ⟨by decide, rfl⟩ (X10_house_c g1 hc56) mv_R_law_32 rfl rfl hl.1 ⟨Nat.le_of_ble_eq_true rfl, Nat.le_of_ble_eq_true rfl⟩ (Nat.le_of_ble_eq_true rfl) ⟨Nat.le_of_ble_eq_true rfl, Nat.le_of_ble_eq_true rfl⟩ dL_law_345 (fun H locs w => ?_)
        refine lv_aload_n E.1 E.2.1 dL_law_348 rfl (lv_at hl 2 rfl) ?_
        refine lv_aload_n E.1 E.2.1 dL_law_349 rfl (lv_at hl 0 rfl) ?_
        refine lv_iload_n E.1 E.2.1 dL_law_350 rfl (lv_at hl 3 rfl) ?_
        refine lv_iconst (v := 1) E.1 E.2.1 dL_law_351 rfl ?_
        refine lv_iadd E.1 E.2.1 dL_law_352 ?_
        obtain ⟨b59, hf⟩ := q_if hf
        refine va_sld E.1 E.2.1 hX hbl hbA w.2.2.2.2.2 b59 dL_law_353 ?_
        refine lv_aload_n E.1 E.2.1 dL_law_354 rfl (lv_at hl 0 rfl) ?_
        refine lv_iload_n E.1 E.2.1 dL_law_355 rfl (lv_at hl 3 rfl) ?_
        refine lv_iconst (v := 2) E.1 E.2.1 dL_law_356 rfl ?_
        refine lv_iadd E.1 E.2.1 dL_law_357 ?_
        obtain ⟨b60, hf⟩ := q_if hf
        refine va_sld E.1 E.2.1 hX hbl hbA w.2.2.2.2.2 b60 dL_law_358 ?_
        obtain ⟨r62, h63, hc61, hf⟩ := bd2_e hf
        refine k_Vi (As := [.int (xs (v3 + 1).toNatClampNeg), .int (xs (v3 + 2).toNatClampNeg)]) (rest := [.int r57]) E w g2 ⟨by decide, rfl⟩ (X11_house_c g2 hc61) mv_R_law_35 rfl rfl hl.1 ⟨Nat.le_of_ble_eq_true rfl, Nat.le_of_ble_eq_true rfl⟩ (Nat.le_of_ble_eq_true rfl) ⟨Nat.le_of_ble_eq_true rfl, Nat.le_of_ble_eq_true rfl⟩ dL_law_359 (fun H locs w => ?_)
        refine lv_icmp_eq (tgt := 1644) E.1 E.2.1 dL_law_362 (by decide) (fun c64 => ?_) (fun c64 => ?_)
        · have hf := q_pos c64 hf
          refine lv_iinc (v := v3 + 6) (lv' := [(3, .int (v3 + 6)), (0, .ref bs), (1, .ref (ad G 1)), (2, .ref (ad G 237))]) E.1 E.2.1 dL_law_1644 hl (k := 3) rfl rfl (by decide) rfl (fun ls hl => ?_)
          refine lv_goto (tgt := 18) E.1 E.2.1 dL_law_1647 (by decide) ?_
          exact ih _ _ _ _ _ hf w (lv_sub hl [1, 2, 3, 0] rfl)
        · have hf := q_neg c64 hf
          refine lv_iconst (v := 0) E.1 E.2.1 dL_law_365 rfl ?_
          cases hf
      have hf := q_neg c53 hf
      by_cases c65 : ((xs v3.toNatClampNeg) &&& 63) = 5
      · have hf := q_pos c65 hf
        refine lv_tableIn (off := 334) (tgt := 367) E.1 E.2.1 dL_law_33 (by rw [c65]; decide) (by rw [c65]; decide) (by rw [c65]; rfl) (by decide) ?_
        refine lv_aload_n E.1 E.2.1 dL_law_367 rfl (lv_at hl 1 rfl) ?_
        refine lv_aload_n E.1 E.2.1 dL_law_368 rfl (lv_at hl 0 rfl) ?_
        refine lv_iload_n E.1 E.2.1 dL_law_369 rfl (lv_at hl 3 rfl) ?_
        refine lv_iconst (v := 1) E.1 E.2.1 dL_law_370 rfl ?_
        refine lv_iadd E.1 E.2.1 dL_law_371 ?_
        obtain ⟨b66, hf⟩ := q_if hf
        refine va_sld E.1 E.2.1 hX hbl hbA w.2.2.2.2.2 b66 dL_law_372 ?_
        refine lv_aload_n E.1 E.2.1 dL_law_373 rfl (lv_at hl 0 rfl) ?_
        refine lv_iload_n E.1 E.2.1 dL_law_374 rfl (lv_at hl 3 rfl) ?_
        refine lv_iconst (v := 2) E.1 E.2.1 dL_law_375 rfl ?_
        refine lv_iadd E.1 E.2.1 dL_law_376 ?_
        obtain ⟨b67, hf⟩ := q_if hf
        refine va_sld E.1 E.2.1 hX hbl hbA w.2.2.2.2.2 b67 dL_law_377 ?_
        refine lv_aload_n E.1 E.2.1 dL_law_378 rfl (lv_at hl 0 rfl) ?_
        refine lv_iload_n E.1 E.2.1 dL_law_379 rfl (lv_at hl 3 rfl) ?_
        refine lv_iconst (v := 3) E.1 E.2.1 dL_law_380 rfl ?_
        refine lv_iadd E.1 E.2.1 dL_law_381 ?_
        obtain ⟨b68, hf⟩ := q_if hf
        refine va_sld E.1 E.2.1 hX hbl hbA w.2.2.2.2.2 b68 dL_law_382 ?_
        obtain ⟨r70, hc69, hf⟩ := bd1_e hf
        refine k_Vi (As := [.int (xs (v3 + 1).toNatClampNeg), .int (xs (v3 + 2).toNatClampNeg), .int (xs (v3 + 3).toNatClampNeg)]) (rest := []) E w g1 ⟨by decide, rfl⟩ (X10_deed_c g1 hc69) mv_R_law_36 rfl rfl hl.1 ⟨Nat.le_of_ble_eq_true rfl, Nat.le_of_ble_eq_true rfl⟩ (Nat.le_of_ble_eq_true rfl) ⟨Nat.le_of_ble_eq_true rfl, Nat.le_of_ble_eq_true rfl⟩ dL_law_383 (fun H locs w => ?_)
        refine lv_aload_n E.1 E.2.1 dL_law_386 rfl (lv_at hl 2 rfl) ?_
        refine lv_aload_n E.1 E.2.1 dL_law_387 rfl (lv_at hl 0 rfl) ?_
        refine lv_iload_n E.1 E.2.1 dL_law_388 rfl (lv_at hl 3 rfl) ?_
        refine lv_iconst (v := 1) E.1 E.2.1 dL_law_389 rfl ?_
        refine lv_iadd E.1 E.2.1 dL_law_390 ?_
        obtain ⟨b72, hf⟩ := q_if hf
        refine va_sld E.1 E.2.1 hX hbl hbA w.2.2.2.2.2 b72 dL_law_391 ?_
        refine lv_aload_n E.1 E.2.1 dL_law_392 rfl (lv_at hl 0 rfl) ?_
        refine lv_iload_n E.1 E.2.1 dL_law_393 rfl (lv_at hl 3 rfl) ?_
        refine lv_iconst (v := 2) E.1 E.2.1 dL_law_394 rfl ?_
        refine lv_iadd E.1 E.2.1 dL_law_395 ?_
        obtain ⟨b73, hf⟩ := q_if hf
        refine va_sld E.1 E.2.1 hX hbl hbA w.2.2.2.2.2 b73 dL_law_396 ?_
        refine lv_aload_n E.1 E.2.1 dL_law_397 rfl (lv_at hl 0 rfl) ?_
        refine lv_iload_n E.1 E.2.1 dL_law_398 rfl (lv_at hl 3 rfl) ?_
        refine lv_iconst (v := 3) E.1 E.2.1 dL_law_399 rfl ?_
        refine lv_iadd E.1 E.2.1 dL_law_400 ?_
        obtain ⟨b74, hf⟩ := q_if hf
        refine va_sld E.1 E.2.1 hX hbl hbA w.2.2.2.2.2 b74 dL_law_401 ?_
        obtain ⟨r76, h77, hc75, hf⟩ := bd2_e hf
        refine k_Vi (As := [.int (xs (v3 + 1).toNatClampNeg), .int (xs (v3 + 2).toNatClampNeg), .int (xs (v3 + 3).toNatClampNeg)]) (rest := [.int r70]) E w g2 ⟨by decide, rfl⟩ (X11_deed_c g2 hc75) mv_R_law_40 rfl rfl hl.1 ⟨Nat.le_of_ble_eq_true rfl, Nat.le_of_ble_eq_true rfl⟩ (Nat.le_of_ble_eq_true rfl) ⟨Nat.le_of_ble_eq_true rfl, Nat.le_of_ble_eq_true rfl⟩ dL_law_402 (fun H locs w => ?_)
        refine lv_icmp_eq (tgt := 1644) E.1 E.2.1 dL_law_405 (by decide) (fun c78 => ?_) (fun c78 => ?_)
        · have hf := q_pos c78 hf
          refine lv_iinc (v := v3 + 6) (lv' := [(3, .int (v3 + 6)), (0, .ref bs), (1, .ref (ad G 1)), (2, .ref (ad G 237))]) E.1 E.2.1 dL_law_1644 hl (k := 3) rfl rfl (by decide) rfl (fun ls hl => ?_)
          refine lv_goto (tgt := 18) E.1 E.2.1 dL_law_1647 (by decide) ?_
          exact ih _ _ _ _ _ hf w (lv_sub hl [1, 2, 3, 0] rfl)
        · have hf := q_neg c78 hf
          refine lv_iconst (v := 0) E.1 E.2.1 dL_law_408 rfl ?_
          cases hf
      have hf := q_neg c65 hf
      by_cases c79 : ((xs v3.toNatClampNeg) &&& 63) = 6
      · have hf := q_pos c79 hf
        refine lv_tableIn (off := 377) (tgt := 410) E.1 E.2.1 dL_law_33 (by rw [c79]; decide) (by rw [c79]; decide) (by rw [c79]; rfl) (by decide) ?_
        refine lv_aload_n E.1 E.2.1 dL_law_410 rfl (lv_at hl 1 rfl) ?_
        refine lv_aload_n E.1 E.2.1 dL_law_411 rfl (lv_at hl 0 rfl) ?_
        refine lv_iload_n E.1 E.2.1 dL_law_412 rfl (lv_at hl 3 rfl) ?_
        refine lv_iconst (v := 1) E.1 E.2.1 dL_law_413 rfl ?_
        refine lv_iadd E.1 E.2.1 dL_law_414 ?_
        obtain ⟨b80, hf⟩ := q_if hf
        refine va_sld E.1 E.2.1 hX hbl hbA w.2.2.2.2.2 b80 dL_law_415 ?_
        refine lv_aload_n E.1 E.2.1 dL_law_416 rfl (lv_at hl 0 rfl) ?_
        refine lv_iload_n E.1 E.2.1 dL_law_417 rfl (lv_at hl 3 rfl) ?_
        refine lv_iconst (v := 2) E.1 E.2.1 dL_law_418 rfl ?_
        refine lv_iadd E.1 E.2.1 dL_law_419 ?_
        obtain ⟨b81, hf⟩ := q_if hf
        refine va_sld E.1 E.2.1 hX hbl hbA w.2.2.2.2.2 b81 dL_law_420 ?_
        obtain ⟨r83, h84, hc82, hf⟩ := bd2_e hf
        refine k_Vi (As := [.int (xs (v3 + 1).toNatClampNeg), .int (xs (v3 + 2).toNatClampNeg)]) (rest := []) E w g1 ⟨by decide, rfl⟩ (X10_stop_c g1 hc82) mv_R_law_41 rfl rfl hl.1 ⟨Nat.le_of_ble_eq_true rfl, Nat.le_of_ble_eq_true rfl⟩ (Nat.le_of_ble_eq_true rfl) ⟨Nat.le_of_ble_eq_true rfl, Nat.le_of_ble_eq_true rfl⟩ dL_law_421 (fun H locs w => ?_)
        refine lv_aload_n E.1 E.2.1 dL_law_424 rfl (lv_at hl 2 rfl) ?_
        refine lv_aload_n E.1 E.2.1 dL_law_425 rfl (lv_at hl 0 rfl) ?_
        refine lv_iload_n E.1 E.2.1 dL_law_426 rfl (lv_at hl 3 rfl) ?_
        refine lv_iconst (v := 1) E.1 E.2.1 dL_law_427 rfl ?_
        refine lv_iadd E.1 E.2.1 dL_law_428 ?_
        obtain ⟨b85, hf⟩ := q_if hf
        refine va_sld E.1 E.2.1 hX hbl hbA w.2.2.2.2.2 b85 dL_law_429 ?_
        refine lv_aload_n E.1 E.2.1 dL_law_430 rfl (lv_at hl 0 rfl) ?_
        refine lv_iload_n E.1 E.2.1 dL_law_431 rfl (lv_at hl 3 rfl) ?_
        refine lv_iconst (v := 2) E.1 E.2.1 dL_law_432 rfl ?_
        refine lv_iadd E.1 E.2.1 dL_law_433 ?_
        obtain ⟨b86, hf⟩ := q_if hf
        refine va_sld E.1 E.2.1 hX hbl hbA w.2.2.2.2.2 b86 dL_law_434 ?_
        obtain ⟨r88, h89, hc87, hf⟩ := bd2_e hf
        refine k_Vi (As := [.int (xs (v3 + 1).toNatClampNeg), .int (xs (v3 + 2).toNatClampNeg)]) (rest := [.int r83]) E w g2 ⟨by decide, rfl⟩ (X11_stop_c g2 hc87) mv_R_law_44 rfl rfl hl.1 ⟨Nat.le_of_ble_eq_true rfl, Nat.le_of_ble_eq_true rfl⟩ (Nat.le_of_ble_eq_true rfl) ⟨Nat.le_of_ble_eq_true rfl, Nat.le_of_ble_eq_true rfl⟩ dL_law_435 (fun H locs w => ?_)
        refine lv_icmp_eq (tgt := 1644) E.1 E.2.1 dL_law_438 (by decide) (fun c90 => ?_) (fun c90 => ?_)
        · have hf := q_pos c90 hf
          refine lv_iinc (v := v3 + 6) (lv' := [(3, .int (v3 + 6)), (0, .ref bs), (1, .ref (ad G 1)), (2, .ref (ad G 237))]) E.1 E.2.1 dL_law_1644 hl (k := 3) rfl rfl (by decide) rfl (fun ls hl => ?_)
          refine lv_goto (tgt := 18) E.1 E.2.1 dL_law_1647 (by decide) ?_
          exact ih _ _ _ _ _ hf w (lv_sub hl [1, 2, 3, 0] rfl)
        · have hf := q_neg c90 hf
          refine lv_iconst (v := 0) E.1 E.2.1 dL_law_441 rfl ?_
          cases hf
      have hf := q_neg c79 hf
      by_cases c91 : ((xs v3.toNatClampNeg) &&& 63) = 7
      · have hf := q_pos c91 hf
        refine lv_tableIn (off := 410) (tgt := 443) E.1 E.2.1 dL_law_33 (by rw [c91]; decide) (by rw [c91]; decide) (by rw [c91]; rfl) (by decide) ?_
        refine lv_aload_n E.1 E.2.1 dL_law_443 rfl (lv_at hl 1 rfl) ?_
        refine lv_aload_n E.1 E.2.1 dL_law_444 rfl (lv_at hl 0 rfl) ?_
        refine lv_iload_n E.1 E.2.1 dL_law_445 rfl (lv_at hl 3 rfl) ?_
        refine lv_iconst (v := 1) E.1 E.2.1 dL_law_446 rfl ?_
        refine lv_iadd E.1 E.2.1 dL_law_447 ?_
        obtain ⟨b92, hf⟩ := q_if hf
        refine va_sld E.1 E.2.1 hX hbl hbA w.2.2.2.2.2 b92 dL_law_448 ?_
        refine lv_aload_n E.1 E.2.1 dL_law_449 rfl (lv_at hl 0 rfl) ?_
        refine lv_iload_n E.1 E.2.1 dL_law_450 rfl (lv_at hl 3 rfl) ?_
        refine lv_iconst (v := 2) E.1 E.2.1 dL_law_451 rfl ?_
        refine lv_iadd E.1 E.2.1 dL_law_452 ?_
        obtain ⟨b93, hf⟩ := q_if hf
        refine va_sld E.1 E.2.1 hX hbl hbA w.2.2.2.2.2 b93 dL_law_453 ?_
        refine lv_aload_n E.1 E.2.1 dL_law_454 rfl (lv_at hl 0 rfl) ?_
        refine lv_iload_n E.1 E.2.1 dL_law_455 rfl (lv_at hl 3 rfl) ?_
        refine lv_iconst (v := 3) E.1 E.2.1 dL_law_456 rfl ?_
        refine lv_iadd E.1 E.2.1 dL_law_457 ?_
        obtain ⟨b94, hf⟩ := q_if hf
        refine va_sld E.1 E.2.1 hX hbl hbA w.2.2.2.2.2 b94 dL_law_458 ?_
        refine lv_aload_n E.1 E.2.1 dL_law_459 rfl (lv_at hl 0 rfl) ?_
        refine lv_iload_n E.1 E.2.1 dL_law_460 rfl (lv_at hl 3 rfl) ?_
        refine lv_iconst (v := 4) E.1 E.2.1 dL_law_461 rfl ?_
        refine lv_iadd E.1 E.2.1 dL_law_462 ?_
        obtain ⟨b95, hf⟩ := q_if hf
        refine va_sld E.1 E.2.1 hX hbl hbA w.2.2.2.2.2 b95 dL_law_463 ?_
        obtain ⟨r97, h98, hc96, hf⟩ := bd2_e hf
        refine k_Vi (As := [.int (xs (v3 + 1).toNatClampNeg), .int (xs (v3 + 2).toNatClampNeg), .int (xs (v3 + 3).toNatClampNeg), .int (xs (v3 + 4).toNatClampNeg)]) (rest := []) E w g1 ⟨by decide, rfl⟩ (X10_state_c g1 hc96) mv_R_law_45 rfl rfl hl.1 ⟨Nat.le_of_ble_eq_true rfl, Nat.le_of_ble_eq_true rfl⟩ (Nat.le_of_ble_eq_true rfl) ⟨Nat.le_of_ble_eq_true rfl, Nat.le_of_ble_eq_true rfl⟩ dL_law_464 (fun H locs w => ?_)
        refine lv_aload_n E.1 E.2.1 dL_law_467 rfl (lv_at hl 2 rfl) ?_
        refine lv_aload_n E.1 E.2.1 dL_law_468 rfl (lv_at hl 0 rfl) ?_
        refine lv_iload_n E.1 E.2.1 dL_law_469 rfl (lv_at hl 3 rfl) ?_
        refine lv_iconst (v := 1) E.1 E.2.1 dL_law_470 rfl ?_
        refine lv_iadd E.1 E.2.1 dL_law_471 ?_
        obtain ⟨b99, hf⟩ := q_if hf
        refine va_sld E.1 E.2.1 hX hbl hbA w.2.2.2.2.2 b99 dL_law_472 ?_
        refine lv_aload_n E.1 E.2.1 dL_law_473 rfl (lv_at hl 0 rfl) ?_
        refine lv_iload_n E.1 E.2.1 dL_law_474 rfl (lv_at hl 3 rfl) ?_
        refine lv_iconst (v := 2) E.1 E.2.1 dL_law_475 rfl ?_
        refine lv_iadd E.1 E.2.1 dL_law_476 ?_
        obtain ⟨b100, hf⟩ := q_if hf
        refine va_sld E.1 E.2.1 hX hbl hbA w.2.2.2.2.2 b100 dL_law_477 ?_
        refine lv_aload_n E.1 E.2.1 dL_law_478 rfl (lv_at hl 0 rfl) ?_
        refine lv_iload_n E.1 E.2.1 dL_law_479 rfl (lv_at hl 3 rfl) ?_
        refine lv_iconst (v := 3) E.1 E.2.1 dL_law_480 rfl ?_
        refine lv_iadd E.1 E.2.1 dL_law_481 ?_
        obtain ⟨b101, hf⟩ := q_if hf
        refine va_sld E.1 E.2.1 hX hbl hbA w.2.2.2.2.2 b101 dL_law_482 ?_
        refine lv_aload_n E.1 E.2.1 dL_law_483 rfl (lv_at hl 0 rfl) ?_
        refine lv_iload_n E.1 E.2.1 dL_law_484 rfl (lv_at hl 3 rfl) ?_
        refine lv_iconst (v := 4) E.1 E.2.1 dL_law_485 rfl ?_
        refine lv_iadd E.1 E.2.1 dL_law_486 ?_
        obtain ⟨b102, hf⟩ := q_if hf
        refine va_sld E.1 E.2.1 hX hbl hbA w.2.2.2.2.2 b102 dL_law_487 ?_
        obtain ⟨r104, h105, hc103, hf⟩ := bd2_e hf
        refine k_Vi (As := [.int (xs (v3 + 1).toNatClampNeg), .int (xs (v3 + 2).toNatClampNeg), .int (xs (v3 + 3).toNatClampNeg), .int (xs (v3 + 4).toNatClampNeg)]) (rest := [.int r97]) E w g2 ⟨by decide, rfl⟩ (X11_state_c g2 hc103) mv_R_law_49 rfl rfl hl.1 ⟨Nat.le_of_ble_eq_true rfl, Nat.le_of_ble_eq_true rfl⟩ (Nat.le_of_ble_eq_true rfl) ⟨Nat.le_of_ble_eq_true rfl, Nat.le_of_ble_eq_true rfl⟩ dL_law_488 (fun H locs w => ?_)
        refine lv_icmp_eq (tgt := 1644) E.1 E.2.1 dL_law_491 (by decide) (fun c106 => ?_) (fun c106 => ?_)
        · have hf := q_pos c106 hf
          refine lv_iinc (v := v3 + 6) (lv' := [(3, .int (v3 + 6)), (0, .ref bs), (1, .ref (ad G 1)), (2, .ref (ad G 237))]) E.1 E.2.1 dL_law_1644 hl (k := 3) rfl rfl (by decide) rfl (fun ls hl => ?_)
          refine lv_goto (tgt := 18) E.1 E.2.1 dL_law_1647 (by decide) ?_
          exact ih _ _ _ _ _ hf w (lv_sub hl [1, 2, 3, 0] rfl)
        · have hf := q_neg c106 hf
          refine lv_iconst (v := 0) E.1 E.2.1 dL_law_494 rfl ?_
          cases hf
      have hf := q_neg c91 hf
      by_cases c107 : ((xs v3.toNatClampNeg) &&& 63) = 8
      · have hf := q_pos c107 hf
        refine lv_tableIn (off := 463) (tgt := 496) E.1 E.2.1 dL_law_33 (by rw [c107]; decide) (by rw [c107]; decide) (by rw [c107]; rfl) (by decide) ?_
        refine lv_aload_n E.1 E.2.1 dL_law_496 rfl (lv_at hl 1 rfl) ?_
        refine lv_aload_n E.1 E.2.1 dL_law_497 rfl (lv_at hl 0 rfl) ?_
        refine lv_iload_n E.1 E.2.1 dL_law_498 rfl (lv_at hl 3 rfl) ?_
        refine lv_iconst (v := 1) E.1 E.2.1 dL_law_499 rfl ?_
        refine lv_iadd E.1 E.2.1 dL_law_500 ?_
        obtain ⟨b108, hf⟩ := q_if hf
        refine va_sld E.1 E.2.1 hX hbl hbA w.2.2.2.2.2 b108 dL_law_501 ?_
        refine lv_aload_n E.1 E.2.1 dL_law_502 rfl (lv_at hl 0 rfl) ?_
        refine lv_iload_n E.1 E.2.1 dL_law_503 rfl (lv_at hl 3 rfl) ?_
        refine lv_iconst (v := 2) E.1 E.2.1 dL_law_504 rfl ?_
        refine lv_iadd E.1 E.2.1 dL_law_505 ?_
        obtain ⟨b109, hf⟩ := q_if hf
        refine va_sld E.1 E.2.1 hX hbl hbA w.2.2.2.2.2 b109 dL_law_506 ?_
        obtain ⟨r111, h112, hc110, hf⟩ := bd2_e hf
        refine k_Vi (As := [.int (xs (v3 + 1).toNatClampNeg), .int (xs (v3 + 2).toNatClampNeg)]) (rest := []) E w g1 ⟨by decide, rfl⟩ (X10_rota_c g1 hc110) mv_R_law_50 rfl rfl hl.1 ⟨Nat.le_of_ble_eq_true rfl, Nat.le_of_ble_eq_true rfl⟩ (Nat.le_of_ble_eq_true rfl) ⟨Nat.le_of_ble_eq_true rfl, Nat.le_of_ble_eq_true rfl⟩ dL_law_507 (fun H locs w => ?_)
        refine lv_aload_n E.1 E.2.1 dL_law_510 rfl (lv_at hl 2 rfl) ?_
        refine lv_aload_n E.1 E.2.1 dL_law_511 rfl (lv_at hl 0 rfl) ?_
        refine lv_iload_n E.1 E.2.1 dL_law_512 rfl (lv_at hl 3 rfl) ?_
        refine lv_iconst (v := 1) E.1 E.2.1 dL_law_513 rfl ?_
        refine lv_iadd E.1 E.2.1 dL_law_514 ?_
        obtain ⟨b113, hf⟩ := q_if hf
        refine va_sld E.1 E.2.1 hX hbl hbA w.2.2.2.2.2 b113 dL_law_515 ?_
        refine lv_aload_n E.1 E.2.1 dL_law_516 rfl (lv_at hl 0 rfl) ?_
        refine lv_iload_n E.1 E.2.1 dL_law_517 rfl (lv_at hl 3 rfl) ?_
        refine lv_iconst (v := 2) E.1 E.2.1 dL_law_518 rfl ?_
        refine lv_iadd E.1 E.2.1 dL_law_519 ?_
        obtain ⟨b114, hf⟩ := q_if hf
        refine va_sld E.1 E.2.1 hX hbl hbA w.2.2.2.2.2 b114 dL_law_520 ?_
        obtain ⟨r116, h117, hc115, hf⟩ := bd2_e hf
        refine k_Vi (As := [.int (xs (v3 + 1).toNatClampNeg), .int (xs (v3 + 2).toNatClampNeg)]) (rest := [.int r111]) E w g2 ⟨by decide, rfl⟩ (X11_rota_c g2 hc115) mv_R_law_53 rfl rfl hl.1 ⟨Nat.le_of_ble_eq_true rfl, Nat.le_of_ble_eq_true rfl⟩ (Nat.le_of_ble_eq_true rfl) ⟨Nat.le_of_ble_eq_true rfl, Nat.le_of_ble_eq_true rfl⟩ dL_law_521 (fun H locs w => ?_)
        refine lv_icmp_eq (tgt := 1644) E.1 E.2.1 dL_law_524 (by decide) (fun c118 => ?_) (fun c118 => ?_)
        · have hf := q_pos c118 hf
          refine lv_iinc (v := v3 + 6) (lv' := [(3, .int (v3 + 6)), (0, .ref bs), (1, .ref (ad G 1)), (2, .ref (ad G 237))]) E.1 E.2.1 dL_law_1644 hl (k := 3) rfl rfl (by decide) rfl (fun ls hl => ?_)
          refine lv_goto (tgt := 18) E.1 E.2.1 dL_law_1647 (by decide) ?_
          exact ih _ _ _ _ _ hf w (lv_sub hl [1, 2, 3, 0] rfl)
        · have hf := q_neg c118 hf
          refine lv_iconst (v := 0) E.1 E.2.1 dL_law_527 rfl ?_
          cases hf
      have hf := q_neg c107 hf
      by_cases c119 : ((xs v3.toNatClampNeg) &&& 63) = 9
      · have hf := q_pos c119 hf
        refine lv_tableIn (off := 496) (tgt := 529) E.1 E.2.1 dL_law_33 (by rw [c119]; decide) (by rw [c119]; decide) (by rw [c119]; rfl) (by decide) ?_
        refine lv_aload_n E.1 E.2.1 dL_law_529 rfl (lv_at hl 1 rfl) ?_
        refine lv_aload_n E.1 E.2.1 dL_law_530 rfl (lv_at hl 0 rfl) ?_
        refine lv_iload_n E.1 E.2.1 dL_law_531 rfl (lv_at hl 3 rfl) ?_
        refine lv_iconst (v := 1) E.1 E.2.1 dL_law_532 rfl ?_
        refine lv_iadd E.1 E.2.1 dL_law_533 ?_
        obtain ⟨b120, hf⟩ := q_if hf
        refine va_sld E.1 E.2.1 hX hbl hbA w.2.2.2.2.2 b120 dL_law_534 ?_
        refine lv_aload_n E.1 E.2.1 dL_law_535 rfl (lv_at hl 0 rfl) ?_
        refine lv_iload_n E.1 E.2.1 dL_law_536 rfl (lv_at hl 3 rfl) ?_
        refine lv_iconst (v := 2) E.1 E.2.1 dL_law_537 rfl ?_
        refine lv_iadd E.1 E.2.1 dL_law_538 ?_
        obtain ⟨b121, hf⟩ := q_if hf
        refine va_sld E.1 E.2.1 hX hbl hbA w.2.2.2.2.2 b121 dL_law_539 ?_
        refine lv_if_eq (tgt := 547) E.1 E.2.1 dL_law_540 (by decide) (fun c122 => ?_) (fun c122 => ?_)
        · have hf := q_pos c122 hf
          refine lv_iconst (v := 0) E.1 E.2.1 dL_law_547 rfl ?_
          obtain ⟨r124, h125, hc123, hf⟩ := bd2_e hf
          refine k_Vi (As := [.int (xs (v3 + 1).toNatClampNeg), .int 0]) (rest := []) E w g1 ⟨by decide, rfl⟩ (X10_few_c g1 hc123) mv_R_law_54 rfl rfl hl.1 ⟨Nat.le_of_ble_eq_true rfl, Nat.le_of_ble_eq_true rfl⟩ (Nat.le_of_ble_eq_true rfl) ⟨Nat.le_of_ble_eq_true rfl, Nat.le_of_ble_eq_true rfl⟩ dL_law_548 (fun H locs w => ?_)
          refine lv_aload_n E.1 E.2.1 dL_law_551 rfl (lv_at hl 2 rfl) ?_
          refine lv_aload_n E.1 E.2.1 dL_law_552 rfl (lv_at hl 0 rfl) ?_
          refine lv_iload_n E.1 E.2.1 dL_law_553 rfl (lv_at hl 3 rfl) ?_
          refine lv_iconst (v := 1) E.1 E.2.1 dL_law_554 rfl ?_
          refine lv_iadd E.1 E.2.1 dL_law_555 ?_
          obtain ⟨b126, hf⟩ := q_if hf
          refine va_sld E.1 E.2.1 hX hbl hbA w.2.2.2.2.2 b126 dL_law_556 ?_
          refine lv_aload_n E.1 E.2.1 dL_law_557 rfl (lv_at hl 0 rfl) ?_
          refine lv_iload_n E.1 E.2.1 dL_law_558 rfl (lv_at hl 3 rfl) ?_
          refine lv_iconst (v := 2) E.1 E.2.1 dL_law_559 rfl ?_
          refine lv_iadd E.1 E.2.1 dL_law_560 ?_
          obtain ⟨b127, hf⟩ := q_if hf
          refine va_sld E.1 E.2.1 hX hbl hbA w.2.2.2.2.2 b127 dL_law_561 ?_
          refine lv_if_eq (tgt := 569) E.1 E.2.1 dL_law_562 (by decide) (fun c128 => ?_) (fun c128 => ?_)
          · have hf := q_pos c128 hf
            refine lv_iconst (v := 0) E.1 E.2.1 dL_law_569 rfl ?_
            obtain ⟨r130, h131, hc129, hf⟩ := bd2_e hf
            refine k_Vi (As := [.int (xs (v3 + 1).toNatClampNeg), .int 0]) (rest := [.int r124]) E w g2 ⟨by decide, rfl⟩ (X11_few_c g2 hc129) mv_R_law_58 rfl rfl hl.1 ⟨Nat.le_of_ble_eq_true rfl, Nat.le_of_ble_eq_true rfl⟩ (Nat.le_of_ble_eq_true rfl) ⟨Nat.le_of_ble_eq_true rfl, Nat.le_of_ble_eq_true rfl⟩ dL_law_570 (fun H locs w => ?_)
            refine lv_icmp_eq (tgt := 1644) E.1 E.2.1 dL_law_573 (by decide) (fun c132 => ?_) (fun c132 => ?_)
            · have hf := q_pos c132 hf
              refine lv_iinc (v := v3 + 6) (lv' := [(3, .int (v3 + 6)), (0, .ref bs), (1, .ref (ad G 1)), (2, .ref (ad G 237))]) E.1 E.2.1 dL_law_1644 hl (k := 3) rfl rfl (by decide) rfl (fun ls hl => ?_)
              refine lv_goto (tgt := 18) E.1 E.2.1 dL_law_1647 (by decide) ?_
              exact ih _ _ _ _ _ hf w (lv_sub hl [1, 2, 3, 0] rfl)
            · have hf := q_neg c132 hf
              refine lv_iconst (v := 0) E.1 E.2.1 dL_law_576 rfl ?_
              cases hf
          · have hf := q_neg c128 hf
            refine lv_iconst (v := 1) E.1 E.2.1 dL_law_565 rfl ?_
            refine lv_goto (tgt := 570) E.1 E.2.1 dL_law_566 (by decide) ?_
            obtain ⟨r134, h135, hc133, hf⟩ := bd2_e hf
            refine k_Vi (As := [.int (xs (v3 + 1).toNatClampNeg), .int 1]) (rest := [.int r124]) E w g2 ⟨by decide, rfl⟩ (X11_few_c g2 hc133) mv_R_law_58 rfl rfl hl.1 ⟨Nat.le_of_ble_eq_true rfl, Nat.le_of_ble_eq_true rfl⟩ (Nat.le_of_ble_eq_true rfl) ⟨Nat.le_of_ble_eq_true rfl, Nat.le_of_ble_eq_true rfl⟩ dL_law_570 (fun H locs w => ?_)
            refine lv_icmp_eq (tgt := 1644) E.1 E.2.1 dL_law_573 (by decide) (fun c136 => ?_) (fun c136 => ?_)
            · have hf := q_pos c136 hf
              refine lv_iinc (v := v3 + 6) (lv' := [(3, .int (v3 + 6)), (0, .ref bs), (1, .ref (ad G 1)), (2, .ref (ad G 237))]) E.1 E.2.1 dL_law_1644 hl (k := 3) rfl rfl (by decide) rfl (fun ls hl => ?_)
              refine lv_goto (tgt := 18) E.1 E.2.1 dL_law_1647 (by decide) ?_
              exact ih _ _ _ _ _ hf w (lv_sub hl [1, 2, 3, 0] rfl)
            · have hf := q_neg c136 hf
              refine lv_iconst (v := 0) E.1 E.2.1 dL_law_576 rfl ?_
              cases hf
        · have hf := q_neg c122 hf
          refine lv_iconst (v := 1) E.1 E.2.1 dL_law_543 rfl ?_
          refine lv_goto (tgt := 548) E.1 E.2.1 dL_law_544 (by decide) ?_
          obtain ⟨r138, h139, hc137, hf⟩ := bd2_e hf
          refine k_Vi (As := [.int (xs (v3 + 1).toNatClampNeg), .int 1]) (rest := []) E w g1 ⟨by decide, rfl⟩ (X10_few_c g1 hc137) mv_R_law_54 rfl rfl hl.1 ⟨Nat.le_of_ble_eq_true rfl, Nat.le_of_ble_eq_true rfl⟩ (Nat.le_of_ble_eq_true rfl) ⟨Nat.le_of_ble_eq_true rfl, Nat.le_of_ble_eq_true rfl⟩ dL_law_548 (fun H locs w => ?_)
          refine lv_aload_n E.1 E.2.1 dL_law_551 rfl (lv_at hl 2 rfl) ?_
          refine lv_aload_n E.1 E.2.1 dL_law_552 rfl (lv_at hl 0 rfl) ?_
          refine lv_iload_n E.1 E.2.1 dL_law_553 rfl (lv_at hl 3 rfl) ?_
          refine lv_iconst (v := 1) E.1 E.2.1 dL_law_554 rfl ?_
          refine lv_iadd E.1 E.2.1 dL_law_555 ?_
          obtain ⟨b140, hf⟩ := q_if hf
          refine va_sld E.1 E.2.1 hX hbl hbA w.2.2.2.2.2 b140 dL_law_556 ?_
          refine lv_aload_n E.1 E.2.1 dL_law_557 rfl (lv_at hl 0 rfl) ?_
          refine lv_iload_n E.1 E.2.1 dL_law_558 rfl (lv_at hl 3 rfl) ?_
          refine lv_iconst (v := 2) E.1 E.2.1 dL_law_559 rfl ?_
          refine lv_iadd E.1 E.2.1 dL_law_560 ?_
          obtain ⟨b141, hf⟩ := q_if hf
          refine va_sld E.1 E.2.1 hX hbl hbA w.2.2.2.2.2 b141 dL_law_561 ?_
          refine lv_if_eq (tgt := 569) E.1 E.2.1 dL_law_562 (by decide) (fun c142 => ?_) (fun c142 => ?_)
          · have hf := q_pos c142 hf
            refine lv_iconst (v := 0) E.1 E.2.1 dL_law_569 rfl ?_
            obtain ⟨r144, h145, hc143, hf⟩ := bd2_e hf
            refine k_Vi (As := [.int (xs (v3 + 1).toNatClampNeg), .int 0]) (rest := [.int r138]) E w g2 ⟨by decide, rfl⟩ (X11_few_c g2 hc143) mv_R_law_58 rfl rfl hl.1 ⟨Nat.le_of_ble_eq_true rfl, Nat.le_of_ble_eq_true rfl⟩ (Nat.le_of_ble_eq_true rfl) ⟨Nat.le_of_ble_eq_true rfl, Nat.le_of_ble_eq_true rfl⟩ dL_law_570 (fun H locs w => ?_)
            refine lv_icmp_eq (tgt := 1644) E.1 E.2.1 dL_law_573 (by decide) (fun c146 => ?_) (fun c146 => ?_)
            · have hf := q_pos c146 hf
              refine lv_iinc (v := v3 + 6) (lv' := [(3, .int (v3 + 6)), (0, .ref bs), (1, .ref (ad G 1)), (2, .ref (ad G 237))]) E.1 E.2.1 dL_law_1644 hl (k := 3) rfl rfl (by decide) rfl (fun ls hl => ?_)
              refine lv_goto (tgt := 18) E.1 E.2.1 dL_law_1647 (by decide) ?_
              exact ih _ _ _ _ _ hf w (lv_sub hl [1, 2, 3, 0] rfl)
            · have hf := q_neg c146 hf
              refine lv_iconst (v := 0) E.1 E.2.1 dL_law_576 rfl ?_
              cases hf
          · have hf := q_neg c142 hf
            refine lv_iconst (v := 1) E.1 E.2.1 dL_law_565 rfl ?_
            refine lv_goto (tgt := 570) E.1 E.2.1 dL_law_566 (by decide) ?_
            obtain ⟨r148, h149, hc147, hf⟩ := bd2_e hf
            refine k_Vi (As := [.int (xs (v3 + 1).toNatClampNeg), .int 1]) (rest := [.int r138]) E w g2 ⟨by decide, rfl⟩ (X11_few_c g2 hc147) mv_R_law_58 rfl rfl hl.1 ⟨Nat.le_of_ble_eq_true rfl, Nat.le_of_ble_eq_true rfl⟩ (Nat.le_of_ble_eq_true rfl) ⟨Nat.le_of_ble_eq_true rfl, Nat.le_of_ble_eq_true rfl⟩ dL_law_570 (fun H locs w => ?_)
            refine lv_icmp_eq (tgt := 1644) E.1 E.2.1 dL_law_573 (by decide) (fun c150 => ?_) (fun c150 => ?_)
            · have hf := q_pos c150 hf
              refine lv_iinc (v := v3 + 6) (lv' := [(3, .int (v3 + 6)), (0, .ref bs), (1, .ref (ad G 1)), (2, .ref (ad G 237))]) E.1 E.2.1 dL_law_1644 hl (k := 3) rfl rfl (by decide) rfl (fun ls hl => ?_)
              refine lv_goto (tgt := 18) E.1 E.2.1 dL_law_1647 (by decide) ?_
              exact ih _ _ _ _ _ hf w (lv_sub hl [1, 2, 3, 0] rfl)
            · have hf := q_neg c150 hf
              refine lv_iconst (v := 0) E.1 E.2.1 dL_law_576 rfl ?_
              cases hf
      have hf := q_neg c119 hf
      by_cases c151 : ((xs v3.toNatClampNeg) &&& 63) = 10
      · have hf := q_pos c151 hf
        refine lv_tableIn (off := 545) (tgt := 578) E.1 E.2.1 dL_law_33 (by rw [c151]; decide) (by rw [c151]; decide) (by rw [c151]; rfl) (by decide) ?_
        refine lv_aload_n E.1 E.2.1 dL_law_578 rfl (lv_at hl 1 rfl) ?_
        refine lv_aload_n E.1 E.2.1 dL_law_579 rfl (lv_at hl 0 rfl) ?_
        refine lv_iload_n E.1 E.2.1 dL_law_580 rfl (lv_at hl 3 rfl) ?_
        refine lv_iconst (v := 1) E.1 E.2.1 dL_law_581 rfl ?_
        refine lv_iadd E.1 E.2.1 dL_law_582 ?_
        obtain ⟨b152, hf⟩ := q_if hf
        refine va_sld E.1 E.2.1 hX hbl hbA w.2.2.2.2.2 b152 dL_law_583 ?_
        refine lv_aload_n E.1 E.2.1 dL_law_584 rfl (lv_at hl 0 rfl) ?_
        refine lv_iload_n E.1 E.2.1 dL_law_585 rfl (lv_at hl 3 rfl) ?_
        refine lv_iconst (v := 2) E.1 E.2.1 dL_law_586 rfl ?_
        refine lv_iadd E.1 E.2.1 dL_law_587 ?_
        obtain ⟨b153, hf⟩ := q_if hf
        refine va_sld E.1 E.2.1 hX hbl hbA w.2.2.2.2.2 b153 dL_law_588 ?_
        refine lv_if_eq (tgt := 596) E.1 E.2.1 dL_law_589 (by decide) (fun c154 => ?_) (fun c154 => ?_)
        · have hf := q_pos c154 hf
          refine lv_iconst (v := 0) E.1 E.2.1 dL_law_596 rfl ?_
          obtain ⟨r156, h157, hc155, hf⟩ := bd2_e hf
          refine k_Vi (As := [.int (xs (v3 + 1).toNatClampNeg), .int 0]) (rest := []) E w g1 ⟨by decide, rfl⟩ (X10_far_c g1 hc155) mv_R_law_59 rfl rfl hl.1 ⟨Nat.le_of_ble_eq_true rfl, Nat.le_of_ble_eq_true rfl⟩ (Nat.le_of_ble_eq_true rfl) ⟨Nat.le_of_ble_eq_true rfl, Nat.le_of_ble_eq_true rfl⟩ dL_law_597 (fun H locs w => ?_)
          refine lv_aload_n E.1 E.2.1 dL_law_600 rfl (lv_at hl 2 rfl) ?_
          refine lv_aload_n E.1 E.2.1 dL_law_601 rfl (lv_at hl 0 rfl) ?_
          refine lv_iload_n E.1 E.2.1 dL_law_602 rfl (lv_at hl 3 rfl) ?_
          refine lv_iconst (v := 1) E.1 E.2.1 dL_law_603 rfl ?_
          refine lv_iadd E.1 E.2.1 dL_law_604 ?_
          obtain ⟨b158, hf⟩ := q_if hf
          refine va_sld E.1 E.2.1 hX hbl hbA w.2.2.2.2.2 b158 dL_law_605 ?_
          refine lv_aload_n E.1 E.2.1 dL_law_606 rfl (lv_at hl 0 rfl) ?_
          refine lv_iload_n E.1 E.2.1 dL_law_607 rfl (lv_at hl 3 rfl) ?_
          refine lv_iconst (v := 2) E.1 E.2.1 dL_law_608 rfl ?_
          refine lv_iadd E.1 E.2.1 dL_law_609 ?_
          obtain ⟨b159, hf⟩ := q_if hf
          refine va_sld E.1 E.2.1 hX hbl hbA w.2.2.2.2.2 b159 dL_law_610 ?_
          refine lv_if_eq (tgt := 618) E.1 E.2.1 dL_law_611 (by decide) (fun c160 => ?_) (fun c160 => ?_)
          · have hf := q_pos c160 hf
            refine lv_iconst (v := 0) E.1 E.2.1 dL_law_618 rfl ?_
            obtain ⟨r162, h163, hc161, hf⟩ := bd2_e hf
            refine k_Vi (As := [.int (xs (v3 + 1).toNatClampNeg), .int 0]) (rest := [.int r156]) E w g2 ⟨by decide, rfl⟩ (X11_far_c g2 hc161) mv_R_law_62 rfl rfl hl.1 ⟨Nat.le_of_ble_eq_true rfl, Nat.le_of_ble_eq_true rfl⟩ (Nat.le_of_ble_eq_true rfl) ⟨Nat.le_of_ble_eq_true rfl, Nat.le_of_ble_eq_true rfl⟩ dL_law_619 (fun H locs w => ?_)
            refine lv_icmp_eq (tgt := 1644) E.1 E.2.1 dL_law_622 (by decide) (fun c164 => ?_) (fun c164 => ?_)
            · have hf := q_pos c164 hf
              refine lv_iinc (v := v3 + 6) (lv' := [(3, .int (v3 + 6)), (0, .ref bs), (1, .ref (ad G 1)), (2, .ref (ad G 237))]) E.1 E.2.1 dL_law_1644 hl (k := 3) rfl rfl (by decide) rfl (fun ls hl => ?_)
              refine lv_goto (tgt := 18) E.1 E.2.1 dL_law_1647 (by decide) ?_
              exact ih _ _ _ _ _ hf w (lv_sub hl [1, 2, 3, 0] rfl)
            · have hf := q_neg c164 hf
              refine lv_iconst (v := 0) E.1 E.2.1 dL_law_625 rfl ?_
              cases hf
          · have hf := q_neg c160 hf
            refine lv_iconst (v := 1) E.1 E.2.1 dL_law_614 rfl ?_
            refine lv_goto (tgt := 619) E.1 E.2.1 dL_law_615 (by decide) ?_
            obtain ⟨r166, h167, hc165, hf⟩ := bd2_e hf
            refine k_Vi (As := [.int (xs (v3 + 1).toNatClampNeg), .int 1]) (rest := [.int r156]) E w g2 ⟨by decide, rfl⟩ (X11_far_c g2 hc165) mv_R_law_62 rfl rfl hl.1 ⟨Nat.le_of_ble_eq_true rfl, Nat.le_of_ble_eq_true rfl⟩ (Nat.le_of_ble_eq_true rfl) ⟨Nat.le_of_ble_eq_true rfl, Nat.le_of_ble_eq_true rfl⟩ dL_law_619 (fun H locs w => ?_)
            refine lv_icmp_eq (tgt := 1644) E.1 E.2.1 dL_law_622 (by decide) (fun c168 => ?_) (fun c168 => ?_)
            · have hf := q_pos c168 hf
              refine lv_iinc (v := v3 + 6) (lv' := [(3, .int (v3 + 6)), (0, .ref bs), (1, .ref (ad G 1)), (2, .ref (ad G 237))]) E.1 E.2.1 dL_law_1644 hl (k := 3) rfl rfl (by decide) rfl (fun ls hl => ?_)
              refine lv_goto (tgt := 18) E.1 E.2.1 dL_law_1647 (by decide) ?_
              exact ih _ _ _ _ _ hf w (lv_sub hl [1, 2, 3, 0] rfl)
            · have hf := q_neg c168 hf
              refine lv_iconst (v := 0) E.1 E.2.1 dL_law_625 rfl ?_
              cases hf
        · have hf := q_neg c154 hf
          refine lv_iconst (v := 1) E.1 E.2.1 dL_law_592 rfl ?_
          refine lv_goto (tgt := 597) E.1 E.2.1 dL_law_593 (by decide) ?_
          obtain ⟨r170, h171, hc169, hf⟩ := bd2_e hf
          refine k_Vi (As := [.int (xs (v3 + 1).toNatClampNeg), .int 1]) (rest := []) E w g1 ⟨by decide, rfl⟩ (X10_far_c g1 hc169) mv_R_law_59 rfl rfl hl.1 ⟨Nat.le_of_ble_eq_true rfl, Nat.le_of_ble_eq_true rfl⟩ (Nat.le_of_ble_eq_true rfl) ⟨Nat.le_of_ble_eq_true rfl, Nat.le_of_ble_eq_true rfl⟩ dL_law_597 (fun H locs w => ?_)
          refine lv_aload_n E.1 E.2.1 dL_law_600 rfl (lv_at hl 2 rfl) ?_
          refine lv_aload_n E.1 E.2.1 dL_law_601 rfl (lv_at hl 0 rfl) ?_
          refine lv_iload_n E.1 E.2.1 dL_law_602 rfl (lv_at hl 3 rfl) ?_
          refine lv_iconst (v := 1) E.1 E.2.1 dL_law_603 rfl ?_
          refine lv_iadd E.1 E.2.1 dL_law_604 ?_
          obtain ⟨b172, hf⟩ := q_if hf
          refine va_sld E.1 E.2.1 hX hbl hbA w.2.2.2.2.2 b172 dL_law_605 ?_
          refine lv_aload_n E.1 E.2.1 dL_law_606 rfl (lv_at hl 0 rfl) ?_
          refine lv_iload_n E.1 E.2.1 dL_law_607 rfl (lv_at hl 3 rfl) ?_
          refine lv_iconst (v := 2) E.1 E.2.1 dL_law_608 rfl ?_
          refine lv_iadd E.1 E.2.1 dL_law_609 ?_
          obtain ⟨b173, hf⟩ := q_if hf
          refine va_sld E.1 E.2.1 hX hbl hbA w.2.2.2.2.2 b173 dL_law_610 ?_
          refine lv_if_eq (tgt := 618) E.1 E.2.1 dL_law_611 (by decide) (fun c174 => ?_) (fun c174 => ?_)
          · have hf := q_pos c174 hf
            refine lv_iconst (v := 0) E.1 E.2.1 dL_law_618 rfl ?_
            obtain ⟨r176, h177, hc175, hf⟩ := bd2_e hf
            refine k_Vi (As := [.int (xs (v3 + 1).toNatClampNeg), .int 0]) (rest := [.int r170]) E w g2 ⟨by decide, rfl⟩ (X11_far_c g2 hc175) mv_R_law_62 rfl rfl hl.1 ⟨Nat.le_of_ble_eq_true rfl, Nat.le_of_ble_eq_true rfl⟩ (Nat.le_of_ble_eq_true rfl) ⟨Nat.le_of_ble_eq_true rfl, Nat.le_of_ble_eq_true rfl⟩ dL_law_619 (fun H locs w => ?_)
            refine lv_icmp_eq (tgt := 1644) E.1 E.2.1 dL_law_622 (by decide) (fun c178 => ?_) (fun c178 => ?_)
            · have hf := q_pos c178 hf
              refine lv_iinc (v := v3 + 6) (lv' := [(3, .int (v3 + 6)), (0, .ref bs), (1, .ref (ad G 1)), (2, .ref (ad G 237))]) E.1 E.2.1 dL_law_1644 hl (k := 3) rfl rfl (by decide) rfl (fun ls hl => ?_)
              refine lv_goto (tgt := 18) E.1 E.2.1 dL_law_1647 (by decide) ?_
              exact ih _ _ _ _ _ hf w (lv_sub hl [1, 2, 3, 0] rfl)
            · have hf := q_neg c178 hf
              refine lv_iconst (v := 0) E.1 E.2.1 dL_law_625 rfl ?_
              cases hf
          · have hf := q_neg c174 hf
            refine lv_iconst (v := 1) E.1 E.2.1 dL_law_614 rfl ?_
            refine lv_goto (tgt := 619) E.1 E.2.1 dL_law_615 (by decide) ?_
            obtain ⟨r180, h181, hc179, hf⟩ := bd2_e hf
            refine k_Vi (As := [.int (xs (v3 + 1).toNatClampNeg), .int 1]) (rest := [.int r170]) E w g2 ⟨by decide, rfl⟩ (X11_far_c g2 hc179) mv_R_law_62 rfl rfl hl.1 ⟨Nat.le_of_ble_eq_true rfl, Nat.le_of_ble_eq_true rfl⟩ (Nat.le_of_ble_eq_true rfl) ⟨Nat.le_of_ble_eq_true rfl, Nat.le_of_ble_eq_true rfl⟩ dL_law_619 (fun H locs w => ?_)
            refine lv_icmp_eq (tgt := 1644) E.1 E.2.1 dL_law_622 (by decide) (fun c182 => ?_) (fun c182 => ?_)
            · have hf := q_pos c182 hf
              refine lv_iinc (v := v3 + 6) (lv' := [(3, .int (v3 + 6)), (0, .ref bs), (1, .ref (ad G 1)), (2, .ref (ad G 237))]) E.1 E.2.1 dL_law_1644 hl (k := 3) rfl rfl (by decide) rfl (fun ls hl => ?_)
              refine lv_goto (tgt := 18) E.1 E.2.1 dL_law_1647 (by decide) ?_
              exact ih _ _ _ _ _ hf w (lv_sub hl [1, 2, 3, 0] rfl)
            · have hf := q_neg c182 hf
              refine lv_iconst (v := 0) E.1 E.2.1 dL_law_625 rfl ?_
              cases hf
      have hf := q_neg c151 hf
      by_cases c183 : ((xs v3.toNatClampNeg) &&& 63) = 11
      · have hf := q_pos c183 hf
        refine lv_tableIn (off := 594) (tgt := 627) E.1 E.2.1 dL_law_33 (by rw [c183]; decide) (by rw [c183]; decide) (by rw [c183]; rfl) (by decide) ?_
        refine lv_aload_n E.1 E.2.1 dL_law_627 rfl (lv_at hl 1 rfl) ?_
        refine lv_aload_n E.1 E.2.1 dL_law_628 rfl (lv_at hl 0 rfl) ?_
        refine lv_iload_n E.1 E.2.1 dL_law_629 rfl (lv_at hl 3 rfl) ?_
        refine lv_iconst (v := 1) E.1 E.2.1 dL_law_630 rfl ?_
        refine lv_iadd E.1 E.2.1 dL_law_631 ?_
        obtain ⟨b184, hf⟩ := q_if hf
        refine va_sld E.1 E.2.1 hX hbl hbA w.2.2.2.2.2 b184 dL_law_632 ?_
        refine lv_aload_n E.1 E.2.1 dL_law_633 rfl (lv_at hl 0 rfl) ?_
        refine lv_iload_n E.1 E.2.1 dL_law_634 rfl (lv_at hl 3 rfl) ?_
        refine lv_iconst (v := 2) E.1 E.2.1 dL_law_635 rfl ?_
        refine lv_iadd E.1 E.2.1 dL_law_636 ?_
        obtain ⟨b185, hf⟩ := q_if hf
        refine va_sld E.1 E.2.1 hX hbl hbA w.2.2.2.2.2 b185 dL_law_637 ?_
        refine lv_if_eq (tgt := 645) E.1 E.2.1 dL_law_638 (by decide) (fun c186 => ?_) (fun c186 => ?_)
        · have hf := q_pos c186 hf
          refine lv_iconst (v := 0) E.1 E.2.1 dL_law_645 rfl ?_
          obtain ⟨r188, h189, hc187, hf⟩ := bd2_e hf
          refine k_Vl (As := [.int (xs (v3 + 1).toNatClampNeg), .int 0]) (rest := []) E w g1 ⟨by decide, rfl⟩ (X10_wakes_c g1 hc187) mv_R_law_63 rfl rfl hl.1 ⟨Nat.le_of_ble_eq_true rfl, Nat.le_of_ble_eq_true rfl⟩ (Nat.le_of_ble_eq_true rfl) ⟨Nat.le_of_ble_eq_true rfl, Nat.le_of_ble_eq_true rfl⟩ dL_law_646 (fun H locs w => ?_)
          refine lv_aload_n E.1 E.2.1 dL_law_649 rfl (lv_at hl 2 rfl) ?_
          refine lv_aload_n E.1 E.2.1 dL_law_650 rfl (lv_at hl 0 rfl) ?_
          refine lv_iload_n E.1 E.2.1 dL_law_651 rfl (lv_at hl 3 rfl) ?_
          refine lv_iconst (v := 1) E.1 E.2.1 dL_law_652 rfl ?_
          refine lv_iadd E.1 E.2.1 dL_law_653 ?_
          obtain ⟨b190, hf⟩ := q_if hf
          refine va_sld E.1 E.2.1 hX hbl hbA w.2.2.2.2.2 b190 dL_law_654 ?_
          refine lv_aload_n E.1 E.2.1 dL_law_655 rfl (lv_at hl 0 rfl) ?_
          refine lv_iload_n E.1 E.2.1 dL_law_656 rfl (lv_at hl 3 rfl) ?_
          refine lv_iconst (v := 2) E.1 E.2.1 dL_law_657 rfl ?_
          refine lv_iadd E.1 E.2.1 dL_law_658 ?_
          obtain ⟨b191, hf⟩ := q_if hf
          refine va_sld E.1 E.2.1 hX hbl hbA w.2.2.2.2.2 b191 dL_law_659 ?_
          refine lv_if_eq (tgt := 667) E.1 E.2.1 dL_law_660 (by decide) (fun c192 => ?_) (fun c192 => ?_)
          · have hf := q_pos c192 hf
            refine lv_iconst (v := 0) E.1 E.2.1 dL_law_667 rfl ?_
            obtain ⟨r194, h195, hc193, hf⟩ := bd2_e hf
            refine k_Vl (As := [.int (xs (v3 + 1).toNatClampNeg), .int 0]) (rest := [.long r188]) E w g2 ⟨by decide, rfl⟩ (X11_wakes_c g2 hc193) mv_R_law_67 rfl rfl hl.1 ⟨Nat.le_of_ble_eq_true rfl, Nat.le_of_ble_eq_true rfl⟩ (Nat.le_of_ble_eq_true rfl) ⟨Nat.le_of_ble_eq_true rfl, Nat.le_of_ble_eq_true rfl⟩ dL_law_668 (fun H locs w => ?_)
            refine W.lcmp E.1 E.2.1 dL_law_671 ?_
            refine lv_if_eq (tgt := 1644) E.1 E.2.1 dL_law_672 (by decide) (fun c196 => ?_) (fun c196 => ?_)
            · have hf := q_pos c196 hf
              refine lv_iinc (v := v3 + 6) (lv' := [(3, .int (v3 + 6)), (0, .ref bs), (1, .ref (ad G 1)), (2, .ref (ad G 237))]) E.1 E.2.1 dL_law_1644 hl (k := 3) rfl rfl (by decide) rfl (fun ls hl => ?_)
              refine lv_goto (tgt := 18) E.1 E.2.1 dL_law_1647 (by decide) ?_
              exact ih _ _ _ _ _ hf w (lv_sub hl [1, 2, 3, 0] rfl)
            · have hf := q_neg c196 hf
              refine lv_iconst (v := 0) E.1 E.2.1 dL_law_675 rfl ?_
              cases hf
          · have hf := q_neg c192 hf
            refine lv_iconst (v := 1) E.1 E.2.1 dL_law_663 rfl ?_
            refine lv_goto (tgt := 668) E.1 E.2.1 dL_law_664 (by decide) ?_
            obtain ⟨r198, h199, hc197, hf⟩ := bd2_e hf
            refine k_Vl (As := [.int (xs (v3 + 1).toNatClampNeg), .int 1]) (rest := [.long r188]) E w g2 ⟨by decide, rfl⟩ (X11_wakes_c g2 hc197) mv_R_law_67 rfl rfl hl.1 ⟨Nat.le_of_ble_eq_true rfl, Nat.le_of_ble_eq_true rfl⟩ (Nat.le_of_ble_eq_true rfl) ⟨Nat.le_of_ble_eq_true rfl, Nat.le_of_ble_eq_true rfl⟩ dL_law_668 (fun H locs w => ?_)
            refine W.lcmp E.1 E.2.1 dL_law_671 ?_
            refine lv_if_eq (tgt := 1644) E.1 E.2.1 dL_law_672 (by decide) (fun c200 => ?_) (fun c200 => ?_)
            · have hf := q_pos c200 hf
              refine lv_iinc (v := v3 + 6) (lv' := [(3, .int (v3 + 6)), (0, .ref bs), (1, .ref (ad G 1)), (2, .ref (ad G 237))]) E.1 E.2.1 dL_law_1644 hl (k := 3) rfl rfl (by decide) rfl (fun ls hl => ?_)
              refine lv_goto (tgt := 18) E.1 E.2.1 dL_law_1647 (by decide) ?_
              exact ih _ _ _ _ _ hf w (lv_sub hl [1, 2, 3, 0] rfl)
            · have hf := q_neg c200 hf
              refine lv_iconst (v := 0) E.1 E.2.1 dL_law_675 rfl ?_
              cases hf
        · have hf := q_neg c186 hf
          refine lv_iconst (v := 1) E.1 E.2.1 dL_law_641 rfl ?_
          refine lv_goto (tgt := 646) E.1 E.2.1 dL_law_642 (by decide) ?_
          obtain ⟨r202, h203, hc201, hf⟩ := bd2_e hf
          refine k_Vl (As := [.int (xs (v3 + 1).toNatClampNeg), .int 1]) (rest := []) E w g1 ⟨by decide, rfl⟩ (X10_wakes_c g1 hc201) mv_R_law_63 rfl rfl hl.1 ⟨Nat.le_of_ble_eq_true rfl, Nat.le_of_ble_eq_true rfl⟩ (Nat.le_of_ble_eq_true rfl) ⟨Nat.le_of_ble_eq_true rfl, Nat.le_of_ble_eq_true rfl⟩ dL_law_646 (fun H locs w => ?_)
          refine lv_aload_n E.1 E.2.1 dL_law_649 rfl (lv_at hl 2 rfl) ?_
          refine lv_aload_n E.1 E.2.1 dL_law_650 rfl (lv_at hl 0 rfl) ?_
          refine lv_iload_n E.1 E.2.1 dL_law_651 rfl (lv_at hl 3 rfl) ?_
          refine lv_iconst (v := 1) E.1 E.2.1 dL_law_652 rfl ?_
          refine lv_iadd E.1 E.2.1 dL_law_653 ?_
          obtain ⟨b204, hf⟩ := q_if hf
          refine va_sld E.1 E.2.1 hX hbl hbA w.2.2.2.2.2 b204 dL_law_654 ?_
          refine lv_aload_n E.1 E.2.1 dL_law_655 rfl (lv_at hl 0 rfl) ?_
          refine lv_iload_n E.1 E.2.1 dL_law_656 rfl (lv_at hl 3 rfl) ?_
          refine lv_iconst (v := 2) E.1 E.2.1 dL_law_657 rfl ?_
          refine lv_iadd E.1 E.2.1 dL_law_658 ?_
          obtain ⟨b205, hf⟩ := q_if hf
          refine va_sld E.1 E.2.1 hX hbl hbA w.2.2.2.2.2 b205 dL_law_659 ?_
          refine lv_if_eq (tgt := 667) E.1 E.2.1 dL_law_660 (by decide) (fun c206 => ?_) (fun c206 => ?_)
          · have hf := q_pos c206 hf
            refine lv_iconst (v := 0) E.1 E.2.1 dL_law_667 rfl ?_
            obtain ⟨r208, h209, hc207, hf⟩ := bd2_e hf
            refine k_Vl (As := [.int (xs (v3 + 1).toNatClampNeg), .int 0]) (rest := [.long r202]) E w g2 ⟨by decide, rfl⟩ (X11_wakes_c g2 hc207) mv_R_law_67 rfl rfl hl.1 ⟨Nat.le_of_ble_eq_true rfl, Nat.le_of_ble_eq_true rfl⟩ (Nat.le_of_ble_eq_true rfl) ⟨Nat.le_of_ble_eq_true rfl, Nat.le_of_ble_eq_true rfl⟩ dL_law_668 (fun H locs w => ?_)
            refine W.lcmp E.1 E.2.1 dL_law_671 ?_
            refine lv_if_eq (tgt := 1644) E.1 E.2.1 dL_law_672 (by decide) (fun c210 => ?_) (fun c210 => ?_)
            · have hf := q_pos c210 hf
              refine lv_iinc (v := v3 + 6) (lv' := [(3, .int (v3 + 6)), (0, .ref bs), (1, .ref (ad G 1)), (2, .ref (ad G 237))]) E.1 E.2.1 dL_law_1644 hl (k := 3) rfl rfl (by decide) rfl (fun ls hl => ?_)
              refine lv_goto (tgt := 18) E.1 E.2.1 dL_law_1647 (by decide) ?_
              exact ih _ _ _ _ _ hf w (lv_sub hl [1, 2, 3, 0] rfl)
            · have hf := q_neg c210 hf
              refine lv_iconst (v := 0) E.1 E.2.1 dL_law_675 rfl ?_
              cases hf
          · have hf := q_neg c206 hf
            refine lv_iconst (v := 1) E.1 E.2.1 dL_law_663 rfl ?_
            refine lv_goto (tgt := 668) E.1 E.2.1 dL_law_664 (by decide) ?_
            obtain ⟨r212, h213, hc211, hf⟩ := bd2_e hf
            refine k_Vl (As := [.int (xs (v3 + 1).toNatClampNeg), .int 1]) (rest := [.long r202]) E w g2 ⟨by decide, rfl⟩ (X11_wakes_c g2 hc211) mv_R_law_67 rfl rfl hl.1 ⟨Nat.le_of_ble_eq_true rfl, Nat.le_of_ble_eq_true rfl⟩ (Nat.le_of_ble_eq_true rfl) ⟨Nat.le_of_ble_eq_true rfl, Nat.le_of_ble_eq_true rfl⟩ dL_law_668 (fun H locs w => ?_)
            refine W.lcmp E.1 E.2.1 dL_law_671 ?_
            refine lv_if_eq (tgt := 1644) E.1 E.2.1 dL_law_672 (by decide) (fun c214 => ?_) (fun c214 => ?_)
            · have hf := q_pos c214 hf
              refine lv_iinc (v := v3 + 6) (lv' := [(3, .int (v3 + 6)), (0, .ref bs), (1, .ref (ad G 1)), (2, .ref (ad G 237))]) E.1 E.2.1 dL_law_1644 hl (k := 3) rfl rfl (by decide) rfl (fun ls hl => ?_)
              refine lv_goto (tgt := 18) E.1 E.2.1 dL_law_1647 (by decide) ?_
              exact ih _ _ _ _ _ hf w (lv_sub hl [1, 2, 3, 0] rfl)
            · have hf := q_neg c214 hf
              refine lv_iconst (v := 0) E.1 E.2.1 dL_law_675 rfl ?_
              cases hf
      have hf := q_neg c183 hf
      by_cases c215 : ((xs v3.toNatClampNeg) &&& 63) = 12
      · have hf := q_pos c215 hf
        refine lv_tableIn (off := 644) (tgt := 677) E.1 E.2.1 dL_law_33 (by rw [c215]; decide) (by rw [c215]; decide) (by rw [c215]; rfl) (by decide) ?_
        refine lv_aload_n E.1 E.2.1 dL_law_677 rfl (lv_at hl 1 rfl) ?_
        refine lv_aload_n E.1 E.2.1 dL_law_678 rfl (lv_at hl 0 rfl) ?_
        refine lv_iload_n E.1 E.2.1 dL_law_679 rfl (lv_at hl 3 rfl) ?_
        refine lv_iconst (v := 1) E.1 E.2.1 dL_law_680 rfl ?_
        refine lv_iadd E.1 E.2.1 dL_law_681 ?_
        obtain ⟨b216, hf⟩ := q_if hf
        refine va_sld E.1 E.2.1 hX hbl hbA w.2.2.2.2.2 b216 dL_law_682 ?_
        obtain ⟨r218, h219, hc217, hf⟩ := bd2_e hf
        refine k_Vi (As := [.int (xs (v3 + 1).toNatClampNeg)]) (rest := []) E w g1 ⟨by decide, rfl⟩ (X10_change_c g1 hc217) mv_R_law_68 rfl rfl hl.1 ⟨Nat.le_of_ble_eq_true rfl, Nat.le_of_ble_eq_true rfl⟩ (Nat.le_of_ble_eq_true rfl) ⟨Nat.le_of_ble_eq_true rfl, Nat.le_of_ble_eq_true rfl⟩ dL_law_683 (fun H locs w => ?_)
        refine lv_aload_n E.1 E.2.1 dL_law_686 rfl (lv_at hl 2 rfl) ?_
        refine lv_aload_n E.1 E.2.1 dL_law_687 rfl (lv_at hl 0 rfl) ?_
        refine lv_iload_n E.1 E.2.1 dL_law_688 rfl (lv_at hl 3 rfl) ?_
        refine lv_iconst (v := 1) E.1 E.2.1 dL_law_689 rfl ?_
        refine lv_iadd E.1 E.2.1 dL_law_690 ?_
        obtain ⟨b220, hf⟩ := q_if hf
        refine va_sld E.1 E.2.1 hX hbl hbA w.2.2.2.2.2 b220 dL_law_691 ?_
        obtain ⟨r222, h223, hc221, hf⟩ := bd2_e hf
        refine k_Vi (As := [.int (xs (v3 + 1).toNatClampNeg)]) (rest := [.int r218]) E w g2 ⟨by decide, rfl⟩ (X11_change_c g2 hc221) mv_R_law_71 rfl rfl hl.1 ⟨Nat.le_of_ble_eq_true rfl, Nat.le_of_ble_eq_true rfl⟩ (Nat.le_of_ble_eq_true rfl) ⟨Nat.le_of_ble_eq_true rfl, Nat.le_of_ble_eq_true rfl⟩ dL_law_692 (fun H locs w => ?_)
        refine lv_icmp_eq (tgt := 1644) E.1 E.2.1 dL_law_695 (by decide) (fun c224 => ?_) (fun c224 => ?_)
        · have hf := q_pos c224 hf
          refine lv_iinc (v := v3 + 6) (lv' := [(3, .int (v3 + 6)), (0, .ref bs), (1, .ref (ad G 1)), (2, .ref (ad G 237))]) E.1 E.2.1 dL_law_1644 hl (k := 3) rfl rfl (by decide) rfl (fun ls hl => ?_)
          refine lv_goto (tgt := 18) E.1 E.2.1 dL_law_1647 (by decide) ?_
          exact ih _ _ _ _ _ hf w (lv_sub hl [1, 2, 3, 0] rfl)
        · have hf := q_neg c224 hf
          refine lv_iconst (v := 0) E.1 E.2.1 dL_law_698 rfl ?_
          cases hf
      have hf := q_neg c215 hf
      by_cases c225 : ((xs v3.toNatClampNeg) &&& 63) = 13
      · have hf := q_pos c225 hf
        refine lv_tableIn (off := 667) (tgt := 700) E.1 E.2.1 dL_law_33 (by rw [c225]; decide) (by rw [c225]; decide) (by rw [c225]; rfl) (by decide) ?_
        refine lv_aload_n E.1 E.2.1 dL_law_700 rfl (lv_at hl 1 rfl) ?_
        refine lv_aload_n E.1 E.2.1 dL_law_701 rfl (lv_at hl 0 rfl) ?_
        refine lv_iload_n E.1 E.2.1 dL_law_702 rfl (lv_at hl 3 rfl) ?_
        refine lv_iconst (v := 1) E.1 E.2.1 dL_law_703 rfl ?_
        refine lv_iadd E.1 E.2.1 dL_law_704 ?_
        obtain ⟨b226, hf⟩ := q_if hf
        refine va_sld E.1 E.2.1 hX hbl hbA w.2.2.2.2.2 b226 dL_law_705 ?_
        refine lv_aload_n E.1 E.2.1 dL_law_706 rfl (lv_at hl 0 rfl) ?_
        refine lv_iload_n E.1 E.2.1 dL_law_707 rfl (lv_at hl 3 rfl) ?_
        refine lv_iconst (v := 2) E.1 E.2.1 dL_law_708 rfl ?_
        refine lv_iadd E.1 E.2.1 dL_law_709 ?_
        obtain ⟨b227, hf⟩ := q_if hf
        refine va_sld E.1 E.2.1 hX hbl hbA w.2.2.2.2.2 b227 dL_law_710 ?_
        refine lv_aload_n E.1 E.2.1 dL_law_711 rfl (lv_at hl 0 rfl) ?_
        refine lv_iload_n E.1 E.2.1 dL_law_712 rfl (lv_at hl 3 rfl) ?_
        refine lv_iconst (v := 3) E.1 E.2.1 dL_law_713 rfl ?_
        refine lv_iadd E.1 E.2.1 dL_law_714 ?_
        obtain ⟨b228, hf⟩ := q_if hf
        refine va_sld E.1 E.2.1 hX hbl hbA w.2.2.2.2.2 b228 dL_law_715 ?_
        refine lv_if_eq (tgt := 723) E.1 E.2.1 dL_law_716 (by decide) (fun c229 => ?_) (fun c229 => ?_)
        · have hf := q_pos c229 hf
          refine lv_iconst (v := 0) E.1 E.2.1 dL_law_723 rfl ?_
          obtain ⟨r231, h232, hc230, hf⟩ := bd2_e hf
          refine k_Vi (As := [.int (xs (v3 + 1).toNatClampNeg), .int (xs (v3 + 2).toNatClampNeg), .int 0]) (rest := []) E w g1 ⟨by decide, rfl⟩ (X10_tussle_c g1 hc230) mv_R_law_72 rfl rfl hl.1 ⟨Nat.le_of_ble_eq_true rfl, Nat.le_of_ble_eq_true rfl⟩ (Nat.le_of_ble_eq_true rfl) ⟨Nat.le_of_ble_eq_true rfl, Nat.le_of_ble_eq_true rfl⟩ dL_law_724 (fun H locs w => ?_)
          refine lv_aload_n E.1 E.2.1 dL_law_727 rfl (lv_at hl 2 rfl) ?_
          refine lv_aload_n E.1 E.2.1 dL_law_728 rfl (lv_at hl 0 rfl) ?_
          refine lv_iload_n E.1 E.2.1 dL_law_729 rfl (lv_at hl 3 rfl) ?_
          refine lv_iconst (v := 1) E.1 E.2.1 dL_law_730 rfl ?_
          refine lv_iadd E.1 E.2.1 dL_law_731 ?_
          obtain ⟨b233, hf⟩ := q_if hf
          refine va_sld E.1 E.2.1 hX hbl hbA w.2.2.2.2.2 b233 dL_law_732 ?_
          refine lv_aload_n E.1 E.2.1 dL_law_733 rfl (lv_at hl 0 rfl) ?_
          refine lv_iload_n E.1 E.2.1 dL_law_734 rfl (lv_at hl 3 rfl) ?_
          refine lv_iconst (v := 2) E.1 E.2.1 dL_law_735 rfl ?_
          refine lv_iadd E.1 E.2.1 dL_law_736 ?_
          obtain ⟨b234, hf⟩ := q_if hf
          refine va_sld E.1 E.2.1 hX hbl hbA w.2.2.2.2.2 b234 dL_law_737 ?_
          refine lv_aload_n E.1 E.2.1 dL_law_738 rfl (lv_at hl 0 rfl) ?_
          refine lv_iload_n E.1 E.2.1 dL_law_739 rfl (lv_at hl 3 rfl) ?_
          refine lv_iconst (v := 3) E.1 E.2.1 dL_law_740 rfl ?_
          refine lv_iadd E.1 E.2.1 dL_law_741 ?_
          obtain ⟨b235, hf⟩ := q_if hf
          refine va_sld E.1 E.2.1 hX hbl hbA w.2.2.2.2.2 b235 dL_law_742 ?_
          refine lv_if_eq (tgt := 750) E.1 E.2.1 dL_law_743 (by decide) (fun c236 => ?_) (fun c236 => ?_)
          · have hf := q_pos c236 hf
            refine lv_iconst (v := 0) E.1 E.2.1 dL_law_750 rfl ?_
            obtain ⟨r238, h239, hc237, hf⟩ := bd2_e hf
            refine k_Vi (As := [.int (xs (v3 + 1).toNatClampNeg), .int (xs (v3 + 2).toNatClampNeg), .int 0]) (rest := [.int r231]) E w g2 ⟨by decide, rfl⟩ (X11_tussle_c g2 hc237) mv_R_law_76 rfl rfl hl.1 ⟨Nat.le_of_ble_eq_true rfl, Nat.le_of_ble_eq_true rfl⟩ (Nat.le_of_ble_eq_true rfl) ⟨Nat.le_of_ble_eq_true rfl, Nat.le_of_ble_eq_true rfl⟩ dL_law_751 (fun H locs w => ?_)
            refine lv_icmp_eq (tgt := 1644) E.1 E.2.1 dL_law_754 (by decide) (fun c240 => ?_) (fun c240 => ?_)
            · have hf := q_pos c240 hf
              refine lv_iinc (v := v3 + 6) (lv' := [(3, .int (v3 + 6)), (0, .ref bs), (1, .ref (ad G 1)), (2, .ref (ad G 237))]) E.1 E.2.1 dL_law_1644 hl (k := 3) rfl rfl (by decide) rfl (fun ls hl => ?_)
              refine lv_goto (tgt := 18) E.1 E.2.1 dL_law_1647 (by decide) ?_
              exact ih _ _ _ _ _ hf w (lv_sub hl [1, 2, 3, 0] rfl)
            · have hf := q_neg c240 hf
              refine lv_iconst (v := 0) E.1 E.2.1 dL_law_757 rfl ?_
              cases hf
          · have hf := q_neg c236 hf
            refine lv_iconst (v := 1) E.1 E.2.1 dL_law_746 rfl ?_
            refine lv_goto (tgt := 751) E.1 E.2.1 dL_law_747 (by decide) ?_
            obtain ⟨r242, h243, hc241, hf⟩ := bd2_e hf
            refine k_Vi (As := [.int (xs (v3 + 1).toNatClampNeg), .int (xs (v3 + 2).toNatClampNeg), .int 1]) (rest := [.int r231]) E w g2 ⟨by decide, rfl⟩ (X11_tussle_c g2 hc241) mv_R_law_76 rfl rfl hl.1 ⟨Nat.le_of_ble_eq_true rfl, Nat.le_of_ble_eq_true rfl⟩ (Nat.le_of_ble_eq_true rfl) ⟨Nat.le_of_ble_eq_true rfl, Nat.le_of_ble_eq_true rfl⟩ dL_law_751 (fun H locs w => ?_)
            refine lv_icmp_eq (tgt := 1644) E.1 E.2.1 dL_law_754 (by decide) (fun c244 => ?_) (fun c244 => ?_)
            · have hf := q_pos c244 hf
              refine lv_iinc (v := v3 + 6) (lv' := [(3, .int (v3 + 6)), (0, .ref bs), (1, .ref (ad G 1)), (2, .ref (ad G 237))]) E.1 E.2.1 dL_law_1644 hl (k := 3) rfl rfl (by decide) rfl (fun ls hl => ?_)
              refine lv_goto (tgt := 18) E.1 E.2.1 dL_law_1647 (by decide) ?_
              exact ih _ _ _ _ _ hf w (lv_sub hl [1, 2, 3, 0] rfl)
            · have hf := q_neg c244 hf
              refine lv_iconst (v := 0) E.1 E.2.1 dL_law_757 rfl ?_
              cases hf
        · have hf := q_neg c229 hf
          refine lv_iconst (v := 1) E.1 E.2.1 dL_law_719 rfl ?_
          refine lv_goto (tgt := 724) E.1 E.2.1 dL_law_720 (by decide) ?_
          obtain ⟨r246, h247, hc245, hf⟩ := bd2_e hf
          refine k_Vi (As := [.int (xs (v3 + 1).toNatClampNeg), .int (xs (v3 + 2).toNatClampNeg), .int 1]) (rest := []) E w g1 ⟨by decide, rfl⟩ (X10_tussle_c g1 hc245) mv_R_law_72 rfl rfl hl.1 ⟨Nat.le_of_ble_eq_true rfl, Nat.le_of_ble_eq_true rfl⟩ (Nat.le_of_ble_eq_true rfl) ⟨Nat.le_of_ble_eq_true rfl, Nat.le_of_ble_eq_true rfl⟩ dL_law_724 (fun H locs w => ?_)
          refine lv_aload_n E.1 E.2.1 dL_law_727 rfl (lv_at hl 2 rfl) ?_
          refine lv_aload_n E.1 E.2.1 dL_law_728 rfl (lv_at hl 0 rfl) ?_
          refine lv_iload_n E.1 E.2.1 dL_law_729 rfl (lv_at hl 3 rfl) ?_
          refine lv_iconst (v := 1) E.1 E.2.1 dL_law_730 rfl ?_
          refine lv_iadd E.1 E.2.1 dL_law_731 ?_
          obtain ⟨b248, hf⟩ := q_if hf
          refine va_sld E.1 E.2.1 hX hbl hbA w.2.2.2.2.2 b248 dL_law_732 ?_
          refine lv_aload_n E.1 E.2.1 dL_law_733 rfl (lv_at hl 0 rfl) ?_
          refine lv_iload_n E.1 E.2.1 dL_law_734 rfl (lv_at hl 3 rfl) ?_
          refine lv_iconst (v := 2) E.1 E.2.1 dL_law_735 rfl ?_
          refine lv_iadd E.1 E.2.1 dL_law_736 ?_
          obtain ⟨b249, hf⟩ := q_if hf
          refine va_sld E.1 E.2.1 hX hbl hbA w.2.2.2.2.2 b249 dL_law_737 ?_
          refine lv_aload_n E.1 E.2.1 dL_law_738 rfl (lv_at hl 0 rfl) ?_
          refine lv_iload_n E.1 E.2.1 dL_law_739 rfl (lv_at hl 3 rfl) ?_
          refine lv_iconst (v := 3) E.1 E.2.1 dL_law_740 rfl ?_
          refine lv_iadd E.1 E.2.1 dL_law_741 ?_
          obtain ⟨b250, hf⟩ := q_if hf
          refine va_sld E.1 E.2.1 hX hbl hbA w.2.2.2.2.2 b250 dL_law_742 ?_
          refine lv_if_eq (tgt := 750) E.1 E.2.1 dL_law_743 (by decide) (fun c251 => ?_) (fun c251 => ?_)
          · have hf := q_pos c251 hf
            refine lv_iconst (v := 0) E.1 E.2.1 dL_law_750 rfl ?_
            obtain ⟨r253, h254, hc252, hf⟩ := bd2_e hf
            refine k_Vi (As := [.int (xs (v3 + 1).toNatClampNeg), .int (xs (v3 + 2).toNatClampNeg), .int 0]) (rest := [.int r246]) E w g2 ⟨by decide, rfl⟩ (X11_tussle_c g2 hc252) mv_R_law_76 rfl rfl hl.1 ⟨Nat.le_of_ble_eq_true rfl, Nat.le_of_ble_eq_true rfl⟩ (Nat.le_of_ble_eq_true rfl) ⟨Nat.le_of_ble_eq_true rfl, Nat.le_of_ble_eq_true rfl⟩ dL_law_751 (fun H locs w => ?_)
            refine lv_icmp_eq (tgt := 1644) E.1 E.2.1 dL_law_754 (by decide) (fun c255 => ?_) (fun c255 => ?_)
            · have hf := q_pos c255 hf
              refine lv_iinc (v := v3 + 6) (lv' := [(3, .int (v3 + 6)), (0, .ref bs), (1, .ref (ad G 1)), (2, .ref (ad G 237))]) E.1 E.2.1 dL_law_1644 hl (k := 3) rfl rfl (by decide) rfl (fun ls hl => ?_)
              refine lv_goto (tgt := 18) E.1 E.2.1 dL_law_1647 (by decide) ?_
              exact ih _ _ _ _ _ hf w (lv_sub hl [1, 2, 3, 0] rfl)
            · have hf := q_neg c255 hf
              refine lv_iconst (v := 0) E.1 E.2.1 dL_law_757 rfl ?_
              cases hf
          · have hf := q_neg c251 hf
            refine lv_iconst (v := 1) E.1 E.2.1 dL_law_746 rfl ?_
            refine lv_goto (tgt := 751) E.1 E.2.1 dL_law_747 (by decide) ?_
            obtain ⟨r257, h258, hc256, hf⟩ := bd2_e hf
            refine k_Vi (As := [.int (xs (v3 + 1).toNatClampNeg), .int (xs (v3 + 2).toNatClampNeg), .int 1]) (rest := [.int r246]) E w g2 ⟨by decide, rfl⟩ (X11_tussle_c g2 hc256) mv_R_law_76 rfl rfl hl.1 ⟨Nat.le_of_ble_eq_true rfl, Nat.le_of_ble_eq_true rfl⟩ (Nat.le_of_ble_eq_true rfl) ⟨Nat.le_of_ble_eq_true rfl, Nat.le_of_ble_eq_true rfl⟩ dL_law_751 (fun H locs w => ?_)
            refine lv_icmp_eq (tgt := 1644) E.1 E.2.1 dL_law_754 (by decide) (fun c259 => ?_) (fun c259 => ?_)
            · have hf := q_pos c259 hf
              refine lv_iinc (v := v3 + 6) (lv' := [(3, .int (v3 + 6)), (0, .ref bs), (1, .ref (ad G 1)), (2, .ref (ad G 237))]) E.1 E.2.1 dL_law_1644 hl (k := 3) rfl rfl (by decide) rfl (fun ls hl => ?_)
              refine lv_goto (tgt := 18) E.1 E.2.1 dL_law_1647 (by decide) ?_
              exact ih _ _ _ _ _ hf w (lv_sub hl [1, 2, 3, 0] rfl)
            · have hf := q_neg c259 hf
              refine lv_iconst (v := 0) E.1 E.2.1 dL_law_757 rfl ?_
              cases hf
      have hf := q_neg c225 hf
      by_cases c260 : ((xs v3.toNatClampNeg) &&& 63) = 14
      · have hf := q_pos c260 hf
        refine lv_tableIn (off := 726) (tgt := 759) E.1 E.2.1 dL_law_33 (by rw [c260]; decide) (by rw [c260]; decide) (by rw [c260]; rfl) (by decide) ?_
        refine lv_aload_n E.1 E.2.1 dL_law_759 rfl (lv_at hl 1 rfl) ?_
        refine lv_aload_n E.1 E.2.1 dL_law_760 rfl (lv_at hl 0 rfl) ?_
        refine lv_iload_n E.1 E.2.1 dL_law_761 rfl (lv_at hl 3 rfl) ?_
        refine lv_iconst (v := 1) E.1 E.2.1 dL_law_762 rfl ?_
        refine lv_iadd E.1 E.2.1 dL_law_763 ?_
        obtain ⟨b261, hf⟩ := q_if hf
        refine va_sld E.1 E.2.1 hX hbl hbA w.2.2.2.2.2 b261 dL_law_764 ?_
        refine lv_aload_n E.1 E.2.1 dL_law_765 rfl (lv_at hl 0 rfl) ?_
        refine lv_iload_n E.1 E.2.1 dL_law_766 rfl (lv_at hl 3 rfl) ?_
        refine lv_iconst (v := 2) E.1 E.2.1 dL_law_767 rfl ?_
        refine lv_iadd E.1 E.2.1 dL_law_768 ?_
        obtain ⟨b262, hf⟩ := q_if hf
        refine va_sld E.1 E.2.1 hX hbl hbA w.2.2.2.2.2 b262 dL_law_769 ?_
        obtain ⟨r264, h265, hc263, hf⟩ := bd2_e hf
        refine k_Vi (As := [.int (xs (v3 + 1).toNatClampNeg), .int (xs (v3 + 2).toNatClampNeg)]) (rest := []) E w g1 ⟨by decide, rfl⟩ (X10_tunes_c g1 hc263) mv_R_law_77 rfl rfl hl.1 ⟨Nat.le_of_ble_eq_true rfl, Nat.le_of_ble_eq_true rfl⟩ (Nat.le_of_ble_eq_true rfl) ⟨Nat.le_of_ble_eq_true rfl, Nat.le_of_ble_eq_true rfl⟩ dL_law_770 (fun H locs w => ?_)
        refine lv_aload_n E.1 E.2.1 dL_law_773 rfl (lv_at hl 2 rfl) ?_
        refine lv_aload_n E.1 E.2.1 dL_law_774 rfl (lv_at hl 0 rfl) ?_
        refine lv_iload_n E.1 E.2.1 dL_law_775 rfl (lv_at hl 3 rfl) ?_
        refine lv_iconst (v := 1) E.1 E.2.1 dL_law_776 rfl ?_
        refine lv_iadd E.1 E.2.1 dL_law_777 ?_
        obtain ⟨b266, hf⟩ := q_if hf
        refine va_sld E.1 E.2.1 hX hbl hbA w.2.2.2.2.2 b266 dL_law_778 ?_
        refine lv_aload_n E.1 E.2.1 dL_law_779 rfl (lv_at hl 0 rfl) ?_
        refine lv_iload_n E.1 E.2.1 dL_law_780 rfl (lv_at hl 3 rfl) ?_
        refine lv_iconst (v := 2) E.1 E.2.1 dL_law_781 rfl ?_
        refine lv_iadd E.1 E.2.1 dL_law_782 ?_
        obtain ⟨b267, hf⟩ := q_if hf
        refine va_sld E.1 E.2.1 hX hbl hbA w.2.2.2.2.2 b267 dL_law_783 ?_
        obtain ⟨r269, h270, hc268, hf⟩ := bd2_e hf
        refine k_Vi (As := [.int (xs (v3 + 1).toNatClampNeg), .int (xs (v3 + 2).toNatClampNeg)]) (rest := [.int r264]) E w g2 ⟨by decide, rfl⟩ (X11_tunes_c g2 hc268) mv_R_law_80 rfl rfl hl.1 ⟨Nat.le_of_ble_eq_true rfl, Nat.le_of_ble_eq_true rfl⟩ (Nat.le_of_ble_eq_true rfl) ⟨Nat.le_of_ble_eq_true rfl, Nat.le_of_ble_eq_true rfl⟩ dL_law_784 (fun H locs w => ?_)
        refine lv_icmp_eq (tgt := 1644) E.1 E.2.1 dL_law_787 (by decide) (fun c271 => ?_) (fun c271 => ?_)
        · have hf := q_pos c271 hf
          refine lv_iinc (v := v3 + 6) (lv' := [(3, .int (v3 + 6)), (0, .ref bs), (1, .ref (ad G 1)), (2, .ref (ad G 237))]) E.1 E.2.1 dL_law_1644 hl (k := 3) rfl rfl (by decide) rfl (fun ls hl => ?_)
          refine lv_goto (tgt := 18) E.1 E.2.1 dL_law_1647 (by decide) ?_
          exact ih _ _ _ _ _ hf w (lv_sub hl [1, 2, 3, 0] rfl)
        · have hf := q_neg c271 hf
          refine lv_iconst (v := 0) E.1 E.2.1 dL_law_790 rfl ?_
          cases hf
      have hf := q_neg c260 hf
      by_cases c272 : ((xs v3.toNatClampNeg) &&& 63) = 15
      · have hf := q_pos c272 hf
        refine lv_tableIn (off := 759) (tgt := 792) E.1 E.2.1 dL_law_33 (by rw [c272]; decide) (by rw [c272]; decide) (by rw [c272]; rfl) (by decide) ?_
        refine lv_aload_n E.1 E.2.1 dL_law_792 rfl (lv_at hl 1 rfl) ?_
        refine lv_aload_n E.1 E.2.1 dL_law_793 rfl (lv_at hl 0 rfl) ?_
        refine lv_iload_n E.1 E.2.1 dL_law_794 rfl (lv_at hl 3 rfl) ?_
        refine lv_iconst (v := 1) E.1 E.2.1 dL_law_795 rfl ?_
        refine lv_iadd E.1 E.2.1 dL_law_796 ?_
        obtain ⟨b273, hf⟩ := q_if hf
        refine va_sld E.1 E.2.1 hX hbl hbA w.2.2.2.2.2 b273 dL_law_797 ?_
        refine lv_aload_n E.1 E.2.1 dL_law_798 rfl (lv_at hl 0 rfl) ?_
        refine lv_iload_n E.1 E.2.1 dL_law_799 rfl (lv_at hl 3 rfl) ?_
        refine lv_iconst (v := 2) E.1 E.2.1 dL_law_800 rfl ?_
        refine lv_iadd E.1 E.2.1 dL_law_801 ?_
        obtain ⟨b274, hf⟩ := q_if hf
        refine va_sld E.1 E.2.1 hX hbl hbA w.2.2.2.2.2 b274 dL_law_802 ?_
        refine lv_aload_n E.1 E.2.1 dL_law_803 rfl (lv_at hl 0 rfl) ?_
        refine lv_iload_n E.1 E.2.1 dL_law_804 rfl (lv_at hl 3 rfl) ?_
        refine lv_iconst (v := 3) E.1 E.2.1 dL_law_805 rfl ?_
        refine lv_iadd E.1 E.2.1 dL_law_806 ?_
        obtain ⟨b275, hf⟩ := q_if hf
        refine va_sld E.1 E.2.1 hX hbl hbA w.2.2.2.2.2 b275 dL_law_807 ?_
        obtain ⟨r277, hc276, hf⟩ := bd1_e hf
        refine k_Vi (As := [.int (xs (v3 + 1).toNatClampNeg), .int (xs (v3 + 2).toNatClampNeg), .int (xs (v3 + 3).toNatClampNeg)]) (rest := []) E w g1 ⟨by decide, rfl⟩ (X10_fact_c g1 hc276) mv_R_law_81 rfl rfl hl.1 ⟨Nat.le_of_ble_eq_true rfl, Nat.le_of_ble_eq_true rfl⟩ (Nat.le_of_ble_eq_true rfl) ⟨Nat.le_of_ble_eq_true rfl, Nat.le_of_ble_eq_true rfl⟩ dL_law_808 (fun H locs w => ?_)
        refine lv_aload_n E.1 E.2.1 dL_law_811 rfl (lv_at hl 2 rfl) ?_
        refine lv_aload_n E.1 E.2.1 dL_law_812 rfl (lv_at hl 0 rfl) ?_
        refine lv_iload_n E.1 E.2.1 dL_law_813 rfl (lv_at hl 3 rfl) ?_
        refine lv_iconst (v := 1) E.1 E.2.1 dL_law_814 rfl ?_
        refine lv_iadd E.1 E.2.1 dL_law_815 ?_
        obtain ⟨b279, hf⟩ := q_if hf
        refine va_sld E.1 E.2.1 hX hbl hbA w.2.2.2.2.2 b279 dL_law_816 ?_
        refine lv_aload_n E.1 E.2.1 dL_law_817 rfl (lv_at hl 0 rfl) ?_
        refine lv_iload_n E.1 E.2.1 dL_law_818 rfl (lv_at hl 3 rfl) ?_
        refine lv_iconst (v := 2) E.1 E.2.1 dL_law_819 rfl ?_
        refine lv_iadd E.1 E.2.1 dL_law_820 ?_
        obtain ⟨b280, hf⟩ := q_if hf
        refine va_sld E.1 E.2.1 hX hbl hbA w.2.2.2.2.2 b280 dL_law_821 ?_
        refine lv_aload_n E.1 E.2.1 dL_law_822 rfl (lv_at hl 0 rfl) ?_
        refine lv_iload_n E.1 E.2.1 dL_law_823 rfl (lv_at hl 3 rfl) ?_
        refine lv_iconst (v := 3) E.1 E.2.1 dL_law_824 rfl ?_
        refine lv_iadd E.1 E.2.1 dL_law_825 ?_
        obtain ⟨b281, hf⟩ := q_if hf
        refine va_sld E.1 E.2.1 hX hbl hbA w.2.2.2.2.2 b281 dL_law_826 ?_
        obtain ⟨r283, h284, hc282, hf⟩ := bd2_e hf
        refine k_Vi (As := [.int (xs (v3 + 1).toNatClampNeg), .int (xs (v3 + 2).toNatClampNeg), .int (xs (v3 + 3).toNatClampNeg)]) (rest := [.int r277]) E w g2 ⟨by decide, rfl⟩ (X11_fact_c g2 hc282) mv_R_law_84 rfl rfl hl.1 ⟨Nat.le_of_ble_eq_true rfl, Nat.le_of_ble_eq_true rfl⟩ (Nat.le_of_ble_eq_true rfl) ⟨Nat.le_of_ble_eq_true rfl, Nat.le_of_ble_eq_true rfl⟩ dL_law_827 (fun H locs w => ?_)
        refine lv_icmp_eq (tgt := 1644) E.1 E.2.1 dL_law_830 (by decide) (fun c285 => ?_) (fun c285 => ?_)
        · have hf := q_pos c285 hf
          refine lv_iinc (v := v3 + 6) (lv' := [(3, .int (v3 + 6)), (0, .ref bs), (1, .ref (ad G 1)), (2, .ref (ad G 237))]) E.1 E.2.1 dL_law_1644 hl (k := 3) rfl rfl (by decide) rfl (fun ls hl => ?_)
          refine lv_goto (tgt := 18) E.1 E.2.1 dL_law_1647 (by decide) ?_
          exact ih _ _ _ _ _ hf w (lv_sub hl [1, 2, 3, 0] rfl)
        · have hf := q_neg c285 hf
          refine lv_iconst (v := 0) E.1 E.2.1 dL_law_833 rfl ?_
          cases hf
      have hf := q_neg c272 hf
      by_cases c286 : ((xs v3.toNatClampNeg) &&& 63) = 16
      · have hf := q_pos c286 hf
        refine lv_tableIn (off := 802) (tgt := 835) E.1 E.2.1 dL_law_33 (by rw [c286]; decide) (by rw [c286]; decide) (by rw [c286]; rfl) (by decide) ?_
        refine lv_aload_n E.1 E.2.1 dL_law_835 rfl (lv_at hl 1 rfl) ?_
        refine lv_aload_n E.1 E.2.1 dL_law_836 rfl (lv_at hl 0 rfl) ?_
        refine lv_iload_n E.1 E.2.1 dL_law_837 rfl (lv_at hl 3 rfl) ?_
        refine lv_iconst (v := 1) E.1 E.2.1 dL_law_838 rfl ?_
        refine lv_iadd E.1 E.2.1 dL_law_839 ?_
        obtain ⟨b287, hf⟩ := q_if hf
        refine va_sld E.1 E.2.1 hX hbl hbA w.2.2.2.2.2 b287 dL_law_840 ?_
        refine lv_aload_n E.1 E.2.1 dL_law_841 rfl (lv_at hl 0 rfl) ?_
        refine lv_iload_n E.1 E.2.1 dL_law_842 rfl (lv_at hl 3 rfl) ?_
        refine lv_iconst (v := 2) E.1 E.2.1 dL_law_843 rfl ?_
        refine lv_iadd E.1 E.2.1 dL_law_844 ?_
        obtain ⟨b288, hf⟩ := q_if hf
        refine va_sld E.1 E.2.1 hX hbl hbA w.2.2.2.2.2 b288 dL_law_845 ?_
        refine lv_aload_n E.1 E.2.1 dL_law_846 rfl (lv_at hl 0 rfl) ?_
        refine lv_iload_n E.1 E.2.1 dL_law_847 rfl (lv_at hl 3 rfl) ?_
        refine lv_iconst (v := 3) E.1 E.2.1 dL_law_848 rfl ?_
        refine lv_iadd E.1 E.2.1 dL_law_849 ?_
        obtain ⟨b289, hf⟩ := q_if hf
        refine va_sld E.1 E.2.1 hX hbl hbA w.2.2.2.2.2 b289 dL_law_850 ?_
        obtain ⟨r291, h292, hc290, hf⟩ := bd2_e hf
        refine k_Vi (As := [.int (xs (v3 + 1).toNatClampNeg), .int (xs (v3 + 2).toNatClampNeg), .int (xs (v3 + 3).toNatClampNeg)]) (rest := []) E w g1 ⟨by decide, rfl⟩ (X10_fits_c g1 hc290) mv_R_law_85 rfl rfl hl.1 ⟨Nat.le_of_ble_eq_true rfl, Nat.le_of_ble_eq_true rfl⟩ (Nat.le_of_ble_eq_true rfl) ⟨Nat.le_of_ble_eq_true rfl, Nat.le_of_ble_eq_true rfl⟩ dL_law_851 (fun H locs w => ?_)
        refine lv_aload_n E.1 E.2.1 dL_law_854 rfl (lv_at hl 2 rfl) ?_
        refine lv_aload_n E.1 E.2.1 dL_law_855 rfl (lv_at hl 0 rfl) ?_
        refine lv_iload_n E.1 E.2.1 dL_law_856 rfl (lv_at hl 3 rfl) ?_
        refine lv_iconst (v := 1) E.1 E.2.1 dL_law_857 rfl ?_
        refine lv_iadd E.1 E.2.1 dL_law_858 ?_
        obtain ⟨b293, hf⟩ := q_if hf
        refine va_sld E.1 E.2.1 hX hbl hbA w.2.2.2.2.2 b293 dL_law_859 ?_
        refine lv_aload_n E.1 E.2.1 dL_law_860 rfl (lv_at hl 0 rfl) ?_
        refine lv_iload_n E.1 E.2.1 dL_law_861 rfl (lv_at hl 3 rfl) ?_
        refine lv_iconst (v := 2) E.1 E.2.1 dL_law_862 rfl ?_
        refine lv_iadd E.1 E.2.1 dL_law_863 ?_
        obtain ⟨b294, hf⟩ := q_if hf
        refine va_sld E.1 E.2.1 hX hbl hbA w.2.2.2.2.2 b294 dL_law_864 ?_
        refine lv_aload_n E.1 E.2.1 dL_law_865 rfl (lv_at hl 0 rfl) ?_
        refine lv_iload_n E.1 E.2.1 dL_law_866 rfl (lv_at hl 3 rfl) ?_
        refine lv_iconst (v := 3) E.1 E.2.1 dL_law_867 rfl ?_
        refine lv_iadd E.1 E.2.1 dL_law_868 ?_
        obtain ⟨b295, hf⟩ := q_if hf
        refine va_sld E.1 E.2.1 hX hbl hbA w.2.2.2.2.2 b295 dL_law_869 ?_
        obtain ⟨r297, h298, hc296, hf⟩ := bd2_e hf
        refine k_Vi (As := [.int (xs (v3 + 1).toNatClampNeg), .int (xs (v3 + 2).toNatClampNeg), .int (xs (v3 + 3).toNatClampNeg)]) (rest := [.int r291]) E w g2 ⟨by decide, rfl⟩ (X11_fits_c g2 hc296) mv_R_law_88 rfl rfl hl.1 ⟨Nat.le_of_ble_eq_true rfl, Nat.le_of_ble_eq_true rfl⟩ (Nat.le_of_ble_eq_true rfl) ⟨Nat.le_of_ble_eq_true rfl, Nat.le_of_ble_eq_true rfl⟩ dL_law_870 (fun H locs w => ?_)
        refine lv_icmp_eq (tgt := 1644) E.1 E.2.1 dL_law_873 (by decide) (fun c299 => ?_) (fun c299 => ?_)
        · have hf := q_pos c299 hf
          refine lv_iinc (v := v3 + 6) (lv' := [(3, .int (v3 + 6)), (0, .ref bs), (1, .ref (ad G 1)), (2, .ref (ad G 237))]) E.1 E.2.1 dL_law_1644 hl (k := 3) rfl rfl (by decide) rfl (fun ls hl => ?_)
          refine lv_goto (tgt := 18) E.1 E.2.1 dL_law_1647 (by decide) ?_
          exact ih _ _ _ _ _ hf w (lv_sub hl [1, 2, 3, 0] rfl)
        · have hf := q_neg c299 hf
          refine lv_iconst (v := 0) E.1 E.2.1 dL_law_876 rfl ?_
          cases hf
      have hf := q_neg c286 hf
      by_cases c300 : ((xs v3.toNatClampNeg) &&& 63) = 17
      · have hf := q_pos c300 hf
        refine lv_tableIn (off := 845) (tgt := 878) E.1 E.2.1 dL_law_33 (by rw [c300]; decide) (by rw [c300]; decide) (by rw [c300]; rfl) (by decide) ?_
        refine lv_aload_n E.1 E.2.1 dL_law_878 rfl (lv_at hl 1 rfl) ?_
        refine lv_aload_n E.1 E.2.1 dL_law_879 rfl (lv_at hl 0 rfl) ?_
        refine lv_iload_n E.1 E.2.1 dL_law_880 rfl (lv_at hl 3 rfl) ?_
        refine lv_iconst (v := 1) E.1 E.2.1 dL_law_881 rfl ?_
        refine lv_iadd E.1 E.2.1 dL_law_882 ?_
        obtain ⟨b301, hf⟩ := q_if hf
        refine va_sld E.1 E.2.1 hX hbl hbA w.2.2.2.2.2 b301 dL_law_883 ?_
        refine lv_aload_n E.1 E.2.1 dL_law_884 rfl (lv_at hl 0 rfl) ?_
        refine lv_iload_n E.1 E.2.1 dL_law_885 rfl (lv_at hl 3 rfl) ?_
        refine lv_iconst (v := 2) E.1 E.2.1 dL_law_886 rfl ?_
        refine lv_iadd E.1 E.2.1 dL_law_887 ?_
        obtain ⟨b302, hf⟩ := q_if hf
        refine va_sld E.1 E.2.1 hX hbl hbA w.2.2.2.2.2 b302 dL_law_888 ?_
        refine lv_aload_n E.1 E.2.1 dL_law_889 rfl (lv_at hl 0 rfl) ?_
        refine lv_iload_n E.1 E.2.1 dL_law_890 rfl (lv_at hl 3 rfl) ?_
        refine lv_iconst (v := 3) E.1 E.2.1 dL_law_891 rfl ?_
        refine lv_iadd E.1 E.2.1 dL_law_892 ?_
        obtain ⟨b303, hf⟩ := q_if hf
        refine va_sld E.1 E.2.1 hX hbl hbA w.2.2.2.2.2 b303 dL_law_893 ?_
        refine lv_aload_n E.1 E.2.1 dL_law_894 rfl (lv_at hl 0 rfl) ?_
        refine lv_iload_n E.1 E.2.1 dL_law_895 rfl (lv_at hl 3 rfl) ?_
        refine lv_iconst (v := 4) E.1 E.2.1 dL_law_896 rfl ?_
        refine lv_iadd E.1 E.2.1 dL_law_897 ?_
        obtain ⟨b304, hf⟩ := q_if hf
        refine va_sld E.1 E.2.1 hX hbl hbA w.2.2.2.2.2 b304 dL_law_898 ?_
        obtain ⟨r306, h307, hc305, hf⟩ := bd2_e hf
        refine k_Vi (As := [.int (xs (v3 + 1).toNatClampNeg), .int (xs (v3 + 2).toNatClampNeg), .int (xs (v3 + 3).toNatClampNeg), .int (xs (v3 + 4).toNatClampNeg)]) (rest := []) E w g1 ⟨by decide, rfl⟩ (X10_drawn_c g1 hc305) mv_R_law_89 rfl rfl hl.1 ⟨Nat.le_of_ble_eq_true rfl, Nat.le_of_ble_eq_true rfl⟩ (Nat.le_of_ble_eq_true rfl) ⟨Nat.le_of_ble_eq_true rfl, Nat.le_of_ble_eq_true rfl⟩ dL_law_899 (fun H locs w => ?_)
        refine lv_aload_n E.1 E.2.1 dL_law_902 rfl (lv_at hl 2 rfl) ?_
        refine lv_aload_n E.1 E.2.1 dL_law_903 rfl (lv_at hl 0 rfl) ?_
        refine lv_iload_n E.1 E.2.1 dL_law_904 rfl (lv_at hl 3 rfl) ?_
        refine lv_iconst (v := 1) E.1 E.2.1 dL_law_905 rfl ?_
        refine lv_iadd E.1 E.2.1 dL_law_906 ?_
        obtain ⟨b308, hf⟩ := q_if hf
        refine va_sld E.1 E.2.1 hX hbl hbA w.2.2.2.2.2 b308 dL_law_907 ?_
        refine lv_aload_n E.1 E.2.1 dL_law_908 rfl (lv_at hl 0 rfl) ?_
        refine lv_iload_n E.1 E.2.1 dL_law_909 rfl (lv_at hl 3 rfl) ?_
        refine lv_iconst (v := 2) E.1 E.2.1 dL_law_910 rfl ?_
        refine lv_iadd E.1 E.2.1 dL_law_911 ?_
        obtain ⟨b309, hf⟩ := q_if hf
        refine va_sld E.1 E.2.1 hX hbl hbA w.2.2.2.2.2 b309 dL_law_912 ?_
        refine lv_aload_n E.1 E.2.1 dL_law_913 rfl (lv_at hl 0 rfl) ?_
        refine lv_iload_n E.1 E.2.1 dL_law_914 rfl (lv_at hl 3 rfl) ?_
        refine lv_iconst (v := 3) E.1 E.2.1 dL_law_915 rfl ?_
        refine lv_iadd E.1 E.2.1 dL_law_916 ?_
        obtain ⟨b310, hf⟩ := q_if hf
        refine va_sld E.1 E.2.1 hX hbl hbA w.2.2.2.2.2 b310 dL_law_917 ?_
        refine lv_aload_n E.1 E.2.1 dL_law_918 rfl (lv_at hl 0 rfl) ?_
        refine lv_iload_n E.1 E.2.1 dL_law_919 rfl (lv_at hl 3 rfl) ?_
        refine lv_iconst (v := 4) E.1 E.2.1 dL_law_920 rfl ?_
        refine lv_iadd E.1 E.2.1 dL_law_921 ?_
        obtain ⟨b311, hf⟩ := q_if hf
        refine va_sld E.1 E.2.1 hX hbl hbA w.2.2.2.2.2 b311 dL_law_922 ?_
        obtain ⟨r313, h314, hc312, hf⟩ := bd2_e hf
        refine k_Vi (As := [.int (xs (v3 + 1).toNatClampNeg), .int (xs (v3 + 2).toNatClampNeg), .int (xs (v3 + 3).toNatClampNeg), .int (xs (v3 + 4).toNatClampNeg)]) (rest := [.int r306]) E w g2 ⟨by decide, rfl⟩ (X11_drawn_c g2 hc312) mv_R_law_92 rfl rfl hl.1 ⟨Nat.le_of_ble_eq_true rfl, Nat.le_of_ble_eq_true rfl⟩ (Nat.le_of_ble_eq_true rfl) ⟨Nat.le_of_ble_eq_true rfl, Nat.le_of_ble_eq_true rfl⟩ dL_law_923 (fun H locs w => ?_)
        refine lv_icmp_eq (tgt := 1644) E.1 E.2.1 dL_law_926 (by decide) (fun c315 => ?_) (fun c315 => ?_)
        · have hf := q_pos c315 hf
          refine lv_iinc (v := v3 + 6) (lv' := [(3, .int (v3 + 6)), (0, .ref bs), (1, .ref (ad G 1)), (2, .ref (ad G 237))]) E.1 E.2.1 dL_law_1644 hl (k := 3) rfl rfl (by decide) rfl (fun ls hl => ?_)
          refine lv_goto (tgt := 18) E.1 E.2.1 dL_law_1647 (by decide) ?_
          exact ih _ _ _ _ _ hf w (lv_sub hl [1, 2, 3, 0] rfl)
        · have hf := q_neg c315 hf
          refine lv_iconst (v := 0) E.1 E.2.1 dL_law_929 rfl ?_
          cases hf
      have hf := q_neg c300 hf
      by_cases c316 : ((xs v3.toNatClampNeg) &&& 63) = 18
      · have hf := q_pos c316 hf
        refine lv_tableIn (off := 898) (tgt := 931) E.1 E.2.1 dL_law_33 (by rw [c316]; decide) (by rw [c316]; decide) (by rw [c316]; rfl) (by decide) ?_
        refine lv_aload_n E.1 E.2.1 dL_law_931 rfl (lv_at hl 1 rfl) ?_
        refine lv_aload_n E.1 E.2.1 dL_law_932 rfl (lv_at hl 0 rfl) ?_
        refine lv_iload_n E.1 E.2.1 dL_law_933 rfl (lv_at hl 3 rfl) ?_
        refine lv_iconst (v := 1) E.1 E.2.1 dL_law_934 rfl ?_
        refine lv_iadd E.1 E.2.1 dL_law_935 ?_
        obtain ⟨b317, hf⟩ := q_if hf
        refine va_sld E.1 E.2.1 hX hbl hbA w.2.2.2.2.2 b317 dL_law_936 ?_
        refine lv_aload_n E.1 E.2.1 dL_law_937 rfl (lv_at hl 0 rfl) ?_
        refine lv_iload_n E.1 E.2.1 dL_law_938 rfl (lv_at hl 3 rfl) ?_
        refine lv_iconst (v := 2) E.1 E.2.1 dL_law_939 rfl ?_
        refine lv_iadd E.1 E.2.1 dL_law_940 ?_
        obtain ⟨b318, hf⟩ := q_if hf
        refine va_sld E.1 E.2.1 hX hbl hbA w.2.2.2.2.2 b318 dL_law_941 ?_
        refine lv_aload_n E.1 E.2.1 dL_law_942 rfl (lv_at hl 0 rfl) ?_
        refine lv_iload_n E.1 E.2.1 dL_law_943 rfl (lv_at hl 3 rfl) ?_
        refine lv_iconst (v := 3) E.1 E.2.1 dL_law_944 rfl ?_
        refine lv_iadd E.1 E.2.1 dL_law_945 ?_
        obtain ⟨b319, hf⟩ := q_if hf
        refine va_sld E.1 E.2.1 hX hbl hbA w.2.2.2.2.2 b319 dL_law_946 ?_
        refine lv_if_eq (tgt := 954) E.1 E.2.1 dL_law_947 (by decide) (fun c320 => ?_) (fun c320 => ?_)
        · have hf := q_pos c320 hf
          refine lv_iconst (v := 0) E.1 E.2.1 dL_law_954 rfl ?_
          obtain ⟨r322, h323, hc321, hf⟩ := bd2_e hf
          refine k_Vi (As := [.int (xs (v3 + 1).toNatClampNeg), .int (xs (v3 + 2).toNatClampNeg), .int 0]) (rest := []) E w g1 ⟨by decide, rfl⟩ (X10_sung_c g1 hc321) mv_R_law_93 rfl rfl hl.1 ⟨Nat.le_of_ble_eq_true rfl, Nat.le_of_ble_eq_true rfl⟩ (Nat.le_of_ble_eq_true rfl) ⟨Nat.le_of_ble_eq_true rfl, Nat.le_of_ble_eq_true rfl⟩ dL_law_955 (fun H locs w => ?_)
          refine lv_aload_n E.1 E.2.1 dL_law_958 rfl (lv_at hl 2 rfl) ?_
          refine lv_aload_n E.1 E.2.1 dL_law_959 rfl (lv_at hl 0 rfl) ?_
          refine lv_iload_n E.1 E.2.1 dL_law_960 rfl (lv_at hl 3 rfl) ?_
          refine lv_iconst (v := 1) E.1 E.2.1 dL_law_961 rfl ?_
          refine lv_iadd E.1 E.2.1 dL_law_962 ?_
          obtain ⟨b324, hf⟩ := q_if hf
          refine va_sld E.1 E.2.1 hX hbl hbA w.2.2.2.2.2 b324 dL_law_963 ?_
          refine lv_aload_n E.1 E.2.1 dL_law_964 rfl (lv_at hl 0 rfl) ?_
          refine lv_iload_n E.1 E.2.1 dL_law_965 rfl (lv_at hl 3 rfl) ?_
          refine lv_iconst (v := 2) E.1 E.2.1 dL_law_966 rfl ?_
          refine lv_iadd E.1 E.2.1 dL_law_967 ?_
          obtain ⟨b325, hf⟩ := q_if hf
          refine va_sld E.1 E.2.1 hX hbl hbA w.2.2.2.2.2 b325 dL_law_968 ?_
          refine lv_aload_n E.1 E.2.1 dL_law_969 rfl (lv_at hl 0 rfl) ?_
          refine lv_iload_n E.1 E.2.1 dL_law_970 rfl (lv_at hl 3 rfl) ?_
          refine lv_iconst (v := 3) E.1 E.2.1 dL_law_971 rfl ?_
          refine lv_iadd E.1 E.2.1 dL_law_972 ?_
          obtain ⟨b326, hf⟩ := q_if hf
          refine va_sld E.1 E.2.1 hX hbl hbA w.2.2.2.2.2 b326 dL_law_973 ?_
          refine lv_if_eq (tgt := 981) E.1 E.2.1 dL_law_974 (by decide) (fun c327 => ?_) (fun c327 => ?_)
          · have hf := q_pos c327 hf
            refine lv_iconst (v := 0) E.1 E.2.1 dL_law_981 rfl ?_
            obtain ⟨r329, h330, hc328, hf⟩ := bd2_e hf
            refine k_Vi (As := [.int (xs (v3 + 1).toNatClampNeg), .int (xs (v3 + 2).toNatClampNeg), .int 0]) (rest := [.int r322]) E w g2 ⟨by decide, rfl⟩ (X11_sung_c g2 hc328) mv_R_law_96 rfl rfl hl.1 ⟨Nat.le_of_ble_eq_true rfl, Nat.le_of_ble_eq_true rfl⟩ (Nat.le_of_ble_eq_true rfl) ⟨Nat.le_of_ble_eq_true rfl, Nat.le_of_ble_eq_true rfl⟩ dL_law_982 (fun H locs w => ?_)
            refine lv_icmp_eq (tgt := 1644) E.1 E.2.1 dL_law_985 (by decide) (fun c331 => ?_) (fun c331 => ?_)
            · have hf := q_pos c331 hf
              refine lv_iinc (v := v3 + 6) (lv' := [(3, .int (v3 + 6)), (0, .ref bs), (1, .ref (ad G 1)), (2, .ref (ad G 237))]) E.1 E.2.1 dL_law_1644 hl (k := 3) rfl rfl (by decide) rfl (fun ls hl => ?_)
              refine lv_goto (tgt := 18) E.1 E.2.1 dL_law_1647 (by decide) ?_
              exact ih _ _ _ _ _ hf w (lv_sub hl [1, 2, 3, 0] rfl)
            · have hf := q_neg c331 hf
              refine lv_iconst (v := 0) E.1 E.2.1 dL_law_988 rfl ?_
              cases hf
          · have hf := q_neg c327 hf
            refine lv_iconst (v := 1) E.1 E.2.1 dL_law_977 rfl ?_
            refine lv_goto (tgt := 982) E.1 E.2.1 dL_law_978 (by decide) ?_
            obtain ⟨r333, h334, hc332, hf⟩ := bd2_e hf
            refine k_Vi (As := [.int (xs (v3 + 1).toNatClampNeg), .int (xs (v3 + 2).toNatClampNeg), .int 1]) (rest := [.int r322]) E w g2 ⟨by decide, rfl⟩ (X11_sung_c g2 hc332) mv_R_law_96 rfl rfl hl.1 ⟨Nat.le_of_ble_eq_true rfl, Nat.le_of_ble_eq_true rfl⟩ (Nat.le_of_ble_eq_true rfl) ⟨Nat.le_of_ble_eq_true rfl, Nat.le_of_ble_eq_true rfl⟩ dL_law_982 (fun H locs w => ?_)
            refine lv_icmp_eq (tgt := 1644) E.1 E.2.1 dL_law_985 (by decide) (fun c335 => ?_) (fun c335 => ?_)
            · have hf := q_pos c335 hf
              refine lv_iinc (v := v3 + 6) (lv' := [(3, .int (v3 + 6)), (0, .ref bs), (1, .ref (ad G 1)), (2, .ref (ad G 237))]) E.1 E.2.1 dL_law_1644 hl (k := 3) rfl rfl (by decide) rfl (fun ls hl => ?_)
              refine lv_goto (tgt := 18) E.1 E.2.1 dL_law_1647 (by decide) ?_
              exact ih _ _ _ _ _ hf w (lv_sub hl [1, 2, 3, 0] rfl)
            · have hf := q_neg c335 hf
              refine lv_iconst (v := 0) E.1 E.2.1 dL_law_988 rfl ?_
              cases hf
        · have hf := q_neg c320 hf
          refine lv_iconst (v := 1) E.1 E.2.1 dL_law_950 rfl ?_
          refine lv_goto (tgt := 955) E.1 E.2.1 dL_law_951 (by decide) ?_
          obtain ⟨r337, h338, hc336, hf⟩ := bd2_e hf
          refine k_Vi (As := [.int (xs (v3 + 1).toNatClampNeg), .int (xs (v3 + 2).toNatClampNeg), .int 1]) (rest := []) E w g1 ⟨by decide, rfl⟩ (X10_sung_c g1 hc336) mv_R_law_93 rfl rfl hl.1 ⟨Nat.le_of_ble_eq_true rfl, Nat.le_of_ble_eq_true rfl⟩ (Nat.le_of_ble_eq_true rfl) ⟨Nat.le_of_ble_eq_true rfl, Nat.le_of_ble_eq_true rfl⟩ dL_law_955 (fun H locs w => ?_)
          refine lv_aload_n E.1 E.2.1 dL_law_958 rfl (lv_at hl 2 rfl) ?_
          refine lv_aload_n E.1 E.2.1 dL_law_959 rfl (lv_at hl 0 rfl) ?_
          refine lv_iload_n E.1 E.2.1 dL_law_960 rfl (lv_at hl 3 rfl) ?_
          refine lv_iconst (v := 1) E.1 E.2.1 dL_law_961 rfl ?_
          refine lv_iadd E.1 E.2.1 dL_law_962 ?_
          obtain ⟨b339, hf⟩ := q_if hf
          refine va_sld E.1 E.2.1 hX hbl hbA w.2.2.2.2.2 b339 dL_law_963 ?_
          refine lv_aload_n E.1 E.2.1 dL_law_964 rfl (lv_at hl 0 rfl) ?_
          refine lv_iload_n E.1 E.2.1 dL_law_965 rfl (lv_at hl 3 rfl) ?_
          refine lv_iconst (v := 2) E.1 E.2.1 dL_law_966 rfl ?_
          refine lv_iadd E.1 E.2.1 dL_law_967 ?_
          obtain ⟨b340, hf⟩ := q_if hf
          refine va_sld E.1 E.2.1 hX hbl hbA w.2.2.2.2.2 b340 dL_law_968 ?_
          refine lv_aload_n E.1 E.2.1 dL_law_969 rfl (lv_at hl 0 rfl) ?_
          refine lv_iload_n E.1 E.2.1 dL_law_970 rfl (lv_at hl 3 rfl) ?_
          refine lv_iconst (v := 3) E.1 E.2.1 dL_law_971 rfl ?_
          refine lv_iadd E.1 E.2.1 dL_law_972 ?_
          obtain ⟨b341, hf⟩ := q_if hf
          refine va_sld E.1 E.2.1 hX hbl hbA w.2.2.2.2.2 b341 dL_law_973 ?_
          refine lv_if_eq (tgt := 981) E.1 E.2.1 dL_law_974 (by decide) (fun c342 => ?_) (fun c342 => ?_)
          · have hf := q_pos c342 hf
            refine lv_iconst (v := 0) E.1 E.2.1 dL_law_981 rfl ?_
            obtain ⟨r344, h345, hc343, hf⟩ := bd2_e hf
            refine k_Vi (As := [.int (xs (v3 + 1).toNatClampNeg), .int (xs (v3 + 2).toNatClampNeg), .int 0]) (rest := [.int r337]) E w g2 ⟨by decide, rfl⟩ (X11_sung_c g2 hc343) mv_R_law_96 rfl rfl hl.1 ⟨Nat.le_of_ble_eq_true rfl, Nat.le_of_ble_eq_true rfl⟩ (Nat.le_of_ble_eq_true rfl) ⟨Nat.le_of_ble_eq_true rfl, Nat.le_of_ble_eq_true rfl⟩ dL_law_982 (fun H locs w => ?_)
            refine lv_icmp_eq (tgt := 1644) E.1 E.2.1 dL_law_985 (by decide) (fun c346 => ?_) (fun c346 => ?_)
            · have hf := q_pos c346 hf
              refine lv_iinc (v := v3 + 6) (lv' := [(3, .int (v3 + 6)), (0, .ref bs), (1, .ref (ad G 1)), (2, .ref (ad G 237))]) E.1 E.2.1 dL_law_1644 hl (k := 3) rfl rfl (by decide) rfl (fun ls hl => ?_)
              refine lv_goto (tgt := 18) E.1 E.2.1 dL_law_1647 (by decide) ?_
              exact ih _ _ _ _ _ hf w (lv_sub hl [1, 2, 3, 0] rfl)
            · have hf := q_neg c346 hf
              refine lv_iconst (v := 0) E.1 E.2.1 dL_law_988 rfl ?_
              cases hf
          · have hf := q_neg c342 hf
            refine lv_iconst (v := 1) E.1 E.2.1 dL_law_977 rfl ?_
            refine lv_goto (tgt := 982) E.1 E.2.1 dL_law_978 (by decide) ?_
            obtain ⟨r348, h349, hc347, hf⟩ := bd2_e hf
            refine k_Vi (As := [.int (xs (v3 + 1).toNatClampNeg), .int (xs (v3 + 2).toNatClampNeg), .int 1]) (rest := [.int r337]) E w g2 ⟨by decide, rfl⟩ (X11_sung_c g2 hc347) mv_R_law_96 rfl rfl hl.1 ⟨Nat.le_of_ble_eq_true rfl, Nat.le_of_ble_eq_true rfl⟩ (Nat.le_of_ble_eq_true rfl) ⟨Nat.le_of_ble_eq_true rfl, Nat.le_of_ble_eq_true rfl⟩ dL_law_982 (fun H locs w => ?_)
            refine lv_icmp_eq (tgt := 1644) E.1 E.2.1 dL_law_985 (by decide) (fun c350 => ?_) (fun c350 => ?_)
            · have hf := q_pos c350 hf
              refine lv_iinc (v := v3 + 6) (lv' := [(3, .int (v3 + 6)), (0, .ref bs), (1, .ref (ad G 1)), (2, .ref (ad G 237))]) E.1 E.2.1 dL_law_1644 hl (k := 3) rfl rfl (by decide) rfl (fun ls hl => ?_)
              refine lv_goto (tgt := 18) E.1 E.2.1 dL_law_1647 (by decide) ?_
              exact ih _ _ _ _ _ hf w (lv_sub hl [1, 2, 3, 0] rfl)
            · have hf := q_neg c350 hf
              refine lv_iconst (v := 0) E.1 E.2.1 dL_law_988 rfl ?_
              cases hf
      have hf := q_neg c316 hf
      by_cases c351 : ((xs v3.toNatClampNeg) &&& 63) = 19
      · have hf := q_pos c351 hf
        refine lv_tableIn (off := 957) (tgt := 990) E.1 E.2.1 dL_law_33 (by rw [c351]; decide) (by rw [c351]; decide) (by rw [c351]; rfl) (by decide) ?_
        refine lv_aload_n E.1 E.2.1 dL_law_990 rfl (lv_at hl 1 rfl) ?_
        refine lv_aload_n E.1 E.2.1 dL_law_991 rfl (lv_at hl 0 rfl) ?_
        refine lv_iload_n E.1 E.2.1 dL_law_992 rfl (lv_at hl 3 rfl) ?_
        refine lv_iconst (v := 1) E.1 E.2.1 dL_law_993 rfl ?_
        refine lv_iadd E.1 E.2.1 dL_law_994 ?_
        obtain ⟨b352, hf⟩ := q_if hf
        refine va_sld E.1 E.2.1 hX hbl hbA w.2.2.2.2.2 b352 dL_law_995 ?_
        refine lv_aload_n E.1 E.2.1 dL_law_996 rfl (lv_at hl 0 rfl) ?_
        refine lv_iload_n E.1 E.2.1 dL_law_997 rfl (lv_at hl 3 rfl) ?_
        refine lv_iconst (v := 2) E.1 E.2.1 dL_law_998 rfl ?_
        refine lv_iadd E.1 E.2.1 dL_law_999 ?_
        obtain ⟨b353, hf⟩ := q_if hf
        refine va_sld E.1 E.2.1 hX hbl hbA w.2.2.2.2.2 b353 dL_law_1000 ?_
        obtain ⟨r355, h356, hc354, hf⟩ := bd2_e hf
        refine k_Vi (As := [.int (xs (v3 + 1).toNatClampNeg), .int (xs (v3 + 2).toNatClampNeg)]) (rest := []) E w g1 ⟨by decide, rfl⟩ (X10_spare_c g1 hc354) mv_R_law_97 rfl rfl hl.1 ⟨Nat.le_of_ble_eq_true rfl, Nat.le_of_ble_eq_true rfl⟩ (Nat.le_of_ble_eq_true rfl) ⟨Nat.le_of_ble_eq_true rfl, Nat.le_of_ble_eq_true rfl⟩ dL_law_1001 (fun H locs w => ?_)
        refine lv_aload_n E.1 E.2.1 dL_law_1004 rfl (lv_at hl 2 rfl) ?_
        refine lv_aload_n E.1 E.2.1 dL_law_1005 rfl (lv_at hl 0 rfl) ?_
        refine lv_iload_n E.1 E.2.1 dL_law_1006 rfl (lv_at hl 3 rfl) ?_
        refine lv_iconst (v := 1) E.1 E.2.1 dL_law_1007 rfl ?_
        refine lv_iadd E.1 E.2.1 dL_law_1008 ?_
        obtain ⟨b357, hf⟩ := q_if hf
        refine va_sld E.1 E.2.1 hX hbl hbA w.2.2.2.2.2 b357 dL_law_1009 ?_
        refine lv_aload_n E.1 E.2.1 dL_law_1010 rfl (lv_at hl 0 rfl) ?_
        refine lv_iload_n E.1 E.2.1 dL_law_1011 rfl (lv_at hl 3 rfl) ?_
        refine lv_iconst (v := 2) E.1 E.2.1 dL_law_1012 rfl ?_
        refine lv_iadd E.1 E.2.1 dL_law_1013 ?_
        obtain ⟨b358, hf⟩ := q_if hf
        refine va_sld E.1 E.2.1 hX hbl hbA w.2.2.2.2.2 b358 dL_law_1014 ?_
        obtain ⟨r360, h361, hc359, hf⟩ := bd2_e hf
        refine k_Vi (As := [.int (xs (v3 + 1).toNatClampNeg), .int (xs (v3 + 2).toNatClampNeg)]) (rest := [.int r355]) E w g2 ⟨by decide, rfl⟩ (X11_spare_c g2 hc359) mv_R_law_100 rfl rfl hl.1 ⟨Nat.le_of_ble_eq_true rfl, Nat.le_of_ble_eq_true rfl⟩ (Nat.le_of_ble_eq_true rfl) ⟨Nat.le_of_ble_eq_true rfl, Nat.le_of_ble_eq_true rfl⟩ dL_law_1015 (fun H locs w => ?_)
        refine lv_icmp_eq (tgt := 1644) E.1 E.2.1 dL_law_1018 (by decide) (fun c362 => ?_) (fun c362 => ?_)
        · have hf := q_pos c362 hf
          refine lv_iinc (v := v3 + 6) (lv' := [(3, .int (v3 + 6)), (0, .ref bs), (1, .ref (ad G 1)), (2, .ref (ad G 237))]) E.1 E.2.1 dL_law_1644 hl (k := 3) rfl rfl (by decide) rfl (fun ls hl => ?_)
          refine lv_goto (tgt := 18) E.1 E.2.1 dL_law_1647 (by decide) ?_
          exact ih _ _ _ _ _ hf w (lv_sub hl [1, 2, 3, 0] rfl)
        · have hf := q_neg c362 hf
          refine lv_iconst (v := 0) E.1 E.2.1 dL_law_1021 rfl ?_
          cases hf
      have hf := q_neg c351 hf
      by_cases c363 : ((xs v3.toNatClampNeg) &&& 63) = 20
      · have hf := q_pos c363 hf
        refine lv_tableIn (off := 990) (tgt := 1023) E.1 E.2.1 dL_law_33 (by rw [c363]; decide) (by rw [c363]; decide) (by rw [c363]; rfl) (by decide) ?_
        refine lv_aload_n E.1 E.2.1 dL_law_1023 rfl (lv_at hl 1 rfl) ?_
        refine lv_aload_n E.1 E.2.1 dL_law_1024 rfl (lv_at hl 0 rfl) ?_
        refine lv_iload_n E.1 E.2.1 dL_law_1025 rfl (lv_at hl 3 rfl) ?_
        refine lv_iconst (v := 1) E.1 E.2.1 dL_law_1026 rfl ?_
        refine lv_iadd E.1 E.2.1 dL_law_1027 ?_
        obtain ⟨b364, hf⟩ := q_if hf
        refine va_sld E.1 E.2.1 hX hbl hbA w.2.2.2.2.2 b364 dL_law_1028 ?_
        refine lv_aload_n E.1 E.2.1 dL_law_1029 rfl (lv_at hl 0 rfl) ?_
        refine lv_iload_n E.1 E.2.1 dL_law_1030 rfl (lv_at hl 3 rfl) ?_
        refine lv_iconst (v := 2) E.1 E.2.1 dL_law_1031 rfl ?_
        refine lv_iadd E.1 E.2.1 dL_law_1032 ?_
        obtain ⟨b365, hf⟩ := q_if hf
        refine va_sld E.1 E.2.1 hX hbl hbA w.2.2.2.2.2 b365 dL_law_1033 ?_
        obtain ⟨r367, h368, hc366, hf⟩ := bd2_e hf
        refine k_Vi (As := [.int (xs (v3 + 1).toNatClampNeg), .int (xs (v3 + 2).toNatClampNeg)]) (rest := []) E w g1 ⟨by decide, rfl⟩ (X10_ease_c g1 hc366) mv_R_law_101 rfl rfl hl.1 ⟨Nat.le_of_ble_eq_true rfl, Nat.le_of_ble_eq_true rfl⟩ (Nat.le_of_ble_eq_true rfl) ⟨Nat.le_of_ble_eq_true rfl, Nat.le_of_ble_eq_true rfl⟩ dL_law_1034 (fun H locs w => ?_)
        refine lv_aload_n E.1 E.2.1 dL_law_1037 rfl (lv_at hl 2 rfl) ?_
        refine lv_aload_n E.1 E.2.1 dL_law_1038 rfl (lv_at hl 0 rfl) ?_
        refine lv_iload_n E.1 E.2.1 dL_law_1039 rfl (lv_at hl 3 rfl) ?_
        refine lv_iconst (v := 1) E.1 E.2.1 dL_law_1040 rfl ?_
        refine lv_iadd E.1 E.2.1 dL_law_1041 ?_
        obtain ⟨b369, hf⟩ := q_if hf
        refine va_sld E.1 E.2.1 hX hbl hbA w.2.2.2.2.2 b369 dL_law_1042 ?_
        refine lv_aload_n E.1 E.2.1 dL_law_1043 rfl (lv_at hl 0 rfl) ?_
        refine lv_iload_n E.1 E.2.1 dL_law_1044 rfl (lv_at hl 3 rfl) ?_
        refine lv_iconst (v := 2) E.1 E.2.1 dL_law_1045 rfl ?_
        refine lv_iadd E.1 E.2.1 dL_law_1046 ?_
        obtain ⟨b370, hf⟩ := q_if hf
        refine va_sld E.1 E.2.1 hX hbl hbA w.2.2.2.2.2 b370 dL_law_1047 ?_
        obtain ⟨r372, h373, hc371, hf⟩ := bd2_e hf
        refine k_Vi (As := [.int (xs (v3 + 1).toNatClampNeg), .int (xs (v3 + 2).toNatClampNeg)]) (rest := [.int r367]) E w g2 ⟨by decide, rfl⟩ (X11_ease_c g2 hc371) mv_R_law_104 rfl rfl hl.1 ⟨Nat.le_of_ble_eq_true rfl, Nat.le_of_ble_eq_true rfl⟩ (Nat.le_of_ble_eq_true rfl) ⟨Nat.le_of_ble_eq_true rfl, Nat.le_of_ble_eq_true rfl⟩ dL_law_1048 (fun H locs w => ?_)
        refine lv_icmp_eq (tgt := 1644) E.1 E.2.1 dL_law_1051 (by decide) (fun c374 => ?_) (fun c374 => ?_)
        · have hf := q_pos c374 hf
          refine lv_iinc (v := v3 + 6) (lv' := [(3, .int (v3 + 6)), (0, .ref bs), (1, .ref (ad G 1)), (2, .ref (ad G 237))]) E.1 E.2.1 dL_law_1644 hl (k := 3) rfl rfl (by decide) rfl (fun ls hl => ?_)
          refine lv_goto (tgt := 18) E.1 E.2.1 dL_law_1647 (by decide) ?_
          exact ih _ _ _ _ _ hf w (lv_sub hl [1, 2, 3, 0] rfl)
        · have hf := q_neg c374 hf
          refine lv_iconst (v := 0) E.1 E.2.1 dL_law_1054 rfl ?_
          cases hf
      have hf := q_neg c363 hf
      by_cases c375 : ((xs v3.toNatClampNeg) &&& 63) = 21
      · have hf := q_pos c375 hf
        refine lv_tableIn (off := 1023) (tgt := 1056) E.1 E.2.1 dL_law_33 (by rw [c375]; decide) (by rw [c375]; decide) (by rw [c375]; rfl) (by decide) ?_
        refine lv_aload_n E.1 E.2.1 dL_law_1056 rfl (lv_at hl 1 rfl) ?_
        refine lv_aload_n E.1 E.2.1 dL_law_1057 rfl (lv_at hl 0 rfl) ?_
        refine lv_iload_n E.1 E.2.1 dL_law_1058 rfl (lv_at hl 3 rfl) ?_
        refine lv_iconst (v := 1) E.1 E.2.1 dL_law_1059 rfl ?_
        refine lv_iadd E.1 E.2.1 dL_law_1060 ?_
        obtain ⟨b376, hf⟩ := q_if hf
        refine va_sld E.1 E.2.1 hX hbl hbA w.2.2.2.2.2 b376 dL_law_1061 ?_
        refine lv_aload_n E.1 E.2.1 dL_law_1062 rfl (lv_at hl 0 rfl) ?_
        refine lv_iload_n E.1 E.2.1 dL_law_1063 rfl (lv_at hl 3 rfl) ?_
        refine lv_iconst (v := 2) E.1 E.2.1 dL_law_1064 rfl ?_
        refine lv_iadd E.1 E.2.1 dL_law_1065 ?_
        obtain ⟨b377, hf⟩ := q_if hf
        refine va_sld E.1 E.2.1 hX hbl hbA w.2.2.2.2.2 b377 dL_law_1066 ?_
        obtain ⟨r379, hc378, hf⟩ := bd1_e hf
        refine k_Vi (As := [.int (xs (v3 + 1).toNatClampNeg), .int (xs (v3 + 2).toNatClampNeg)]) (rest := []) E w g1 ⟨by decide, rfl⟩ (X10_roof_c g1 hc378) mv_R_law_105 rfl rfl hl.1 ⟨Nat.le_of_ble_eq_true rfl, Nat.le_of_ble_eq_true rfl⟩ (Nat.le_of_ble_eq_true rfl) ⟨Nat.le_of_ble_eq_true rfl, Nat.le_of_ble_eq_true rfl⟩ dL_law_1067 (fun H locs w => ?_)
        refine lv_aload_n E.1 E.2.1 dL_law_1070 rfl (lv_at hl 2 rfl) ?_
        refine lv_aload_n E.1 E.2.1 dL_law_1071 rfl (lv_at hl 0 rfl) ?_
        refine lv_iload_n E.1 E.2.1 dL_law_1072 rfl (lv_at hl 3 rfl) ?_
        refine lv_iconst (v := 1) E.1 E.2.1 dL_law_1073 rfl ?_
        refine lv_iadd E.1 E.2.1 dL_law_1074 ?_
        obtain ⟨b381, hf⟩ := q_if hf
        refine va_sld E.1 E.2.1 hX hbl hbA w.2.2.2.2.2 b381 dL_law_1075 ?_
        refine lv_aload_n E.1 E.2.1 dL_law_1076 rfl (lv_at hl 0 rfl) ?_
        refine lv_iload_n E.1 E.2.1 dL_law_1077 rfl (lv_at hl 3 rfl) ?_
        refine lv_iconst (v := 2) E.1 E.2.1 dL_law_1078 rfl ?_
        refine lv_iadd E.1 E.2.1 dL_law_1079 ?_
        obtain ⟨b382, hf⟩ := q_if hf
        refine va_sld E.1 E.2.1 hX hbl hbA w.2.2.2.2.2 b382 dL_law_1080 ?_
        obtain ⟨r384, h385, hc383, hf⟩ := bd2_e hf
        refine k_Vi (As := [.int (xs (v3 + 1).toNatClampNeg), .int (xs (v3 + 2).toNatClampNeg)]) (rest := [.int r379]) E w g2 ⟨by decide, rfl⟩ (X11_roof_c g2 hc383) mv_R_law_108 rfl rfl hl.1 ⟨Nat.le_of_ble_eq_true rfl, Nat.le_of_ble_eq_true rfl⟩ (Nat.le_of_ble_eq_true rfl) ⟨Nat.le_of_ble_eq_true rfl, Nat.le_of_ble_eq_true rfl⟩ dL_law_1081 (fun H locs w => ?_)
        refine lv_icmp_eq (tgt := 1644) E.1 E.2.1 dL_law_1084 (by decide) (fun c386 => ?_) (fun c386 => ?_)
        · have hf := q_pos c386 hf
          refine lv_iinc (v := v3 + 6) (lv' := [(3, .int (v3 + 6)), (0, .ref bs), (1, .ref (ad G 1)), (2, .ref (ad G 237))]) E.1 E.2.1 dL_law_1644 hl (k := 3) rfl rfl (by decide) rfl (fun ls hl => ?_)
          refine lv_goto (tgt := 18) E.1 E.2.1 dL_law_1647 (by decide) ?_
          exact ih _ _ _ _ _ hf w (lv_sub hl [1, 2, 3, 0] rfl)
        · have hf := q_neg c386 hf
          refine lv_iconst (v := 0) E.1 E.2.1 dL_law_1087 rfl ?_
          cases hf
      have hf := q_neg c375 hf
      by_cases c387 : ((xs v3.toNatClampNeg) &&& 63) = 22
      · have hf := q_pos c387 hf
        refine lv_tableIn (off := 1056) (tgt := 1089) E.1 E.2.1 dL_law_33 (by rw [c387]; decide) (by rw [c387]; decide) (by rw [c387]; rfl) (by decide) ?_
        refine lv_aload_n E.1 E.2.1 dL_law_1089 rfl (lv_at hl 1 rfl) ?_
        refine lv_aload_n E.1 E.2.1 dL_law_1090 rfl (lv_at hl 0 rfl) ?_
        refine lv_iload_n E.1 E.2.1 dL_law_1091 rfl (lv_at hl 3 rfl) ?_
        refine lv_iconst (v := 1) E.1 E.2.1 dL_law_1092 rfl ?_
        refine lv_iadd E.1 E.2.1 dL_law_1093 ?_
        obtain ⟨b388, hf⟩ := q_if hf
        refine va_sld E.1 E.2.1 hX hbl hbA w.2.2.2.2.2 b388 dL_law_1094 ?_
        refine lv_aload_n E.1 E.2.1 dL_law_1095 rfl (lv_at hl 0 rfl) ?_
        refine lv_iload_n E.1 E.2.1 dL_law_1096 rfl (lv_at hl 3 rfl) ?_
        refine lv_iconst (v := 2) E.1 E.2.1 dL_law_1097 rfl ?_
        refine lv_iadd E.1 E.2.1 dL_law_1098 ?_
        obtain ⟨b389, hf⟩ := q_if hf
        refine va_sld E.1 E.2.1 hX hbl hbA w.2.2.2.2.2 b389 dL_law_1099 ?_
        refine lv_aload_n E.1 E.2.1 dL_law_1100 rfl (lv_at hl 0 rfl) ?_
        refine lv_iload_n E.1 E.2.1 dL_law_1101 rfl (lv_at hl 3 rfl) ?_
        refine lv_iconst (v := 3) E.1 E.2.1 dL_law_1102 rfl ?_
        refine lv_iadd E.1 E.2.1 dL_law_1103 ?_
        obtain ⟨b390, hf⟩ := q_if hf
        refine va_sld E.1 E.2.1 hX hbl hbA w.2.2.2.2.2 b390 dL_law_1104 ?_
        refine lv_if_eq (tgt := 1112) E.1 E.2.1 dL_law_1105 (by decide) (fun c391 => ?_) (fun c391 => ?_)
        · have hf := q_pos c391 hf
          refine lv_iconst (v := 0) E.1 E.2.1 dL_law_1112 rfl ?_
          obtain ⟨r393, h394, hc392, hf⟩ := bd2_e hf
          refine k_Vl (As := [.int (xs (v3 + 1).toNatClampNeg), .int (xs (v3 + 2).toNatClampNeg), .int 0]) (rest := []) E w g1 ⟨by decide, rfl⟩ (X10_sleep_c g1 hc392) mv_R_law_109 rfl rfl hl.1 ⟨Nat.le_of_ble_eq_true rfl, Nat.le_of_ble_eq_true rfl⟩ (Nat.le_of_ble_eq_true rfl) ⟨Nat.le_of_ble_eq_true rfl, Nat.le_of_ble_eq_true rfl⟩ dL_law_1113 (fun H locs w => ?_)
          refine lv_aload_n E.1 E.2.1 dL_law_1116 rfl (lv_at hl 2 rfl) ?_
          refine lv_aload_n E.1 E.2.1 dL_law_1117 rfl (lv_at hl 0 rfl) ?_
          refine lv_iload_n E.1 E.2.1 dL_law_1118 rfl (lv_at hl 3 rfl) ?_
          refine lv_iconst (v := 1) E.1 E.2.1 dL_law_1119 rfl ?_
          refine lv_iadd E.1 E.2.1 dL_law_1120 ?_
          obtain ⟨b395, hf⟩ := q_if hf
          refine va_sld E.1 E.2.1 hX hbl hbA w.2.2.2.2.2 b395 dL_law_1121 ?_
          refine lv_aload_n E.1 E.2.1 dL_law_1122 rfl (lv_at hl 0 rfl) ?_
          refine lv_iload_n E.1 E.2.1 dL_law_1123 rfl (lv_at hl 3 rfl) ?_
          refine lv_iconst (v := 2) E.1 E.2.1 dL_law_1124 rfl ?_
          refine lv_iadd E.1 E.2.1 dL_law_1125 ?_
          obtain ⟨b396, hf⟩ := q_if hf
          refine va_sld E.1 E.2.1 hX hbl hbA w.2.2.2.2.2 b396 dL_law_1126 ?_
          refine lv_aload_n E.1 E.2.1 dL_law_1127 rfl (lv_at hl 0 rfl) ?_
          refine lv_iload_n E.1 E.2.1 dL_law_1128 rfl (lv_at hl 3 rfl) ?_
          refine lv_iconst (v := 3) E.1 E.2.1 dL_law_1129 rfl ?_
          refine lv_iadd E.1 E.2.1 dL_law_1130 ?_
          obtain ⟨b397, hf⟩ := q_if hf
          refine va_sld E.1 E.2.1 hX hbl hbA w.2.2.2.2.2 b397 dL_law_1131 ?_
          refine lv_if_eq (tgt := 1139) E.1 E.2.1 dL_law_1132 (by decide) (fun c398 => ?_) (fun c398 => ?_)
          · have hf := q_pos c398 hf
            refine lv_iconst (v := 0) E.1 E.2.1 dL_law_1139 rfl ?_
            obtain ⟨r400, h401, hc399, hf⟩ := bd2_e hf
            refine k_Vl (As := [.int (xs (v3 + 1).toNatClampNeg), .int (xs (v3 + 2).toNatClampNeg), .int 0]) (rest := [.long r393]) E w g2 ⟨by decide, rfl⟩ (X11_sleep_c g2 hc399) mv_R_law_113 rfl rfl hl.1 ⟨Nat.le_of_ble_eq_true rfl, Nat.le_of_ble_eq_true rfl⟩ (Nat.le_of_ble_eq_true rfl) ⟨Nat.le_of_ble_eq_true rfl, Nat.le_of_ble_eq_true rfl⟩ dL_law_1140 (fun H locs w => ?_)
            refine W.lcmp E.1 E.2.1 dL_law_1143 ?_
            refine lv_if_eq (tgt := 1644) E.1 E.2.1 dL_law_1144 (by decide) (fun c402 => ?_) (fun c402 => ?_)
            · have hf := q_pos c402 hf
              refine lv_iinc (v := v3 + 6) (lv' := [(3, .int (v3 + 6)), (0, .ref bs), (1, .ref (ad G 1)), (2, .ref (ad G 237))]) E.1 E.2.1 dL_law_1644 hl (k := 3) rfl rfl (by decide) rfl (fun ls hl => ?_)
              refine lv_goto (tgt := 18) E.1 E.2.1 dL_law_1647 (by decide) ?_
              exact ih _ _ _ _ _ hf w (lv_sub hl [1, 2, 3, 0] rfl)
            · have hf := q_neg c402 hf
              refine lv_iconst (v := 0) E.1 E.2.1 dL_law_1147 rfl ?_
              cases hf
          · have hf := q_neg c398 hf
            refine lv_iconst (v := 1) E.1 E.2.1 dL_law_1135 rfl ?_
            refine lv_goto (tgt := 1140) E.1 E.2.1 dL_law_1136 (by decide) ?_
            obtain ⟨r404, h405, hc403, hf⟩ := bd2_e hf
            refine k_Vl (As := [.int (xs (v3 + 1).toNatClampNeg), .int (xs (v3 + 2).toNatClampNeg), .int 1]) (rest := [.long r393]) E w g2 ⟨by decide, rfl⟩ (X11_sleep_c g2 hc403) mv_R_law_113 rfl rfl hl.1 ⟨Nat.le_of_ble_eq_true rfl, Nat.le_of_ble_eq_true rfl⟩ (Nat.le_of_ble_eq_true rfl) ⟨Nat.le_of_ble_eq_true rfl, Nat.le_of_ble_eq_true rfl⟩ dL_law_1140 (fun H locs w => ?_)
            refine W.lcmp E.1 E.2.1 dL_law_1143 ?_
            refine lv_if_eq (tgt := 1644) E.1 E.2.1 dL_law_1144 (by decide) (fun c406 => ?_) (fun c406 => ?_)
            · have hf := q_pos c406 hf
              refine lv_iinc (v := v3 + 6) (lv' := [(3, .int (v3 + 6)), (0, .ref bs), (1, .ref (ad G 1)), (2, .ref (ad G 237))]) E.1 E.2.1 dL_law_1644 hl (k := 3) rfl rfl (by decide) rfl (fun ls hl => ?_)
              refine lv_goto (tgt := 18) E.1 E.2.1 dL_law_1647 (by decide) ?_
              exact ih _ _ _ _ _ hf w (lv_sub hl [1, 2, 3, 0] rfl)
            · have hf := q_neg c406 hf
              refine lv_iconst (v := 0) E.1 E.2.1 dL_law_1147 rfl ?_
              cases hf
        · have hf := q_neg c391 hf
          refine lv_iconst (v := 1) E.1 E.2.1 dL_law_1108 rfl ?_
          refine lv_goto (tgt := 1113) E.1 E.2.1 dL_law_1109 (by decide) ?_
          obtain ⟨r408, h409, hc407, hf⟩ := bd2_e hf
          refine k_Vl (As := [.int (xs (v3 + 1).toNatClampNeg), .int (xs (v3 + 2).toNatClampNeg), .int 1]) (rest := []) E w g1 ⟨by decide, rfl⟩ (X10_sleep_c g1 hc407) mv_R_law_109 rfl rfl hl.1 ⟨Nat.le_of_ble_eq_true rfl, Nat.le_of_ble_eq_true rfl⟩ (Nat.le_of_ble_eq_true rfl) ⟨Nat.le_of_ble_eq_true rfl, Nat.le_of_ble_eq_true rfl⟩ dL_law_1113 (fun H locs w => ?_)
          refine lv_aload_n E.1 E.2.1 dL_law_1116 rfl (lv_at hl 2 rfl) ?_
          refine lv_aload_n E.1 E.2.1 dL_law_1117 rfl (lv_at hl 0 rfl) ?_
          refine lv_iload_n E.1 E.2.1 dL_law_1118 rfl (lv_at hl 3 rfl) ?_
          refine lv_iconst (v := 1) E.1 E.2.1 dL_law_1119 rfl ?_
          refine lv_iadd E.1 E.2.1 dL_law_1120 ?_
          obtain ⟨b410, hf⟩ := q_if hf
          refine va_sld E.1 E.2.1 hX hbl hbA w.2.2.2.2.2 b410 dL_law_1121 ?_
          refine lv_aload_n E.1 E.2.1 dL_law_1122 rfl (lv_at hl 0 rfl) ?_
          refine lv_iload_n E.1 E.2.1 dL_law_1123 rfl (lv_at hl 3 rfl) ?_
          refine lv_iconst (v := 2) E.1 E.2.1 dL_law_1124 rfl ?_
          refine lv_iadd E.1 E.2.1 dL_law_1125 ?_
          obtain ⟨b411, hf⟩ := q_if hf
          refine va_sld E.1 E.2.1 hX hbl hbA w.2.2.2.2.2 b411 dL_law_1126 ?_
          refine lv_aload_n E.1 E.2.1 dL_law_1127 rfl (lv_at hl 0 rfl) ?_
          refine lv_iload_n E.1 E.2.1 dL_law_1128 rfl (lv_at hl 3 rfl) ?_
          refine lv_iconst (v := 3) E.1 E.2.1 dL_law_1129 rfl ?_
          refine lv_iadd E.1 E.2.1 dL_law_1130 ?_
          obtain ⟨b412, hf⟩ := q_if hf
          refine va_sld E.1 E.2.1 hX hbl hbA w.2.2.2.2.2 b412 dL_law_1131 ?_
          refine lv_if_eq (tgt := 1139) E.1 E.2.1 dL_law_1132 (by decide) (fun c413 => ?_) (fun c413 => ?_)
          · have hf := q_pos c413 hf
            refine lv_iconst (v := 0) E.1 E.2.1 dL_law_1139 rfl ?_
            obtain ⟨r415, h416, hc414, hf⟩ := bd2_e hf
            refine k_Vl (As := [.int (xs (v3 + 1).toNatClampNeg), .int (xs (v3 + 2).toNatClampNeg), .int 0]) (rest := [.long r408]) E w g2 ⟨by decide, rfl⟩ (X11_sleep_c g2 hc414) mv_R_law_113 rfl rfl hl.1 ⟨Nat.le_of_ble_eq_true rfl, Nat.le_of_ble_eq_true rfl⟩ (Nat.le_of_ble_eq_true rfl) ⟨Nat.le_of_ble_eq_true rfl, Nat.le_of_ble_eq_true rfl⟩ dL_law_1140 (fun H locs w => ?_)
            refine W.lcmp E.1 E.2.1 dL_law_1143 ?_
            refine lv_if_eq (tgt := 1644) E.1 E.2.1 dL_law_1144 (by decide) (fun c417 => ?_) (fun c417 => ?_)
            · have hf := q_pos c417 hf
              refine lv_iinc (v := v3 + 6) (lv' := [(3, .int (v3 + 6)), (0, .ref bs), (1, .ref (ad G 1)), (2, .ref (ad G 237))]) E.1 E.2.1 dL_law_1644 hl (k := 3) rfl rfl (by decide) rfl (fun ls hl => ?_)
              refine lv_goto (tgt := 18) E.1 E.2.1 dL_law_1647 (by decide) ?_
              exact ih _ _ _ _ _ hf w (lv_sub hl [1, 2, 3, 0] rfl)
            · have hf := q_neg c417 hf
              refine lv_iconst (v := 0) E.1 E.2.1 dL_law_1147 rfl ?_
              cases hf
          · have hf := q_neg c413 hf
            refine lv_iconst (v := 1) E.1 E.2.1 dL_law_1135 rfl ?_
            refine lv_goto (tgt := 1140) E.1 E.2.1 dL_law_1136 (by decide) ?_
            obtain ⟨r419, h420, hc418, hf⟩ := bd2_e hf
            refine k_Vl (As := [.int (xs (v3 + 1).toNatClampNeg), .int (xs (v3 + 2).toNatClampNeg), .int 1]) (rest := [.long r408]) E w g2 ⟨by decide, rfl⟩ (X11_sleep_c g2 hc418) mv_R_law_113 rfl rfl hl.1 ⟨Nat.le_of_ble_eq_true rfl, Nat.le_of_ble_eq_true rfl⟩ (Nat.le_of_ble_eq_true rfl) ⟨Nat.le_of_ble_eq_true rfl, Nat.le_of_ble_eq_true rfl⟩ dL_law_1140 (fun H locs w => ?_)
            refine W.lcmp E.1 E.2.1 dL_law_1143 ?_
            refine lv_if_eq (tgt := 1644) E.1 E.2.1 dL_law_1144 (by decide) (fun c421 => ?_) (fun c421 => ?_)
            · have hf := q_pos c421 hf
              refine lv_iinc (v := v3 + 6) (lv' := [(3, .int (v3 + 6)), (0, .ref bs), (1, .ref (ad G 1)), (2, .ref (ad G 237))]) E.1 E.2.1 dL_law_1644 hl (k := 3) rfl rfl (by decide) rfl (fun ls hl => ?_)
              refine lv_goto (tgt := 18) E.1 E.2.1 dL_law_1647 (by decide) ?_
              exact ih _ _ _ _ _ hf w (lv_sub hl [1, 2, 3, 0] rfl)
            · have hf := q_neg c421 hf
              refine lv_iconst (v := 0) E.1 E.2.1 dL_law_1147 rfl ?_
              cases hf
      have hf := q_neg c387 hf
      by_cases c422 : ((xs v3.toNatClampNeg) &&& 63) = 23
      · have hf := q_pos c422 hf
        refine lv_tableIn (off := 1116) (tgt := 1149) E.1 E.2.1 dL_law_33 (by rw [c422]; decide) (by rw [c422]; decide) (by rw [c422]; rfl) (by decide) ?_
        refine lv_aload_n E.1 E.2.1 dL_law_1149 rfl (lv_at hl 1 rfl) ?_
        refine lv_aload_n E.1 E.2.1 dL_law_1150 rfl (lv_at hl 0 rfl) ?_
        refine lv_iload_n E.1 E.2.1 dL_law_1151 rfl (lv_at hl 3 rfl) ?_
        refine lv_iconst (v := 1) E.1 E.2.1 dL_law_1152 rfl ?_
        refine lv_iadd E.1 E.2.1 dL_law_1153 ?_
        obtain ⟨b423, hf⟩ := q_if hf
        refine va_sld E.1 E.2.1 hX hbl hbA w.2.2.2.2.2 b423 dL_law_1154 ?_
        refine lv_aload_n E.1 E.2.1 dL_law_1155 rfl (lv_at hl 0 rfl) ?_
        refine lv_iload_n E.1 E.2.1 dL_law_1156 rfl (lv_at hl 3 rfl) ?_
        refine lv_iconst (v := 2) E.1 E.2.1 dL_law_1157 rfl ?_
        refine lv_iadd E.1 E.2.1 dL_law_1158 ?_
        obtain ⟨b424, hf⟩ := q_if hf
        refine va_sld E.1 E.2.1 hX hbl hbA w.2.2.2.2.2 b424 dL_law_1159 ?_
        refine lv_aload_n E.1 E.2.1 dL_law_1160 rfl (lv_at hl 0 rfl) ?_
        refine lv_iload_n E.1 E.2.1 dL_law_1161 rfl (lv_at hl 3 rfl) ?_
        refine lv_iconst (v := 3) E.1 E.2.1 dL_law_1162 rfl ?_
        refine lv_iadd E.1 E.2.1 dL_law_1163 ?_
        obtain ⟨b425, hf⟩ := q_if hf
        refine va_sld E.1 E.2.1 hX hbl hbA w.2.2.2.2.2 b425 dL_law_1164 ?_
        refine lv_if_eq (tgt := 1172) E.1 E.2.1 dL_law_1165 (by decide) (fun c426 => ?_) (fun c426 => ?_)
        · have hf := q_pos c426 hf
          refine lv_iconst (v := 0) E.1 E.2.1 dL_law_1172 rfl ?_
          obtain ⟨r428, h429, hc427, hf⟩ := bd2_e hf
          refine k_Vl (As := [.int (xs (v3 + 1).toNatClampNeg), .int (xs (v3 + 2).toNatClampNeg), .int 0]) (rest := []) E w g1 ⟨by decide, rfl⟩ (X10_census_c g1 hc427) mv_R_law_114 rfl rfl hl.1 ⟨Nat.le_of_ble_eq_true rfl, Nat.le_of_ble_eq_true rfl⟩ (Nat.le_of_ble_eq_true rfl) ⟨Nat.le_of_ble_eq_true rfl, Nat.le_of_ble_eq_true rfl⟩ dL_law_1173 (fun H locs w => ?_)
          refine lv_aload_n E.1 E.2.1 dL_law_1176 rfl (lv_at hl 2 rfl) ?_
          refine lv_aload_n E.1 E.2.1 dL_law_1177 rfl (lv_at hl 0 rfl) ?_
          refine lv_iload_n E.1 E.2.1 dL_law_1178 rfl (lv_at hl 3 rfl) ?_
          refine lv_iconst (v := 1) E.1 E.2.1 dL_law_1179 rfl ?_
          refine lv_iadd E.1 E.2.1 dL_law_1180 ?_
          obtain ⟨b430, hf⟩ := q_if hf
          refine va_sld E.1 E.2.1 hX hbl hbA w.2.2.2.2.2 b430 dL_law_1181 ?_
          refine lv_aload_n E.1 E.2.1 dL_law_1182 rfl (lv_at hl 0 rfl) ?_
          refine lv_iload_n E.1 E.2.1 dL_law_1183 rfl (lv_at hl 3 rfl) ?_
          refine lv_iconst (v := 2) E.1 E.2.1 dL_law_1184 rfl ?_
          refine lv_iadd E.1 E.2.1 dL_law_1185 ?_
          obtain ⟨b431, hf⟩ := q_if hf
          refine va_sld E.1 E.2.1 hX hbl hbA w.2.2.2.2.2 b431 dL_law_1186 ?_
          refine lv_aload_n E.1 E.2.1 dL_law_1187 rfl (lv_at hl 0 rfl) ?_
          refine lv_iload_n E.1 E.2.1 dL_law_1188 rfl (lv_at hl 3 rfl) ?_
          refine lv_iconst (v := 3) E.1 E.2.1 dL_law_1189 rfl ?_
          refine lv_iadd E.1 E.2.1 dL_law_1190 ?_
          obtain ⟨b432, hf⟩ := q_if hf
          refine va_sld E.1 E.2.1 hX hbl hbA w.2.2.2.2.2 b432 dL_law_1191 ?_
          refine lv_if_eq (tgt := 1199) E.1 E.2.1 dL_law_1192 (by decide) (fun c433 => ?_) (fun c433 => ?_)
          · have hf := q_pos c433 hf
            refine lv_iconst (v := 0) E.1 E.2.1 dL_law_1199 rfl ?_
            obtain ⟨r435, h436, hc434, hf⟩ := bd2_e hf
            refine k_Vl (As := [.int (xs (v3 + 1).toNatClampNeg), .int (xs (v3 + 2).toNatClampNeg), .int 0]) (rest := [.long r428]) E w g2 ⟨by decide, rfl⟩ (X11_census_c g2 hc434) mv_R_law_117 rfl rfl hl.1 ⟨Nat.le_of_ble_eq_true rfl, Nat.le_of_ble_eq_true rfl⟩ (Nat.le_of_ble_eq_true rfl) ⟨Nat.le_of_ble_eq_true rfl, Nat.le_of_ble_eq_true rfl⟩ dL_law_1200 (fun H locs w => ?_)
            refine W.lcmp E.1 E.2.1 dL_law_1203 ?_
            refine lv_if_eq (tgt := 1644) E.1 E.2.1 dL_law_1204 (by decide) (fun c437 => ?_) (fun c437 => ?_)
            · have hf := q_pos c437 hf
              refine lv_iinc (v := v3 + 6) (lv' := [(3, .int (v3 + 6)), (0, .ref bs), (1, .ref (ad G 1)), (2, .ref (ad G 237))]) E.1 E.2.1 dL_law_1644 hl (k := 3) rfl rfl (by decide) rfl (fun ls hl => ?_)
              refine lv_goto (tgt := 18) E.1 E.2.1 dL_law_1647 (by decide) ?_
              exact ih _ _ _ _ _ hf w (lv_sub hl [1, 2, 3, 0] rfl)
            · have hf := q_neg c437 hf
              refine lv_iconst (v := 0) E.1 E.2.1 dL_law_1207 rfl ?_
              cases hf
          · have hf := q_neg c433 hf
            refine lv_iconst (v := 1) E.1 E.2.1 dL_law_1195 rfl ?_
            refine lv_goto (tgt := 1200) E.1 E.2.1 dL_law_1196 (by decide) ?_
            obtain ⟨r439, h440, hc438, hf⟩ := bd2_e hf
            refine k_Vl (As := [.int (xs (v3 + 1).toNatClampNeg), .int (xs (v3 + 2).toNatClampNeg), .int 1]) (rest := [.long r428]) E w g2 ⟨by decide, rfl⟩ (X11_census_c g2 hc438) mv_R_law_117 rfl rfl hl.1 ⟨Nat.le_of_ble_eq_true rfl, Nat.le_of_ble_eq_true rfl⟩ (Nat.le_of_ble_eq_true rfl) ⟨Nat.le_of_ble_eq_true rfl, Nat.le_of_ble_eq_true rfl⟩ dL_law_1200 (fun H locs w => ?_)
            refine W.lcmp E.1 E.2.1 dL_law_1203 ?_
            refine lv_if_eq (tgt := 1644) E.1 E.2.1 dL_law_1204 (by decide) (fun c441 => ?_) (fun c441 => ?_)
            · have hf := q_pos c441 hf
              refine lv_iinc (v := v3 + 6) (lv' := [(3, .int (v3 + 6)), (0, .ref bs), (1, .ref (ad G 1)), (2, .ref (ad G 237))]) E.1 E.2.1 dL_law_1644 hl (k := 3) rfl rfl (by decide) rfl (fun ls hl => ?_)
              refine lv_goto (tgt := 18) E.1 E.2.1 dL_law_1647 (by decide) ?_
              exact ih _ _ _ _ _ hf w (lv_sub hl [1, 2, 3, 0] rfl)
            · have hf := q_neg c441 hf
              refine lv_iconst (v := 0) E.1 E.2.1 dL_law_1207 rfl ?_
              cases hf
        · have hf := q_neg c426 hf
          refine lv_iconst (v := 1) E.1 E.2.1 dL_law_1168 rfl ?_
          refine lv_goto (tgt := 1173) E.1 E.2.1 dL_law_1169 (by decide) ?_
          obtain ⟨r443, h444, hc442, hf⟩ := bd2_e hf
          refine k_Vl (As := [.int (xs (v3 + 1).toNatClampNeg), .int (xs (v3 + 2).toNatClampNeg), .int 1]) (rest := []) E w g1 ⟨by decide, rfl⟩ (X10_census_c g1 hc442) mv_R_law_114 rfl rfl hl.1 ⟨Nat.le_of_ble_eq_true rfl, Nat.le_of_ble_eq_true rfl⟩ (Nat.le_of_ble_eq_true rfl) ⟨Nat.le_of_ble_eq_true rfl, Nat.le_of_ble_eq_true rfl⟩ dL_law_1173 (fun H locs w => ?_)
          refine lv_aload_n E.1 E.2.1 dL_law_1176 rfl (lv_at hl 2 rfl) ?_
          refine lv_aload_n E.1 E.2.1 dL_law_1177 rfl (lv_at hl 0 rfl) ?_
          refine lv_iload_n E.1 E.2.1 dL_law_1178 rfl (lv_at hl 3 rfl) ?_
          refine lv_iconst (v := 1) E.1 E.2.1 dL_law_1179 rfl ?_
          refine lv_iadd E.1 E.2.1 dL_law_1180 ?_
          obtain ⟨b445, hf⟩ := q_if hf
          refine va_sld E.1 E.2.1 hX hbl hbA w.2.2.2.2.2 b445 dL_law_1181 ?_
          refine lv_aload_n E.1 E.2.1 dL_law_1182 rfl (lv_at hl 0 rfl) ?_
          refine lv_iload_n E.1 E.2.1 dL_law_1183 rfl (lv_at hl 3 rfl) ?_
          refine lv_iconst (v := 2) E.1 E.2.1 dL_law_1184 rfl ?_
          refine lv_iadd E.1 E.2.1 dL_law_1185 ?_
          obtain ⟨b446, hf⟩ := q_if hf
          refine va_sld E.1 E.2.1 hX hbl hbA w.2.2.2.2.2 b446 dL_law_1186 ?_
          refine lv_aload_n E.1 E.2.1 dL_law_1187 rfl (lv_at hl 0 rfl) ?_
          refine lv_iload_n E.1 E.2.1 dL_law_1188 rfl (lv_at hl 3 rfl) ?_
          refine lv_iconst (v := 3) E.1 E.2.1 dL_law_1189 rfl ?_
          refine lv_iadd E.1 E.2.1 dL_law_1190 ?_
          obtain ⟨b447, hf⟩ := q_if hf
          refine va_sld E.1 E.2.1 hX hbl hbA w.2.2.2.2.2 b447 dL_law_1191 ?_
          refine lv_if_eq (tgt := 1199) E.1 E.2.1 dL_law_1192 (by decide) (fun c448 => ?_) (fun c448 => ?_)
          · have hf := q_pos c448 hf
            refine lv_iconst (v := 0) E.1 E.2.1 dL_law_1199 rfl ?_
            obtain ⟨r450, h451, hc449, hf⟩ := bd2_e hf
            refine k_Vl (As := [.int (xs (v3 + 1).toNatClampNeg), .int (xs (v3 + 2).toNatClampNeg), .int 0]) (rest := [.long r443]) E w g2 ⟨by decide, rfl⟩ (X11_census_c g2 hc449) mv_R_law_117 rfl rfl hl.1 ⟨Nat.le_of_ble_eq_true rfl, Nat.le_of_ble_eq_true rfl⟩ (Nat.le_of_ble_eq_true rfl) ⟨Nat.le_of_ble_eq_true rfl, Nat.le_of_ble_eq_true rfl⟩ dL_law_1200 (fun H locs w => ?_)
            refine W.lcmp E.1 E.2.1 dL_law_1203 ?_
            refine lv_if_eq (tgt := 1644) E.1 E.2.1 dL_law_1204 (by decide) (fun c452 => ?_) (fun c452 => ?_)
            · have hf := q_pos c452 hf
              refine lv_iinc (v := v3 + 6) (lv' := [(3, .int (v3 + 6)), (0, .ref bs), (1, .ref (ad G 1)), (2, .ref (ad G 237))]) E.1 E.2.1 dL_law_1644 hl (k := 3) rfl rfl (by decide) rfl (fun ls hl => ?_)
              refine lv_goto (tgt := 18) E.1 E.2.1 dL_law_1647 (by decide) ?_
              exact ih _ _ _ _ _ hf w (lv_sub hl [1, 2, 3, 0] rfl)
            · have hf := q_neg c452 hf
              refine lv_iconst (v := 0) E.1 E.2.1 dL_law_1207 rfl ?_
              cases hf
          · have hf := q_neg c448 hf
            refine lv_iconst (v := 1) E.1 E.2.1 dL_law_1195 rfl ?_
            refine lv_goto (tgt := 1200) E.1 E.2.1 dL_law_1196 (by decide) ?_
            obtain ⟨r454, h455, hc453, hf⟩ := bd2_e hf
            refine k_Vl (As := [.int (xs (v3 + 1).toNatClampNeg), .int (xs (v3 + 2).toNatClampNeg), .int 1]) (rest := [.long r443]) E w g2 ⟨by decide, rfl⟩ (X11_census_c g2 hc453) mv_R_law_117 rfl rfl hl.1 ⟨Nat.le_of_ble_eq_true rfl, Nat.le_of_ble_eq_true rfl⟩ (Nat.le_of_ble_eq_true rfl) ⟨Nat.le_of_ble_eq_true rfl, Nat.le_of_ble_eq_true rfl⟩ dL_law_1200 (fun H locs w => ?_)
            refine W.lcmp E.1 E.2.1 dL_law_1203 ?_
            refine lv_if_eq (tgt := 1644) E.1 E.2.1 dL_law_1204 (by decide) (fun c456 => ?_) (fun c456 => ?_)
            · have hf := q_pos c456 hf
              refine lv_iinc (v := v3 + 6) (lv' := [(3, .int (v3 + 6)), (0, .ref bs), (1, .ref (ad G 1)), (2, .ref (ad G 237))]) E.1 E.2.1 dL_law_1644 hl (k := 3) rfl rfl (by decide) rfl (fun ls hl => ?_)
              refine lv_goto (tgt := 18) E.1 E.2.1 dL_law_1647 (by decide) ?_
              exact ih _ _ _ _ _ hf w (lv_sub hl [1, 2, 3, 0] rfl)
            · have hf := q_neg c456 hf
              refine lv_iconst (v := 0) E.1 E.2.1 dL_law_1207 rfl ?_
              cases hf
      have hf := q_neg c422 hf
      by_cases c457 : ((xs v3.toNatClampNeg) &&& 63) = 24
      · have hf := q_pos c457 hf
        refine lv_tableIn (off := 1176) (tgt := 1209) E.1 E.2.1 dL_law_33 (by rw [c457]; decide) (by rw [c457]; decide) (by rw [c457]; rfl) (by decide) ?_
        refine lv_aload_n E.1 E.2.1 dL_law_1209 rfl (lv_at hl 1 rfl) ?_
        refine lv_aload_n E.1 E.2.1 dL_law_1210 rfl (lv_at hl 0 rfl) ?_
        refine lv_iload_n E.1 E.2.1 dL_law_1211 rfl (lv_at hl 3 rfl) ?_
        refine lv_iconst (v := 1) E.1 E.2.1 dL_law_1212 rfl ?_
        refine lv_iadd E.1 E.2.1 dL_law_1213 ?_
        obtain ⟨b458, hf⟩ := q_if hf
        refine va_sld E.1 E.2.1 hX hbl hbA w.2.2.2.2.2 b458 dL_law_1214 ?_
        refine lv_aload_n E.1 E.2.1 dL_law_1215 rfl (lv_at hl 0 rfl) ?_
        refine lv_iload_n E.1 E.2.1 dL_law_1216 rfl (lv_at hl 3 rfl) ?_
        refine lv_iconst (v := 2) E.1 E.2.1 dL_law_1217 rfl ?_
        refine lv_iadd E.1 E.2.1 dL_law_1218 ?_
        obtain ⟨b459, hf⟩ := q_if hf
        refine va_sld E.1 E.2.1 hX hbl hbA w.2.2.2.2.2 b459 dL_law_1219 ?_
        refine lv_aload_n E.1 E.2.1 dL_law_1220 rfl (lv_at hl 0 rfl) ?_
        refine lv_iload_n E.1 E.2.1 dL_law_1221 rfl (lv_at hl 3 rfl) ?_
        refine lv_iconst (v := 3) E.1 E.2.1 dL_law_1222 rfl ?_
        refine lv_iadd E.1 E.2.1 dL_law_1223 ?_
        obtain ⟨b460, hf⟩ := q_if hf
        refine va_sld E.1 E.2.1 hX hbl hbA w.2.2.2.2.2 b460 dL_law_1224 ?_
        obtain ⟨r462, hc461, hf⟩ := bd1_e hf
        refine k_Vi (As := [.int (xs (v3 + 1).toNatClampNeg), .int (xs (v3 + 2).toNatClampNeg), .int (xs (v3 + 3).toNatClampNeg)]) (rest := []) E w g1 ⟨by decide, rfl⟩ (X10_move_c g1 hc461) mv_R_law_118 rfl rfl hl.1 ⟨Nat.le_of_ble_eq_true rfl, Nat.le_of_ble_eq_true rfl⟩ (Nat.le_of_ble_eq_true rfl) ⟨Nat.le_of_ble_eq_true rfl, Nat.le_of_ble_eq_true rfl⟩ dL_law_1225 (fun H locs w => ?_)
        refine lv_aload_n E.1 E.2.1 dL_law_1228 rfl (lv_at hl 2 rfl) ?_
        refine lv_aload_n E.1 E.2.1 dL_law_1229 rfl (lv_at hl 0 rfl) ?_
        refine lv_iload_n E.1 E.2.1 dL_law_1230 rfl (lv_at hl 3 rfl) ?_
        refine lv_iconst (v := 1) E.1 E.2.1 dL_law_1231 rfl ?_
        refine lv_iadd E.1 E.2.1 dL_law_1232 ?_
        obtain ⟨b464, hf⟩ := q_if hf
        refine va_sld E.1 E.2.1 hX hbl hbA w.2.2.2.2.2 b464 dL_law_1233 ?_
        refine lv_aload_n E.1 E.2.1 dL_law_1234 rfl (lv_at hl 0 rfl) ?_
        refine lv_iload_n E.1 E.2.1 dL_law_1235 rfl (lv_at hl 3 rfl) ?_
        refine lv_iconst (v := 2) E.1 E.2.1 dL_law_1236 rfl ?_
        refine lv_iadd E.1 E.2.1 dL_law_1237 ?_
        obtain ⟨b465, hf⟩ := q_if hf
        refine va_sld E.1 E.2.1 hX hbl hbA w.2.2.2.2.2 b465 dL_law_1238 ?_
        refine lv_aload_n E.1 E.2.1 dL_law_1239 rfl (lv_at hl 0 rfl) ?_
        refine lv_iload_n E.1 E.2.1 dL_law_1240 rfl (lv_at hl 3 rfl) ?_
        refine lv_iconst (v := 3) E.1 E.2.1 dL_law_1241 rfl ?_
        refine lv_iadd E.1 E.2.1 dL_law_1242 ?_
        obtain ⟨b466, hf⟩ := q_if hf
        refine va_sld E.1 E.2.1 hX hbl hbA w.2.2.2.2.2 b466 dL_law_1243 ?_
        obtain ⟨r468, h469, hc467, hf⟩ := bd2_e hf
        refine k_Vi (As := [.int (xs (v3 + 1).toNatClampNeg), .int (xs (v3 + 2).toNatClampNeg), .int (xs (v3 + 3).toNatClampNeg)]) (rest := [.int r462]) E w g2 ⟨by decide, rfl⟩ (X11_move_c g2 hc467) mv_R_law_121 rfl rfl hl.1 ⟨Nat.le_of_ble_eq_true rfl, Nat.le_of_ble_eq_true rfl⟩ (Nat.le_of_ble_eq_true rfl) ⟨Nat.le_of_ble_eq_true rfl, Nat.le_of_ble_eq_true rfl⟩ dL_law_1244 (fun H locs w => ?_)
        refine lv_icmp_eq (tgt := 1644) E.1 E.2.1 dL_law_1247 (by decide) (fun c470 => ?_) (fun c470 => ?_)
        · have hf := q_pos c470 hf
          refine lv_iinc (v := v3 + 6) (lv' := [(3, .int (v3 + 6)), (0, .ref bs), (1, .ref (ad G 1)), (2, .ref (ad G 237))]) E.1 E.2.1 dL_law_1644 hl (k := 3) rfl rfl (by decide) rfl (fun ls hl => ?_)
          refine lv_goto (tgt := 18) E.1 E.2.1 dL_law_1647 (by decide) ?_
          exact ih _ _ _ _ _ hf w (lv_sub hl [1, 2, 3, 0] rfl)
        · have hf := q_neg c470 hf
          refine lv_iconst (v := 0) E.1 E.2.1 dL_law_1250 rfl ?_
          cases hf
      have hf := q_neg c457 hf
      by_cases c471 : ((xs v3.toNatClampNeg) &&& 63) = 25
      · have hf := q_pos c471 hf
        refine lv_tableIn (off := 1219) (tgt := 1252) E.1 E.2.1 dL_law_33 (by rw [c471]; decide) (by rw [c471]; decide) (by rw [c471]; rfl) (by decide) ?_
        refine lv_aload_n E.1 E.2.1 dL_law_1252 rfl (lv_at hl 1 rfl) ?_
        refine lv_aload_n E.1 E.2.1 dL_law_1253 rfl (lv_at hl 0 rfl) ?_
        refine lv_iload_n E.1 E.2.1 dL_law_1254 rfl (lv_at hl 3 rfl) ?_
        refine lv_iconst (v := 1) E.1 E.2.1 dL_law_1255 rfl ?_
        refine lv_iadd E.1 E.2.1 dL_law_1256 ?_
        obtain ⟨b472, hf⟩ := q_if hf
        refine va_sld E.1 E.2.1 hX hbl hbA w.2.2.2.2.2 b472 dL_law_1257 ?_
        refine lv_aload_n E.1 E.2.1 dL_law_1258 rfl (lv_at hl 0 rfl) ?_
        refine lv_iload_n E.1 E.2.1 dL_law_1259 rfl (lv_at hl 3 rfl) ?_
        refine lv_iconst (v := 2) E.1 E.2.1 dL_law_1260 rfl ?_
        refine lv_iadd E.1 E.2.1 dL_law_1261 ?_
        obtain ⟨b473, hf⟩ := q_if hf
        refine va_sld E.1 E.2.1 hX hbl hbA w.2.2.2.2.2 b473 dL_law_1262 ?_
        obtain ⟨r475, hc474, hf⟩ := bd1_e hf
        refine k_Vi (As := [.int (xs (v3 + 1).toNatClampNeg), .int (xs (v3 + 2).toNatClampNeg)]) (rest := []) E w g1 ⟨by decide, rfl⟩ (X10_range_c g1 hc474) mv_R_law_122 rfl rfl hl.1 ⟨Nat.le_of_ble_eq_true rfl, Nat.le_of_ble_eq_true rfl⟩ (Nat.le_of_ble_eq_true rfl) ⟨Nat.le_of_ble_eq_true rfl, Nat.le_of_ble_eq_true rfl⟩ dL_law_1263 (fun H locs w => ?_)
        refine lv_aload_n E.1 E.2.1 dL_law_1266 rfl (lv_at hl 2 rfl) ?_
        refine lv_aload_n E.1 E.2.1 dL_law_1267 rfl (lv_at hl 0 rfl) ?_
        refine lv_iload_n E.1 E.2.1 dL_law_1268 rfl (lv_at hl 3 rfl) ?_
        refine lv_iconst (v := 1) E.1 E.2.1 dL_law_1269 rfl ?_
        refine lv_iadd E.1 E.2.1 dL_law_1270 ?_
        obtain ⟨b477, hf⟩ := q_if hf
        refine va_sld E.1 E.2.1 hX hbl hbA w.2.2.2.2.2 b477 dL_law_1271 ?_
        refine lv_aload_n E.1 E.2.1 dL_law_1272 rfl (lv_at hl 0 rfl) ?_
        refine lv_iload_n E.1 E.2.1 dL_law_1273 rfl (lv_at hl 3 rfl) ?_
        refine lv_iconst (v := 2) E.1 E.2.1 dL_law_1274 rfl ?_
        refine lv_iadd E.1 E.2.1 dL_law_1275 ?_
        obtain ⟨b478, hf⟩ := q_if hf
        refine va_sld E.1 E.2.1 hX hbl hbA w.2.2.2.2.2 b478 dL_law_1276 ?_
        obtain ⟨r480, h481, hc479, hf⟩ := bd2_e hf
        refine k_Vi (As := [.int (xs (v3 + 1).toNatClampNeg), .int (xs (v3 + 2).toNatClampNeg)]) (rest := [.int r475]) E w g2 ⟨by decide, rfl⟩ (X11_range_c g2 hc479) mv_R_law_125 rfl rfl hl.1 ⟨Nat.le_of_ble_eq_true rfl, Nat.le_of_ble_eq_true rfl⟩ (Nat.le_of_ble_eq_true rfl) ⟨Nat.le_of_ble_eq_true rfl, Nat.le_of_ble_eq_true rfl⟩ dL_law_1277 (fun H locs w => ?_)
        refine lv_icmp_eq (tgt := 1644) E.1 E.2.1 dL_law_1280 (by decide) (fun c482 => ?_) (fun c482 => ?_)
        · have hf := q_pos c482 hf
          refine lv_iinc (v := v3 + 6) (lv' := [(3, .int (v3 + 6)), (0, .ref bs), (1, .ref (ad G 1)), (2, .ref (ad G 237))]) E.1 E.2.1 dL_law_1644 hl (k := 3) rfl rfl (by decide) rfl (fun ls hl => ?_)
          refine lv_goto (tgt := 18) E.1 E.2.1 dL_law_1647 (by decide) ?_
          exact ih _ _ _ _ _ hf w (lv_sub hl [1, 2, 3, 0] rfl)
        · have hf := q_neg c482 hf
          refine lv_iconst (v := 0) E.1 E.2.1 dL_law_1283 rfl ?_
          cases hf
      have hf := q_neg c471 hf
      by_cases c483 : ((xs v3.toNatClampNeg) &&& 63) = 26
      · have hf := q_pos c483 hf
        refine lv_tableIn (off := 1252) (tgt := 1285) E.1 E.2.1 dL_law_33 (by rw [c483]; decide) (by rw [c483]; decide) (by rw [c483]; rfl) (by decide) ?_
        refine lv_aload_n E.1 E.2.1 dL_law_1285 rfl (lv_at hl 1 rfl) ?_
        refine lv_aload_n E.1 E.2.1 dL_law_1286 rfl (lv_at hl 0 rfl) ?_
        refine lv_iload_n E.1 E.2.1 dL_law_1287 rfl (lv_at hl 3 rfl) ?_
        refine lv_iconst (v := 1) E.1 E.2.1 dL_law_1288 rfl ?_
        refine lv_iadd E.1 E.2.1 dL_law_1289 ?_
        obtain ⟨b484, hf⟩ := q_if hf
        refine va_sld E.1 E.2.1 hX hbl hbA w.2.2.2.2.2 b484 dL_law_1290 ?_
        refine lv_aload_n E.1 E.2.1 dL_law_1291 rfl (lv_at hl 0 rfl) ?_
        refine lv_iload_n E.1 E.2.1 dL_law_1292 rfl (lv_at hl 3 rfl) ?_
        refine lv_iconst (v := 2) E.1 E.2.1 dL_law_1293 rfl ?_
        refine lv_iadd E.1 E.2.1 dL_law_1294 ?_
        obtain ⟨b485, hf⟩ := q_if hf
        refine va_sld E.1 E.2.1 hX hbl hbA w.2.2.2.2.2 b485 dL_law_1295 ?_
        refine lv_if_eq (tgt := 1303) E.1 E.2.1 dL_law_1296 (by decide) (fun c486 => ?_) (fun c486 => ?_)
        · have hf := q_pos c486 hf
          refine lv_iconst (v := 0) E.1 E.2.1 dL_law_1303 rfl ?_
          obtain ⟨r488, hc487, hf⟩ := bd1_e hf
          refine k_Vi (As := [.int (xs (v3 + 1).toNatClampNeg), .int 0]) (rest := []) E w g1 ⟨by decide, rfl⟩ (X10_choir_c g1 hc487) mv_R_law_126 rfl rfl hl.1 ⟨Nat.le_of_ble_eq_true rfl, Nat.le_of_ble_eq_true rfl⟩ (Nat.le_of_ble_eq_true rfl) ⟨Nat.le_of_ble_eq_true rfl, Nat.le_of_ble_eq_true rfl⟩ dL_law_1304 (fun H locs w => ?_)
          refine lv_aload_n E.1 E.2.1 dL_law_1307 rfl (lv_at hl 2 rfl) ?_
          refine lv_aload_n E.1 E.2.1 dL_law_1308 rfl (lv_at hl 0 rfl) ?_
          refine lv_iload_n E.1 E.2.1 dL_law_1309 rfl (lv_at hl 3 rfl) ?_
          refine lv_iconst (v := 1) E.1 E.2.1 dL_law_1310 rfl ?_
          refine lv_iadd E.1 E.2.1 dL_law_1311 ?_
          obtain ⟨b490, hf⟩ := q_if hf
          refine va_sld E.1 E.2.1 hX hbl hbA w.2.2.2.2.2 b490 dL_law_1312 ?_
          refine lv_aload_n E.1 E.2.1 dL_law_1313 rfl (lv_at hl 0 rfl) ?_
          refine lv_iload_n E.1 E.2.1 dL_law_1314 rfl (lv_at hl 3 rfl) ?_
          refine lv_iconst (v := 2) E.1 E.2.1 dL_law_1315 rfl ?_
          refine lv_iadd E.1 E.2.1 dL_law_1316 ?_
          obtain ⟨b491, hf⟩ := q_if hf
          refine va_sld E.1 E.2.1 hX hbl hbA w.2.2.2.2.2 b491 dL_law_1317 ?_
          refine lv_if_eq (tgt := 1325) E.1 E.2.1 dL_law_1318 (by decide) (fun c492 => ?_) (fun c492 => ?_)
          · have hf := q_pos c492 hf
            refine lv_iconst (v := 0) E.1 E.2.1 dL_law_1325 rfl ?_
            obtain ⟨r494, h495, hc493, hf⟩ := bd2_e hf
            refine k_Vi (As := [.int (xs (v3 + 1).toNatClampNeg), .int 0]) (rest := [.int r488]) E w g2 ⟨by decide, rfl⟩ (X11_choir_c g2 hc493) mv_R_law_129 rfl rfl hl.1 ⟨Nat.le_of_ble_eq_true rfl, Nat.le_of_ble_eq_true rfl⟩ (Nat.le_of_ble_eq_true rfl) ⟨Nat.le_of_ble_eq_true rfl, Nat.le_of_ble_eq_true rfl⟩ dL_law_1326 (fun H locs w => ?_)
            refine lv_icmp_eq (tgt := 1644) E.1 E.2.1 dL_law_1329 (by decide) (fun c496 => ?_) (fun c496 => ?_)
            · have hf := q_pos c496 hf
              refine lv_iinc (v := v3 + 6) (lv' := [(3, .int (v3 + 6)), (0, .ref bs), (1, .ref (ad G 1)), (2, .ref (ad G 237))]) E.1 E.2.1 dL_law_1644 hl (k := 3) rfl rfl (by decide) rfl (fun ls hl => ?_)
              refine lv_goto (tgt := 18) E.1 E.2.1 dL_law_1647 (by decide) ?_
              exact ih _ _ _ _ _ hf w (lv_sub hl [1, 2, 3, 0] rfl)
            · have hf := q_neg c496 hf
              refine lv_iconst (v := 0) E.1 E.2.1 dL_law_1332 rfl ?_
              cases hf
          · have hf := q_neg c492 hf
            refine lv_iconst (v := 1) E.1 E.2.1 dL_law_1321 rfl ?_
            refine lv_goto (tgt := 1326) E.1 E.2.1 dL_law_1322 (by decide) ?_
            obtain ⟨r498, h499, hc497, hf⟩ := bd2_e hf
            refine k_Vi (As := [.int (xs (v3 + 1).toNatClampNeg), .int 1]) (rest := [.int r488]) E w g2 ⟨by decide, rfl⟩ (X11_choir_c g2 hc497) mv_R_law_129 rfl rfl hl.1 ⟨Nat.le_of_ble_eq_true rfl, Nat.le_of_ble_eq_true rfl⟩ (Nat.le_of_ble_eq_true rfl) ⟨Nat.le_of_ble_eq_true rfl, Nat.le_of_ble_eq_true rfl⟩ dL_law_1326 (fun H locs w => ?_)
            refine lv_icmp_eq (tgt := 1644) E.1 E.2.1 dL_law_1329 (by decide) (fun c500 => ?_) (fun c500 => ?_)
            · have hf := q_pos c500 hf
              refine lv_iinc (v := v3 + 6) (lv' := [(3, .int (v3 + 6)), (0, .ref bs), (1, .ref (ad G 1)), (2, .ref (ad G 237))]) E.1 E.2.1 dL_law_1644 hl (k := 3) rfl rfl (by decide) rfl (fun ls hl => ?_)
              refine lv_goto (tgt := 18) E.1 E.2.1 dL_law_1647 (by decide) ?_
              exact ih _ _ _ _ _ hf w (lv_sub hl [1, 2, 3, 0] rfl)
            · have hf := q_neg c500 hf
              refine lv_iconst (v := 0) E.1 E.2.1 dL_law_1332 rfl ?_
              cases hf
        · have hf := q_neg c486 hf
          refine lv_iconst (v := 1) E.1 E.2.1 dL_law_1299 rfl ?_
          refine lv_goto (tgt := 1304) E.1 E.2.1 dL_law_1300 (by decide) ?_
          obtain ⟨r502, hc501, hf⟩ := bd1_e hf
          refine k_Vi (As := [.int (xs (v3 + 1).toNatClampNeg), .int 1]) (rest := []) E w g1 ⟨by decide, rfl⟩ (X10_choir_c g1 hc501) mv_R_law_126 rfl rfl hl.1 ⟨Nat.le_of_ble_eq_true rfl, Nat.le_of_ble_eq_true rfl⟩ (Nat.le_of_ble_eq_true rfl) ⟨Nat.le_of_ble_eq_true rfl, Nat.le_of_ble_eq_true rfl⟩ dL_law_1304 (fun H locs w => ?_)
          refine lv_aload_n E.1 E.2.1 dL_law_1307 rfl (lv_at hl 2 rfl) ?_
          refine lv_aload_n E.1 E.2.1 dL_law_1308 rfl (lv_at hl 0 rfl) ?_
          refine lv_iload_n E.1 E.2.1 dL_law_1309 rfl (lv_at hl 3 rfl) ?_
          refine lv_iconst (v := 1) E.1 E.2.1 dL_law_1310 rfl ?_
          refine lv_iadd E.1 E.2.1 dL_law_1311 ?_
          obtain ⟨b504, hf⟩ := q_if hf
          refine va_sld E.1 E.2.1 hX hbl hbA w.2.2.2.2.2 b504 dL_law_1312 ?_
          refine lv_aload_n E.1 E.2.1 dL_law_1313 rfl (lv_at hl 0 rfl) ?_
          refine lv_iload_n E.1 E.2.1 dL_law_1314 rfl (lv_at hl 3 rfl) ?_
          refine lv_iconst (v := 2) E.1 E.2.1 dL_law_1315 rfl ?_
          refine lv_iadd E.1 E.2.1 dL_law_1316 ?_
          obtain ⟨b505, hf⟩ := q_if hf
          refine va_sld E.1 E.2.1 hX hbl hbA w.2.2.2.2.2 b505 dL_law_1317 ?_
          refine lv_if_eq (tgt := 1325) E.1 E.2.1 dL_law_1318 (by decide) (fun c506 => ?_) (fun c506 => ?_)
          · have hf := q_pos c506 hf
            refine lv_iconst (v := 0) E.1 E.2.1 dL_law_1325 rfl ?_
            obtain ⟨r508, h509, hc507, hf⟩ := bd2_e hf
            refine k_Vi (As := [.int (xs (v3 + 1).toNatClampNeg), .int 0]) (rest := [.int r502]) E w g2 ⟨by decide, rfl⟩ (X11_choir_c g2 hc507) mv_R_law_129 rfl rfl hl.1 ⟨Nat.le_of_ble_eq_true rfl, Nat.le_of_ble_eq_true rfl⟩ (Nat.le_of_ble_eq_true rfl) ⟨Nat.le_of_ble_eq_true rfl, Nat.le_of_ble_eq_true rfl⟩ dL_law_1326 (fun H locs w => ?_)
            refine lv_icmp_eq (tgt := 1644) E.1 E.2.1 dL_law_1329 (by decide) (fun c510 => ?_) (fun c510 => ?_)
            · have hf := q_pos c510 hf
              refine lv_iinc (v := v3 + 6) (lv' := [(3, .int (v3 + 6)), (0, .ref bs), (1, .ref (ad G 1)), (2, .ref (ad G 237))]) E.1 E.2.1 dL_law_1644 hl (k := 3) rfl rfl (by decide) rfl (fun ls hl => ?_)
              refine lv_goto (tgt := 18) E.1 E.2.1 dL_law_1647 (by decide) ?_
              exact ih _ _ _ _ _ hf w (lv_sub hl [1, 2, 3, 0] rfl)
            · have hf := q_neg c510 hf
              refine lv_iconst (v := 0) E.1 E.2.1 dL_law_1332 rfl ?_
              cases hf
          · have hf := q_neg c506 hf
            refine lv_iconst (v := 1) E.1 E.2.1 dL_law_1321 rfl ?_
            refine lv_goto (tgt := 1326) E.1 E.2.1 dL_law_1322 (by decide) ?_
            obtain ⟨r512, h513, hc511, hf⟩ := bd2_e hf
            refine k_Vi (As := [.int (xs (v3 + 1).toNatClampNeg), .int 1]) (rest := [.int r502]) E w g2 ⟨by decide, rfl⟩ (X11_choir_c g2 hc511) mv_R_law_129 rfl rfl hl.1 ⟨Nat.le_of_ble_eq_true rfl, Nat.le_of_ble_eq_true rfl⟩ (Nat.le_of_ble_eq_true rfl) ⟨Nat.le_of_ble_eq_true rfl, Nat.le_of_ble_eq_true rfl⟩ dL_law_1326 (fun H locs w => ?_)
            refine lv_icmp_eq (tgt := 1644) E.1 E.2.1 dL_law_1329 (by decide) (fun c514 => ?_) (fun c514 => ?_)
            · have hf := q_pos c514 hf
              refine lv_iinc (v := v3 + 6) (lv' := [(3, .int (v3 + 6)), (0, .ref bs), (1, .ref (ad G 1)), (2, .ref (ad G 237))]) E.1 E.2.1 dL_law_1644 hl (k := 3) rfl rfl (by decide) rfl (fun ls hl => ?_)
              refine lv_goto (tgt := 18) E.1 E.2.1 dL_law_1647 (by decide) ?_
              exact ih _ _ _ _ _ hf w (lv_sub hl [1, 2, 3, 0] rfl)
            · have hf := q_neg c514 hf
              refine lv_iconst (v := 0) E.1 E.2.1 dL_law_1332 rfl ?_
              cases hf
      have hf := q_neg c483 hf
      by_cases c515 : ((xs v3.toNatClampNeg) &&& 63) = 27
      · have hf := q_pos c515 hf
        refine lv_tableIn (off := 1301) (tgt := 1334) E.1 E.2.1 dL_law_33 (by rw [c515]; decide) (by rw [c515]; decide) (by rw [c515]; rfl) (by decide) ?_
        refine lv_aload_n E.1 E.2.1 dL_law_1334 rfl (lv_at hl 1 rfl) ?_
        refine lv_aload_n E.1 E.2.1 dL_law_1335 rfl (lv_at hl 0 rfl) ?_
        refine lv_iload_n E.1 E.2.1 dL_law_1336 rfl (lv_at hl 3 rfl) ?_
        refine lv_iconst (v := 1) E.1 E.2.1 dL_law_1337 rfl ?_
        refine lv_iadd E.1 E.2.1 dL_law_1338 ?_
        obtain ⟨b516, hf⟩ := q_if hf
        refine va_sld E.1 E.2.1 hX hbl hbA w.2.2.2.2.2 b516 dL_law_1339 ?_
        refine lv_aload_n E.1 E.2.1 dL_law_1340 rfl (lv_at hl 0 rfl) ?_
        refine lv_iload_n E.1 E.2.1 dL_law_1341 rfl (lv_at hl 3 rfl) ?_
        refine lv_iconst (v := 2) E.1 E.2.1 dL_law_1342 rfl ?_
        refine lv_iadd E.1 E.2.1 dL_law_1343 ?_
        obtain ⟨b517, hf⟩ := q_if hf
        refine va_sld E.1 E.2.1 hX hbl hbA w.2.2.2.2.2 b517 dL_law_1344 ?_
        refine lv_aload_n E.1 E.2.1 dL_law_1345 rfl (lv_at hl 0 rfl) ?_
        refine lv_iload_n E.1 E.2.1 dL_law_1346 rfl (lv_at hl 3 rfl) ?_
        refine lv_iconst (v := 3) E.1 E.2.1 dL_law_1347 rfl ?_
        refine lv_iadd E.1 E.2.1 dL_law_1348 ?_
        obtain ⟨b518, hf⟩ := q_if hf
        refine va_sld E.1 E.2.1 hX hbl hbA w.2.2.2.2.2 b518 dL_law_1349 ?_
        obtain ⟨r520, h521, hc519, hf⟩ := bd2_e hf
        refine k_Vi (As := [.int (xs (v3 + 1).toNatClampNeg), .int (xs (v3 + 2).toNatClampNeg), .int (xs (v3 + 3).toNatClampNeg)]) (rest := []) E w g1 ⟨by decide, rfl⟩ (X10_after_c g1 hc519) mv_R_law_130 rfl rfl hl.1 ⟨Nat.le_of_ble_eq_true rfl, Nat.le_of_ble_eq_true rfl⟩ (Nat.le_of_ble_eq_true rfl) ⟨Nat.le_of_ble_eq_true rfl, Nat.le_of_ble_eq_true rfl⟩ dL_law_1350 (fun H locs w => ?_)
        refine lv_aload_n E.1 E.2.1 dL_law_1353 rfl (lv_at hl 2 rfl) ?_
        refine lv_aload_n E.1 E.2.1 dL_law_1354 rfl (lv_at hl 0 rfl) ?_
        refine lv_iload_n E.1 E.2.1 dL_law_1355 rfl (lv_at hl 3 rfl) ?_
        refine lv_iconst (v := 1) E.1 E.2.1 dL_law_1356 rfl ?_
        refine lv_iadd E.1 E.2.1 dL_law_1357 ?_
        obtain ⟨b522, hf⟩ := q_if hf
        refine va_sld E.1 E.2.1 hX hbl hbA w.2.2.2.2.2 b522 dL_law_1358 ?_
        refine lv_aload_n E.1 E.2.1 dL_law_1359 rfl (lv_at hl 0 rfl) ?_
        refine lv_iload_n E.1 E.2.1 dL_law_1360 rfl (lv_at hl 3 rfl) ?_
        refine lv_iconst (v := 2) E.1 E.2.1 dL_law_1361 rfl ?_
        refine lv_iadd E.1 E.2.1 dL_law_1362 ?_
        obtain ⟨b523, hf⟩ := q_if hf
        refine va_sld E.1 E.2.1 hX hbl hbA w.2.2.2.2.2 b523 dL_law_1363 ?_
        refine lv_aload_n E.1 E.2.1 dL_law_1364 rfl (lv_at hl 0 rfl) ?_
        refine lv_iload_n E.1 E.2.1 dL_law_1365 rfl (lv_at hl 3 rfl) ?_
        refine lv_iconst (v := 3) E.1 E.2.1 dL_law_1366 rfl ?_
        refine lv_iadd E.1 E.2.1 dL_law_1367 ?_
        obtain ⟨b524, hf⟩ := q_if hf
        refine va_sld E.1 E.2.1 hX hbl hbA w.2.2.2.2.2 b524 dL_law_1368 ?_
        obtain ⟨r526, h527, hc525, hf⟩ := bd2_e hf
        refine k_Vi (As := [.int (xs (v3 + 1).toNatClampNeg), .int (xs (v3 + 2).toNatClampNeg), .int (xs (v3 + 3).toNatClampNeg)]) (rest := [.int r520]) E w g2 ⟨by decide, rfl⟩ (X11_after_c g2 hc525) mv_R_law_133 rfl rfl hl.1 ⟨Nat.le_of_ble_eq_true rfl, Nat.le_of_ble_eq_true rfl⟩ (Nat.le_of_ble_eq_true rfl) ⟨Nat.le_of_ble_eq_true rfl, Nat.le_of_ble_eq_true rfl⟩ dL_law_1369 (fun H locs w => ?_)
        refine lv_icmp_eq (tgt := 1644) E.1 E.2.1 dL_law_1372 (by decide) (fun c528 => ?_) (fun c528 => ?_)
        · have hf := q_pos c528 hf
          refine lv_iinc (v := v3 + 6) (lv' := [(3, .int (v3 + 6)), (0, .ref bs), (1, .ref (ad G 1)), (2, .ref (ad G 237))]) E.1 E.2.1 dL_law_1644 hl (k := 3) rfl rfl (by decide) rfl (fun ls hl => ?_)
          refine lv_goto (tgt := 18) E.1 E.2.1 dL_law_1647 (by decide) ?_
          exact ih _ _ _ _ _ hf w (lv_sub hl [1, 2, 3, 0] rfl)
        · have hf := q_neg c528 hf
          refine lv_iconst (v := 0) E.1 E.2.1 dL_law_1375 rfl ?_
          cases hf
      have hf := q_neg c515 hf
      by_cases c529 : ((xs v3.toNatClampNeg) &&& 63) = 28
      · have hf := q_pos c529 hf
        refine lv_tableIn (off := 1344) (tgt := 1377) E.1 E.2.1 dL_law_33 (by rw [c529]; decide) (by rw [c529]; decide) (by rw [c529]; rfl) (by decide) ?_
        refine lv_aload_n E.1 E.2.1 dL_law_1377 rfl (lv_at hl 1 rfl) ?_
        refine lv_aload_n E.1 E.2.1 dL_law_1378 rfl (lv_at hl 0 rfl) ?_
        refine lv_iload_n E.1 E.2.1 dL_law_1379 rfl (lv_at hl 3 rfl) ?_
        refine lv_iconst (v := 1) E.1 E.2.1 dL_law_1380 rfl ?_
        refine lv_iadd E.1 E.2.1 dL_law_1381 ?_
        obtain ⟨b530, hf⟩ := q_if hf
        refine va_sld E.1 E.2.1 hX hbl hbA w.2.2.2.2.2 b530 dL_law_1382 ?_
        refine lv_aload_n E.1 E.2.1 dL_law_1383 rfl (lv_at hl 0 rfl) ?_
        refine lv_iload_n E.1 E.2.1 dL_law_1384 rfl (lv_at hl 3 rfl) ?_
        refine lv_iconst (v := 2) E.1 E.2.1 dL_law_1385 rfl ?_
        refine lv_iadd E.1 E.2.1 dL_law_1386 ?_
        obtain ⟨b531, hf⟩ := q_if hf
        refine va_sld E.1 E.2.1 hX hbl hbA w.2.2.2.2.2 b531 dL_law_1387 ?_
        refine lv_aload_n E.1 E.2.1 dL_law_1388 rfl (lv_at hl 0 rfl) ?_
        refine lv_iload_n E.1 E.2.1 dL_law_1389 rfl (lv_at hl 3 rfl) ?_
        refine lv_iconst (v := 3) E.1 E.2.1 dL_law_1390 rfl ?_
        refine lv_iadd E.1 E.2.1 dL_law_1391 ?_
        obtain ⟨b532, hf⟩ := q_if hf
        refine va_sld E.1 E.2.1 hX hbl hbA w.2.2.2.2.2 b532 dL_law_1392 ?_
        refine lv_aload_n E.1 E.2.1 dL_law_1393 rfl (lv_at hl 0 rfl) ?_
        refine lv_iload_n E.1 E.2.1 dL_law_1394 rfl (lv_at hl 3 rfl) ?_
        refine lv_iconst (v := 4) E.1 E.2.1 dL_law_1395 rfl ?_
        refine lv_iadd E.1 E.2.1 dL_law_1396 ?_
        obtain ⟨b533, hf⟩ := q_if hf
        refine va_sld E.1 E.2.1 hX hbl hbA w.2.2.2.2.2 b533 dL_law_1397 ?_
        refine lv_if_eq (tgt := 1405) E.1 E.2.1 dL_law_1398 (by decide) (fun c534 => ?_) (fun c534 => ?_)
        · have hf := q_pos c534 hf
          refine lv_iconst (v := 0) E.1 E.2.1 dL_law_1405 rfl ?_
          obtain ⟨r536, h537, hc535, hf⟩ := bd2_e hf
          refine k_Vl (As := [.int (xs (v3 + 1).toNatClampNeg), .int (xs (v3 + 2).toNatClampNeg), .int (xs (v3 + 3).toNatClampNeg), .int 0]) (rest := []) E w g1 ⟨by decide, rfl⟩ (X10_odds_c g1 hc535) mv_R_law_134 rfl rfl hl.1 ⟨Nat.le_of_ble_eq_true rfl, Nat.le_of_ble_eq_true rfl⟩ (Nat.le_of_ble_eq_true rfl) ⟨Nat.le_of_ble_eq_true rfl, Nat.le_of_ble_eq_true rfl⟩ dL_law_1406 (fun H locs w => ?_)
          refine lv_aload_n E.1 E.2.1 dL_law_1409 rfl (lv_at hl 2 rfl) ?_
          refine lv_aload_n E.1 E.2.1 dL_law_1410 rfl (lv_at hl 0 rfl) ?_
          refine lv_iload_n E.1 E.2.1 dL_law_1411 rfl (lv_at hl 3 rfl) ?_
          refine lv_iconst (v := 1) E.1 E.2.1 dL_law_1412 rfl ?_
          refine lv_iadd E.1 E.2.1 dL_law_1413 ?_
          obtain ⟨b538, hf⟩ := q_if hf
          refine va_sld E.1 E.2.1 hX hbl hbA w.2.2.2.2.2 b538 dL_law_1414 ?_
          refine lv_aload_n E.1 E.2.1 dL_law_1415 rfl (lv_at hl 0 rfl) ?_
          refine lv_iload_n E.1 E.2.1 dL_law_1416 rfl (lv_at hl 3 rfl) ?_
          refine lv_iconst (v := 2) E.1 E.2.1 dL_law_1417 rfl ?_
          refine lv_iadd E.1 E.2.1 dL_law_1418 ?_
          obtain ⟨b539, hf⟩ := q_if hf
          refine va_sld E.1 E.2.1 hX hbl hbA w.2.2.2.2.2 b539 dL_law_1419 ?_
          refine lv_aload_n E.1 E.2.1 dL_law_1420 rfl (lv_at hl 0 rfl) ?_
          refine lv_iload_n E.1 E.2.1 dL_law_1421 rfl (lv_at hl 3 rfl) ?_
          refine lv_iconst (v := 3) E.1 E.2.1 dL_law_1422 rfl ?_
          refine lv_iadd E.1 E.2.1 dL_law_1423 ?_
          obtain ⟨b540, hf⟩ := q_if hf
          refine va_sld E.1 E.2.1 hX hbl hbA w.2.2.2.2.2 b540 dL_law_1424 ?_
          refine lv_aload_n E.1 E.2.1 dL_law_1425 rfl (lv_at hl 0 rfl) ?_
          refine lv_iload_n E.1 E.2.1 dL_law_1426 rfl (lv_at hl 3 rfl) ?_
          refine lv_iconst (v := 4) E.1 E.2.1 dL_law_1427 rfl ?_
          refine lv_iadd E.1 E.2.1 dL_law_1428 ?_
          obtain ⟨b541, hf⟩ := q_if hf
          refine va_sld E.1 E.2.1 hX hbl hbA w.2.2.2.2.2 b541 dL_law_1429 ?_
          refine lv_if_eq (tgt := 1437) E.1 E.2.1 dL_law_1430 (by decide) (fun c542 => ?_) (fun c542 => ?_)
          · have hf := q_pos c542 hf
            refine lv_iconst (v := 0) E.1 E.2.1 dL_law_1437 rfl ?_
            obtain ⟨r544, h545, hc543, hf⟩ := bd2_e hf
            refine k_Vl (As := [.int (xs (v3 + 1).toNatClampNeg), .int (xs (v3 + 2).toNatClampNeg), .int (xs (v3 + 3).toNatClampNeg), .int 0]) (rest := [.long r536]) E w g2 ⟨by decide, rfl⟩ (X11_odds_c g2 hc543) mv_R_law_138 rfl rfl hl.1 ⟨Nat.le_of_ble_eq_true rfl, Nat.le_of_ble_eq_true rfl⟩ (Nat.le_of_ble_eq_true rfl) ⟨Nat.le_of_ble_eq_true rfl, Nat.le_of_ble_eq_true rfl⟩ dL_law_1438 (fun H locs w => ?_)
            refine W.lcmp E.1 E.2.1 dL_law_1441 ?_
            refine lv_if_eq (tgt := 1644) E.1 E.2.1 dL_law_1442 (by decide) (fun c546 => ?_) (fun c546 => ?_)
            · have hf := q_pos c546 hf
              refine lv_iinc (v := v3 + 6) (lv' := [(3, .int (v3 + 6)), (0, .ref bs), (1, .ref (ad G 1)), (2, .ref (ad G 237))]) E.1 E.2.1 dL_law_1644 hl (k := 3) rfl rfl (by decide) rfl (fun ls hl => ?_)
              refine lv_goto (tgt := 18) E.1 E.2.1 dL_law_1647 (by decide) ?_
              exact ih _ _ _ _ _ hf w (lv_sub hl [1, 2, 3, 0] rfl)
            · have hf := q_neg c546 hf
              refine lv_iconst (v := 0) E.1 E.2.1 dL_law_1445 rfl ?_
              cases hf
          · have hf := q_neg c542 hf
            refine lv_iconst (v := 1) E.1 E.2.1 dL_law_1433 rfl ?_
            refine lv_goto (tgt := 1438) E.1 E.2.1 dL_law_1434 (by decide) ?_
            obtain ⟨r548, h549, hc547, hf⟩ := bd2_e hf
            refine k_Vl (As := [.int (xs (v3 + 1).toNatClampNeg), .int (xs (v3 + 2).toNatClampNeg), .int (xs (v3 + 3).toNatClampNeg), .int 1]) (rest := [.long r536]) E w g2 ⟨by decide, rfl⟩ (X11_odds_c g2 hc547) mv_R_law_138 rfl rfl hl.1 ⟨Nat.le_of_ble_eq_true rfl, Nat.le_of_ble_eq_true rfl⟩ (Nat.le_of_ble_eq_true rfl) ⟨Nat.le_of_ble_eq_true rfl, Nat.le_of_ble_eq_true rfl⟩ dL_law_1438 (fun H locs w => ?_)
            refine W.lcmp E.1 E.2.1 dL_law_1441 ?_
            refine lv_if_eq (tgt := 1644) E.1 E.2.1 dL_law_1442 (by decide) (fun c550 => ?_) (fun c550 => ?_)
            · have hf := q_pos c550 hf
              refine lv_iinc (v := v3 + 6) (lv' := [(3, .int (v3 + 6)), (0, .ref bs), (1, .ref (ad G 1)), (2, .ref (ad G 237))]) E.1 E.2.1 dL_law_1644 hl (k := 3) rfl rfl (by decide) rfl (fun ls hl => ?_)
              refine lv_goto (tgt := 18) E.1 E.2.1 dL_law_1647 (by decide) ?_
              exact ih _ _ _ _ _ hf w (lv_sub hl [1, 2, 3, 0] rfl)
            · have hf := q_neg c550 hf
              refine lv_iconst (v := 0) E.1 E.2.1 dL_law_1445 rfl ?_
              cases hf
        · have hf := q_neg c534 hf
          refine lv_iconst (v := 1) E.1 E.2.1 dL_law_1401 rfl ?_
          refine lv_goto (tgt := 1406) E.1 E.2.1 dL_law_1402 (by decide) ?_
          obtain ⟨r552, h553, hc551, hf⟩ := bd2_e hf
          refine k_Vl (As := [.int (xs (v3 + 1).toNatClampNeg), .int (xs (v3 + 2).toNatClampNeg), .int (xs (v3 + 3).toNatClampNeg), .int 1]) (rest := []) E w g1 ⟨by decide, rfl⟩ (X10_odds_c g1 hc551) mv_R_law_134 rfl rfl hl.1 ⟨Nat.le_of_ble_eq_true rfl, Nat.le_of_ble_eq_true rfl⟩ (Nat.le_of_ble_eq_true rfl) ⟨Nat.le_of_ble_eq_true rfl, Nat.le_of_ble_eq_true rfl⟩ dL_law_1406 (fun H locs w => ?_)
          refine lv_aload_n E.1 E.2.1 dL_law_1409 rfl (lv_at hl 2 rfl) ?_
          refine lv_aload_n E.1 E.2.1 dL_law_1410 rfl (lv_at hl 0 rfl) ?_
          refine lv_iload_n E.1 E.2.1 dL_law_1411 rfl (lv_at hl 3 rfl) ?_
          refine lv_iconst (v := 1) E.1 E.2.1 dL_law_1412 rfl ?_
          refine lv_iadd E.1 E.2.1 dL_law_1413 ?_
          obtain ⟨b554, hf⟩ := q_if hf
          refine va_sld E.1 E.2.1 hX hbl hbA w.2.2.2.2.2 b554 dL_law_1414 ?_
          refine lv_aload_n E.1 E.2.1 dL_law_1415 rfl (lv_at hl 0 rfl) ?_
          refine lv_iload_n E.1 E.2.1 dL_law_1416 rfl (lv_at hl 3 rfl) ?_
          refine lv_iconst (v := 2) E.1 E.2.1 dL_law_1417 rfl ?_
          refine lv_iadd E.1 E.2.1 dL_law_1418 ?_
          obtain ⟨b555, hf⟩ := q_if hf
          refine va_sld E.1 E.2.1 hX hbl hbA w.2.2.2.2.2 b555 dL_law_1419 ?_
          refine lv_aload_n E.1 E.2.1 dL_law_1420 rfl (lv_at hl 0 rfl) ?_
          refine lv_iload_n E.1 E.2.1 dL_law_1421 rfl (lv_at hl 3 rfl) ?_
          refine lv_iconst (v := 3) E.1 E.2.1 dL_law_1422 rfl ?_
          refine lv_iadd E.1 E.2.1 dL_law_1423 ?_
          obtain ⟨b556, hf⟩ := q_if hf
          refine va_sld E.1 E.2.1 hX hbl hbA w.2.2.2.2.2 b556 dL_law_1424 ?_
          refine lv_aload_n E.1 E.2.1 dL_law_1425 rfl (lv_at hl 0 rfl) ?_
          refine lv_iload_n E.1 E.2.1 dL_law_1426 rfl (lv_at hl 3 rfl) ?_
          refine lv_iconst (v := 4) E.1 E.2.1 dL_law_1427 rfl ?_
          refine lv_iadd E.1 E.2.1 dL_law_1428 ?_
          obtain ⟨b557, hf⟩ := q_if hf
          refine va_sld E.1 E.2.1 hX hbl hbA w.2.2.2.2.2 b557 dL_law_1429 ?_
          refine lv_if_eq (tgt := 1437) E.1 E.2.1 dL_law_1430 (by decide) (fun c558 => ?_) (fun c558 => ?_)
          · have hf := q_pos c558 hf
            refine lv_iconst (v := 0) E.1 E.2.1 dL_law_1437 rfl ?_
            obtain ⟨r560, h561, hc559, hf⟩ := bd2_e hf
            refine k_Vl (As := [.int (xs (v3 + 1).toNatClampNeg), .int (xs (v3 + 2).toNatClampNeg), .int (xs (v3 + 3).toNatClampNeg), .int 0]) (rest := [.long r552]) E w g2 ⟨by decide, rfl⟩ (X11_odds_c g2 hc559) mv_R_law_138 rfl rfl hl.1 ⟨Nat.le_of_ble_eq_true rfl, Nat.le_of_ble_eq_true rfl⟩ (Nat.le_of_ble_eq_true rfl) ⟨Nat.le_of_ble_eq_true rfl, Nat.le_of_ble_eq_true rfl⟩ dL_law_1438 (fun H locs w => ?_)
            refine W.lcmp E.1 E.2.1 dL_law_1441 ?_
            refine lv_if_eq (tgt := 1644) E.1 E.2.1 dL_law_1442 (by decide) (fun c562 => ?_) (fun c562 => ?_)
            · have hf := q_pos c562 hf
              refine lv_iinc (v := v3 + 6) (lv' := [(3, .int (v3 + 6)), (0, .ref bs), (1, .ref (ad G 1)), (2, .ref (ad G 237))]) E.1 E.2.1 dL_law_1644 hl (k := 3) rfl rfl (by decide) rfl (fun ls hl => ?_)
              refine lv_goto (tgt := 18) E.1 E.2.1 dL_law_1647 (by decide) ?_
              exact ih _ _ _ _ _ hf w (lv_sub hl [1, 2, 3, 0] rfl)
            · have hf := q_neg c562 hf
              refine lv_iconst (v := 0) E.1 E.2.1 dL_law_1445 rfl ?_
              cases hf
          · have hf := q_neg c558 hf
            refine lv_iconst (v := 1) E.1 E.2.1 dL_law_1433 rfl ?_
            refine lv_goto (tgt := 1438) E.1 E.2.1 dL_law_1434 (by decide) ?_
            obtain ⟨r564, h565, hc563, hf⟩ := bd2_e hf
            refine k_Vl (As := [.int (xs (v3 + 1).toNatClampNeg), .int (xs (v3 + 2).toNatClampNeg), .int (xs (v3 + 3).toNatClampNeg), .int 1]) (rest := [.long r552]) E w g2 ⟨by decide, rfl⟩ (X11_odds_c g2 hc563) mv_R_law_138 rfl rfl hl.1 ⟨Nat.le_of_ble_eq_true rfl, Nat.le_of_ble_eq_true rfl⟩ (Nat.le_of_ble_eq_true rfl) ⟨Nat.le_of_ble_eq_true rfl, Nat.le_of_ble_eq_true rfl⟩ dL_law_1438 (fun H locs w => ?_)
            refine W.lcmp E.1 E.2.1 dL_law_1441 ?_
            refine lv_if_eq (tgt := 1644) E.1 E.2.1 dL_law_1442 (by decide) (fun c566 => ?_) (fun c566 => ?_)
            · have hf := q_pos c566 hf
              refine lv_iinc (v := v3 + 6) (lv' := [(3, .int (v3 + 6)), (0, .ref bs), (1, .ref (ad G 1)), (2, .ref (ad G 237))]) E.1 E.2.1 dL_law_1644 hl (k := 3) rfl rfl (by decide) rfl (fun ls hl => ?_)
              refine lv_goto (tgt := 18) E.1 E.2.1 dL_law_1647 (by decide) ?_
              exact ih _ _ _ _ _ hf w (lv_sub hl [1, 2, 3, 0] rfl)
            · have hf := q_neg c566 hf
              refine lv_iconst (v := 0) E.1 E.2.1 dL_law_1445 rfl ?_
              cases hf
      have hf := q_neg c529 hf
      by_cases c567 : ((xs v3.toNatClampNeg) &&& 63) = 29
      · have hf := q_pos c567 hf
        refine lv_tableIn (off := 1414) (tgt := 1447) E.1 E.2.1 dL_law_33 (by rw [c567]; decide) (by rw [c567]; decide) (by rw [c567]; rfl) (by decide) ?_
        refine lv_aload_n E.1 E.2.1 dL_law_1447 rfl (lv_at hl 1 rfl) ?_
        refine lv_aload_n E.1 E.2.1 dL_law_1448 rfl (lv_at hl 0 rfl) ?_
        refine lv_iload_n E.1 E.2.1 dL_law_1449 rfl (lv_at hl 3 rfl) ?_
        refine lv_iconst (v := 1) E.1 E.2.1 dL_law_1450 rfl ?_
        refine lv_iadd E.1 E.2.1 dL_law_1451 ?_
        obtain ⟨b568, hf⟩ := q_if hf
        refine va_sld E.1 E.2.1 hX hbl hbA w.2.2.2.2.2 b568 dL_law_1452 ?_
        obtain ⟨r570, h571, hc569, hf⟩ := bd2_e hf
        refine k_Vi (As := [.int (xs (v3 + 1).toNatClampNeg)]) (rest := []) E w g1 ⟨by decide, rfl⟩ (X10_hire_c g1 hc569) mv_R_law_139 rfl rfl hl.1 ⟨Nat.le_of_ble_eq_true rfl, Nat.le_of_ble_eq_true rfl⟩ (Nat.le_of_ble_eq_true rfl) ⟨Nat.le_of_ble_eq_true rfl, Nat.le_of_ble_eq_true rfl⟩ dL_law_1453 (fun H locs w => ?_)
        refine lv_aload_n E.1 E.2.1 dL_law_1456 rfl (lv_at hl 2 rfl) ?_
        refine lv_aload_n E.1 E.2.1 dL_law_1457 rfl (lv_at hl 0 rfl) ?_
        refine lv_iload_n E.1 E.2.1 dL_law_1458 rfl (lv_at hl 3 rfl) ?_
        refine lv_iconst (v := 1) E.1 E.2.1 dL_law_1459 rfl ?_
        refine lv_iadd E.1 E.2.1 dL_law_1460 ?_
        obtain ⟨b572, hf⟩ := q_if hf
        refine va_sld E.1 E.2.1 hX hbl hbA w.2.2.2.2.2 b572 dL_law_1461 ?_
        obtain ⟨r574, h575, hc573, hf⟩ := bd2_e hf
        refine k_Vi (As := [.int (xs (v3 + 1).toNatClampNeg)]) (rest := [.int r570]) E w g2 ⟨by decide, rfl⟩ (X11_hire_c g2 hc573) mv_R_law_142 rfl rfl hl.1 ⟨Nat.le_of_ble_eq_true rfl, Nat.le_of_ble_eq_true rfl⟩ (Nat.le_of_ble_eq_true rfl) ⟨Nat.le_of_ble_eq_true rfl, Nat.le_of_ble_eq_true rfl⟩ dL_law_1462 (fun H locs w => ?_)
        refine lv_icmp_eq (tgt := 1644) E.1 E.2.1 dL_law_1465 (by decide) (fun c576 => ?_) (fun c576 => ?_)
        · have hf := q_pos c576 hf
          refine lv_iinc (v := v3 + 6) (lv' := [(3, .int (v3 + 6)), (0, .ref bs), (1, .ref (ad G 1)), (2, .ref (ad G 237))]) E.1 E.2.1 dL_law_1644 hl (k := 3) rfl rfl (by decide) rfl (fun ls hl => ?_)
          refine lv_goto (tgt := 18) E.1 E.2.1 dL_law_1647 (by decide) ?_
          exact ih _ _ _ _ _ hf w (lv_sub hl [1, 2, 3, 0] rfl)
        · have hf := q_neg c576 hf
          refine lv_iconst (v := 0) E.1 E.2.1 dL_law_1468 rfl ?_
          cases hf
      have hf := q_neg c567 hf
      by_cases c577 : ((xs v3.toNatClampNeg) &&& 63) = 30
      · have hf := q_pos c577 hf
        refine lv_tableIn (off := 1437) (tgt := 1470) E.1 E.2.1 dL_law_33 (by rw [c577]; decide) (by rw [c577]; decide) (by rw [c577]; rfl) (by decide) ?_
        refine lv_aload_n E.1 E.2.1 dL_law_1470 rfl (lv_at hl 1 rfl) ?_
        refine lv_aload_n E.1 E.2.1 dL_law_1471 rfl (lv_at hl 0 rfl) ?_
        refine lv_iload_n E.1 E.2.1 dL_law_1472 rfl (lv_at hl 3 rfl) ?_
        refine lv_iconst (v := 1) E.1 E.2.1 dL_law_1473 rfl ?_
        refine lv_iadd E.1 E.2.1 dL_law_1474 ?_
        obtain ⟨b578, hf⟩ := q_if hf
        refine va_sld E.1 E.2.1 hX hbl hbA w.2.2.2.2.2 b578 dL_law_1475 ?_
        refine lv_aload_n E.1 E.2.1 dL_law_1476 rfl (lv_at hl 0 rfl) ?_
        refine lv_iload_n E.1 E.2.1 dL_law_1477 rfl (lv_at hl 3 rfl) ?_
        refine lv_iconst (v := 2) E.1 E.2.1 dL_law_1478 rfl ?_
        refine lv_iadd E.1 E.2.1 dL_law_1479 ?_
        obtain ⟨b579, hf⟩ := q_if hf
        refine va_sld E.1 E.2.1 hX hbl hbA w.2.2.2.2.2 b579 dL_law_1480 ?_
        obtain ⟨r581, hc580, hf⟩ := bd1_e hf
        refine k_Vi (As := [.int (xs (v3 + 1).toNatClampNeg), .int (xs (v3 + 2).toNatClampNeg)]) (rest := []) E w g1 ⟨by decide, rfl⟩ (X10_shift_c g1 hc580) mv_R_law_143 rfl rfl hl.1 ⟨Nat.le_of_ble_eq_true rfl, Nat.le_of_ble_eq_true rfl⟩ (Nat.le_of_ble_eq_true rfl) ⟨Nat.le_of_ble_eq_true rfl, Nat.le_of_ble_eq_true rfl⟩ dL_law_1481 (fun H locs w => ?_)
        refine lv_aload_n E.1 E.2.1 dL_law_1484 rfl (lv_at hl 2 rfl) ?_
        refine lv_aload_n E.1 E.2.1 dL_law_1485 rfl (lv_at hl 0 rfl) ?_
        refine lv_iload_n E.1 E.2.1 dL_law_1486 rfl (lv_at hl 3 rfl) ?_
        refine lv_iconst (v := 1) E.1 E.2.1 dL_law_1487 rfl ?_
        refine lv_iadd E.1 E.2.1 dL_law_1488 ?_
        obtain ⟨b583, hf⟩ := q_if hf
        refine va_sld E.1 E.2.1 hX hbl hbA w.2.2.2.2.2 b583 dL_law_1489 ?_
        refine lv_aload_n E.1 E.2.1 dL_law_1490 rfl (lv_at hl 0 rfl) ?_
        refine lv_iload_n E.1 E.2.1 dL_law_1491 rfl (lv_at hl 3 rfl) ?_
        refine lv_iconst (v := 2) E.1 E.2.1 dL_law_1492 rfl ?_
        refine lv_iadd E.1 E.2.1 dL_law_1493 ?_
        obtain ⟨b584, hf⟩ := q_if hf
        refine va_sld E.1 E.2.1 hX hbl hbA w.2.2.2.2.2 b584 dL_law_1494 ?_
        obtain ⟨r586, h587, hc585, hf⟩ := bd2_e hf
        refine k_Vi (As := [.int (xs (v3 + 1).toNatClampNeg), .int (xs (v3 + 2).toNatClampNeg)]) (rest := [.int r581]) E w g2 ⟨by decide, rfl⟩ (X11_shift_c g2 hc585) mv_R_law_146 rfl rfl hl.1 ⟨Nat.le_of_ble_eq_true rfl, Nat.le_of_ble_eq_true rfl⟩ (Nat.le_of_ble_eq_true rfl) ⟨Nat.le_of_ble_eq_true rfl, Nat.le_of_ble_eq_true rfl⟩ dL_law_1495 (fun H locs w => ?_)
        refine lv_icmp_eq (tgt := 1644) E.1 E.2.1 dL_law_1498 (by decide) (fun c588 => ?_) (fun c588 => ?_)
        · have hf := q_pos c588 hf
          refine lv_iinc (v := v3 + 6) (lv' := [(3, .int (v3 + 6)), (0, .ref bs), (1, .ref (ad G 1)), (2, .ref (ad G 237))]) E.1 E.2.1 dL_law_1644 hl (k := 3) rfl rfl (by decide) rfl (fun ls hl => ?_)
          refine lv_goto (tgt := 18) E.1 E.2.1 dL_law_1647 (by decide) ?_
          exact ih _ _ _ _ _ hf w (lv_sub hl [1, 2, 3, 0] rfl)
        · have hf := q_neg c588 hf
          refine lv_iconst (v := 0) E.1 E.2.1 dL_law_1501 rfl ?_
          cases hf
      have hf := q_neg c577 hf
      by_cases c589 : ((xs v3.toNatClampNeg) &&& 63) = 31
      · have hf := q_pos c589 hf
        refine lv_tableIn (off := 1470) (tgt := 1503) E.1 E.2.1 dL_law_33 (by rw [c589]; decide) (by rw [c589]; decide) (by rw [c589]; rfl) (by decide) ?_
        refine lv_aload_n E.1 E.2.1 dL_law_1503 rfl (lv_at hl 1 rfl) ?_
        refine lv_aload_n E.1 E.2.1 dL_law_1504 rfl (lv_at hl 0 rfl) ?_
        refine lv_iload_n E.1 E.2.1 dL_law_1505 rfl (lv_at hl 3 rfl) ?_
        refine lv_iconst (v := 1) E.1 E.2.1 dL_law_1506 rfl ?_
        refine lv_iadd E.1 E.2.1 dL_law_1507 ?_
        obtain ⟨b590, hf⟩ := q_if hf
        refine va_sld E.1 E.2.1 hX hbl hbA w.2.2.2.2.2 b590 dL_law_1508 ?_
        obtain ⟨r592, hc591, hf⟩ := bd1_e hf
        refine k_Vi (As := [.int (xs (v3 + 1).toNatClampNeg)]) (rest := []) E w g1 ⟨by decide, rfl⟩ (X10_tuned_c g1 hc591) mv_R_law_147 rfl rfl hl.1 ⟨Nat.le_of_ble_eq_true rfl, Nat.le_of_ble_eq_true rfl⟩ (Nat.le_of_ble_eq_true rfl) ⟨Nat.le_of_ble_eq_true rfl, Nat.le_of_ble_eq_true rfl⟩ dL_law_1509 (fun H locs w => ?_)
        refine lv_aload_n E.1 E.2.1 dL_law_1512 rfl (lv_at hl 2 rfl) ?_
        refine lv_aload_n E.1 E.2.1 dL_law_1513 rfl (lv_at hl 0 rfl) ?_
        refine lv_iload_n E.1 E.2.1 dL_law_1514 rfl (lv_at hl 3 rfl) ?_
        refine lv_iconst (v := 1) E.1 E.2.1 dL_law_1515 rfl ?_
        refine lv_iadd E.1 E.2.1 dL_law_1516 ?_
        obtain ⟨b594, hf⟩ := q_if hf
        refine va_sld E.1 E.2.1 hX hbl hbA w.2.2.2.2.2 b594 dL_law_1517 ?_
        obtain ⟨r596, h597, hc595, hf⟩ := bd2_e hf
        refine k_Vi (As := [.int (xs (v3 + 1).toNatClampNeg)]) (rest := [.int r592]) E w g2 ⟨by decide, rfl⟩ (X11_tuned_c g2 hc595) mv_R_law_150 rfl rfl hl.1 ⟨Nat.le_of_ble_eq_true rfl, Nat.le_of_ble_eq_true rfl⟩ (Nat.le_of_ble_eq_true rfl) ⟨Nat.le_of_ble_eq_true rfl, Nat.le_of_ble_eq_true rfl⟩ dL_law_1518 (fun H locs w => ?_)
        refine lv_icmp_eq (tgt := 1644) E.1 E.2.1 dL_law_1521 (by decide) (fun c598 => ?_) (fun c598 => ?_)
        · have hf := q_pos c598 hf
          refine lv_iinc (v := v3 + 6) (lv' := [(3, .int (v3 + 6)), (0, .ref bs), (1, .ref (ad G 1)), (2, .ref (ad G 237))]) E.1 E.2.1 dL_law_1644 hl (k := 3) rfl rfl (by decide) rfl (fun ls hl => ?_)
          refine lv_goto (tgt := 18) E.1 E.2.1 dL_law_1647 (by decide) ?_
          exact ih _ _ _ _ _ hf w (lv_sub hl [1, 2, 3, 0] rfl)
        · have hf := q_neg c598 hf
          refine lv_iconst (v := 0) E.1 E.2.1 dL_law_1524 rfl ?_
          cases hf
      have hf := q_neg c589 hf
      by_cases c599 : ((xs v3.toNatClampNeg) &&& 63) = 32
      · have hf := q_pos c599 hf
        refine lv_tableIn (off := 1493) (tgt := 1526) E.1 E.2.1 dL_law_33 (by rw [c599]; decide) (by rw [c599]; decide) (by rw [c599]; rfl) (by decide) ?_
        refine lv_aload_n E.1 E.2.1 dL_law_1526 rfl (lv_at hl 1 rfl) ?_
        refine lv_aload_n E.1 E.2.1 dL_law_1527 rfl (lv_at hl 0 rfl) ?_
        refine lv_iload_n E.1 E.2.1 dL_law_1528 rfl (lv_at hl 3 rfl) ?_
        refine lv_iconst (v := 1) E.1 E.2.1 dL_law_1529 rfl ?_
        refine lv_iadd E.1 E.2.1 dL_law_1530 ?_
        obtain ⟨b600, hf⟩ := q_if hf
        refine va_sld E.1 E.2.1 hX hbl hbA w.2.2.2.2.2 b600 dL_law_1531 ?_
        refine lv_aload_n E.1 E.2.1 dL_law_1532 rfl (lv_at hl 0 rfl) ?_
        refine lv_iload_n E.1 E.2.1 dL_law_1533 rfl (lv_at hl 3 rfl) ?_
        refine lv_iconst (v := 2) E.1 E.2.1 dL_law_1534 rfl ?_
        refine lv_iadd E.1 E.2.1 dL_law_1535 ?_
        obtain ⟨b601, hf⟩ := q_if hf
        refine va_sld E.1 E.2.1 hX hbl hbA w.2.2.2.2.2 b601 dL_law_1536 ?_
        refine lv_if_eq (tgt := 1544) E.1 E.2.1 dL_law_1537 (by decide) (fun c602 => ?_) (fun c602 => ?_)
        · have hf := q_pos c602 hf
          refine lv_iconst (v := 0) E.1 E.2.1 dL_law_1544 rfl ?_
          obtain ⟨r604, hc603, hf⟩ := bd1_e hf
          refine k_Vi (As := [.int (xs (v3 + 1).toNatClampNeg), .int 0]) (rest := []) E w g1 ⟨by decide, rfl⟩ (X10_landing_c g1 hc603) mv_R_law_151 rfl rfl hl.1 ⟨Nat.le_of_ble_eq_true rfl, Nat.le_of_ble_eq_true rfl⟩ (Nat.le_of_ble_eq_true rfl) ⟨Nat.le_of_ble_eq_true rfl, Nat.le_of_ble_eq_true rfl⟩ dL_law_1545 (fun H locs w => ?_)
          refine lv_aload_n E.1 E.2.1 dL_law_1548 rfl (lv_at hl 2 rfl) ?_
          refine lv_aload_n E.1 E.2.1 dL_law_1549 rfl (lv_at hl 0 rfl) ?_
          refine lv_iload_n E.1 E.2.1 dL_law_1550 rfl (lv_at hl 3 rfl) ?_
          refine lv_iconst (v := 1) E.1 E.2.1 dL_law_1551 rfl ?_
          refine lv_iadd E.1 E.2.1 dL_law_1552 ?_
          obtain ⟨b606, hf⟩ := q_if hf
          refine va_sld E.1 E.2.1 hX hbl hbA w.2.2.2.2.2 b606 dL_law_1553 ?_
          refine lv_aload_n E.1 E.2.1 dL_law_1554 rfl (lv_at hl 0 rfl) ?_
          refine lv_iload_n E.1 E.2.1 dL_law_1555 rfl (lv_at hl 3 rfl) ?_
          refine lv_iconst (v := 2) E.1 E.2.1 dL_law_1556 rfl ?_
          refine lv_iadd E.1 E.2.1 dL_law_1557 ?_
          obtain ⟨b607, hf⟩ := q_if hf
          refine va_sld E.1 E.2.1 hX hbl hbA w.2.2.2.2.2 b607 dL_law_1558 ?_
          refine lv_if_eq (tgt := 1566) E.1 E.2.1 dL_law_1559 (by decide) (fun c608 => ?_) (fun c608 => ?_)
          · have hf := q_pos c608 hf
            refine lv_iconst (v := 0) E.1 E.2.1 dL_law_1566 rfl ?_
            obtain ⟨r610, h611, hc609, hf⟩ := bd2_e hf
            refine k_Vi (As := [.int (xs (v3 + 1).toNatClampNeg), .int 0]) (rest := [.int r604]) E w g2 ⟨by decide, rfl⟩ (X11_landing_c g2 hc609) mv_R_law_154 rfl rfl hl.1 ⟨Nat.le_of_ble_eq_true rfl, Nat.le_of_ble_eq_true rfl⟩ (Nat.le_of_ble_eq_true rfl) ⟨Nat.le_of_ble_eq_true rfl, Nat.le_of_ble_eq_true rfl⟩ dL_law_1567 (fun H locs w => ?_)
            refine lv_icmp_eq (tgt := 1644) E.1 E.2.1 dL_law_1570 (by decide) (fun c612 => ?_) (fun c612 => ?_)
            · have hf := q_pos c612 hf
              refine lv_iinc (v := v3 + 6) (lv' := [(3, .int (v3 + 6)), (0, .ref bs), (1, .ref (ad G 1)), (2, .ref (ad G 237))]) E.1 E.2.1 dL_law_1644 hl (k := 3) rfl rfl (by decide) rfl (fun ls hl => ?_)
              refine lv_goto (tgt := 18) E.1 E.2.1 dL_law_1647 (by decide) ?_
              exact ih _ _ _ _ _ hf w (lv_sub hl [1, 2, 3, 0] rfl)
            · have hf := q_neg c612 hf
              refine lv_iconst (v := 0) E.1 E.2.1 dL_law_1573 rfl ?_
              cases hf
          · have hf := q_neg c608 hf
            refine lv_iconst (v := 1) E.1 E.2.1 dL_law_1562 rfl ?_
            refine lv_goto (tgt := 1567) E.1 E.2.1 dL_law_1563 (by decide) ?_
            obtain ⟨r614, h615, hc613, hf⟩ := bd2_e hf
            refine k_Vi (As := [.int (xs (v3 + 1).toNatClampNeg), .int 1]) (rest := [.int r604]) E w g2 ⟨by decide, rfl⟩ (X11_landing_c g2 hc613) mv_R_law_154 rfl rfl hl.1 ⟨Nat.le_of_ble_eq_true rfl, Nat.le_of_ble_eq_true rfl⟩ (Nat.le_of_ble_eq_true rfl) ⟨Nat.le_of_ble_eq_true rfl, Nat.le_of_ble_eq_true rfl⟩ dL_law_1567 (fun H locs w => ?_)
            refine lv_icmp_eq (tgt := 1644) E.1 E.2.1 dL_law_1570 (by decide) (fun c616 => ?_) (fun c616 => ?_)
            · have hf := q_pos c616 hf
              refine lv_iinc (v := v3 + 6) (lv' := [(3, .int (v3 + 6)), (0, .ref bs), (1, .ref (ad G 1)), (2, .ref (ad G 237))]) E.1 E.2.1 dL_law_1644 hl (k := 3) rfl rfl (by decide) rfl (fun ls hl => ?_)
              refine lv_goto (tgt := 18) E.1 E.2.1 dL_law_1647 (by decide) ?_
              exact ih _ _ _ _ _ hf w (lv_sub hl [1, 2, 3, 0] rfl)
            · have hf := q_neg c616 hf
              refine lv_iconst (v := 0) E.1 E.2.1 dL_law_1573 rfl ?_
              cases hf
        · have hf := q_neg c602 hf
          refine lv_iconst (v := 1) E.1 E.2.1 dL_law_1540 rfl ?_
          refine lv_goto (tgt := 1545) E.1 E.2.1 dL_law_1541 (by decide) ?_
          obtain ⟨r618, hc617, hf⟩ := bd1_e hf
          refine k_Vi (As := [.int (xs (v3 + 1).toNatClampNeg), .int 1]) (rest := []) E w g1 ⟨by decide, rfl⟩ (X10_landing_c g1 hc617) mv_R_law_151 rfl rfl hl.1 ⟨Nat.le_of_ble_eq_true rfl, Nat.le_of_ble_eq_true rfl⟩ (Nat.le_of_ble_eq_true rfl) ⟨Nat.le_of_ble_eq_true rfl, Nat.le_of_ble_eq_true rfl⟩ dL_law_1545 (fun H locs w => ?_)
          refine lv_aload_n E.1 E.2.1 dL_law_1548 rfl (lv_at hl 2 rfl) ?_
          refine lv_aload_n E.1 E.2.1 dL_law_1549 rfl (lv_at hl 0 rfl) ?_
          refine lv_iload_n E.1 E.2.1 dL_law_1550 rfl (lv_at hl 3 rfl) ?_
          refine lv_iconst (v := 1) E.1 E.2.1 dL_law_1551 rfl ?_
          refine lv_iadd E.1 E.2.1 dL_law_1552 ?_
          obtain ⟨b620, hf⟩ := q_if hf
          refine va_sld E.1 E.2.1 hX hbl hbA w.2.2.2.2.2 b620 dL_law_1553 ?_
          refine lv_aload_n E.1 E.2.1 dL_law_1554 rfl (lv_at hl 0 rfl) ?_
          refine lv_iload_n E.1 E.2.1 dL_law_1555 rfl (lv_at hl 3 rfl) ?_
          refine lv_iconst (v := 2) E.1 E.2.1 dL_law_1556 rfl ?_
          refine lv_iadd E.1 E.2.1 dL_law_1557 ?_
          obtain ⟨b621, hf⟩ := q_if hf
          refine va_sld E.1 E.2.1 hX hbl hbA w.2.2.2.2.2 b621 dL_law_1558 ?_
          refine lv_if_eq (tgt := 1566) E.1 E.2.1 dL_law_1559 (by decide) (fun c622 => ?_) (fun c622 => ?_)
          · have hf := q_pos c622 hf
            refine lv_iconst (v := 0) E.1 E.2.1 dL_law_1566 rfl ?_
            obtain ⟨r624, h625, hc623, hf⟩ := bd2_e hf
            refine k_Vi (As := [.int (xs (v3 + 1).toNatClampNeg), .int 0]) (rest := [.int r618]) E w g2 ⟨by decide, rfl⟩ (X11_landing_c g2 hc623) mv_R_law_154 rfl rfl hl.1 ⟨Nat.le_of_ble_eq_true rfl, Nat.le_of_ble_eq_true rfl⟩ (Nat.le_of_ble_eq_true rfl) ⟨Nat.le_of_ble_eq_true rfl, Nat.le_of_ble_eq_true rfl⟩ dL_law_1567 (fun H locs w => ?_)
            refine lv_icmp_eq (tgt := 1644) E.1 E.2.1 dL_law_1570 (by decide) (fun c626 => ?_) (fun c626 => ?_)
            · have hf := q_pos c626 hf
              refine lv_iinc (v := v3 + 6) (lv' := [(3, .int (v3 + 6)), (0, .ref bs), (1, .ref (ad G 1)), (2, .ref (ad G 237))]) E.1 E.2.1 dL_law_1644 hl (k := 3) rfl rfl (by decide) rfl (fun ls hl => ?_)
              refine lv_goto (tgt := 18) E.1 E.2.1 dL_law_1647 (by decide) ?_
              exact ih _ _ _ _ _ hf w (lv_sub hl [1, 2, 3, 0] rfl)
            · have hf := q_neg c626 hf
              refine lv_iconst (v := 0) E.1 E.2.1 dL_law_1573 rfl ?_
              cases hf
          · have hf := q_neg c622 hf
            refine lv_iconst (v := 1) E.1 E.2.1 dL_law_1562 rfl ?_
            refine lv_goto (tgt := 1567) E.1 E.2.1 dL_law_1563 (by decide) ?_
            obtain ⟨r628, h629, hc627, hf⟩ := bd2_e hf
            refine k_Vi (As := [.int (xs (v3 + 1).toNatClampNeg), .int 1]) (rest := [.int r618]) E w g2 ⟨by decide, rfl⟩ (X11_landing_c g2 hc627) mv_R_law_154 rfl rfl hl.1 ⟨Nat.le_of_ble_eq_true rfl, Nat.le_of_ble_eq_true rfl⟩ (Nat.le_of_ble_eq_true rfl) ⟨Nat.le_of_ble_eq_true rfl, Nat.le_of_ble_eq_true rfl⟩ dL_law_1567 (fun H locs w => ?_)
            refine lv_icmp_eq (tgt := 1644) E.1 E.2.1 dL_law_1570 (by decide) (fun c630 => ?_) (fun c630 => ?_)
            · have hf := q_pos c630 hf
              refine lv_iinc (v := v3 + 6) (lv' := [(3, .int (v3 + 6)), (0, .ref bs), (1, .ref (ad G 1)), (2, .ref (ad G 237))]) E.1 E.2.1 dL_law_1644 hl (k := 3) rfl rfl (by decide) rfl (fun ls hl => ?_)
              refine lv_goto (tgt := 18) E.1 E.2.1 dL_law_1647 (by decide) ?_
              exact ih _ _ _ _ _ hf w (lv_sub hl [1, 2, 3, 0] rfl)
            · have hf := q_neg c630 hf
              refine lv_iconst (v := 0) E.1 E.2.1 dL_law_1573 rfl ?_
              cases hf
      have hf := q_neg c599 hf
      by_cases c631 : ((xs v3.toNatClampNeg) &&& 63) = 33
      · have hf := q_pos c631 hf
        refine lv_tableIn (off := 1542) (tgt := 1575) E.1 E.2.1 dL_law_33 (by rw [c631]; decide) (by rw [c631]; decide) (by rw [c631]; rfl) (by decide) ?_
        refine lv_aload_n E.1 E.2.1 dL_law_1575 rfl (lv_at hl 1 rfl) ?_
        refine lv_aload_n E.1 E.2.1 dL_law_1576 rfl (lv_at hl 0 rfl) ?_
        refine lv_iload_n E.1 E.2.1 dL_law_1577 rfl (lv_at hl 3 rfl) ?_
        refine lv_iconst (v := 1) E.1 E.2.1 dL_law_1578 rfl ?_
        refine lv_iadd E.1 E.2.1 dL_law_1579 ?_
        obtain ⟨b632, hf⟩ := q_if hf
        refine va_sld E.1 E.2.1 hX hbl hbA w.2.2.2.2.2 b632 dL_law_1580 ?_
        obtain ⟨r634, hc633, hf⟩ := bd1_e hf
        refine k_Vi (As := [.int (xs (v3 + 1).toNatClampNeg)]) (rest := []) E w g1 ⟨by decide, rfl⟩ (X10_count_c g1 hc633) mv_R_law_155 rfl rfl hl.1 ⟨Nat.le_of_ble_eq_true rfl, Nat.le_of_ble_eq_true rfl⟩ (Nat.le_of_ble_eq_true rfl) ⟨Nat.le_of_ble_eq_true rfl, Nat.le_of_ble_eq_true rfl⟩ dL_law_1581 (fun H locs w => ?_)
        refine lv_aload_n E.1 E.2.1 dL_law_1584 rfl (lv_at hl 2 rfl) ?_
        refine lv_aload_n E.1 E.2.1 dL_law_1585 rfl (lv_at hl 0 rfl) ?_
        refine lv_iload_n E.1 E.2.1 dL_law_1586 rfl (lv_at hl 3 rfl) ?_
        refine lv_iconst (v := 1) E.1 E.2.1 dL_law_1587 rfl ?_
        refine lv_iadd E.1 E.2.1 dL_law_1588 ?_
        obtain ⟨b636, hf⟩ := q_if hf
        refine va_sld E.1 E.2.1 hX hbl hbA w.2.2.2.2.2 b636 dL_law_1589 ?_
        obtain ⟨r638, hc637, hf⟩ := bd1_e hf
        refine k_Vi (As := [.int (xs (v3 + 1).toNatClampNeg)]) (rest := [.int r634]) E w g2 ⟨by decide, rfl⟩ (X11_count_c g2 hc637) mv_R_law_158 rfl rfl hl.1 ⟨Nat.le_of_ble_eq_true rfl, Nat.le_of_ble_eq_true rfl⟩ (Nat.le_of_ble_eq_true rfl) ⟨Nat.le_of_ble_eq_true rfl, Nat.le_of_ble_eq_true rfl⟩ dL_law_1590 (fun H locs w => ?_)
        refine lv_icmp_eq (tgt := 1644) E.1 E.2.1 dL_law_1593 (by decide) (fun c640 => ?_) (fun c640 => ?_)
        · have hf := q_pos c640 hf
          refine lv_iinc (v := v3 + 6) (lv' := [(3, .int (v3 + 6)), (0, .ref bs), (1, .ref (ad G 1)), (2, .ref (ad G 237))]) E.1 E.2.1 dL_law_1644 hl (k := 3) rfl rfl (by decide) rfl (fun ls hl => ?_)
          refine lv_goto (tgt := 18) E.1 E.2.1 dL_law_1647 (by decide) ?_
          exact ih _ _ _ _ _ hf w (lv_sub hl [1, 2, 3, 0] rfl)
        · have hf := q_neg c640 hf
          refine lv_iconst (v := 0) E.1 E.2.1 dL_law_1596 rfl ?_
          cases hf
      have hf := q_neg c631 hf
      by_cases c641 : ((xs v3.toNatClampNeg) &&& 63) = 34
      · have hf := q_pos c641 hf
        refine lv_tableIn (off := 1565) (tgt := 1598) E.1 E.2.1 dL_law_33 (by rw [c641]; decide) (by rw [c641]; decide) (by rw [c641]; rfl) (by decide) ?_
        refine lv_aload_n E.1 E.2.1 dL_law_1598 rfl (lv_at hl 1 rfl) ?_
        refine lv_aload_n E.1 E.2.1 dL_law_1599 rfl (lv_at hl 0 rfl) ?_
        refine lv_iload_n E.1 E.2.1 dL_law_1600 rfl (lv_at hl 3 rfl) ?_
        refine lv_iconst (v := 1) E.1 E.2.1 dL_law_1601 rfl ?_
        refine lv_iadd E.1 E.2.1 dL_law_1602 ?_
        obtain ⟨b642, hf⟩ := q_if hf
        refine va_sld E.1 E.2.1 hX hbl hbA w.2.2.2.2.2 b642 dL_law_1603 ?_
        obtain ⟨r644, h645, hc643, hf⟩ := bd2_e hf
        refine k_Vi (As := [.int (xs (v3 + 1).toNatClampNeg)]) (rest := []) E w g1 ⟨by decide, rfl⟩ (X10_image_c g1 hc643) mv_R_law_159 rfl rfl hl.1 ⟨Nat.le_of_ble_eq_true rfl, Nat.le_of_ble_eq_true rfl⟩ (Nat.le_of_ble_eq_true rfl) ⟨Nat.le_of_ble_eq_true rfl, Nat.le_of_ble_eq_true rfl⟩ dL_law_1604 (fun H locs w => ?_)
        refine lv_aload_n E.1 E.2.1 dL_law_1607 rfl (lv_at hl 2 rfl) ?_
        refine lv_aload_n E.1 E.2.1 dL_law_1608 rfl (lv_at hl 0 rfl) ?_
        refine lv_iload_n E.1 E.2.1 dL_law_1609 rfl (lv_at hl 3 rfl) ?_
        refine lv_iconst (v := 1) E.1 E.2.1 dL_law_1610 rfl ?_
        refine lv_iadd E.1 E.2.1 dL_law_1611 ?_
        obtain ⟨b646, hf⟩ := q_if hf
        refine va_sld E.1 E.2.1 hX hbl hbA w.2.2.2.2.2 b646 dL_law_1612 ?_
        obtain ⟨r648, h649, hc647, hf⟩ := bd2_e hf
        refine k_Vi (As := [.int (xs (v3 + 1).toNatClampNeg)]) (rest := [.int r644]) E w g2 ⟨by decide, rfl⟩ (X11_image_c g2 hc647) mv_R_law_163 rfl rfl hl.1 ⟨Nat.le_of_ble_eq_true rfl, Nat.le_of_ble_eq_true rfl⟩ (Nat.le_of_ble_eq_true rfl) ⟨Nat.le_of_ble_eq_true rfl, Nat.le_of_ble_eq_true rfl⟩ dL_law_1613 (fun H locs w => ?_)
        refine lv_icmp_eq (tgt := 1644) E.1 E.2.1 dL_law_1616 (by decide) (fun c650 => ?_) (fun c650 => ?_)
        · have hf := q_pos c650 hf
          refine lv_iinc (v := v3 + 6) (lv' := [(3, .int (v3 + 6)), (0, .ref bs), (1, .ref (ad G 1)), (2, .ref (ad G 237))]) E.1 E.2.1 dL_law_1644 hl (k := 3) rfl rfl (by decide) rfl (fun ls hl => ?_)
          refine lv_goto (tgt := 18) E.1 E.2.1 dL_law_1647 (by decide) ?_
          exact ih _ _ _ _ _ hf w (lv_sub hl [1, 2, 3, 0] rfl)
        · have hf := q_neg c650 hf
          refine lv_iconst (v := 0) E.1 E.2.1 dL_law_1619 rfl ?_
          cases hf
      have hf := q_neg c641 hf
      by_cases c651 : ((xs v3.toNatClampNeg) &&& 63) = 35
      · have hf := q_pos c651 hf
        refine lv_tableIn (off := 1588) (tgt := 1621) E.1 E.2.1 dL_law_33 (by rw [c651]; decide) (by rw [c651]; decide) (by rw [c651]; rfl) (by decide) ?_
        refine lv_aload_n E.1 E.2.1 dL_law_1621 rfl (lv_at hl 1 rfl) ?_
        refine lv_aload_n E.1 E.2.1 dL_law_1622 rfl (lv_at hl 0 rfl) ?_
        refine lv_iload_n E.1 E.2.1 dL_law_1623 rfl (lv_at hl 3 rfl) ?_
        refine lv_iconst (v := 1) E.1 E.2.1 dL_law_1624 rfl ?_
        refine lv_iadd E.1 E.2.1 dL_law_1625 ?_
        obtain ⟨b652, hf⟩ := q_if hf
        refine va_sld E.1 E.2.1 hX hbl hbA w.2.2.2.2.2 b652 dL_law_1626 ?_
        obtain ⟨r654, h655, hc653, hf⟩ := bd2_e hf
        refine k_Vi (As := [.int (xs (v3 + 1).toNatClampNeg)]) (rest := []) E w g1 ⟨by decide, rfl⟩ (X10_again_c g1 hc653) mv_R_law_164 rfl rfl hl.1 ⟨Nat.le_of_ble_eq_true rfl, Nat.le_of_ble_eq_true rfl⟩ (Nat.le_of_ble_eq_true rfl) ⟨Nat.le_of_ble_eq_true rfl, Nat.le_of_ble_eq_true rfl⟩ dL_law_1627 (fun H locs w => ?_)
        refine lv_aload_n E.1 E.2.1 dL_law_1630 rfl (lv_at hl 2 rfl) ?_
        refine lv_aload_n E.1 E.2.1 dL_law_1631 rfl (lv_at hl 0 rfl) ?_
        refine lv_iload_n E.1 E.2.1 dL_law_1632 rfl (lv_at hl 3 rfl) ?_
        refine lv_iconst (v := 1) E.1 E.2.1 dL_law_1633 rfl ?_
        refine lv_iadd E.1 E.2.1 dL_law_1634 ?_
        obtain ⟨b656, hf⟩ := q_if hf
        refine va_sld E.1 E.2.1 hX hbl hbA w.2.2.2.2.2 b656 dL_law_1635 ?_
        obtain ⟨r658, h659, hc657, hf⟩ := bd2_e hf
        refine k_Vi (As := [.int (xs (v3 + 1).toNatClampNeg)]) (rest := [.int r654]) E w g2 ⟨by decide, rfl⟩ (X11_again_c g2 hc657) mv_R_law_167 rfl rfl hl.1 ⟨Nat.le_of_ble_eq_true rfl, Nat.le_of_ble_eq_true rfl⟩ (Nat.le_of_ble_eq_true rfl) ⟨Nat.le_of_ble_eq_true rfl, Nat.le_of_ble_eq_true rfl⟩ dL_law_1636 (fun H locs w => ?_)
        refine lv_icmp_eq (tgt := 1644) E.1 E.2.1 dL_law_1639 (by decide) (fun c660 => ?_) (fun c660 => ?_)
        · have hf := q_pos c660 hf
          refine lv_iinc (v := v3 + 6) (lv' := [(3, .int (v3 + 6)), (0, .ref bs), (1, .ref (ad G 1)), (2, .ref (ad G 237))]) E.1 E.2.1 dL_law_1644 hl (k := 3) rfl rfl (by decide) rfl (fun ls hl => ?_)
          refine lv_goto (tgt := 18) E.1 E.2.1 dL_law_1647 (by decide) ?_
          exact ih _ _ _ _ _ hf w (lv_sub hl [1, 2, 3, 0] rfl)
        · have hf := q_neg c660 hf
          refine lv_iconst (v := 0) E.1 E.2.1 dL_law_1642 rfl ?_
          cases hf
      have hf := q_neg c651 hf
      refine lv_tableOut (tgt := 1644) E.1 E.2.1 dL_law_33 (by have := ne_i c3 (z := 0) (by decide); have := ne_i c21 (z := 1) (by decide); have := ne_i c31 (z := 2) (by decide); have := ne_i c43 (z := 3) (by decide); have := ne_i c53 (z := 4) (by decide); have := ne_i c65 (z := 5) (by decide); have := ne_i c79 (z := 6) (by decide); have := ne_i c91 (z := 7) (by decide); have := ne_i c107 (z := 8) (by decide); have := ne_i c119 (z := 9) (by decide); have := ne_i c151 (z := 10) (by decide); have := ne_i c183 (z := 11) (by decide); have := ne_i c215 (z := 12) (by decide); have := ne_i c225 (z := 13) (by decide); have := ne_i c260 (z := 14) (by decide); have := ne_i c272 (z := 15) (by decide); have := ne_i c286 (z := 16) (by decide); have := ne_i c300 (z := 17) (by decide); have := ne_i c316 (z := 18) (by decide); have := ne_i c351 (z := 19) (by decide); have := ne_i c363 (z := 20) (by decide); have := ne_i c375 (z := 21) (by decide); have := ne_i c387 (z := 22) (by decide); have := ne_i c422 (z := 23) (by decide); have := ne_i c457 (z := 24) (by decide); have := ne_i c471 (z := 25) (by decide); have := ne_i c483 (z := 26) (by decide); have := ne_i c515 (z := 27) (by decide); have := ne_i c529 (z := 28) (by decide); have := ne_i c567 (z := 29) (by decide); have := ne_i c577 (z := 30) (by decide); have := ne_i c589 (z := 31) (by decide); have := ne_i c599 (z := 32) (by decide); have := ne_i c631 (z := 33) (by decide); have := ne_i c641 (z := 34) (by decide); have := ne_i c651 (z := 35) (by decide); omega) (by decide) ?_
      refine lv_iinc (v := v3 + 6) (lv' := [(3, .int (v3 + 6)), (0, .ref bs), (1, .ref (ad G 1)), (2, .ref (ad G 237))]) E.1 E.2.1 dL_law_1644 hl (k := 3) rfl rfl (by decide) rfl (fun ls hl => ?_)
      refine lv_goto (tgt := 18) E.1 E.2.1 dL_law_1647 (by decide) ?_
      exact ih _ _ _ _ _ hf w (lv_sub hl [1, 2, 3, 0] rfl)
