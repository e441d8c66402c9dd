def stA (q : Nat) (i : Int32) : Int32 := if i < 0 then 0 else if nI (stL q) ≤ i then 0 else stV q i.toNatClampNeg
theorem stL_ok : ∀ q, q < 3 → stL q < 50 := by decide +kernel
theorem atS_c {l : Launch} {G : GT} {h : HS} {q : Nat} (hq : q < 3) {i : Int32} : CT l G yX10_at cX10_at 2 (some .int) 0 0 [.ref (ad G (300 + q)), .int i] h (some (.int (stA q i))) h := by
  refine CT.of (by decide) (Nat.le_of_ble_eq_true rfl) ?_
  intro p e s m below meth c ls E hr hlk w hl
  have hl : lv_has ls 2 [(0, .ref (ad G (300 + q))), (1, .int i)] := hl
  refine lv_iload_n E.1 E.2.1 dX10_at_0 rfl (lv_at hl 1 rfl) ?_
  refine lv_if_lt (tgt := 16) E.1 E.2.1 dX10_at_1 (by decide) (fun c0 => ?_) (fun c0 => ?_)
  · refine lv_iconst (v := 0) E.1 E.2.1 dX10_at_16 rfl ?_
    rw [show stA q i = 0 from if_pos c0]
    exact q_iret E w hr hlk dX10_at_17
  · refine lv_iload_n E.1 E.2.1 dX10_at_4 rfl (lv_at hl 1 rfl) ?_
    refine lv_aload_n E.1 E.2.1 dX10_at_5 rfl (lv_at hl 0 rfl) ?_
    refine va_tlen E.1 E.2.1 (w.2.2.2.2.1.1.1 q hq).2 w.2.2.2.2.2 (v := nI (stL q)) rfl dX10_at_6 ?_
    refine lv_icmp_ge (tgt := 16) E.1 E.2.1 dX10_at_7 (by decide) (fun c1 => ?_) (fun c1 => ?_)
    · refine lv_iconst (v := 0) E.1 E.2.1 dX10_at_16 rfl ?_
      rw [show stA q i = 0 from (if_neg c0).trans (if_pos c1)]
      exact q_iret E w hr hlk dX10_at_17
    · have hin : vp_in i (stL q) := by
        have hL := stL_ok q hq
        rw [vp_in_iff]
        have a2 : ¬ i.toInt < 0 := fun z => c0 ((Int32.lt_iff_toInt_lt).mpr z)
        have a1 : ¬ (stL q : Int) ≤ i.toInt := fun z => c1 ((Int32.le_iff_toInt_le).mpr (by rw [nI_toInt (by omega)]; exact z))
        omega
      refine lv_aload_n E.1 E.2.1 dX10_at_10 rfl (lv_at hl 0 rfl) ?_
      refine lv_iload_n E.1 E.2.1 dX10_at_11 rfl (lv_at hl 1 rfl) ?_
      refine va_ti E.1 E.2.1 (w.2.2.2.2.1.1.1 q hq).2 w.2.2.2.2.2 hin rfl dX10_at_12 ?_
      refine lv_goto (tgt := 17) E.1 E.2.1 dX10_at_13 (by decide) ?_
      rw [show stA q i = stV q i.toNatClampNeg from (if_neg c0).trans (if_neg c1)]
      exact q_iret E w hr hlk dX10_at_17
def X4_byteAt (N : Nat) (h : HS) (v0 : Nat) (v1 : Int32) : Option Int32 := (if (h.2 v0) = 0 then some (-1) else (if v1 < 0 then some (-1) else (if (h.1 v0 5) ≤ v1 then some (-1) else (if (h.2 v0) = 0 then none else (if (nI (ln (h.2 v0))) ≤ v1 then some (-1) else (if (h.2 v0) = 0 then none else (if v1 < 0 ∨ 600 ≤ v1.toNatClampNeg then none else some ((h.1 (h.2 v0) v1.toNatClampNeg) &&& 255))))))))
set_option maxRecDepth 4000 in
set_option maxHeartbeats 2000000 in
theorem X4_byteAt_c {l : Launch} {G : GT} {N : Nat} {h : HS} {v0 : Nat} {v1 : Int32} {z : Int32} (t_v0 : sh v0 = 4) (hf : X4_byteAt N h v0 v1 = some z) : CT l G yX4_byteAt cX4_byteAt 2 (some .int) 0 0 [.ref (ad G v0), .int v1] h (some (.int z)) h := by
  unfold X4_byteAt at hf
  refine CT.of (by decide) (Nat.le_of_ble_eq_true rfl) ?_
  intro p e s m below meth c ls E hr hlk w hl
  have hl : lv_has ls 2 [(0, .ref (ad G v0)), (1, .int v1)] := hl
  refine lv_aload_n E.1 E.2.1 dX4_byteAt_0 rfl (lv_at hl 0 rfl) ?_
  refine q_gm E w t_v0 fl_RX4_34 dX4_byteAt_1 ?_
  by_cases c1 : (h.2 v0) = 0
  · have hf := q_pos c1 hf
    rw [c1]
    rw [rfv_0]
    refine lv_ifnullN (tgt := 41) E.1 E.2.1 dX4_byteAt_4 (by decide) ?_
    refine lv_iconst (v := (-1)) E.1 E.2.1 dX4_byteAt_41 rfl ?_
    have hf := Option.some.inj hf
    subst hf
    exact q_iret E w hr hlk dX4_byteAt_42
  have hf := q_neg c1 hf
  have t2 : sh (h.2 v0) = 12 := (w.2.2.2.1 _).2.1 t_v0 |>.resolve_left c1
  rw [rfv_p G (by omega)]
  refine lv_ifnull E.1 E.2.1 dX4_byteAt_4 ?_
  refine lv_iload_n E.1 E.2.1 dX4_byteAt_7 rfl (lv_at hl 1 rfl) ?_
  refine lv_if_lt (tgt := 41) E.1 E.2.1 dX4_byteAt_8 (by decide) (fun c3 => ?_) (fun c3 => ?_)
  · have hf := q_pos c3 hf
    refine lv_iconst (v := (-1)) E.1 E.2.1 dX4_byteAt_41 rfl ?_
    have hf := Option.some.inj hf
    subst hf
    exact q_iret E w hr hlk dX4_byteAt_42
  · have hf := q_neg c3 hf
    refine lv_iload_n E.1 E.2.1 dX4_byteAt_11 rfl (lv_at hl 1 rfl) ?_
    refine lv_aload_n E.1 E.2.1 dX4_byteAt_12 rfl (lv_at hl 0 rfl) ?_
    refine q_gi E w t_v0 fl_RX4_38 dX4_byteAt_13 ?_
    refine lv_icmp_ge (tgt := 41) E.1 E.2.1 dX4_byteAt_16 (by decide) (fun c4 => ?_) (fun c4 => ?_)
    · have hf := q_pos c4 hf
      refine lv_iconst (v := (-1)) E.1 E.2.1 dX4_byteAt_41 rfl ?_
      have hf := Option.some.inj hf
      subst hf
      exact q_iret E w hr hlk dX4_byteAt_42
    · have hf := q_neg c4 hf
      refine lv_iload_n E.1 E.2.1 dX4_byteAt_19 rfl (lv_at hl 1 rfl) ?_
      refine lv_aload_n E.1 E.2.1 dX4_byteAt_20 rfl (lv_at hl 0 rfl) ?_
      refine q_gm E w t_v0 fl_RX4_34 dX4_byteAt_21 ?_
      by_cases c5 : (h.2 v0) = 0
      · have hf := q_pos c5 hf
        rw [c5]
        rw [rfv_0]
        cases hf
      have hf := q_neg c5 hf
      have t6 : sh (h.2 v0) = 12 := (w.2.2.2.1 _).2.1 t_v0 |>.resolve_left c5
      rw [rfv_p G (by omega)]
      refine q_alen (t := 0) E w t6 (by decide) dX4_byteAt_24 ?_
      refine lv_icmp_ge (tgt := 41) E.1 E.2.1 dX4_byteAt_25 (by decide) (fun c7 => ?_) (fun c7 => ?_)
      · have hf := q_pos c7 hf
        refine lv_iconst (v := (-1)) E.1 E.2.1 dX4_byteAt_41 rfl ?_
        have hf := Option.some.inj hf
        subst hf
        exact q_iret E w hr hlk dX4_byteAt_42
      · have hf := q_neg c7 hf
        refine lv_aload_n E.1 E.2.1 dX4_byteAt_28 rfl (lv_at hl 0 rfl) ?_
        refine q_gm E w t_v0 fl_RX4_34 dX4_byteAt_29 ?_
        by_cases c8 : (h.2 v0) = 0
        · have hf := q_pos c8 hf
          rw [c8]
          rw [rfv_0]
          refine lv_iload_n E.1 E.2.1 dX4_byteAt_32 rfl (lv_at hl 1 rfl) ?_
          cases hf
        have hf := q_neg c8 hf
        have t9 : sh (h.2 v0) = 12 := (w.2.2.2.1 _).2.1 t_v0 |>.resolve_left c8
        rw [rfv_p G (by omega)]
        refine lv_iload_n E.1 E.2.1 dX4_byteAt_32 rfl (lv_at hl 1 rfl) ?_
        obtain ⟨b10, hf⟩ := q_if hf
        refine q_bald E w t9 (ln_12 t9) b10 dX4_byteAt_33 ?_
        refine lv_sipush (v := 255) E.1 E.2.1 dX4_byteAt_34 rfl ?_
        refine lv_iand E.1 E.2.1 dX4_byteAt_37 ?_
        refine lv_goto (tgt := 42) E.1 E.2.1 dX4_byteAt_38 (by decide) ?_
        have hf := Option.some.inj hf
        subst hf
        exact q_iret E w hr hlk dX4_byteAt_42

def X4_isLetter (N : Nat) (h : HS) (v0 : Int32) : Option Int32 := (if v0 < (97 : Int32) then some (nz 0) else (if (122 : Int32) < v0 then some (nz 0) else some (nz 1)))
set_option maxRecDepth 4000 in
set_option maxHeartbeats 2000000 in
theorem X4_isLetter_c {l : Launch} {G : GT} {N : Nat} {h : HS} {v0 : Int32} {z : Int32} (hf : X4_isLetter N h v0 = some z) : CT l G yX4_isLetter cX4_isLetter 1 (some .boolean) 0 0 [.int v0] h (some (.int z)) h := by
  unfold X4_isLetter at hf
  refine CT.of (by decide) (Nat.le_of_ble_eq_true rfl) ?_
  intro p e s m below meth c ls E hr hlk w hl
  have hl : lv_has ls 1 [(0, .int v0)] := hl
  refine lv_iload_n E.1 E.2.1 dX4_isLetter_0 rfl (lv_at hl 0 rfl) ?_
  refine lv_bipush (v := 97) E.1 E.2.1 dX4_isLetter_1 rfl ?_
  refine lv_icmp_lt (tgt := 16) E.1 E.2.1 dX4_isLetter_3 (by decide) (fun c1 => ?_) (fun c1 => ?_)
  · have hf := q_pos c1 hf
    refine lv_iconst (v := 0) E.1 E.2.1 dX4_isLetter_16 rfl ?_
    have hf := Option.some.inj hf
    subst hf
    exact q_zret E w hr hlk dX4_isLetter_17
  · have hf := q_neg c1 hf
    refine lv_iload_n E.1 E.2.1 dX4_isLetter_6 rfl (lv_at hl 0 rfl) ?_
    refine lv_bipush (v := 122) E.1 E.2.1 dX4_isLetter_7 rfl ?_
    refine lv_icmp_gt (tgt := 16) E.1 E.2.1 dX4_isLetter_9 (by decide) (fun c2 => ?_) (fun c2 => ?_)
    · have hf := q_pos c2 hf
      refine lv_iconst (v := 0) E.1 E.2.1 dX4_isLetter_16 rfl ?_
      have hf := Option.some.inj hf
      subst hf
      exact q_zret E w hr hlk dX4_isLetter_17
    · have hf := q_neg c2 hf
      refine lv_iconst (v := 1) E.1 E.2.1 dX4_isLetter_12 rfl ?_
      refine lv_goto (tgt := 17) E.1 E.2.1 dX4_isLetter_13 (by decide) ?_
      have hf := Option.some.inj hf
      subst hf
      exact q_zret E w hr hlk dX4_isLetter_17

def X4_isDigit (N : Nat) (h : HS) (v0 : Int32) : Option Int32 := (if v0 < (48 : Int32) then some (nz 0) else (if (57 : Int32) < v0 then some (nz 0) else some (nz 1)))
set_option maxRecDepth 4000 in
set_option maxHeartbeats 2000000 in
theorem X4_isDigit_c {l : Launch} {G : GT} {N : Nat} {h : HS} {v0 : Int32} {z : Int32} (hf : X4_isDigit N h v0 = some z) : CT l G yX4_isDigit cX4_isDigit 1 (some .boolean) 0 0 [.int v0] h (some (.int z)) h := by
  unfold X4_isDigit at hf
  refine CT.of (by decide) (Nat.le_of_ble_eq_true rfl) ?_
  intro p e s m below meth c ls E hr hlk w hl
  have hl : lv_has ls 1 [(0, .int v0)] := hl
  refine lv_iload_n E.1 E.2.1 dX4_isDigit_0 rfl (lv_at hl 0 rfl) ?_
  refine lv_bipush (v := 48) E.1 E.2.1 dX4_isDigit_1 rfl ?_
  refine lv_icmp_lt (tgt := 16) E.1 E.2.1 dX4_isDigit_3 (by decide) (fun c1 => ?_) (fun c1 => ?_)
  · have hf := q_pos c1 hf
    refine lv_iconst (v := 0) E.1 E.2.1 dX4_isDigit_16 rfl ?_
    have hf := Option.some.inj hf
    subst hf
    exact q_zret E w hr hlk dX4_isDigit_17
  · have hf := q_neg c1 hf
    refine lv_iload_n E.1 E.2.1 dX4_isDigit_6 rfl (lv_at hl 0 rfl) ?_
    refine lv_bipush (v := 57) E.1 E.2.1 dX4_isDigit_7 rfl ?_
    refine lv_icmp_gt (tgt := 16) E.1 E.2.1 dX4_isDigit_9 (by decide) (fun c2 => ?_) (fun c2 => ?_)
    · have hf := q_pos c2 hf
      refine lv_iconst (v := 0) E.1 E.2.1 dX4_isDigit_16 rfl ?_
      have hf := Option.some.inj hf
      subst hf
      exact q_zret E w hr hlk dX4_isDigit_17
    · have hf := q_neg c2 hf
      refine lv_iconst (v := 1) E.1 E.2.1 dX4_isDigit_12 rfl ?_
      refine lv_goto (tgt := 17) E.1 E.2.1 dX4_isDigit_13 (by decide) ?_
      have hf := Option.some.inj hf
      subst hf
      exact q_zret E w hr hlk dX4_isDigit_17

def X4_advance_b223 (N : Nat) (h : HS) (v0 : Nat) : Option HS := (if (2 : Int32) < ((h.1 v0 8) - (h.1 v0 7)) then sq (wi h v0 6 4) fun h24 => some h24 else sq (wi h v0 6 2) fun h25 => some h25)
set_option maxRecDepth 4000 in
set_option maxHeartbeats 2000000 in
theorem X4_advance_b223_w {p : Program} {l : Launch} {e : Env} {s : State} {m : MethodId} {args : Array Value} {below : List Frame} {meth : Method} {c : Code} {G : GT} {N : Nat} {z : HS} {h : HS} (E : CallFix p m c cX4_advance 2 s args UW RX4) (hr : meth.sig.returnType = none) (hlk : meth.locks = false) {H : Heap} {locs : List Loc} {ls : Array Slot} {v0 : Nat} (hf : X4_advance_b223 N h v0 = some z) (w : WD G s h H locs) (t_v0 : sh v0 = 4) (hl : lv_has ls 2 [(0, .ref (ad G v0))]) : W p l e ({ frames := 1, cells := 0, slots := 0, locals := 24 } : Room) s m args below meth c H locs 0 0 (MQ below (QC G none z) args s 0 0 (AD G)) (F0 m 223 ls []) := by
  unfold X4_advance_b223 at hf
  refine lv_aload_n E.1 E.2.1 dX4_advance_223 rfl (lv_at hl 0 rfl) ?_
  refine lv_aload_n E.1 E.2.1 dX4_advance_224 rfl (lv_at hl 0 rfl) ?_
  refine q_gi E w t_v0 fl_RX4_47 dX4_advance_225 ?_
  refine lv_aload_n E.1 E.2.1 dX4_advance_228 rfl (lv_at hl 0 rfl) ?_
  refine q_gi E w t_v0 fl_RX4_44 dX4_advance_229 ?_
  refine lv_isub E.1 E.2.1 dX4_advance_232 ?_
  refine lv_iconst (v := 2) E.1 E.2.1 dX4_advance_233 rfl ?_
  refine lv_icmp_gt (tgt := 241) E.1 E.2.1 dX4_advance_234 (by decide) (fun c23 => ?_) (fun c23 => ?_)
  · have hf := q_pos c23 hf
    refine lv_iconst (v := 4) E.1 E.2.1 dX4_advance_241 rfl ?_
    refine p_pi E w t_v0 fl_RX4_41 (fp_4_6 _) dX4_advance_242 (fun h24 H locs eh w => ?_)
    have hf := sq_e eh hf
    clear eh
    refine lv_goto (tgt := 273) E.1 E.2.1 dX4_advance_245 (by decide) ?_
    have hf := Option.some.inj hf
    subst hf
    exact q_vret E w hr hlk dX4_advance_273
  · have hf := q_neg c23 hf
    refine lv_iconst (v := 2) E.1 E.2.1 dX4_advance_237 rfl ?_
    refine lv_goto (tgt := 242) E.1 E.2.1 dX4_advance_238 (by decide) ?_
    refine p_pi E w t_v0 fl_RX4_41 (fp_4_6 _) dX4_advance_242 (fun h25 H locs eh w => ?_)
    have hf := sq_e eh hf
    clear eh
    refine lv_goto (tgt := 273) E.1 E.2.1 dX4_advance_245 (by decide) ?_
    have hf := Option.some.inj hf
    subst hf
    exact q_vret E w hr hlk dX4_advance_273

def X4_advance_l156 (N : Nat) : Nat → HS → Nat → Option HS
  | 0, _, _ => none
  | n + 1, h, v0 => (if (h.1 v0 5) ≤ (h.1 v0 8) then X4_advance_b223 N h v0 else bd1 (X4_byteAt N h v0 (h.1 v0 8)) fun r27 => bd1 (X4_isDigit N h r27) fun r30 => (if r30 = 0 then X4_advance_b223 N h v0 else bd1 (X4_byteAt N h v0 (h.1 v0 8)) fun r34 => sq (wi h v0 9 (if ((((h.1 v0 9) * 10) + r34) - 48) < 999 then ((((h.1 v0 9) * 10) + r34) - 48) else 999)) fun h36 => sq (wi h36 v0 8 ((h36.1 v0 8) + 1)) fun h37 => X4_advance_l156 N n h37 v0))
set_option maxRecDepth 4000 in
set_option maxHeartbeats 2000000 in
theorem X4_advance_l156_w {p : Program} {l : Launch} {e : Env} {s : State} {m : MethodId} {args : Array Value} {below : List Frame} {meth : Method} {c : Code} {G : GT} {N : Nat} {z : HS} (E : CallFix p m c cX4_advance 2 s args UW RX4) (hr : meth.sig.returnType = none) (hlk : meth.locks = false) : ∀ (n : Nat) (h : HS) (H : Heap) (locs : List Loc) (ls : Array Slot) (v0 : Nat), X4_advance_l156 N n h v0 = some z → WD G s h H locs → sh v0 = 4 → lv_has ls 2 [(0, .ref (ad G v0))] → W p l e ({ frames := 1, cells := 0, slots := 0, locals := 24 } : Room) s m args below meth c H locs 0 0 (MQ below (QC G none z) args s 0 0 (AD G)) (F0 m 156 ls []) := by
  intro n
  induction n with
  | zero =>
    intro h H locs ls v0 hf
    cases hf
  | succ n ih =>
    intro h H locs ls v0 hf w t_v0 hl
    unfold X4_advance_l156 at hf
    refine lv_aload_n E.1 E.2.1 dX4_advance_156 rfl (lv_at hl 0 rfl) ?_
    refine q_gi E w t_v0 fl_RX4_47 dX4_advance_157 ?_
    refine lv_aload_n E.1 E.2.1 dX4_advance_160 rfl (lv_at hl 0 rfl) ?_
    refine q_gi E w t_v0 fl_RX4_38 dX4_advance_161 ?_
    refine lv_icmp_ge (tgt := 223) E.1 E.2.1 dX4_advance_164 (by decide) (fun c22 => ?_) (fun c22 => ?_)
    · have hf := q_pos c22 hf
      exact X4_advance_b223_w E hr hlk hf w t_v0 (lv_sub hl [0] rfl)
    · have hf := q_neg c22 hf
      refine lv_aload_n E.1 E.2.1 dX4_advance_167 rfl (lv_at hl 0 rfl) ?_
      refine lv_aload_n E.1 E.2.1 dX4_advance_168 rfl (lv_at hl 0 rfl) ?_
      refine q_gi E w t_v0 fl_RX4_47 dX4_advance_169 ?_
      obtain ⟨r27, hc26, hf⟩ := bd1_e hf
      refine k_Vi (As := [.int (h.1 v0 8)]) (rest := []) E w t_v0 ⟨by decide, rfl⟩ (X4_byteAt_c t_v0 hc26) mv_RX4_171 rfl rfl hl.1 ⟨Nat.le_of_ble_eq_true rfl, Nat.le_of_ble_eq_true rfl⟩ (Nat.le_of_ble_eq_true rfl) ⟨Nat.le_refl _, Nat.le_refl _⟩ dX4_advance_172 (fun H locs w => ?_)
      obtain ⟨r30, hc29, hf⟩ := bd1_e hf
      refine k_Si (As := [.int r27]) (rest := []) E w (X4_isDigit_c  hc29) ms_RX4_182 rfl rfl hl.1 ⟨Nat.le_of_ble_eq_true rfl, Nat.le_of_ble_eq_true rfl⟩ (Nat.le_of_ble_eq_true rfl) ⟨Nat.le_refl _, Nat.le_refl _⟩ dX4_advance_175 (fun H locs w => ?_)
      refine lv_if_eq (tgt := 223) E.1 E.2.1 dX4_advance_178 (by decide) (fun c32 => ?_) (fun c32 => ?_)
      · have hf := q_pos c32 hf
        exact X4_advance_b223_w E hr hlk hf w t_v0 (lv_sub hl [0] rfl)
      · have hf := q_neg c32 hf
        refine lv_aload_n E.1 E.2.1 dX4_advance_181 rfl (lv_at hl 0 rfl) ?_
        refine lv_sipush (v := 999) E.1 E.2.1 dX4_advance_182 rfl ?_
        refine lv_aload_n E.1 E.2.1 dX4_advance_185 rfl (lv_at hl 0 rfl) ?_
        refine q_gi E w t_v0 fl_RX4_50 dX4_advance_186 ?_
        refine lv_bipush (v := 10) E.1 E.2.1 dX4_advance_189 rfl ?_
        refine lv_imul E.1 E.2.1 dX4_advance_191 ?_
        refine lv_aload_n E.1 E.2.1 dX4_advance_192 rfl (lv_at hl 0 rfl) ?_
        refine lv_aload_n E.1 E.2.1 dX4_advance_193 rfl (lv_at hl 0 rfl) ?_
        refine q_gi E w t_v0 fl_RX4_47 dX4_advance_194 ?_
        obtain ⟨r34, hc33, hf⟩ := bd1_e hf
        refine k_Vi (As := [.int (h.1 v0 8)]) (rest := [.int ((h.1 v0 9) * 10), .int 999, .ref (ad G v0)]) E w t_v0 ⟨by decide, rfl⟩ (X4_byteAt_c t_v0 hc33) mv_RX4_171 rfl rfl hl.1 ⟨Nat.le_of_ble_eq_true rfl, Nat.le_of_ble_eq_true rfl⟩ (Nat.le_of_ble_eq_true rfl) ⟨Nat.le_refl _, Nat.le_refl _⟩ dX4_advance_197 (fun H locs w => ?_)
        refine lv_iadd E.1 E.2.1 dX4_advance_200 ?_
        refine lv_bipush (v := 48) E.1 E.2.1 dX4_advance_201 rfl ?_
        refine lv_isub E.1 E.2.1 dX4_advance_203 ?_
        refine q_min E mm_RX4_185 hl.1 ⟨Nat.le_of_ble_eq_true rfl, Nat.le_of_ble_eq_true rfl⟩ ⟨Nat.le_refl _, Nat.le_refl _⟩ dX4_advance_204 ?_
        refine p_pi E w t_v0 fl_RX4_50 (fp_4_9 _) dX4_advance_207 (fun h36 H locs eh w => ?_)
        have hf := sq_e eh hf
        clear eh
        refine lv_aload_n E.1 E.2.1 dX4_advance_210 rfl (lv_at hl 0 rfl) ?_
        refine lv_dup E.1 E.2.1 dX4_advance_211 rfl ?_
        refine q_gi E w t_v0 fl_RX4_47 dX4_advance_212 ?_
        refine lv_iconst (v := 1) E.1 E.2.1 dX4_advance_215 rfl ?_
        refine lv_iadd E.1 E.2.1 dX4_advance_216 ?_
        refine p_pi E w t_v0 fl_RX4_47 (fp_4_8 _) dX4_advance_217 (fun h37 H locs eh w => ?_)
        have hf := sq_e eh hf
        clear eh
        refine lv_goto (tgt := 156) E.1 E.2.1 dX4_advance_220 (by decide) ?_
        exact ih _ _ _ _ _ hf w t_v0 (lv_sub hl [0] rfl)

def X4_advance_l111 (N : Nat) : Nat → HS → Nat → Option HS
  | 0, _, _ => none
  | n + 1, h, v0 => (if (h.1 v0 5) ≤ (h.1 v0 8) then some h else bd1 (X4_byteAt N h v0 (h.1 v0 8)) fun r41 => bd1 (X4_isLetter N h r41) fun r44 => (if r44 = 0 then some h else sq (wi h v0 8 ((h.1 v0 8) + 1)) fun h47 => X4_advance_l111 N n h47 v0))
set_option maxRecDepth 4000 in
set_option maxHeartbeats 2000000 in
theorem X4_advance_l111_w {p : Program} {l : Launch} {e : Env} {s : State} {m : MethodId} {args : Array Value} {below : List Frame} {meth : Method} {c : Code} {G : GT} {N : Nat} {z : HS} (E : CallFix p m c cX4_advance 2 s args UW RX4) (hr : meth.sig.returnType = none) (hlk : meth.locks = false) : ∀ (n : Nat) (h : HS) (H : Heap) (locs : List Loc) (ls : Array Slot) (v0 : Nat), X4_advance_l111 N n h v0 = some z → WD G s h H locs → sh v0 = 4 → lv_has ls 2 [(0, .ref (ad G v0))] → W p l e ({ frames := 1, cells := 0, slots := 0, locals := 24 } : Room) s m args below meth c H locs 0 0 (MQ below (QC G none z) args s 0 0 (AD G)) (F0 m 111 ls []) := by
  intro n
  induction n with
  | zero =>
    intro h H locs ls v0 hf
    cases hf
  | succ n ih =>
    intro h H locs ls v0 hf w t_v0 hl
    unfold X4_advance_l111 at hf
    refine lv_aload_n E.1 E.2.1 dX4_advance_111 rfl (lv_at hl 0 rfl) ?_
    refine q_gi E w t_v0 fl_RX4_47 dX4_advance_112 ?_
    refine lv_aload_n E.1 E.2.1 dX4_advance_115 rfl (lv_at hl 0 rfl) ?_
    refine q_gi E w t_v0 fl_RX4_38 dX4_advance_116 ?_
    refine lv_icmp_ge (tgt := 273) E.1 E.2.1 dX4_advance_119 (by decide) (fun c39 => ?_) (fun c39 => ?_)
    · have hf := q_pos c39 hf
      have hf := Option.some.inj hf
      subst hf
      exact q_vret E w hr hlk dX4_advance_273
    · have hf := q_neg c39 hf
      refine lv_aload_n E.1 E.2.1 dX4_advance_122 rfl (lv_at hl 0 rfl) ?_
      refine lv_aload_n E.1 E.2.1 dX4_advance_123 rfl (lv_at hl 0 rfl) ?_
      refine q_gi E w t_v0 fl_RX4_47 dX4_advance_124 ?_
      obtain ⟨r41, hc40, hf⟩ := bd1_e hf
      refine k_Vi (As := [.int (h.1 v0 8)]) (rest := []) E w t_v0 ⟨by decide, rfl⟩ (X4_byteAt_c t_v0 hc40) mv_RX4_171 rfl rfl hl.1 ⟨Nat.le_of_ble_eq_true rfl, Nat.le_of_ble_eq_true rfl⟩ (Nat.le_of_ble_eq_true rfl) ⟨Nat.le_refl _, Nat.le_refl _⟩ dX4_advance_127 (fun H locs w => ?_)
      obtain ⟨r44, hc43, hf⟩ := bd1_e hf
      refine k_Si (As := [.int r41]) (rest := []) E w (X4_isLetter_c  hc43) ms_RX4_178 rfl rfl hl.1 ⟨Nat.le_of_ble_eq_true rfl, Nat.le_of_ble_eq_true rfl⟩ (Nat.le_of_ble_eq_true rfl) ⟨Nat.le_refl _, Nat.le_refl _⟩ dX4_advance_130 (fun H locs w => ?_)
      refine lv_if_eq (tgt := 273) E.1 E.2.1 dX4_advance_133 (by decide) (fun c46 => ?_) (fun c46 => ?_)
      · have hf := q_pos c46 hf
        have hf := Option.some.inj hf
        subst hf
        exact q_vret E w hr hlk dX4_advance_273
      · have hf := q_neg c46 hf
        refine lv_aload_n E.1 E.2.1 dX4_advance_136 rfl (lv_at hl 0 rfl) ?_
        refine lv_dup E.1 E.2.1 dX4_advance_137 rfl ?_
        refine q_gi E w t_v0 fl_RX4_47 dX4_advance_138 ?_
        refine lv_iconst (v := 1) E.1 E.2.1 dX4_advance_141 rfl ?_
        refine lv_iadd E.1 E.2.1 dX4_advance_142 ?_
        refine p_pi E w t_v0 fl_RX4_47 (fp_4_8 _) dX4_advance_143 (fun h47 H locs eh w => ?_)
        have hf := sq_e eh hf
        clear eh
        refine lv_goto (tgt := 111) E.1 E.2.1 dX4_advance_146 (by decide) ?_
        exact ih _ _ _ _ _ hf w t_v0 (lv_sub hl [0] rfl)

def X4_advance_b58 (N : Nat) (h : HS) (v0 : Nat) : Option HS := sq (wi h v0 8 (h.1 v0 7)) fun h3 => sq (wi h3 v0 9 0) fun h4 => bd1 (X4_byteAt N h4 v0 (h4.1 v0 7)) fun r6 => (if (h4.1 v0 7) < (h4.1 v0 5) then bd1 (X4_isLetter N h4 r6) fun r10 => (if r10 = 0 then bd1 (X4_isDigit N h4 r6) fun r14 => (if r14 = 0 then (if r6 = (59 : Int32) then sq (wi h4 v0 6 3) fun h20 => sq (wi h20 v0 8 ((h20.1 v0 8) + 1)) fun h21 => some h21 else sq (wi h4 v0 6 4) fun h18 => sq (wi h18 v0 8 ((h18.1 v0 8) + 1)) fun h19 => some h19) else X4_advance_l156 N N h4 v0) else sq (wi h4 v0 6 1) fun h38 => X4_advance_l111 N N h38 v0) else sq (wi h4 v0 6 0) fun h48 => some h48)
set_option maxRecDepth 4000 in
set_option maxHeartbeats 2000000 in
theorem X4_advance_b58_w {p : Program} {l : Launch} {e : Env} {s : State} {m : MethodId} {args : Array Value} {below : List Frame} {meth : Method} {c : Code} {G : GT} {N : Nat} {z : HS} {h : HS} (E : CallFix p m c cX4_advance 2 s args UW RX4) (hr : meth.sig.returnType = none) (hlk : meth.locks = false) {H : Heap} {locs : List Loc} {ls : Array Slot} {v0 : Nat} (hf : X4_advance_b58 N h v0 = some z) (w : WD G s h H locs) (t_v0 : sh v0 = 4) (hl : lv_has ls 2 [(0, .ref (ad G v0))]) : W p l e ({ frames := 1, cells := 0, slots := 0, locals := 24 } : Room) s m args below meth c H locs 0 0 (MQ below (QC G none z) args s 0 0 (AD G)) (F0 m 58 ls []) := by
  unfold X4_advance_b58 at hf
  refine lv_aload_n E.1 E.2.1 dX4_advance_58 rfl (lv_at hl 0 rfl) ?_
  refine lv_aload_n E.1 E.2.1 dX4_advance_59 rfl (lv_at hl 0 rfl) ?_
  refine q_gi E w t_v0 fl_RX4_44 dX4_advance_60 ?_
  refine p_pi E w t_v0 fl_RX4_47 (fp_4_8 _) dX4_advance_63 (fun h3 H locs eh w => ?_)
  have hf := sq_e eh hf
  clear eh
  refine lv_aload_n E.1 E.2.1 dX4_advance_66 rfl (lv_at hl 0 rfl) ?_
  refine lv_iconst (v := 0) E.1 E.2.1 dX4_advance_67 rfl ?_
  refine p_pi E w t_v0 fl_RX4_50 (fp_4_9 _) dX4_advance_68 (fun h4 H locs eh w => ?_)
  have hf := sq_e eh hf
  clear eh
  refine lv_aload_n E.1 E.2.1 dX4_advance_71 rfl (lv_at hl 0 rfl) ?_
  refine lv_aload_n E.1 E.2.1 dX4_advance_72 rfl (lv_at hl 0 rfl) ?_
  refine q_gi E w t_v0 fl_RX4_44 dX4_advance_73 ?_
  obtain ⟨r6, hc5, hf⟩ := bd1_e hf
  refine k_Vi (As := [.int (h4.1 v0 7)]) (rest := []) E w t_v0 ⟨by decide, rfl⟩ (X4_byteAt_c t_v0 hc5) mv_RX4_171 rfl rfl hl.1 ⟨Nat.le_of_ble_eq_true rfl, Nat.le_of_ble_eq_true rfl⟩ (Nat.le_of_ble_eq_true rfl) ⟨Nat.le_refl _, Nat.le_refl _⟩ dX4_advance_76 (fun H locs w => ?_)
  refine lv_istore_n (lv' := [(1, .int r6), (0, .ref (ad G v0))]) E.1 E.2.1 dX4_advance_79 rfl hl (by decide) rfl (fun ls hl => ?_)
  refine lv_aload_n E.1 E.2.1 dX4_advance_80 rfl (lv_at hl 1 rfl) ?_
  refine q_gi E w t_v0 fl_RX4_44 dX4_advance_81 ?_
  refine lv_aload_n E.1 E.2.1 dX4_advance_84 rfl (lv_at hl 1 rfl) ?_
  refine q_gi E w t_v0 fl_RX4_38 dX4_advance_85 ?_
  refine lv_icmp_lt (tgt := 99) E.1 E.2.1 dX4_advance_88 (by decide) (fun c8 => ?_) (fun c8 => ?_)
  · have hf := q_pos c8 hf
    refine lv_iload_n E.1 E.2.1 dX4_advance_99 rfl (lv_at hl 0 rfl) ?_
    obtain ⟨r10, hc9, hf⟩ := bd1_e hf
    refine k_Si (As := [.int r6]) (rest := []) E w (X4_isLetter_c  hc9) ms_RX4_178 rfl rfl hl.1 ⟨Nat.le_of_ble_eq_true rfl, Nat.le_of_ble_eq_true rfl⟩ (Nat.le_of_ble_eq_true rfl) ⟨Nat.le_refl _, Nat.le_refl _⟩ dX4_advance_100 (fun H locs w => ?_)
    refine lv_if_eq (tgt := 149) E.1 E.2.1 dX4_advance_103 (by decide) (fun c12 => ?_) (fun c12 => ?_)
    · have hf := q_pos c12 hf
      refine lv_iload_n E.1 E.2.1 dX4_advance_149 rfl (lv_at hl 0 rfl) ?_
      obtain ⟨r14, hc13, hf⟩ := bd1_e hf
      refine k_Si (As := [.int r6]) (rest := []) E w (X4_isDigit_c  hc13) ms_RX4_182 rfl rfl hl.1 ⟨Nat.le_of_ble_eq_true rfl, Nat.le_of_ble_eq_true rfl⟩ (Nat.le_of_ble_eq_true rfl) ⟨Nat.le_refl _, Nat.le_refl _⟩ dX4_advance_150 (fun H locs w => ?_)
      refine lv_if_eq (tgt := 248) E.1 E.2.1 dX4_advance_153 (by decide) (fun c16 => ?_) (fun c16 => ?_)
      · have hf := q_pos c16 hf
        refine lv_aload_n E.1 E.2.1 dX4_advance_248 rfl (lv_at hl 1 rfl) ?_
        refine lv_iload_n E.1 E.2.1 dX4_advance_249 rfl (lv_at hl 0 rfl) ?_
        refine lv_bipush (v := 59) E.1 E.2.1 dX4_advance_250 rfl ?_
        refine lv_icmp_ne (tgt := 259) E.1 E.2.1 dX4_advance_252 (by decide) (fun c17 => ?_) (fun c17 => ?_)
        · have hf := q_neg c17 hf
          refine lv_iconst (v := 4) E.1 E.2.1 dX4_advance_259 rfl ?_
          refine p_pi E w t_v0 fl_RX4_41 (fp_4_6 _) dX4_advance_260 (fun h18 H locs eh w => ?_)
          have hf := sq_e eh hf
          clear eh
          refine lv_aload_n E.1 E.2.1 dX4_advance_263 rfl (lv_at hl 1 rfl) ?_
          refine lv_dup E.1 E.2.1 dX4_advance_264 rfl ?_
          refine q_gi E w t_v0 fl_RX4_47 dX4_advance_265 ?_
          refine lv_iconst (v := 1) E.1 E.2.1 dX4_advance_268 rfl ?_
          refine lv_iadd E.1 E.2.1 dX4_advance_269 ?_
          refine p_pi E w t_v0 fl_RX4_47 (fp_4_8 _) dX4_advance_270 (fun h19 H locs eh w => ?_)
          have hf := sq_e eh hf
          clear eh
          have hf := Option.some.inj hf
          subst hf
          exact q_vret E w hr hlk dX4_advance_273
        · have hf := q_pos c17 hf
          refine lv_iconst (v := 3) E.1 E.2.1 dX4_advance_255 rfl ?_
          refine lv_goto (tgt := 260) E.1 E.2.1 dX4_advance_256 (by decide) ?_
          refine p_pi E w t_v0 fl_RX4_41 (fp_4_6 _) dX4_advance_260 (fun h20 H locs eh w => ?_)
          have hf := sq_e eh hf
          clear eh
          refine lv_aload_n E.1 E.2.1 dX4_advance_263 rfl (lv_at hl 1 rfl) ?_
          refine lv_dup E.1 E.2.1 dX4_advance_264 rfl ?_
          refine q_gi E w t_v0 fl_RX4_47 dX4_advance_265 ?_
          refine lv_iconst (v := 1) E.1 E.2.1 dX4_advance_268 rfl ?_
          refine lv_iadd E.1 E.2.1 dX4_advance_269 ?_
          refine p_pi E w t_v0 fl_RX4_47 (fp_4_8 _) dX4_advance_270 (fun h21 H locs eh w => ?_)
          have hf := sq_e eh hf
          clear eh
          have hf := Option.some.inj hf
          subst hf
          exact q_vret E w hr hlk dX4_advance_273
      · have hf := q_neg c16 hf
        exact X4_advance_l156_w E hr hlk N _ _ _ _ _ hf w t_v0 (lv_sub hl [1] rfl)
    · have hf := q_neg c12 hf
      refine lv_aload_n E.1 E.2.1 dX4_advance_106 rfl (lv_at hl 1 rfl) ?_
      refine lv_iconst (v := 1) E.1 E.2.1 dX4_advance_107 rfl ?_
      refine p_pi E w t_v0 fl_RX4_41 (fp_4_6 _) dX4_advance_108 (fun h38 H locs eh w => ?_)
      have hf := sq_e eh hf
      clear eh
      exact X4_advance_l111_w E hr hlk N _ _ _ _ _ hf w t_v0 (lv_sub hl [1] rfl)
  · have hf := q_neg c8 hf
    refine lv_aload_n E.1 E.2.1 dX4_advance_91 rfl (lv_at hl 1 rfl) ?_
    refine lv_iconst (v := 0) E.1 E.2.1 dX4_advance_92 rfl ?_
    refine p_pi E w t_v0 fl_RX4_41 (fp_4_6 _) dX4_advance_93 (fun h48 H locs eh w => ?_)
    have hf := sq_e eh hf
    clear eh
    refine lv_goto (tgt := 273) E.1 E.2.1 dX4_advance_96 (by decide) ?_
    have hf := Option.some.inj hf
    subst hf
    exact q_vret E w hr hlk dX4_advance_273

def X4_advance_l8 (N : Nat) : Nat → HS → Nat → Option HS
  | 0, _, _ => none
  | n + 1, h, v0 => (if (h.1 v0 5) ≤ (h.1 v0 7) then X4_advance_b58 N h v0 else bd1 (X4_byteAt N h v0 (h.1 v0 7)) fun r50 => (if r50 = (10 : Int32) then sq (wi h v0 7 ((h.1 v0 7) + 1)) fun h53 => X4_advance_l8 N n h53 v0 else bd1 (X4_byteAt N h v0 (h.1 v0 7)) fun r55 => (if r55 = (32 : Int32) then sq (wi h v0 7 ((h.1 v0 7) + 1)) fun h58 => X4_advance_l8 N n h58 v0 else X4_advance_b58 N h v0)))
set_option maxRecDepth 4000 in
set_option maxHeartbeats 2000000 in
theorem X4_advance_l8_w {p : Program} {l : Launch} {e : Env} {s : State} {m : MethodId} {args : Array Value} {below : List Frame} {meth : Method} {c : Code} {G : GT} {N : Nat} {z : HS} (E : CallFix p m c cX4_advance 2 s args UW RX4) (hr : meth.sig.returnType = none) (hlk : meth.locks = false) : ∀ (n : Nat) (h : HS) (H : Heap) (locs : List Loc) (ls : Array Slot) (v0 : Nat), X4_advance_l8 N n h v0 = some z → WD G s h H locs → sh v0 = 4 → lv_has ls 2 [(0, .ref (ad G v0))] → W p l e ({ frames := 1, cells := 0, slots := 0, locals := 24 } : Room) s m args below meth c H locs 0 0 (MQ below (QC G none z) args s 0 0 (AD G)) (F0 m 8 ls []) := by
  intro n
  induction n with
  | zero =>
    intro h H locs ls v0 hf
    cases hf
  | succ n ih =>
    intro h H locs ls v0 hf w t_v0 hl
    unfold X4_advance_l8 at hf
    refine lv_aload_n E.1 E.2.1 dX4_advance_8 rfl (lv_at hl 0 rfl) ?_
    refine q_gi E w t_v0 fl_RX4_44 dX4_advance_9 ?_
    refine lv_aload_n E.1 E.2.1 dX4_advance_12 rfl (lv_at hl 0 rfl) ?_
    refine q_gi E w t_v0 fl_RX4_38 dX4_advance_13 ?_
    refine lv_icmp_ge (tgt := 58) E.1 E.2.1 dX4_advance_16 (by decide) (fun c2 => ?_) (fun c2 => ?_)
    · have hf := q_pos c2 hf
      exact X4_advance_b58_w E hr hlk hf w t_v0 (lv_sub hl [0] rfl)
    · have hf := q_neg c2 hf
      refine lv_aload_n E.1 E.2.1 dX4_advance_19 rfl (lv_at hl 0 rfl) ?_
      refine lv_aload_n E.1 E.2.1 dX4_advance_20 rfl (lv_at hl 0 rfl) ?_
      refine q_gi E w t_v0 fl_RX4_44 dX4_advance_21 ?_
      obtain ⟨r50, hc49, hf⟩ := bd1_e hf
      refine k_Vi (As := [.int (h.1 v0 7)]) (rest := []) E w t_v0 ⟨by decide, rfl⟩ (X4_byteAt_c t_v0 hc49) mv_RX4_171 rfl rfl hl.1 ⟨Nat.le_of_ble_eq_true rfl, Nat.le_of_ble_eq_true rfl⟩ (Nat.le_of_ble_eq_true rfl) ⟨Nat.le_refl _, Nat.le_refl _⟩ dX4_advance_24 (fun H locs w => ?_)
      refine lv_bipush (v := 10) E.1 E.2.1 dX4_advance_27 rfl ?_
      refine lv_icmp_eq (tgt := 45) E.1 E.2.1 dX4_advance_29 (by decide) (fun c52 => ?_) (fun c52 => ?_)
      · have hf := q_pos c52 hf
        refine lv_aload_n E.1 E.2.1 dX4_advance_45 rfl (lv_at hl 0 rfl) ?_
        refine lv_dup E.1 E.2.1 dX4_advance_46 rfl ?_
        refine q_gi E w t_v0 fl_RX4_44 dX4_advance_47 ?_
        refine lv_iconst (v := 1) E.1 E.2.1 dX4_advance_50 rfl ?_
        refine lv_iadd E.1 E.2.1 dX4_advance_51 ?_
        refine p_pi E w t_v0 fl_RX4_44 (fp_4_7 _) dX4_advance_52 (fun h53 H locs eh w => ?_)
        have hf := sq_e eh hf
        clear eh
        refine lv_goto (tgt := 8) E.1 E.2.1 dX4_advance_55 (by decide) ?_
        exact ih _ _ _ _ _ hf w t_v0 (lv_sub hl [0] rfl)
      · have hf := q_neg c52 hf
        refine lv_aload_n E.1 E.2.1 dX4_advance_32 rfl (lv_at hl 0 rfl) ?_
        refine lv_aload_n E.1 E.2.1 dX4_advance_33 rfl (lv_at hl 0 rfl) ?_
        refine q_gi E w t_v0 fl_RX4_44 dX4_advance_34 ?_
        obtain ⟨r55, hc54, hf⟩ := bd1_e hf
        refine k_Vi (As := [.int (h.1 v0 7)]) (rest := []) E w t_v0 ⟨by decide, rfl⟩ (X4_byteAt_c t_v0 hc54) mv_RX4_171 rfl rfl hl.1 ⟨Nat.le_of_ble_eq_true rfl, Nat.le_of_ble_eq_true rfl⟩ (Nat.le_of_ble_eq_true rfl) ⟨Nat.le_refl _, Nat.le_refl _⟩ dX4_advance_37 (fun H locs w => ?_)
        refine lv_bipush (v := 32) E.1 E.2.1 dX4_advance_40 rfl ?_
        refine lv_icmp_ne (tgt := 58) E.1 E.2.1 dX4_advance_42 (by decide) (fun c57 => ?_) (fun c57 => ?_)
        · have hf := q_neg c57 hf
          exact X4_advance_b58_w E hr hlk hf w t_v0 (lv_sub hl [0] rfl)
        · have hf := q_pos c57 hf
          refine lv_aload_n E.1 E.2.1 dX4_advance_45 rfl (lv_at hl 0 rfl) ?_
          refine lv_dup E.1 E.2.1 dX4_advance_46 rfl ?_
          refine q_gi E w t_v0 fl_RX4_44 dX4_advance_47 ?_
          refine lv_iconst (v := 1) E.1 E.2.1 dX4_advance_50 rfl ?_
          refine lv_iadd E.1 E.2.1 dX4_advance_51 ?_
          refine p_pi E w t_v0 fl_RX4_44 (fp_4_7 _) dX4_advance_52 (fun h58 H locs eh w => ?_)
          have hf := sq_e eh hf
          clear eh
          refine lv_goto (tgt := 8) E.1 E.2.1 dX4_advance_55 (by decide) ?_
          exact ih _ _ _ _ _ hf w t_v0 (lv_sub hl [0] rfl)

def X4_advance (N : Nat) (h : HS) (v0 : Nat) : Option HS := sq (wi h v0 7 (h.1 v0 8)) fun h1 => X4_advance_l8 N N h1 v0
set_option maxRecDepth 4000 in
set_option maxHeartbeats 2000000 in
theorem X4_advance_c {l : Launch} {G : GT} {N : Nat} {h : HS} {v0 : Nat} {z : HS} (t_v0 : sh v0 = 4) (hf : X4_advance N h v0 = some z) : CT l G yX4_advance cX4_advance 2 none 1 24 [.ref (ad G v0)] h none z := by
  unfold X4_advance at hf
  refine CT.of (by decide) (Nat.le_of_ble_eq_true rfl) ?_
  intro p e s m below meth c ls E hr hlk w hl
  have hl : lv_has ls 2 [(0, .ref (ad G v0))] := hl
  refine lv_aload_n E.1 E.2.1 dX4_advance_0 rfl (lv_at hl 0 rfl) ?_
  refine lv_aload_n E.1 E.2.1 dX4_advance_1 rfl (lv_at hl 0 rfl) ?_
  refine q_gi E w t_v0 fl_RX4_47 dX4_advance_2 ?_
  refine p_pi E w t_v0 fl_RX4_44 (fp_4_7 _) dX4_advance_5 (fun h1 H locs eh w => ?_)
  have hf := sq_e eh hf
  clear eh
  exact X4_advance_l8_w E hr hlk N _ _ _ _ _ hf w t_v0 (lv_sub hl [0] rfl)

def X4_wordOf (N : Nat) (h : HS) (v0 : Int32) : Option Nat := (if v0 = 0 then some 0 else (if v0 = 1 then some 1 else (if v0 = 2 then some 2 else (if v0 = 3 then some 3 else (if v0 = 4 then some 4 else (if v0 = 5 then some 5 else (if v0 = 6 then some 6 else (if v0 = 7 then some 7 else (if v0 = 8 then some 8 else (if v0 = 9 then some 9 else (if v0 = 10 then some 10 else some 11)))))))))))
set_option maxRecDepth 4000 in
set_option maxHeartbeats 2000000 in
theorem X4_wordOf_c {l : Launch} {G : GT} {N : Nat} {h : HS} {v0 : Int32} {z : Nat} (hf : X4_wordOf N h v0 = some z) : CT l G yX4_wordOf cX4_wordOf 1 (some (.object "java/lang/String")) 0 0 [.int v0] h (some (.ref (ad G (310 + z)))) h := by
  unfold X4_wordOf at hf
  refine CT.of (by decide) (Nat.le_of_ble_eq_true rfl) ?_
  intro p e s m below meth c ls E hr hlk w hl
  have hl : lv_has ls 1 [(0, .int v0)] := hl
  refine lv_iload_n E.1 E.2.1 dX4_wordOf_0 rfl (lv_at hl 0 rfl) ?_
  by_cases c1 : v0 = 0
  · have hf := q_pos c1 hf
    refine lv_tableIn (off := 59) (tgt := 60) E.1 E.2.1 dX4_wordOf_1 (by rw [c1]; decide) (by rw [c1]; decide) (by rw [c1]; rfl) (by decide) ?_
    refine va_ldcS E.1 E.2.1 E.2.2.2.1 (w.2.2.2.2.1.2.2 0 (by decide)) dX4_wordOf_60 ?_
    have hf := Option.some.inj hf
    subst hf
    exact q_aret E w hr (Or.inl ⟨_, rfl⟩) (Or.inr ⟨_, rfl⟩) hlk dX4_wordOf_62
  have hf := q_neg c1 hf
  by_cases c2 : v0 = 1
  · have hf := q_pos c2 hf
    refine lv_tableIn (off := 62) (tgt := 63) E.1 E.2.1 dX4_wordOf_1 (by rw [c2]; decide) (by rw [c2]; decide) (by rw [c2]; rfl) (by decide) ?_
    refine va_ldcS E.1 E.2.1 E.2.2.2.1 (w.2.2.2.2.1.2.2 1 (by decide)) dX4_wordOf_63 ?_
    have hf := Option.some.inj hf
    subst hf
    exact q_aret E w hr (Or.inl ⟨_, rfl⟩) (Or.inr ⟨_, rfl⟩) hlk dX4_wordOf_65
  have hf := q_neg c2 hf
  by_cases c3 : v0 = 2
  · have hf := q_pos c3 hf
    refine lv_tableIn (off := 65) (tgt := 66) E.1 E.2.1 dX4_wordOf_1 (by rw [c3]; decide) (by rw [c3]; decide) (by rw [c3]; rfl) (by decide) ?_
    refine va_ldcS E.1 E.2.1 E.2.2.2.1 (w.2.2.2.2.1.2.2 2 (by decide)) dX4_wordOf_66 ?_
    have hf := Option.some.inj hf
    subst hf
    exact q_aret E w hr (Or.inl ⟨_, rfl⟩) (Or.inr ⟨_, rfl⟩) hlk dX4_wordOf_68
  have hf := q_neg c3 hf
  by_cases c4 : v0 = 3
  · have hf := q_pos c4 hf
    refine lv_tableIn (off := 68) (tgt := 69) E.1 E.2.1 dX4_wordOf_1 (by rw [c4]; decide) (by rw [c4]; decide) (by rw [c4]; rfl) (by decide) ?_
    refine va_ldcS E.1 E.2.1 E.2.2.2.1 (w.2.2.2.2.1.2.2 3 (by decide)) dX4_wordOf_69 ?_
    have hf := Option.some.inj hf
    subst hf
    exact q_aret E w hr (Or.inl ⟨_, rfl⟩) (Or.inr ⟨_, rfl⟩) hlk dX4_wordOf_71
  have hf := q_neg c4 hf
  by_cases c5 : v0 = 4
  · have hf := q_pos c5 hf
    refine lv_tableIn (off := 71) (tgt := 72) E.1 E.2.1 dX4_wordOf_1 (by rw [c5]; decide) (by rw [c5]; decide) (by rw [c5]; rfl) (by decide) ?_
    refine va_ldcS E.1 E.2.1 E.2.2.2.1 (w.2.2.2.2.1.2.2 4 (by decide)) dX4_wordOf_72 ?_
    have hf := Option.some.inj hf
    subst hf
    exact q_aret E w hr (Or.inl ⟨_, rfl⟩) (Or.inr ⟨_, rfl⟩) hlk dX4_wordOf_74
  have hf := q_neg c5 hf
  by_cases c6 : v0 = 5
  · have hf := q_pos c6 hf
    refine lv_tableIn (off := 74) (tgt := 75) E.1 E.2.1 dX4_wordOf_1 (by rw [c6]; decide) (by rw [c6]; decide) (by rw [c6]; rfl) (by decide) ?_
    refine va_ldcS E.1 E.2.1 E.2.2.2.1 (w.2.2.2.2.1.2.2 5 (by decide)) dX4_wordOf_75 ?_
    have hf := Option.some.inj hf
    subst hf
    exact q_aret E w hr (Or.inl ⟨_, rfl⟩) (Or.inr ⟨_, rfl⟩) hlk dX4_wordOf_77
  have hf := q_neg c6 hf
  by_cases c7 : v0 = 6
  · have hf := q_pos c7 hf
    refine lv_tableIn (off := 77) (tgt := 78) E.1 E.2.1 dX4_wordOf_1 (by rw [c7]; decide) (by rw [c7]; decide) (by rw [c7]; rfl) (by decide) ?_
    refine va_ldcS E.1 E.2.1 E.2.2.2.1 (w.2.2.2.2.1.2.2 6 (by decide)) dX4_wordOf_78 ?_
    have hf := Option.some.inj hf
    subst hf
    exact q_aret E w hr (Or.inl ⟨_, rfl⟩) (Or.inr ⟨_, rfl⟩) hlk dX4_wordOf_80
  have hf := q_neg c7 hf
  by_cases c8 : v0 = 7
  · have hf := q_pos c8 hf
    refine lv_tableIn (off := 80) (tgt := 81) E.1 E.2.1 dX4_wordOf_1 (by rw [c8]; decide) (by rw [c8]; decide) (by rw [c8]; rfl) (by decide) ?_
    refine va_ldcS E.1 E.2.1 E.2.2.2.1 (w.2.2.2.2.1.2.2 7 (by decide)) dX4_wordOf_81 ?_
    have hf := Option.some.inj hf
    subst hf
    exact q_aret E w hr (Or.inl ⟨_, rfl⟩) (Or.inr ⟨_, rfl⟩) hlk dX4_wordOf_83
  have hf := q_neg c8 hf
  by_cases c9 : v0 = 8
  · have hf := q_pos c9 hf
    refine lv_tableIn (off := 83) (tgt := 84) E.1 E.2.1 dX4_wordOf_1 (by rw [c9]; decide) (by rw [c9]; decide) (by rw [c9]; rfl) (by decide) ?_
    refine va_ldcS E.1 E.2.1 E.2.2.2.1 (w.2.2.2.2.1.2.2 8 (by decide)) dX4_wordOf_84 ?_
    have hf := Option.some.inj hf
    subst hf
    exact q_aret E w hr (Or.inl ⟨_, rfl⟩) (Or.inr ⟨_, rfl⟩) hlk dX4_wordOf_86
  have hf := q_neg c9 hf
  by_cases c10 : v0 = 9
  · have hf := q_pos c10 hf
    refine lv_tableIn (off := 86) (tgt := 87) E.1 E.2.1 dX4_wordOf_1 (by rw [c10]; decide) (by rw [c10]; decide) (by rw [c10]; rfl) (by decide) ?_
    refine va_ldcS E.1 E.2.1 E.2.2.2.1 (w.2.2.2.2.1.2.2 9 (by decide)) dX4_wordOf_87 ?_
    have hf := Option.some.inj hf
    subst hf
    exact q_aret E w hr (Or.inl ⟨_, rfl⟩) (Or.inr ⟨_, rfl⟩) hlk dX4_wordOf_89
  have hf := q_neg c10 hf
  by_cases c11 : v0 = 10
  · have hf := q_pos c11 hf
    refine lv_tableIn (off := 89) (tgt := 90) E.1 E.2.1 dX4_wordOf_1 (by rw [c11]; decide) (by rw [c11]; decide) (by rw [c11]; rfl) (by decide) ?_
    refine va_ldcS E.1 E.2.1 E.2.2.2.1 (w.2.2.2.2.1.2.2 10 (by decide)) dX4_wordOf_90 ?_
    have hf := Option.some.inj hf
    subst hf
    exact q_aret E w hr (Or.inl ⟨_, rfl⟩) (Or.inr ⟨_, rfl⟩) hlk dX4_wordOf_92
  have hf := q_neg c11 hf
  refine lv_tableOut (tgt := 93) E.1 E.2.1 dX4_wordOf_1 (by have := ne_i c1 (z := 0) (by decide); have := ne_i c2 (z := 1) (by decide); have := ne_i c3 (z := 2) (by decide); have := ne_i c4 (z := 3) (by decide); have := ne_i c5 (z := 4) (by decide); have := ne_i c6 (z := 5) (by decide); have := ne_i c7 (z := 6) (by decide); have := ne_i c8 (z := 7) (by decide); have := ne_i c9 (z := 8) (by decide); have := ne_i c10 (z := 9) (by decide); have := ne_i c11 (z := 10) (by decide); omega) (by decide) ?_
  refine va_ldcS E.1 E.2.1 E.2.2.2.1 (w.2.2.2.2.1.2.2 11 (by decide)) dX4_wordOf_93 ?_
  have hf := Option.some.inj hf
  subst hf
  exact q_aret E w hr (Or.inl ⟨_, rfl⟩) (Or.inr ⟨_, rfl⟩) hlk dX4_wordOf_95

theorem X4_wordOf_t {N : Nat} {h : HS} {v0 : Int32} {z : Nat} (hf : X4_wordOf N h v0 = some z) : z < 12 := by
  unfold X4_wordOf at hf
  repeat' split at hf
  all_goals (cases hf; decide)

def X4_isWord_l20 (N : Nat) (h : HS) : Nat → Nat → Nat → Int32 → Option Int32
  | 0, _, _, _ => none
  | n + 1, v0, v1, v2 => (if (nI (sLen.getD v1 0)) ≤ v2 then some (nz 1) else bd1 (X4_byteAt N h v0 ((h.1 v0 7) + v2)) fun r4 => (if v2 < 0 ∨ ¬ v2 < nI (sLen.getD v1 0) then none else (if r4 = (scc v1 v2.toNatClampNeg) then X4_isWord_l20 N h n v0 v1 (v2 + 1) else some (nz 0))))
set_option maxRecDepth 4000 in
set_option maxHeartbeats 2000000 in
theorem X4_isWord_l20_w {p : Program} {l : Launch} {e : Env} {s : State} {m : MethodId} {args : Array Value} {below : List Frame} {meth : Method} {c : Code} {G : GT} {N : Nat} {h : HS} {z : Int32} (E : CallFix p m c cX4_isWord 3 s args UW RX4) (hr : meth.sig.returnType = (some .boolean)) (hlk : meth.locks = false) : ∀ (n : Nat) (H : Heap) (locs : List Loc) (ls : Array Slot) (v0 : Nat) (v1 : Nat) (v2 : Int32), X4_isWord_l20 N h n v0 v1 v2 = some z → WD G s h H locs → sh v0 = 4 → v1 < 12 → lv_has ls 3 [(0, .ref (ad G v0)), (1, .ref (ad G (310 + v1))), (2, .int v2)] → W p l e ({ frames := 6, cells := 0, slots := 0, locals := 200 } : Room) s m args below meth c H locs 0 0 (MQ below (QC G (some (.int z)) h) args s 0 0 (AD G)) (F0 m 20 ls []) := by
  intro n
  induction n with
  | zero =>
    intro H locs ls v0 v1 v2 hf
    cases hf
  | succ n ih =>
    intro H locs ls v0 v1 v2 hf w t_v0 t_v1 hl
    unfold X4_isWord_l20 at hf
    refine lv_iload_n E.1 E.2.1 dX4_isWord_20 rfl (lv_at hl 2 rfl) ?_
    refine lv_aload_n E.1 E.2.1 dX4_isWord_21 rfl (lv_at hl 1 rfl) ?_
    refine k_VSi (As := []) (rest := [.int v2]) E w t_v1 (slen_c t_v1) rfl mv_r165 rfl rfl hl.1 ⟨Nat.le_of_ble_eq_true rfl, Nat.le_of_ble_eq_true rfl⟩ (Nat.le_of_ble_eq_true rfl) ⟨Nat.le_refl _, Nat.le_refl _⟩ dX4_isWord_22 (fun H locs w => ?_)
    refine lv_icmp_ge (tgt := 54) E.1 E.2.1 dX4_isWord_25 (by decide) (fun c2 => ?_) (fun c2 => ?_)
    · have hf := q_pos c2 hf
      refine lv_iconst (v := 1) E.1 E.2.1 dX4_isWord_54 rfl ?_
      have hf := Option.some.inj hf
      subst hf
      exact q_zret E w hr hlk dX4_isWord_55
    · have hf := q_neg c2 hf
      refine lv_aload_n E.1 E.2.1 dX4_isWord_28 rfl (lv_at hl 0 rfl) ?_
      refine lv_aload_n E.1 E.2.1 dX4_isWord_29 rfl (lv_at hl 0 rfl) ?_
      refine q_gi E w t_v0 fl_RX4_44 dX4_isWord_30 ?_
      refine lv_iload_n E.1 E.2.1 dX4_isWord_33 rfl (lv_at hl 2 rfl) ?_
      refine lv_iadd E.1 E.2.1 dX4_isWord_34 ?_
      obtain ⟨r4, hc3, hf⟩ := bd1_e hf
      refine k_Vi (As := [.int ((h.1 v0 7) + v2)]) (rest := []) E w t_v0 ⟨by decide, rfl⟩ (X4_byteAt_c t_v0 hc3) mv_RX4_171 rfl rfl hl.1 ⟨Nat.le_of_ble_eq_true rfl, Nat.le_of_ble_eq_true rfl⟩ (Nat.le_of_ble_eq_true rfl) ⟨Nat.le_refl _, Nat.le_refl _⟩ dX4_isWord_35 (fun H locs w => ?_)
      refine lv_aload_n E.1 E.2.1 dX4_isWord_38 rfl (lv_at hl 1 rfl) ?_
      refine lv_iload_n E.1 E.2.1 dX4_isWord_39 rfl (lv_at hl 2 rfl) ?_
      obtain ⟨b6, hf⟩ := q_if hf
      refine k_VSi (As := [.int v2]) (rest := [.int r4]) E w t_v1 (schr_c t_v1 (fun z => b6 (Or.inl z)) (Decidable.byContradiction fun z => b6 (Or.inr z))) rfl mv_r174 rfl rfl hl.1 ⟨Nat.le_of_ble_eq_true rfl, Nat.le_of_ble_eq_true rfl⟩ (Nat.le_of_ble_eq_true rfl) ⟨Nat.le_refl _, Nat.le_refl _⟩ dX4_isWord_40 (fun H locs w => ?_)
      refine lv_icmp_eq (tgt := 48) E.1 E.2.1 dX4_isWord_43 (by decide) (fun c7 => ?_) (fun c7 => ?_)
      · have hf := q_pos c7 hf
        refine lv_iinc (v := v2 + 1) (lv' := [(2, .int (v2 + 1)), (0, .ref (ad G v0)), (1, .ref (ad G (310 + v1)))]) E.1 E.2.1 dX4_isWord_48 hl (k := 2) rfl rfl (by decide) rfl (fun ls hl => ?_)
        refine lv_goto (tgt := 20) E.1 E.2.1 dX4_isWord_51 (by decide) ?_
        exact ih _ _ _ _ _ _ hf w t_v0 t_v1 (lv_sub hl [1, 2, 0] rfl)
      · have hf := q_neg c7 hf
        refine lv_iconst (v := 0) E.1 E.2.1 dX4_isWord_46 rfl ?_
        have hf := Option.some.inj hf
        subst hf
        exact q_zret E w hr hlk dX4_isWord_47

def X4_isWord (N : Nat) (h : HS) (v0 : Nat) (v1 : Nat) : Option Int32 := (if ((h.1 v0 8) - (h.1 v0 7)) = (nI (sLen.getD v1 0)) then X4_isWord_l20 N h N v0 v1 0 else some (nz 0))
set_option maxRecDepth 4000 in
set_option maxHeartbeats 2000000 in
theorem X4_isWord_c {l : Launch} {G : GT} {N : Nat} {h : HS} {v0 : Nat} {v1 : Nat} {z : Int32} (t_v0 : sh v0 = 4) (t_v1 : v1 < 12) (hf : X4_isWord N h v0 v1 = some z) : CT l G yX4_isWord cX4_isWord 3 (some .boolean) 6 200 [.ref (ad G v0), .ref (ad G (310 + v1))] h (some (.int z)) h := by
  unfold X4_isWord at hf
  refine CT.of (by decide) (Nat.le_of_ble_eq_true rfl) ?_
  intro p e s m below meth c ls E hr hlk w hl
  have hl : lv_has ls 3 [(0, .ref (ad G v0)), (1, .ref (ad G (310 + v1)))] := hl
  refine lv_aload_n E.1 E.2.1 dX4_isWord_0 rfl (lv_at hl 0 rfl) ?_
  refine q_gi E w t_v0 fl_RX4_47 dX4_isWord_1 ?_
  refine lv_aload_n E.1 E.2.1 dX4_isWord_4 rfl (lv_at hl 0 rfl) ?_
  refine q_gi E w t_v0 fl_RX4_44 dX4_isWord_5 ?_
  refine lv_isub E.1 E.2.1 dX4_isWord_8 ?_
  refine lv_aload_n E.1 E.2.1 dX4_isWord_9 rfl (lv_at hl 1 rfl) ?_
  refine k_VSi (As := []) (rest := [.int ((h.1 v0 8) - (h.1 v0 7))]) E w t_v1 (slen_c t_v1) rfl mv_r165 rfl rfl hl.1 ⟨Nat.le_of_ble_eq_true rfl, Nat.le_of_ble_eq_true rfl⟩ (Nat.le_of_ble_eq_true rfl) ⟨Nat.le_refl _, Nat.le_refl _⟩ dX4_isWord_10 (fun H locs w => ?_)
  refine lv_icmp_eq (tgt := 18) E.1 E.2.1 dX4_isWord_13 (by decide) (fun c1 => ?_) (fun c1 => ?_)
  · have hf := q_pos c1 hf
    refine lv_iconst (v := 0) E.1 E.2.1 dX4_isWord_18 rfl ?_
    refine lv_istore_n (lv' := [(2, .int 0), (0, .ref (ad G v0)), (1, .ref (ad G (310 + v1)))]) E.1 E.2.1 dX4_isWord_19 rfl hl (by decide) rfl (fun ls hl => ?_)
    exact X4_isWord_l20_w E hr hlk N _ _ _ _ _ _ hf w t_v0 t_v1 (lv_sub hl [1, 2, 0] rfl)
  · have hf := q_neg c1 hf
    refine lv_iconst (v := 0) E.1 E.2.1 dX4_isWord_16 rfl ?_
    have hf := Option.some.inj hf
    subst hf
    exact q_zret E w hr hlk dX4_isWord_17

def X4_lineOf_l44 (N : Nat) (h : HS) : Nat → Nat → Int32 → Int32 → Option Int32
  | 0, _, _, _ => none
  | n + 1, v0, v3, v4 => (if v3 ≤ v4 then some (-1) else (if (h.1 v0 6) = (1 : Int32) then bd1 (X4_wordOf N h v4) fun r8 => bd1 (X4_isWord N h v0 r8) fun r12 => (if r12 = 0 then X4_lineOf_l44 N h n v0 v3 (v4 + 1) else some v4) else X4_lineOf_l44 N h n v0 v3 (v4 + 1)))
set_option maxRecDepth 4000 in
set_option maxHeartbeats 2000000 in
theorem X4_lineOf_l44_w {p : Program} {l : Launch} {e : Env} {s : State} {m : MethodId} {args : Array Value} {below : List Frame} {meth : Method} {c : Code} {G : GT} {N : Nat} {h : HS} {z : Int32} (E : CallFix p m c cX4_lineOf 5 s args UW RX4) (hr : meth.sig.returnType = (some .int)) (hlk : meth.locks = false) : ∀ (n : Nat) (H : Heap) (locs : List Loc) (ls : Array Slot) (v0 : Nat) (v3 : Int32) (v4 : Int32), X4_lineOf_l44 N h n v0 v3 v4 = some z → WD G s h H locs → sh v0 = 4 → lv_has ls 5 [(0, .ref (ad G v0)), (3, .int v3), (4, .int v4)] → W p l e ({ frames := 7, cells := 0, slots := 0, locals := 222 } : Room) s m args below meth c H locs 0 0 (MQ below (QC G (some (.int z)) h) args s 0 0 (AD G)) (F0 m 44 ls []) := by
  intro n
  induction n with
  | zero =>
    intro H locs ls v0 v3 v4 hf
    cases hf
  | succ n ih =>
    intro H locs ls v0 v3 v4 hf w t_v0 hl
    unfold X4_lineOf_l44 at hf
    refine lv_iload E.1 E.2.1 dX4_lineOf_44 (lv_at hl 2 rfl) ?_
    refine lv_iload_n E.1 E.2.1 dX4_lineOf_46 rfl (lv_at hl 1 rfl) ?_
    refine lv_icmp_ge (tgt := 79) E.1 E.2.1 dX4_lineOf_47 (by decide) (fun c5 => ?_) (fun c5 => ?_)
    · have hf := q_pos c5 hf
      refine lv_iconst (v := (-1)) E.1 E.2.1 dX4_lineOf_79 rfl ?_
      have hf := Option.some.inj hf
      subst hf
      exact q_iret E w hr hlk dX4_lineOf_80
    · have hf := q_neg c5 hf
      refine lv_aload_n E.1 E.2.1 dX4_lineOf_50 rfl (lv_at hl 0 rfl) ?_
      refine q_gi E w t_v0 fl_RX4_41 dX4_lineOf_51 ?_
      refine lv_iconst (v := 1) E.1 E.2.1 dX4_lineOf_54 rfl ?_
      refine lv_icmp_ne (tgt := 73) E.1 E.2.1 dX4_lineOf_55 (by decide) (fun c6 => ?_) (fun c6 => ?_)
      · have hf := q_neg c6 hf
        refine lv_iinc (v := v4 + 1) (lv' := [(4, .int (v4 + 1)), (0, .ref (ad G v0)), (3, .int v3)]) E.1 E.2.1 dX4_lineOf_73 hl (k := 2) rfl rfl (by decide) rfl (fun ls hl => ?_)
        refine lv_goto (tgt := 44) E.1 E.2.1 dX4_lineOf_76 (by decide) ?_
        exact ih _ _ _ _ _ _ hf w t_v0 (lv_sub hl [1, 2, 0] rfl)
      · have hf := q_pos c6 hf
        refine lv_aload_n E.1 E.2.1 dX4_lineOf_58 rfl (lv_at hl 0 rfl) ?_
        refine lv_iload E.1 E.2.1 dX4_lineOf_59 (lv_at hl 2 rfl) ?_
        obtain ⟨r8, hc7, hf⟩ := bd1_e hf
        refine k_Ss (As := [.int v4]) (rest := [.ref (ad G v0)]) E w (X4_wordOf_c  hc7) ms_RX4_134 rfl rfl hl.1 ⟨Nat.le_of_ble_eq_true rfl, Nat.le_of_ble_eq_true rfl⟩ (Nat.le_of_ble_eq_true rfl) ⟨Nat.le_refl _, Nat.le_refl _⟩ dX4_lineOf_61 (fun H locs w => ?_)
        have t10 : r8 < 12 := X4_wordOf_t hc7
        obtain ⟨r12, hc11, hf⟩ := bd1_e hf
        refine k_Vi (As := [.ref (ad G (310 + r8))]) (rest := []) E w t_v0 ⟨by decide, rfl⟩ (X4_isWord_c t_v0 t10 hc11) mv_RX4_138 rfl rfl hl.1 ⟨Nat.le_of_ble_eq_true rfl, Nat.le_of_ble_eq_true rfl⟩ (Nat.le_of_ble_eq_true rfl) ⟨Nat.le_refl _, Nat.le_refl _⟩ dX4_lineOf_64 (fun H locs w => ?_)
        refine lv_if_eq (tgt := 73) E.1 E.2.1 dX4_lineOf_67 (by decide) (fun c14 => ?_) (fun c14 => ?_)
        · have hf := q_pos c14 hf
          refine lv_iinc (v := v4 + 1) (lv' := [(4, .int (v4 + 1)), (0, .ref (ad G v0)), (3, .int v3)]) E.1 E.2.1 dX4_lineOf_73 hl (k := 2) rfl rfl (by decide) rfl (fun ls hl => ?_)
          refine lv_goto (tgt := 44) E.1 E.2.1 dX4_lineOf_76 (by decide) ?_
          exact ih _ _ _ _ _ _ hf w t_v0 (lv_sub hl [1, 2, 0] rfl)
        · have hf := q_neg c14 hf
          refine lv_iload E.1 E.2.1 dX4_lineOf_70 (lv_at hl 2 rfl) ?_
          have hf := Option.some.inj hf
          subst hf
          exact q_iret E w hr hlk dX4_lineOf_72

def X4_lineOf_b19 (N : Nat) (h : HS) (v0 : Nat) (v1 : Int32) (u0 : Int32) : Option Int32 := (if v1 = 0 then X4_lineOf_l44 N h N v0 5 u0 else (if v1 = (1 : Int32) then X4_lineOf_l44 N h N v0 10 u0 else X4_lineOf_l44 N h N v0 12 u0))
set_option maxRecDepth 4000 in
set_option maxHeartbeats 2000000 in
theorem X4_lineOf_b19_w {p : Program} {l : Launch} {e : Env} {s : State} {m : MethodId} {args : Array Value} {below : List Frame} {meth : Method} {c : Code} {G : GT} {N : Nat} {z : Int32} {h : HS} (E : CallFix p m c cX4_lineOf 5 s args UW RX4) (hr : meth.sig.returnType = (some .int)) (hlk : meth.locks = false) {H : Heap} {locs : List Loc} {ls : Array Slot} {v0 : Nat} {v1 : Int32} {u0 : Int32} (hf : X4_lineOf_b19 N h v0 v1 u0 = some z) (w : WD G s h H locs) (t_v0 : sh v0 = 4) (hl : lv_has ls 5 [(0, .ref (ad G v0)), (1, .int v1)]) : W p l e ({ frames := 7, cells := 0, slots := 0, locals := 222 } : Room) s m args below meth c H locs 0 0 (MQ below (QC G (some (.int z)) h) args s 0 0 (AD G)) (F0 m 19 ls [.int u0]) := by
  unfold X4_lineOf_b19 at hf
  refine lv_istore_n (lv' := [(2, .int u0), (0, .ref (ad G v0)), (1, .int v1)]) E.1 E.2.1 dX4_lineOf_19 rfl hl (by decide) rfl (fun ls hl => ?_)
  refine lv_iload_n E.1 E.2.1 dX4_lineOf_20 rfl (lv_at hl 2 rfl) ?_
  refine lv_if_ne (tgt := 28) E.1 E.2.1 dX4_lineOf_21 (by decide) (fun c3 => ?_) (fun c3 => ?_)
  · have hf := q_neg c3 hf
    refine lv_iload_n E.1 E.2.1 dX4_lineOf_28 rfl (lv_at hl 2 rfl) ?_
    refine lv_iconst (v := 1) E.1 E.2.1 dX4_lineOf_29 rfl ?_
    refine lv_icmp_ne (tgt := 38) E.1 E.2.1 dX4_lineOf_30 (by decide) (fun c4 => ?_) (fun c4 => ?_)
    · have hf := q_neg c4 hf
      refine lv_bipush (v := 12) E.1 E.2.1 dX4_lineOf_38 rfl ?_
      refine lv_istore_n (lv' := [(3, .int 12), (2, .int u0), (0, .ref (ad G v0)), (1, .int v1)]) E.1 E.2.1 dX4_lineOf_40 rfl hl (by decide) rfl (fun ls hl => ?_)
      refine lv_iload_n E.1 E.2.1 dX4_lineOf_41 rfl (lv_at hl 1 rfl) ?_
      refine lv_istore (lv' := [(4, .int u0), (3, .int 12), (2, .int u0), (0, .ref (ad G v0)), (1, .int v1)]) E.1 E.2.1 dX4_lineOf_42 hl (by decide) rfl (fun ls hl => ?_)
      exact X4_lineOf_l44_w E hr hlk N _ _ _ _ _ _ hf w t_v0 (lv_sub hl [3, 1, 0] rfl)
    · have hf := q_pos c4 hf
      refine lv_bipush (v := 10) E.1 E.2.1 dX4_lineOf_33 rfl ?_
      refine lv_goto (tgt := 40) E.1 E.2.1 dX4_lineOf_35 (by decide) ?_
      refine lv_istore_n (lv' := [(3, .int 10), (2, .int u0), (0, .ref (ad G v0)), (1, .int v1)]) E.1 E.2.1 dX4_lineOf_40 rfl hl (by decide) rfl (fun ls hl => ?_)
      refine lv_iload_n E.1 E.2.1 dX4_lineOf_41 rfl (lv_at hl 1 rfl) ?_
      refine lv_istore (lv' := [(4, .int u0), (3, .int 10), (2, .int u0), (0, .ref (ad G v0)), (1, .int v1)]) E.1 E.2.1 dX4_lineOf_42 hl (by decide) rfl (fun ls hl => ?_)
      exact X4_lineOf_l44_w E hr hlk N _ _ _ _ _ _ hf w t_v0 (lv_sub hl [3, 1, 0] rfl)
  · have hf := q_pos c3 hf
    refine lv_iconst (v := 5) E.1 E.2.1 dX4_lineOf_24 rfl ?_
    refine lv_goto (tgt := 40) E.1 E.2.1 dX4_lineOf_25 (by decide) ?_
    refine lv_istore_n (lv' := [(3, .int 5), (2, .int u0), (0, .ref (ad G v0)), (1, .int v1)]) E.1 E.2.1 dX4_lineOf_40 rfl hl (by decide) rfl (fun ls hl => ?_)
    refine lv_iload_n E.1 E.2.1 dX4_lineOf_41 rfl (lv_at hl 1 rfl) ?_
    refine lv_istore (lv' := [(4, .int u0), (3, .int 5), (2, .int u0), (0, .ref (ad G v0)), (1, .int v1)]) E.1 E.2.1 dX4_lineOf_42 hl (by decide) rfl (fun ls hl => ?_)
    exact X4_lineOf_l44_w E hr hlk N _ _ _ _ _ _ hf w t_v0 (lv_sub hl [3, 1, 0] rfl)

def X4_lineOf (N : Nat) (h : HS) (v0 : Nat) (v1 : Int32) : Option Int32 := (if v1 = 0 then X4_lineOf_b19 N h v0 v1 0 else (if v1 = (1 : Int32) then X4_lineOf_b19 N h v0 v1 5 else X4_lineOf_b19 N h v0 v1 10))
set_option maxRecDepth 4000 in
set_option maxHeartbeats 2000000 in
theorem X4_lineOf_c {l : Launch} {G : GT} {N : Nat} {h : HS} {v0 : Nat} {v1 : Int32} {z : Int32} (t_v0 : sh v0 = 4) (hf : X4_lineOf N h v0 v1 = some z) : CT l G yX4_lineOf cX4_lineOf 5 (some .int) 7 222 [.ref (ad G v0), .int v1] h (some (.int z)) h := by
  unfold X4_lineOf at hf
  refine CT.of (by decide) (Nat.le_of_ble_eq_true rfl) ?_
  intro p e s m below meth c ls E hr hlk w hl
  have hl : lv_has ls 5 [(0, .ref (ad G v0)), (1, .int v1)] := hl
  refine lv_iload_n E.1 E.2.1 dX4_lineOf_0 rfl (lv_at hl 1 rfl) ?_
  refine lv_if_ne (tgt := 8) E.1 E.2.1 dX4_lineOf_1 (by decide) (fun c1 => ?_) (fun c1 => ?_)
  · have hf := q_neg c1 hf
    refine lv_iload_n E.1 E.2.1 dX4_lineOf_8 rfl (lv_at hl 1 rfl) ?_
    refine lv_iconst (v := 1) E.1 E.2.1 dX4_lineOf_9 rfl ?_
    refine lv_icmp_ne (tgt := 17) E.1 E.2.1 dX4_lineOf_10 (by decide) (fun c2 => ?_) (fun c2 => ?_)
    · have hf := q_neg c2 hf
      refine lv_bipush (v := 10) E.1 E.2.1 dX4_lineOf_17 rfl ?_
      exact X4_lineOf_b19_w E hr hlk hf w t_v0 (lv_sub hl [0, 1] rfl)
    · have hf := q_pos c2 hf
      refine lv_iconst (v := 5) E.1 E.2.1 dX4_lineOf_13 rfl ?_
      refine lv_goto (tgt := 19) E.1 E.2.1 dX4_lineOf_14 (by decide) ?_
      exact X4_lineOf_b19_w E hr hlk hf w t_v0 (lv_sub hl [0, 1] rfl)
  · have hf := q_pos c1 hf
    refine lv_iconst (v := 0) E.1 E.2.1 dX4_lineOf_4 rfl ?_
    refine lv_goto (tgt := 19) E.1 E.2.1 dX4_lineOf_5 (by decide) ?_
    exact X4_lineOf_b19_w E hr hlk hf w t_v0 (lv_sub hl [0, 1] rfl)

def X4_breakOff (N : Nat) (h : HS) (v0 : Nat) : Option HS := sq (wi h v0 2 1) fun h1 => sq (wi h1 v0 3 (h1.1 v0 7)) fun h2 => some h2
set_option maxRecDepth 4000 in
set_option maxHeartbeats 2000000 in
theorem X4_breakOff_c {l : Launch} {G : GT} {N : Nat} {h : HS} {v0 : Nat} {z : HS} (t_v0 : sh v0 = 4) (hf : X4_breakOff N h v0 = some z) : CT l G yX4_breakOff cX4_breakOff 1 none 0 0 [.ref (ad G v0)] h none z := by
  unfold X4_breakOff at hf
  refine CT.of (by decide) (Nat.le_of_ble_eq_true rfl) ?_
  intro p e s m below meth c ls E hr hlk w hl
  have hl : lv_has ls 1 [(0, .ref (ad G v0))] := hl
  refine lv_aload_n E.1 E.2.1 dX4_breakOff_0 rfl (lv_at hl 0 rfl) ?_
  refine lv_iconst (v := 1) E.1 E.2.1 dX4_breakOff_1 rfl ?_
  refine p_pi E w t_v0 fl_RX4_27 (fp_4_2 _) dX4_breakOff_2 (fun h1 H locs eh w => ?_)
  have hf := sq_e eh hf
  clear eh
  refine lv_aload_n E.1 E.2.1 dX4_breakOff_5 rfl (lv_at hl 0 rfl) ?_
  refine lv_aload_n E.1 E.2.1 dX4_breakOff_6 rfl (lv_at hl 0 rfl) ?_
  refine q_gi E w t_v0 fl_RX4_44 dX4_breakOff_7 ?_
  refine p_pi E w t_v0 fl_RX4_31 (fp_4_3 _) dX4_breakOff_10 (fun h2 H locs eh w => ?_)
  have hf := sq_e eh hf
  clear eh
  have hf := Option.some.inj hf
  subst hf
  exact q_vret E w hr hlk dX4_breakOff_13

def X4_isFull (N : Nat) (h : HS) (v0 : Nat) (v1 : Int32) (v2 : Int32) : Option Int32 := (if v1 = 0 then (if (h.1 (v0 + 1) 0) < (6 : Int32) then some (nz 0) else some (nz 1)) else (if v1 = 1 then (if (h.1 (v0 + 1) 1) < (8 : Int32) then some (nz 0) else some (nz 1)) else (if v1 = 2 then (if (h.1 (v0 + 1) 2) < (5 : Int32) then some (nz 0) else some (nz 1)) else (if v1 = 3 then some (nz 0) else (if v1 = 4 then some (nz 0) else (if v2 = (1 : Int32) then (if (h.1 (v0 + 11) 3) < (40 : Int32) then some (nz 0) else some (nz 1)) else (if (h.1 (v0 + 11) 3) < (8 : Int32) then some (nz 0) else some (nz 1))))))))
set_option maxRecDepth 4000 in
set_option maxHeartbeats 2000000 in
theorem X4_isFull_c {l : Launch} {G : GT} {N : Nat} {h : HS} {v0 : Nat} {v1 : Int32} {v2 : Int32} {z : Int32} (t_v0 : sh v0 = 4) (hf : X4_isFull N h v0 v1 v2 = some z) : CT l G yX4_isFull cX4_isFull 3 (some .boolean) 0 0 [.ref (ad G v0), .int v1, .int v2] h (some (.int z)) h := by
  unfold X4_isFull at hf
  refine CT.of (by decide) (Nat.le_of_ble_eq_true rfl) ?_
  intro p e s m below meth c ls E hr hlk w hl
  have hl : lv_has ls 3 [(0, .ref (ad G v0)), (1, .int v1), (2, .int v2)] := hl
  refine lv_iload_n E.1 E.2.1 dX4_isFull_0 rfl (lv_at hl 1 rfl) ?_
  by_cases c1 : v1 = 0
  · have hf := q_pos c1 hf
    refine lv_tableIn (off := 35) (tgt := 36) E.1 E.2.1 dX4_isFull_1 (by rw [c1]; decide) (by rw [c1]; decide) (by rw [c1]; rfl) (by decide) ?_
    refine lv_aload_n E.1 E.2.1 dX4_isFull_36 rfl (lv_at hl 0 rfl) ?_
    refine q_gs E w 1 t_v0 fl_RX4_12 dX4_isFull_37 ?_
    refine q_gi E w (lay_4_0 t_v0) fl_RX4_105 dX4_isFull_40 ?_
    refine lv_bipush (v := 6) E.1 E.2.1 dX4_isFull_43 rfl ?_
    refine lv_icmp_lt (tgt := 52) E.1 E.2.1 dX4_isFull_45 (by decide) (fun c2 => ?_) (fun c2 => ?_)
    · have hf := q_pos c2 hf
      refine lv_iconst (v := 0) E.1 E.2.1 dX4_isFull_52 rfl ?_
      have hf := Option.some.inj hf
      subst hf
      exact q_zret E w hr hlk dX4_isFull_53
    · have hf := q_neg c2 hf
      refine lv_iconst (v := 1) E.1 E.2.1 dX4_isFull_48 rfl ?_
      refine lv_goto (tgt := 53) E.1 E.2.1 dX4_isFull_49 (by decide) ?_
      have hf := Option.some.inj hf
      subst hf
      exact q_zret E w hr hlk dX4_isFull_53
  have hf := q_neg c1 hf
  by_cases c3 : v1 = 1
  · have hf := q_pos c3 hf
    refine lv_tableIn (off := 53) (tgt := 54) E.1 E.2.1 dX4_isFull_1 (by rw [c3]; decide) (by rw [c3]; decide) (by rw [c3]; rfl) (by decide) ?_
    refine lv_aload_n E.1 E.2.1 dX4_isFull_54 rfl (lv_at hl 0 rfl) ?_
    refine q_gs E w 1 t_v0 fl_RX4_12 dX4_isFull_55 ?_
    refine q_gi E w (lay_4_0 t_v0) fl_RX4_108 dX4_isFull_58 ?_
    refine lv_bipush (v := 8) E.1 E.2.1 dX4_isFull_61 rfl ?_
    refine lv_icmp_lt (tgt := 70) E.1 E.2.1 dX4_isFull_63 (by decide) (fun c4 => ?_) (fun c4 => ?_)
    · have hf := q_pos c4 hf
      refine lv_iconst (v := 0) E.1 E.2.1 dX4_isFull_70 rfl ?_
      have hf := Option.some.inj hf
      subst hf
      exact q_zret E w hr hlk dX4_isFull_71
    · have hf := q_neg c4 hf
      refine lv_iconst (v := 1) E.1 E.2.1 dX4_isFull_66 rfl ?_
      refine lv_goto (tgt := 71) E.1 E.2.1 dX4_isFull_67 (by decide) ?_
      have hf := Option.some.inj hf
      subst hf
      exact q_zret E w hr hlk dX4_isFull_71
  have hf := q_neg c3 hf
  by_cases c5 : v1 = 2
  · have hf := q_pos c5 hf
    refine lv_tableIn (off := 71) (tgt := 72) E.1 E.2.1 dX4_isFull_1 (by rw [c5]; decide) (by rw [c5]; decide) (by rw [c5]; rfl) (by decide) ?_
    refine lv_aload_n E.1 E.2.1 dX4_isFull_72 rfl (lv_at hl 0 rfl) ?_
    refine q_gs E w 1 t_v0 fl_RX4_12 dX4_isFull_73 ?_
    refine q_gi E w (lay_4_0 t_v0) fl_RX4_111 dX4_isFull_76 ?_
    refine lv_iconst (v := 5) E.1 E.2.1 dX4_isFull_79 rfl ?_
    refine lv_icmp_lt (tgt := 87) E.1 E.2.1 dX4_isFull_80 (by decide) (fun c6 => ?_) (fun c6 => ?_)
    · have hf := q_pos c6 hf
      refine lv_iconst (v := 0) E.1 E.2.1 dX4_isFull_87 rfl ?_
      have hf := Option.some.inj hf
      subst hf
      exact q_zret E w hr hlk dX4_isFull_88
    · have hf := q_neg c6 hf
      refine lv_iconst (v := 1) E.1 E.2.1 dX4_isFull_83 rfl ?_
      refine lv_goto (tgt := 88) E.1 E.2.1 dX4_isFull_84 (by decide) ?_
      have hf := Option.some.inj hf
      subst hf
      exact q_zret E w hr hlk dX4_isFull_88
  have hf := q_neg c5 hf
  by_cases c7 : v1 = 3
  · have hf := q_pos c7 hf
    refine lv_tableIn (off := 88) (tgt := 89) E.1 E.2.1 dX4_isFull_1 (by rw [c7]; decide) (by rw [c7]; decide) (by rw [c7]; rfl) (by decide) ?_
    refine lv_iconst (v := 0) E.1 E.2.1 dX4_isFull_89 rfl ?_
    have hf := Option.some.inj hf
    subst hf
    exact q_zret E w hr hlk dX4_isFull_90
  have hf := q_neg c7 hf
  by_cases c8 : v1 = 4
  · have hf := q_pos c8 hf
    refine lv_tableIn (off := 88) (tgt := 89) E.1 E.2.1 dX4_isFull_1 (by rw [c8]; decide) (by rw [c8]; decide) (by rw [c8]; rfl) (by decide) ?_
    refine lv_iconst (v := 0) E.1 E.2.1 dX4_isFull_89 rfl ?_
    have hf := Option.some.inj hf
    subst hf
    exact q_zret E w hr hlk dX4_isFull_90
  have hf := q_neg c8 hf
  refine lv_tableOut (tgt := 91) E.1 E.2.1 dX4_isFull_1 (by have := ne_i c1 (z := 0) (by decide); have := ne_i c3 (z := 1) (by decide); have := ne_i c5 (z := 2) (by decide); have := ne_i c7 (z := 3) (by decide); have := ne_i c8 (z := 4) (by decide); omega) (by decide) ?_
  refine lv_aload_n E.1 E.2.1 dX4_isFull_91 rfl (lv_at hl 0 rfl) ?_
  refine q_gs E w 11 t_v0 fl_RX4_23 dX4_isFull_92 ?_
  refine q_gi E w (lay_4_1 t_v0) fl_RX4_60 dX4_isFull_95 ?_
  refine lv_iload_n E.1 E.2.1 dX4_isFull_98 rfl (lv_at hl 2 rfl) ?_
  refine lv_iconst (v := 1) E.1 E.2.1 dX4_isFull_99 rfl ?_
  refine lv_icmp_ne (tgt := 108) E.1 E.2.1 dX4_isFull_100 (by decide) (fun c9 => ?_) (fun c9 => ?_)
  · have hf := q_neg c9 hf
    refine lv_bipush (v := 8) E.1 E.2.1 dX4_isFull_108 rfl ?_
    refine lv_icmp_lt (tgt := 117) E.1 E.2.1 dX4_isFull_110 (by decide) (fun c10 => ?_) (fun c10 => ?_)
    · have hf := q_pos c10 hf
      refine lv_iconst (v := 0) E.1 E.2.1 dX4_isFull_117 rfl ?_
      have hf := Option.some.inj hf
      subst hf
      exact q_zret E w hr hlk dX4_isFull_118
    · have hf := q_neg c10 hf
      refine lv_iconst (v := 1) E.1 E.2.1 dX4_isFull_113 rfl ?_
      refine lv_goto (tgt := 118) E.1 E.2.1 dX4_isFull_114 (by decide) ?_
      have hf := Option.some.inj hf
      subst hf
      exact q_zret E w hr hlk dX4_isFull_118
  · have hf := q_pos c9 hf
    refine lv_bipush (v := 40) E.1 E.2.1 dX4_isFull_103 rfl ?_
    refine lv_goto (tgt := 110) E.1 E.2.1 dX4_isFull_105 (by decide) ?_
    refine lv_icmp_lt (tgt := 117) E.1 E.2.1 dX4_isFull_110 (by decide) (fun c11 => ?_) (fun c11 => ?_)
    · have hf := q_pos c11 hf
      refine lv_iconst (v := 0) E.1 E.2.1 dX4_isFull_117 rfl ?_
      have hf := Option.some.inj hf
      subst hf
      exact q_zret E w hr hlk dX4_isFull_118
    · have hf := q_neg c11 hf
      refine lv_iconst (v := 1) E.1 E.2.1 dX4_isFull_113 rfl ?_
      refine lv_goto (tgt := 118) E.1 E.2.1 dX4_isFull_114 (by decide) ?_
      have hf := Option.some.inj hf
      subst hf
      exact q_zret E w hr hlk dX4_isFull_118

def X4_blame (N : Nat) (h : HS) (v0 : Nat) (v1 : Int32) (v2 : Int32) : Option HS := (if (h.1 v0 2) = 0 then sq (wi h v0 2 v1) fun h2 => sq (wi h2 v0 3 v2) fun h3 => some h3 else some h)
set_option maxRecDepth 4000 in
set_option maxHeartbeats 2000000 in
theorem X4_blame_c {l : Launch} {G : GT} {N : Nat} {h : HS} {v0 : Nat} {v1 : Int32} {v2 : Int32} {z : HS} (t_v0 : sh v0 = 4) (hf : X4_blame N h v0 v1 v2 = some z) : CT l G yX4_blame cX4_blame 3 none 0 0 [.ref (ad G v0), .int v1, .int v2] h none z := by
  unfold X4_blame at hf
  refine CT.of (by decide) (Nat.le_of_ble_eq_true rfl) ?_
  intro p e s m below meth c ls E hr hlk w hl
  have hl : lv_has ls 3 [(0, .ref (ad G v0)), (1, .int v1), (2, .int v2)] := hl
  refine lv_aload_n E.1 E.2.1 dX4_blame_0 rfl (lv_at hl 0 rfl) ?_
  refine q_gi E w t_v0 fl_RX4_27 dX4_blame_1 ?_
  refine lv_if_ne (tgt := 17) E.1 E.2.1 dX4_blame_4 (by decide) (fun c1 => ?_) (fun c1 => ?_)
  · have hf := q_neg c1 hf
    have hf := Option.some.inj hf
    subst hf
    exact q_vret E w hr hlk dX4_blame_17
  · have hf := q_pos c1 hf
    refine lv_aload_n E.1 E.2.1 dX4_blame_7 rfl (lv_at hl 0 rfl) ?_
    refine lv_iload_n E.1 E.2.1 dX4_blame_8 rfl (lv_at hl 1 rfl) ?_
    refine p_pi E w t_v0 fl_RX4_27 (fp_4_2 _) dX4_blame_9 (fun h2 H locs eh w => ?_)
    have hf := sq_e eh hf
    clear eh
    refine lv_aload_n E.1 E.2.1 dX4_blame_12 rfl (lv_at hl 0 rfl) ?_
    refine lv_iload_n E.1 E.2.1 dX4_blame_13 rfl (lv_at hl 2 rfl) ?_
    refine p_pi E w t_v0 fl_RX4_31 (fp_4_3 _) dX4_blame_14 (fun h3 H locs eh w => ?_)
    have hf := sq_e eh hf
    clear eh
    have hf := Option.some.inj hf
    subst hf
    exact q_vret E w hr hlk dX4_blame_17

def X4_canBe_b34 (N : Nat) (h : HS) (v1 : Int32) (v2 : Int32) (v3 : Int32) (u0 : Int32) : Option Int32 := (if u0 = 0 then (if v3 < (stA 1 ((v1 * 4) + v2)) then some (nz 0) else (if (stA 2 ((v1 * 4) + v2)) < v3 then some (nz 0) else some (nz 1))) else some (nz 0))
set_option maxRecDepth 4000 in
set_option maxHeartbeats 2000000 in
theorem X4_canBe_b34_w {p : Program} {l : Launch} {e : Env} {s : State} {m : MethodId} {args : Array Value} {below : List Frame} {meth : Method} {c : Code} {G : GT} {N : Nat} {z : Int32} {h : HS} (E : CallFix p m c cX4_canBe 5 s args UW RX4) (hr : meth.sig.returnType = (some .boolean)) (hlk : meth.locks = false) {H : Heap} {locs : List Loc} {ls : Array Slot} {v1 : Int32} {v2 : Int32} {v3 : Int32} {u0 : Int32} (hf : X4_canBe_b34 N h v1 v2 v3 u0 = some z) (w : WD G s h H locs) (hl : lv_has ls 5 [(1, .int v1), (2, .int v2), (3, .int v3)]) : W p l e ({ frames := 1, cells := 0, slots := 0, locals := 21 } : Room) s m args below meth c H locs 0 0 (MQ below (QC G (some (.int z)) h) args s 0 0 (AD G)) (F0 m 34 ls [.int u0]) := by
  unfold X4_canBe_b34 at hf
  refine lv_istore (lv' := [(4, .int u0), (1, .int v1), (2, .int v2), (3, .int v3)]) E.1 E.2.1 dX4_canBe_34 hl (by decide) rfl (fun ls hl => ?_)
  refine lv_iload E.1 E.2.1 dX4_canBe_36 (lv_at hl 0 rfl) ?_
  refine lv_if_ne (tgt := 75) E.1 E.2.1 dX4_canBe_38 (by decide) (fun c5 => ?_) (fun c5 => ?_)
  · have hf := q_neg c5 hf
    refine lv_iconst (v := 0) E.1 E.2.1 dX4_canBe_75 rfl ?_
    have hf := Option.some.inj hf
    subst hf
    exact q_zret E w hr hlk dX4_canBe_76
  · have hf := q_pos c5 hf
    refine lv_iload_n E.1 E.2.1 dX4_canBe_41 rfl (lv_at hl 3 rfl) ?_
    refine q_gst E w 1 (by decide) fr_1 dX4_canBe_42 ?_
    refine lv_iload_n E.1 E.2.1 dX4_canBe_45 rfl (lv_at hl 1 rfl) ?_
    refine lv_iconst (v := 4) E.1 E.2.1 dX4_canBe_46 rfl ?_
    refine lv_imul E.1 E.2.1 dX4_canBe_47 ?_
    refine lv_iload_n E.1 E.2.1 dX4_canBe_48 rfl (lv_at hl 2 rfl) ?_
    refine lv_iadd E.1 E.2.1 dX4_canBe_49 ?_
    refine k_Ni (As := [.ref (ad G (300 + 1)), .int ((v1 * 4) + v2)]) (rest := [.int v3]) E w (atS_c (q := 1) (by decide)) mn_RX4_89 rfl rfl hl.1 ⟨Nat.le_of_ble_eq_true rfl, Nat.le_of_ble_eq_true rfl⟩ (Nat.le_of_ble_eq_true rfl) ⟨Nat.le_refl _, Nat.le_refl _⟩ dX4_canBe_50 (fun H locs w => ?_)
    refine lv_icmp_lt (tgt := 75) E.1 E.2.1 dX4_canBe_53 (by decide) (fun c6 => ?_) (fun c6 => ?_)
    · have hf := q_pos c6 hf
      refine lv_iconst (v := 0) E.1 E.2.1 dX4_canBe_75 rfl ?_
      have hf := Option.some.inj hf
      subst hf
      exact q_zret E w hr hlk dX4_canBe_76
    · have hf := q_neg c6 hf
      refine lv_iload_n E.1 E.2.1 dX4_canBe_56 rfl (lv_at hl 3 rfl) ?_
      refine q_gst E w 2 (by decide) fr_2 dX4_canBe_57 ?_
      refine lv_iload_n E.1 E.2.1 dX4_canBe_60 rfl (lv_at hl 1 rfl) ?_
      refine lv_iconst (v := 4) E.1 E.2.1 dX4_canBe_61 rfl ?_
      refine lv_imul E.1 E.2.1 dX4_canBe_62 ?_
      refine lv_iload_n E.1 E.2.1 dX4_canBe_63 rfl (lv_at hl 2 rfl) ?_
      refine lv_iadd E.1 E.2.1 dX4_canBe_64 ?_
      refine k_Ni (As := [.ref (ad G (300 + 2)), .int ((v1 * 4) + v2)]) (rest := [.int v3]) E w (atS_c (q := 2) (by decide)) mn_RX4_89 rfl rfl hl.1 ⟨Nat.le_of_ble_eq_true rfl, Nat.le_of_ble_eq_true rfl⟩ (Nat.le_of_ble_eq_true rfl) ⟨Nat.le_refl _, Nat.le_refl _⟩ dX4_canBe_65 (fun H locs w => ?_)
      refine lv_icmp_gt (tgt := 75) E.1 E.2.1 dX4_canBe_68 (by decide) (fun c7 => ?_) (fun c7 => ?_)
      · have hf := q_pos c7 hf
        refine lv_iconst (v := 0) E.1 E.2.1 dX4_canBe_75 rfl ?_
        have hf := Option.some.inj hf
        subst hf
        exact q_zret E w hr hlk dX4_canBe_76
      · have hf := q_neg c7 hf
        refine lv_iconst (v := 1) E.1 E.2.1 dX4_canBe_71 rfl ?_
        refine lv_goto (tgt := 76) E.1 E.2.1 dX4_canBe_72 (by decide) ?_
        have hf := Option.some.inj hf
        subst hf
        exact q_zret E w hr hlk dX4_canBe_76

def X4_canBe (N : Nat) (h : HS) (v0 : Nat) (v1 : Int32) (v2 : Int32) : Option Int32 := bd1 (X10_at N h (v0 + 14) v2) fun r2 => (if v1 = (2 : Int32) then (if v2 = (1 : Int32) then (if (0 : Int32) < 0 ∨ 4 ≤ (0 : Int32).toNatClampNeg then none else (if (h.1 (v0 + 14) (0 : Int32).toNatClampNeg) ≤ r2 then X4_canBe_b34 N h v1 v2 r2 0 else X4_canBe_b34 N h v1 v2 r2 1)) else X4_canBe_b34 N h v1 v2 r2 0) else X4_canBe_b34 N h v1 v2 r2 0)
set_option maxRecDepth 4000 in
set_option maxHeartbeats 2000000 in
theorem X4_canBe_c {l : Launch} {G : GT} {N : Nat} {h : HS} {v0 : Nat} {v1 : Int32} {v2 : Int32} {z : Int32} (t_v0 : sh v0 = 4) (hf : X4_canBe N h v0 v1 v2 = some z) : CT l G yX4_canBe cX4_canBe 5 (some .boolean) 1 21 [.ref (ad G v0), .int v1, .int v2] h (some (.int z)) h := by
  unfold X4_canBe at hf
  refine CT.of (by decide) (Nat.le_of_ble_eq_true rfl) ?_
  intro p e s m below meth c ls E hr hlk w hl
  have hl : lv_has ls 5 [(0, .ref (ad G v0)), (1, .int v1), (2, .int v2)] := hl
  refine lv_aload_n E.1 E.2.1 dX4_canBe_0 rfl (lv_at hl 0 rfl) ?_
  refine q_gs E w 14 t_v0 fl_RX4_53 dX4_canBe_1 ?_
  refine lv_iload_n E.1 E.2.1 dX4_canBe_4 rfl (lv_at hl 2 rfl) ?_
  obtain ⟨r2, hc1, hf⟩ := bd1_e hf
  refine k_Ni (As := [.ref (ad G (v0 + 14)), .int v2]) (rest := []) E w (X10_at_c ((lay_4_10 t_v0).1) hc1) mn_RX4_89 rfl rfl hl.1 ⟨Nat.le_of_ble_eq_true rfl, Nat.le_of_ble_eq_true rfl⟩ (Nat.le_of_ble_eq_true rfl) ⟨Nat.le_refl _, Nat.le_refl _⟩ dX4_canBe_5 (fun H locs w => ?_)
  refine lv_istore_n (lv' := [(3, .int r2), (0, .ref (ad G v0)), (1, .int v1), (2, .int v2)]) E.1 E.2.1 dX4_canBe_8 rfl hl (by decide) rfl (fun ls hl => ?_)
  refine lv_iload_n E.1 E.2.1 dX4_canBe_9 rfl (lv_at hl 2 rfl) ?_
  refine lv_iconst (v := 2) E.1 E.2.1 dX4_canBe_10 rfl ?_
  refine lv_icmp_ne (tgt := 33) E.1 E.2.1 dX4_canBe_11 (by decide) (fun c4 => ?_) (fun c4 => ?_)
  · have hf := q_neg c4 hf
    refine lv_iconst (v := 0) E.1 E.2.1 dX4_canBe_33 rfl ?_
    exact X4_canBe_b34_w E hr hlk hf w  (lv_sub hl [2, 3, 0] rfl)
  · have hf := q_pos c4 hf
    refine lv_iload_n E.1 E.2.1 dX4_canBe_14 rfl (lv_at hl 3 rfl) ?_
    refine lv_iconst (v := 1) E.1 E.2.1 dX4_canBe_15 rfl ?_
    refine lv_icmp_ne (tgt := 33) E.1 E.2.1 dX4_canBe_16 (by decide) (fun c8 => ?_) (fun c8 => ?_)
    · have hf := q_neg c8 hf
      refine lv_iconst (v := 0) E.1 E.2.1 dX4_canBe_33 rfl ?_
      exact X4_canBe_b34_w E hr hlk hf w  (lv_sub hl [2, 3, 0] rfl)
    · have hf := q_pos c8 hf
      refine lv_iload_n E.1 E.2.1 dX4_canBe_19 rfl (lv_at hl 0 rfl) ?_
      refine lv_aload_n E.1 E.2.1 dX4_canBe_20 rfl (lv_at hl 1 rfl) ?_
      refine q_gs E w 14 t_v0 fl_RX4_53 dX4_canBe_21 ?_
      refine lv_iconst (v := 0) E.1 E.2.1 dX4_canBe_24 rfl ?_
      obtain ⟨b9, hf⟩ := q_if hf
      refine q_iald E w ((lay_4_10 t_v0).1) ((lay_4_10 t_v0).2) b9 dX4_canBe_25 ?_
      refine lv_icmp_ge (tgt := 33) E.1 E.2.1 dX4_canBe_26 (by decide) (fun c10 => ?_) (fun c10 => ?_)
      · have hf := q_pos c10 hf
        refine lv_iconst (v := 0) E.1 E.2.1 dX4_canBe_33 rfl ?_
        exact X4_canBe_b34_w E hr hlk hf w  (lv_sub hl [2, 3, 0] rfl)
      · have hf := q_neg c10 hf
        refine lv_iconst (v := 1) E.1 E.2.1 dX4_canBe_29 rfl ?_
        refine lv_goto (tgt := 34) E.1 E.2.1 dX4_canBe_30 (by decide) ?_
        exact X4_canBe_b34_w E hr hlk hf w  (lv_sub hl [2, 3, 0] rfl)

def X4_keepLine_b187 (N : Nat) (h : HS) (v0 : Nat) (v1 : Int32) (u0 : Int32) (u1 : Int32) : Option HS := (if (stA 0 v1) = 0 then bd1 (X6_add N h (v0 + 11) (u1 - u0) (-1)) fun h39 => some h39 else (if (0 : Int32) < 0 ∨ 4 ≤ (0 : Int32).toNatClampNeg then none else bd1 (X6_add N h (v0 + 11) (u1 - u0) (h.1 (v0 + 14) (0 : Int32).toNatClampNeg)) fun h36 => some h36))
set_option maxRecDepth 4000 in
set_option maxHeartbeats 2000000 in
theorem X4_keepLine_b187_w {p : Program} {l : Launch} {e : Env} {s : State} {m : MethodId} {args : Array Value} {below : List Frame} {meth : Method} {c : Code} {G : GT} {N : Nat} {z : HS} {h : HS} (E : CallFix p m c cX4_keepLine 3 s args UW RX4) (hr : meth.sig.returnType = none) (hlk : meth.locks = false) {H : Heap} {locs : List Loc} {ls : Array Slot} {v0 : Nat} {v1 : Int32} {u0 : Int32} {u1 : Int32} (hf : X4_keepLine_b187 N h v0 v1 u0 u1 = some z) (w : WD G s h H locs) (t_v0 : sh v0 = 4) (hl : lv_has ls 3 [(0, .ref (ad G v0)), (1, .int v1)]) : W p l e ({ frames := 1, cells := 0, slots := 0, locals := 24 } : Room) s m args below meth c H locs 0 0 (MQ below (QC G none z) args s 0 0 (AD G)) (F0 m 187 ls [.int u0, .int u1]) := by
  unfold X4_keepLine_b187 at hf
  refine lv_isub E.1 E.2.1 dX4_keepLine_187 ?_
  refine lv_istore_n (lv' := [(2, .int (u1 - u0)), (0, .ref (ad G v0)), (1, .int v1)]) E.1 E.2.1 dX4_keepLine_188 rfl hl (by decide) rfl (fun ls hl => ?_)
  refine lv_aload_n E.1 E.2.1 dX4_keepLine_189 rfl (lv_at hl 1 rfl) ?_
  refine q_gs E w 11 t_v0 fl_RX4_23 dX4_keepLine_190 ?_
  refine lv_iload_n E.1 E.2.1 dX4_keepLine_193 rfl (lv_at hl 0 rfl) ?_
  refine q_gst E w 0 (by decide) fr_0 dX4_keepLine_194 ?_
  refine lv_iload_n E.1 E.2.1 dX4_keepLine_197 rfl (lv_at hl 2 rfl) ?_
  refine k_Ni (As := [.ref (ad G (300 + 0)), .int v1]) (rest := [.int (u1 - u0), .ref (ad G (v0 + 11))]) E w (atS_c (q := 0) (by decide)) mn_RX4_89 rfl rfl hl.1 ⟨Nat.le_of_ble_eq_true rfl, Nat.le_of_ble_eq_true rfl⟩ (Nat.le_of_ble_eq_true rfl) ⟨Nat.le_refl _, Nat.le_refl _⟩ dX4_keepLine_198 (fun H locs w => ?_)
  refine lv_if_ne (tgt := 208) E.1 E.2.1 dX4_keepLine_201 (by decide) (fun c32 => ?_) (fun c32 => ?_)
  · have hf := q_neg c32 hf
    refine lv_aload_n E.1 E.2.1 dX4_keepLine_208 rfl (lv_at hl 1 rfl) ?_
    refine q_gs E w 14 t_v0 fl_RX4_53 dX4_keepLine_209 ?_
    refine lv_iconst (v := 0) E.1 E.2.1 dX4_keepLine_212 rfl ?_
    obtain ⟨b33, hf⟩ := q_if hf
    refine q_iald E w ((lay_4_10 t_v0).1) ((lay_4_10 t_v0).2) b33 dX4_keepLine_213 ?_
    obtain ⟨h36, hc34, hf⟩ := bd1_e hf
    refine k_Vv (As := [.int (u1 - u0), .int (h.1 (v0 + 14) (0 : Int32).toNatClampNeg)]) (rest := []) E w (lay_4_1 t_v0) ⟨by decide, rfl⟩ (X6_add_c (lay_4_1 t_v0) hc34) mv_RX4_131 rfl rfl hl.1 ⟨Nat.le_of_ble_eq_true rfl, Nat.le_of_ble_eq_true rfl⟩ (Nat.le_of_ble_eq_true rfl) ⟨Nat.le_refl _, Nat.le_refl _⟩ dX4_keepLine_214 (fun H locs w => ?_)
    have hf := Option.some.inj hf
    subst hf
    exact q_vret E w hr hlk dX4_keepLine_217
  · have hf := q_pos c32 hf
    refine lv_iconst (v := (-1)) E.1 E.2.1 dX4_keepLine_204 rfl ?_
    refine lv_goto (tgt := 214) E.1 E.2.1 dX4_keepLine_205 (by decide) ?_
    obtain ⟨h39, hc37, hf⟩ := bd1_e hf
    refine k_Vv (As := [.int (u1 - u0), .int (-1)]) (rest := []) E w (lay_4_1 t_v0) ⟨by decide, rfl⟩ (X6_add_c (lay_4_1 t_v0) hc37) mv_RX4_131 rfl rfl hl.1 ⟨Nat.le_of_ble_eq_true rfl, Nat.le_of_ble_eq_true rfl⟩ (Nat.le_of_ble_eq_true rfl) ⟨Nat.le_refl _, Nat.le_refl _⟩ dX4_keepLine_214 (fun H locs w => ?_)
    have hf := Option.some.inj hf
    subst hf
    exact q_vret E w hr hlk dX4_keepLine_217

def X4_keepLine (N : Nat) (h : HS) (v0 : Nat) (v1 : Int32) : Option HS := (if v1 = 0 then (if (0 : Int32) < 0 ∨ 4 ≤ (0 : Int32).toNatClampNeg then none else (if (1 : Int32) < 0 ∨ 4 ≤ (1 : Int32).toNatClampNeg then none else bd1 (X1_addFloor N h (v0 + 1) (h.1 (v0 + 14) (0 : Int32).toNatClampNeg) (h.1 (v0 + 14) (1 : Int32).toNatClampNeg)) fun h6 => some h6)) else (if v1 = 1 then (if (0 : Int32) < 0 ∨ 4 ≤ (0 : Int32).toNatClampNeg then none else (if (1 : Int32) < 0 ∨ 4 ≤ (1 : Int32).toNatClampNeg then none else (if (2 : Int32) < 0 ∨ 4 ≤ (2 : Int32).toNatClampNeg then none else (if (3 : Int32) < 0 ∨ 4 ≤ (3 : Int32).toNatClampNeg then none else bd1 (X1_addBar N h (v0 + 1) (h.1 (v0 + 14) (0 : Int32).toNatClampNeg) (h.1 (v0 + 14) (1 : Int32).toNatClampNeg) (h.1 (v0 + 14) (2 : Int32).toNatClampNeg) (h.1 (v0 + 14) (3 : Int32).toNatClampNeg)) fun h14 => some h14)))) else (if v1 = 2 then (if (0 : Int32) < 0 ∨ 4 ≤ (0 : Int32).toNatClampNeg then none else (if (1 : Int32) < 0 ∨ 4 ≤ (1 : Int32).toNatClampNeg then none else (if (2 : Int32) < 0 ∨ 4 ≤ (2 : Int32).toNatClampNeg then none else bd1 (X1_addSinger N h (v0 + 1) (h.1 (v0 + 14) (0 : Int32).toNatClampNeg) (h.1 (v0 + 14) (1 : Int32).toNatClampNeg) (h.1 (v0 + 14) (2 : Int32).toNatClampNeg)) fun h21 => some h21))) else (if v1 = 3 then (if (0 : Int32) < 0 ∨ 4 ≤ (0 : Int32).toNatClampNeg then none else sq (wi h (v0 + 1) 3 (h.1 (v0 + 14) (0 : Int32).toNatClampNeg)) fun h24 => some h24) else (if v1 = 4 then (if (0 : Int32) < 0 ∨ 4 ≤ (0 : Int32).toNatClampNeg then none else (if (8 : Int32) ≤ (h.1 (v0 + 14) (0 : Int32).toNatClampNeg) then sq (wi h (v0 + 1) 4 ((h.1 (v0 + 1) 4) ||| 0)) fun h28 => some h28 else (if (0 : Int32) < 0 ∨ 4 ≤ (0 : Int32).toNatClampNeg then none else sq (wi h (v0 + 1) 4 ((h.1 (v0 + 1) 4) ||| ((1 : Int32) <<< ((h.1 (v0 + 14) (0 : Int32).toNatClampNeg) &&& 31)))) fun h30 => some h30))) else (if (10 : Int32) ≤ v1 then X4_keepLine_b187 N h v0 v1 10 v1 else X4_keepLine_b187 N h v0 v1 5 v1))))))
set_option maxRecDepth 4000 in
set_option maxHeartbeats 2000000 in
theorem X4_keepLine_c {l : Launch} {G : GT} {N : Nat} {h : HS} {v0 : Nat} {v1 : Int32} {z : HS} (t_v0 : sh v0 = 4) (hf : X4_keepLine N h v0 v1 = some z) : CT l G yX4_keepLine cX4_keepLine 3 none 1 24 [.ref (ad G v0), .int v1] h none z := by
  unfold X4_keepLine at hf
  refine CT.of (by decide) (Nat.le_of_ble_eq_true rfl) ?_
  intro p e s m below meth c ls E hr hlk w hl
  have hl : lv_has ls 3 [(0, .ref (ad G v0)), (1, .int v1)] := hl
  refine lv_iload_n E.1 E.2.1 dX4_keepLine_0 rfl (lv_at hl 1 rfl) ?_
  by_cases c1 : v1 = 0
  · have hf := q_pos c1 hf
    refine lv_tableIn (off := 35) (tgt := 36) E.1 E.2.1 dX4_keepLine_1 (by rw [c1]; decide) (by rw [c1]; decide) (by rw [c1]; rfl) (by decide) ?_
    refine lv_aload_n E.1 E.2.1 dX4_keepLine_36 rfl (lv_at hl 0 rfl) ?_
    refine q_gs E w 1 t_v0 fl_RX4_12 dX4_keepLine_37 ?_
    refine lv_aload_n E.1 E.2.1 dX4_keepLine_40 rfl (lv_at hl 0 rfl) ?_
    refine q_gs E w 14 t_v0 fl_RX4_53 dX4_keepLine_41 ?_
    refine lv_iconst (v := 0) E.1 E.2.1 dX4_keepLine_44 rfl ?_
    obtain ⟨b2, hf⟩ := q_if hf
    refine q_iald E w ((lay_4_10 t_v0).1) ((lay_4_10 t_v0).2) b2 dX4_keepLine_45 ?_
    refine lv_aload_n E.1 E.2.1 dX4_keepLine_46 rfl (lv_at hl 0 rfl) ?_
    refine q_gs E w 14 t_v0 fl_RX4_53 dX4_keepLine_47 ?_
    refine lv_iconst (v := 1) E.1 E.2.1 dX4_keepLine_50 rfl ?_
    obtain ⟨b3, hf⟩ := q_if hf
    refine q_iald E w ((lay_4_10 t_v0).1) ((lay_4_10 t_v0).2) b3 dX4_keepLine_51 ?_
    obtain ⟨h6, hc4, hf⟩ := bd1_e hf
    refine k_Vv (As := [.int (h.1 (v0 + 14) (0 : Int32).toNatClampNeg), .int (h.1 (v0 + 14) (1 : Int32).toNatClampNeg)]) (rest := []) E w (lay_4_0 t_v0) ⟨by decide, rfl⟩ (X1_addFloor_c (lay_4_0 t_v0) hc4) mv_RX4_114 rfl rfl hl.1 ⟨Nat.le_of_ble_eq_true rfl, Nat.le_of_ble_eq_true rfl⟩ (Nat.le_of_ble_eq_true rfl) ⟨Nat.le_refl _, Nat.le_refl _⟩ dX4_keepLine_52 (fun H locs w => ?_)
    refine lv_goto (tgt := 217) E.1 E.2.1 dX4_keepLine_55 (by decide) ?_
    have hf := Option.some.inj hf
    subst hf
    exact q_vret E w hr hlk dX4_keepLine_217
  have hf := q_neg c1 hf
  by_cases c7 : v1 = 1
  · have hf := q_pos c7 hf
    refine lv_tableIn (off := 57) (tgt := 58) E.1 E.2.1 dX4_keepLine_1 (by rw [c7]; decide) (by rw [c7]; decide) (by rw [c7]; rfl) (by decide) ?_
    refine lv_aload_n E.1 E.2.1 dX4_keepLine_58 rfl (lv_at hl 0 rfl) ?_
    refine q_gs E w 1 t_v0 fl_RX4_12 dX4_keepLine_59 ?_
    refine lv_aload_n E.1 E.2.1 dX4_keepLine_62 rfl (lv_at hl 0 rfl) ?_
    refine q_gs E w 14 t_v0 fl_RX4_53 dX4_keepLine_63 ?_
    refine lv_iconst (v := 0) E.1 E.2.1 dX4_keepLine_66 rfl ?_
    obtain ⟨b8, hf⟩ := q_if hf
    refine q_iald E w ((lay_4_10 t_v0).1) ((lay_4_10 t_v0).2) b8 dX4_keepLine_67 ?_
    refine lv_aload_n E.1 E.2.1 dX4_keepLine_68 rfl (lv_at hl 0 rfl) ?_
    refine q_gs E w 14 t_v0 fl_RX4_53 dX4_keepLine_69 ?_
    refine lv_iconst (v := 1) E.1 E.2.1 dX4_keepLine_72 rfl ?_
    obtain ⟨b9, hf⟩ := q_if hf
    refine q_iald E w ((lay_4_10 t_v0).1) ((lay_4_10 t_v0).2) b9 dX4_keepLine_73 ?_
    refine lv_aload_n E.1 E.2.1 dX4_keepLine_74 rfl (lv_at hl 0 rfl) ?_
    refine q_gs E w 14 t_v0 fl_RX4_53 dX4_keepLine_75 ?_
    refine lv_iconst (v := 2) E.1 E.2.1 dX4_keepLine_78 rfl ?_
    obtain ⟨b10, hf⟩ := q_if hf
    refine q_iald E w ((lay_4_10 t_v0).1) ((lay_4_10 t_v0).2) b10 dX4_keepLine_79 ?_
    refine lv_aload_n E.1 E.2.1 dX4_keepLine_80 rfl (lv_at hl 0 rfl) ?_
    refine q_gs E w 14 t_v0 fl_RX4_53 dX4_keepLine_81 ?_
    refine lv_iconst (v := 3) E.1 E.2.1 dX4_keepLine_84 rfl ?_
    obtain ⟨b11, hf⟩ := q_if hf
    refine q_iald E w ((lay_4_10 t_v0).1) ((lay_4_10 t_v0).2) b11 dX4_keepLine_85 ?_
    obtain ⟨h14, hc12, hf⟩ := bd1_e hf
    refine k_Vv (As := [.int (h.1 (v0 + 14) (0 : Int32).toNatClampNeg), .int (h.1 (v0 + 14) (1 : Int32).toNatClampNeg), .int (h.1 (v0 + 14) (2 : Int32).toNatClampNeg), .int (h.1 (v0 + 14) (3 : Int32).toNatClampNeg)]) (rest := []) E w (lay_4_0 t_v0) ⟨by decide, rfl⟩ (X1_addBar_c (lay_4_0 t_v0) hc12) mv_RX4_117 rfl rfl hl.1 ⟨Nat.le_of_ble_eq_true rfl, Nat.le_of_ble_eq_true rfl⟩ (Nat.le_of_ble_eq_true rfl) ⟨Nat.le_refl _, Nat.le_refl _⟩ dX4_keepLine_86 (fun H locs w => ?_)
    refine lv_goto (tgt := 217) E.1 E.2.1 dX4_keepLine_89 (by decide) ?_
    have hf := Option.some.inj hf
    subst hf
    exact q_vret E w hr hlk dX4_keepLine_217
  have hf := q_neg c7 hf
  by_cases c15 : v1 = 2
  · have hf := q_pos c15 hf
    refine lv_tableIn (off := 91) (tgt := 92) E.1 E.2.1 dX4_keepLine_1 (by rw [c15]; decide) (by rw [c15]; decide) (by rw [c15]; rfl) (by decide) ?_
    refine lv_aload_n E.1 E.2.1 dX4_keepLine_92 rfl (lv_at hl 0 rfl) ?_
    refine q_gs E w 1 t_v0 fl_RX4_12 dX4_keepLine_93 ?_
    refine lv_aload_n E.1 E.2.1 dX4_keepLine_96 rfl (lv_at hl 0 rfl) ?_
    refine q_gs E w 14 t_v0 fl_RX4_53 dX4_keepLine_97 ?_
    refine lv_iconst (v := 0) E.1 E.2.1 dX4_keepLine_100 rfl ?_
    obtain ⟨b16, hf⟩ := q_if hf
    refine q_iald E w ((lay_4_10 t_v0).1) ((lay_4_10 t_v0).2) b16 dX4_keepLine_101 ?_
    refine lv_aload_n E.1 E.2.1 dX4_keepLine_102 rfl (lv_at hl 0 rfl) ?_
    refine q_gs E w 14 t_v0 fl_RX4_53 dX4_keepLine_103 ?_
    refine lv_iconst (v := 1) E.1 E.2.1 dX4_keepLine_106 rfl ?_
    obtain ⟨b17, hf⟩ := q_if hf
    refine q_iald E w ((lay_4_10 t_v0).1) ((lay_4_10 t_v0).2) b17 dX4_keepLine_107 ?_
    refine lv_aload_n E.1 E.2.1 dX4_keepLine_108 rfl (lv_at hl 0 rfl) ?_
    refine q_gs E w 14 t_v0 fl_RX4_53 dX4_keepLine_109 ?_
    refine lv_iconst (v := 2) E.1 E.2.1 dX4_keepLine_112 rfl ?_
    obtain ⟨b18, hf⟩ := q_if hf
    refine q_iald E w ((lay_4_10 t_v0).1) ((lay_4_10 t_v0).2) b18 dX4_keepLine_113 ?_
    obtain ⟨h21, hc19, hf⟩ := bd1_e hf
    refine k_Vv (As := [.int (h.1 (v0 + 14) (0 : Int32).toNatClampNeg), .int (h.1 (v0 + 14) (1 : Int32).toNatClampNeg), .int (h.1 (v0 + 14) (2 : Int32).toNatClampNeg)]) (rest := []) E w (lay_4_0 t_v0) ⟨by decide, rfl⟩ (X1_addSinger_c (lay_4_0 t_v0) hc19) mv_RX4_121 rfl rfl hl.1 ⟨Nat.le_of_ble_eq_true rfl, Nat.le_of_ble_eq_true rfl⟩ (Nat.le_of_ble_eq_true rfl) ⟨Nat.le_refl _, Nat.le_refl _⟩ dX4_keepLine_114 (fun H locs w => ?_)
    refine lv_goto (tgt := 217) E.1 E.2.1 dX4_keepLine_117 (by decide) ?_
    have hf := Option.some.inj hf
    subst hf
    exact q_vret E w hr hlk dX4_keepLine_217
  have hf := q_neg c15 hf
  by_cases c22 : v1 = 3
  · have hf := q_pos c22 hf
    refine lv_tableIn (off := 119) (tgt := 120) E.1 E.2.1 dX4_keepLine_1 (by rw [c22]; decide) (by rw [c22]; decide) (by rw [c22]; rfl) (by decide) ?_
    refine lv_aload_n E.1 E.2.1 dX4_keepLine_120 rfl (lv_at hl 0 rfl) ?_
    refine q_gs E w 1 t_v0 fl_RX4_12 dX4_keepLine_121 ?_
    refine lv_aload_n E.1 E.2.1 dX4_keepLine_124 rfl (lv_at hl 0 rfl) ?_
    refine q_gs E w 14 t_v0 fl_RX4_53 dX4_keepLine_125 ?_
    refine lv_iconst (v := 0) E.1 E.2.1 dX4_keepLine_128 rfl ?_
    obtain ⟨b23, hf⟩ := q_if hf
    refine q_iald E w ((lay_4_10 t_v0).1) ((lay_4_10 t_v0).2) b23 dX4_keepLine_129 ?_
    refine p_pi E w (lay_4_0 t_v0) fl_RX4_125 (fp_1_3 _) dX4_keepLine_130 (fun h24 H locs eh w => ?_)
    have hf := sq_e eh hf
    clear eh
    refine lv_goto (tgt := 217) E.1 E.2.1 dX4_keepLine_133 (by decide) ?_
    have hf := Option.some.inj hf
    subst hf
    exact q_vret E w hr hlk dX4_keepLine_217
  have hf := q_neg c22 hf
  by_cases c25 : v1 = 4
  · have hf := q_pos c25 hf
    refine lv_tableIn (off := 135) (tgt := 136) E.1 E.2.1 dX4_keepLine_1 (by rw [c25]; decide) (by rw [c25]; decide) (by rw [c25]; rfl) (by decide) ?_
    refine lv_aload_n E.1 E.2.1 dX4_keepLine_136 rfl (lv_at hl 0 rfl) ?_
    refine q_gs E w 1 t_v0 fl_RX4_12 dX4_keepLine_137 ?_
    refine lv_dup E.1 E.2.1 dX4_keepLine_140 rfl ?_
    refine q_gi E w (lay_4_0 t_v0) fl_RX4_128 dX4_keepLine_141 ?_
    refine lv_aload_n E.1 E.2.1 dX4_keepLine_144 rfl (lv_at hl 0 rfl) ?_
    refine q_gs E w 14 t_v0 fl_RX4_53 dX4_keepLine_145 ?_
    refine lv_iconst (v := 0) E.1 E.2.1 dX4_keepLine_148 rfl ?_
    obtain ⟨b26, hf⟩ := q_if hf
    refine q_iald E w ((lay_4_10 t_v0).1) ((lay_4_10 t_v0).2) b26 dX4_keepLine_149 ?_
    refine lv_bipush (v := 8) E.1 E.2.1 dX4_keepLine_150 rfl ?_
    refine lv_icmp_ge (tgt := 166) E.1 E.2.1 dX4_keepLine_152 (by decide) (fun c27 => ?_) (fun c27 => ?_)
    · have hf := q_pos c27 hf
      refine lv_iconst (v := 0) E.1 E.2.1 dX4_keepLine_166 rfl ?_
      refine lv_ior E.1 E.2.1 dX4_keepLine_167 ?_
      refine p_pi E w (lay_4_0 t_v0) fl_RX4_128 (fp_1_4 _) dX4_keepLine_168 (fun h28 H locs eh w => ?_)
      have hf := sq_e eh hf
      clear eh
      refine lv_goto (tgt := 217) E.1 E.2.1 dX4_keepLine_171 (by decide) ?_
      have hf := Option.some.inj hf
      subst hf
      exact q_vret E w hr hlk dX4_keepLine_217
    · have hf := q_neg c27 hf
      refine lv_iconst (v := 1) E.1 E.2.1 dX4_keepLine_155 rfl ?_
      refine lv_aload_n E.1 E.2.1 dX4_keepLine_156 rfl (lv_at hl 0 rfl) ?_
      refine q_gs E w 14 t_v0 fl_RX4_53 dX4_keepLine_157 ?_
      refine lv_iconst (v := 0) E.1 E.2.1 dX4_keepLine_160 rfl ?_
      obtain ⟨b29, hf⟩ := q_if hf
      refine q_iald E w ((lay_4_10 t_v0).1) ((lay_4_10 t_v0).2) b29 dX4_keepLine_161 ?_
      refine lv_ishl E.1 E.2.1 dX4_keepLine_162 ?_
      refine lv_goto (tgt := 167) E.1 E.2.1 dX4_keepLine_163 (by decide) ?_
      refine lv_ior E.1 E.2.1 dX4_keepLine_167 ?_
      refine p_pi E w (lay_4_0 t_v0) fl_RX4_128 (fp_1_4 _) dX4_keepLine_168 (fun h30 H locs eh w => ?_)
      have hf := sq_e eh hf
      clear eh
      refine lv_goto (tgt := 217) E.1 E.2.1 dX4_keepLine_171 (by decide) ?_
      have hf := Option.some.inj hf
      subst hf
      exact q_vret E w hr hlk dX4_keepLine_217
  have hf := q_neg c25 hf
  refine lv_tableOut (tgt := 174) E.1 E.2.1 dX4_keepLine_1 (by have := ne_i c1 (z := 0) (by decide); have := ne_i c7 (z := 1) (by decide); have := ne_i c15 (z := 2) (by decide); have := ne_i c22 (z := 3) (by decide); have := ne_i c25 (z := 4) (by decide); omega) (by decide) ?_
  refine lv_iload_n E.1 E.2.1 dX4_keepLine_174 rfl (lv_at hl 1 rfl) ?_
  refine lv_iload_n E.1 E.2.1 dX4_keepLine_175 rfl (lv_at hl 1 rfl) ?_
  refine lv_bipush (v := 10) E.1 E.2.1 dX4_keepLine_176 rfl ?_
  refine lv_icmp_ge (tgt := 185) E.1 E.2.1 dX4_keepLine_178 (by decide) (fun c31 => ?_) (fun c31 => ?_)
  · have hf := q_pos c31 hf
    refine lv_bipush (v := 10) E.1 E.2.1 dX4_keepLine_185 rfl ?_
    exact X4_keepLine_b187_w E hr hlk hf w t_v0 (lv_sub hl [0, 1] rfl)
  · have hf := q_neg c31 hf
    refine lv_iconst (v := 5) E.1 E.2.1 dX4_keepLine_181 rfl ?_
    refine lv_goto (tgt := 187) E.1 E.2.1 dX4_keepLine_182 (by decide) ?_
    exact X4_keepLine_b187_w E hr hlk hf w t_v0 (lv_sub hl [0, 1] rfl)

def X4_readLine_l40 (N : Nat) : Nat → HS → Nat → Int32 → Int32 → Option HS
  | 0, _, _, _, _ => none
  | n + 1, h, v0, v2, v3 => (if (stA 0 v2) ≤ v3 then (if (h.1 v0 6) = (3 : Int32) then bd1 (X4_advance N h v0) fun h16 => bd1 (X4_keepLine N h16 v0 v2) fun h19 => some h19 else bd1 (X4_breakOff N h v0) fun h22 => some h22) else (if (4 : Int32) ≤ v3 then (if (h.1 v0 6) = (3 : Int32) then bd1 (X4_advance N h v0) fun h27 => bd1 (X4_keepLine N h27 v0 v2) fun h30 => some h30 else bd1 (X4_breakOff N h v0) fun h33 => some h33) else (if (h.1 v0 6) = (2 : Int32) then (if v3 < 0 ∨ 4 ≤ v3.toNatClampNeg then none else sq (wi h (v0 + 14) v3.toNatClampNeg (h.1 v0 9)) fun h36 => bd1 (X4_canBe N h36 v0 v2 v3) fun r38 => (if r38 = 0 then bd1 (X4_blame N h36 v0 2 (h36.1 v0 7)) fun h46 => bd1 (X4_advance N h46 v0) fun h49 => X4_readLine_l40 N n h49 v0 v2 (v3 + 1) else bd1 (X4_advance N h36 v0) fun h43 => X4_readLine_l40 N n h43 v0 v2 (v3 + 1))) else bd1 (X4_breakOff N h v0) fun h52 => some h52)))
set_option maxRecDepth 4000 in
set_option maxHeartbeats 2000000 in
theorem X4_readLine_l40_w {p : Program} {l : Launch} {e : Env} {s : State} {m : MethodId} {args : Array Value} {below : List Frame} {meth : Method} {c : Code} {G : GT} {N : Nat} {z : HS} (E : CallFix p m c cX4_readLine 4 s args UW RX4) (hr : meth.sig.returnType = none) (hlk : meth.locks = false) : ∀ (n : Nat) (h : HS) (H : Heap) (locs : List Loc) (ls : Array Slot) (v0 : Nat) (v2 : Int32) (v3 : Int32), X4_readLine_l40 N n h v0 v2 v3 = some z → WD G s h H locs → sh v0 = 4 → lv_has ls 4 [(0, .ref (ad G v0)), (2, .int v2), (3, .int v3)] → W p l e ({ frames := 8, cells := 0, slots := 0, locals := 246 } : Room) s m args below meth c H locs 0 0 (MQ below (QC G none z) args s 0 0 (AD G)) (F0 m 40 ls []) := by
  intro n
  induction n with
  | zero =>
    intro h H locs ls v0 v2 v3 hf
    cases hf
  | succ n ih =>
    intro h H locs ls v0 v2 v3 hf w t_v0 hl
    unfold X4_readLine_l40 at hf
    refine lv_iload_n E.1 E.2.1 dX4_readLine_40 rfl (lv_at hl 2 rfl) ?_
    refine q_gst E w 0 (by decide) fr_0 dX4_readLine_41 ?_
    refine lv_iload_n E.1 E.2.1 dX4_readLine_44 rfl (lv_at hl 1 rfl) ?_
    refine k_Ni (As := [.ref (ad G (300 + 0)), .int v2]) (rest := [.int v3]) E w (atS_c (q := 0) (by decide)) mn_RX4_89 rfl rfl hl.1 ⟨Nat.le_of_ble_eq_true rfl, Nat.le_of_ble_eq_true rfl⟩ (Nat.le_of_ble_eq_true rfl) ⟨Nat.le_refl _, Nat.le_refl _⟩ dX4_readLine_45 (fun H locs w => ?_)
    refine lv_icmp_ge (tgt := 107) E.1 E.2.1 dX4_readLine_48 (by decide) (fun c12 => ?_) (fun c12 => ?_)
    · have hf := q_pos c12 hf
      refine lv_aload_n E.1 E.2.1 dX4_readLine_107 rfl (lv_at hl 0 rfl) ?_
      refine q_gi E w t_v0 fl_RX4_41 dX4_readLine_108 ?_
      refine lv_iconst (v := 3) E.1 E.2.1 dX4_readLine_111 rfl ?_
      refine lv_icmp_eq (tgt := 120) E.1 E.2.1 dX4_readLine_112 (by decide) (fun c13 => ?_) (fun c13 => ?_)
      · have hf := q_pos c13 hf
        refine lv_aload_n E.1 E.2.1 dX4_readLine_120 rfl (lv_at hl 0 rfl) ?_
        obtain ⟨h16, hc14, hf⟩ := bd1_e hf
        refine k_Vv (As := []) (rest := []) E w t_v0 ⟨by decide, rfl⟩ (X4_advance_c t_v0 hc14) mv_RX4_61 rfl rfl hl.1 ⟨Nat.le_of_ble_eq_true rfl, Nat.le_of_ble_eq_true rfl⟩ (Nat.le_of_ble_eq_true rfl) ⟨Nat.le_refl _, Nat.le_refl _⟩ dX4_readLine_121 (fun H locs w => ?_)
        refine lv_aload_n E.1 E.2.1 dX4_readLine_124 rfl (lv_at hl 0 rfl) ?_
        refine lv_iload_n E.1 E.2.1 dX4_readLine_125 rfl (lv_at hl 1 rfl) ?_
        obtain ⟨h19, hc17, hf⟩ := bd1_e hf
        refine k_Vv (As := [.int v2]) (rest := []) E w t_v0 ⟨by decide, rfl⟩ (X4_keepLine_c t_v0 hc17) mv_RX4_96 rfl rfl hl.1 ⟨Nat.le_of_ble_eq_true rfl, Nat.le_of_ble_eq_true rfl⟩ (Nat.le_of_ble_eq_true rfl) ⟨Nat.le_refl _, Nat.le_refl _⟩ dX4_readLine_126 (fun H locs w => ?_)
        have hf := Option.some.inj hf
        subst hf
        exact q_vret E w hr hlk dX4_readLine_129
      · have hf := q_neg c13 hf
        refine lv_aload_n E.1 E.2.1 dX4_readLine_115 rfl (lv_at hl 0 rfl) ?_
        obtain ⟨h22, hc20, hf⟩ := bd1_e hf
        refine k_Vv (As := []) (rest := []) E w t_v0 ⟨by decide, rfl⟩ (X4_breakOff_c t_v0 hc20) mv_RX4_79 rfl rfl hl.1 ⟨Nat.le_of_ble_eq_true rfl, Nat.le_of_ble_eq_true rfl⟩ (Nat.le_of_ble_eq_true rfl) ⟨Nat.le_refl _, Nat.le_refl _⟩ dX4_readLine_116 (fun H locs w => ?_)
        have hf := Option.some.inj hf
        subst hf
        exact q_vret E w hr hlk dX4_readLine_119
    · have hf := q_neg c12 hf
      refine lv_iload_n E.1 E.2.1 dX4_readLine_51 rfl (lv_at hl 2 rfl) ?_
      refine lv_iconst (v := 4) E.1 E.2.1 dX4_readLine_52 rfl ?_
      refine lv_icmp_ge (tgt := 107) E.1 E.2.1 dX4_readLine_53 (by decide) (fun c23 => ?_) (fun c23 => ?_)
      · have hf := q_pos c23 hf
        refine lv_aload_n E.1 E.2.1 dX4_readLine_107 rfl (lv_at hl 0 rfl) ?_
        refine q_gi E w t_v0 fl_RX4_41 dX4_readLine_108 ?_
        refine lv_iconst (v := 3) E.1 E.2.1 dX4_readLine_111 rfl ?_
        refine lv_icmp_eq (tgt := 120) E.1 E.2.1 dX4_readLine_112 (by decide) (fun c24 => ?_) (fun c24 => ?_)
        · have hf := q_pos c24 hf
          refine lv_aload_n E.1 E.2.1 dX4_readLine_120 rfl (lv_at hl 0 rfl) ?_
          obtain ⟨h27, hc25, hf⟩ := bd1_e hf
          refine k_Vv (As := []) (rest := []) E w t_v0 ⟨by decide, rfl⟩ (X4_advance_c t_v0 hc25) mv_RX4_61 rfl rfl hl.1 ⟨Nat.le_of_ble_eq_true rfl, Nat.le_of_ble_eq_true rfl⟩ (Nat.le_of_ble_eq_true rfl) ⟨Nat.le_refl _, Nat.le_refl _⟩ dX4_readLine_121 (fun H locs w => ?_)
          refine lv_aload_n E.1 E.2.1 dX4_readLine_124 rfl (lv_at hl 0 rfl) ?_
          refine lv_iload_n E.1 E.2.1 dX4_readLine_125 rfl (lv_at hl 1 rfl) ?_
          obtain ⟨h30, hc28, hf⟩ := bd1_e hf
          refine k_Vv (As := [.int v2]) (rest := []) E w t_v0 ⟨by decide, rfl⟩ (X4_keepLine_c t_v0 hc28) mv_RX4_96 rfl rfl hl.1 ⟨Nat.le_of_ble_eq_true rfl, Nat.le_of_ble_eq_true rfl⟩ (Nat.le_of_ble_eq_true rfl) ⟨Nat.le_refl _, Nat.le_refl _⟩ dX4_readLine_126 (fun H locs w => ?_)
          have hf := Option.some.inj hf
          subst hf
          exact q_vret E w hr hlk dX4_readLine_129
        · have hf := q_neg c24 hf
          refine lv_aload_n E.1 E.2.1 dX4_readLine_115 rfl (lv_at hl 0 rfl) ?_
          obtain ⟨h33, hc31, hf⟩ := bd1_e hf
          refine k_Vv (As := []) (rest := []) E w t_v0 ⟨by decide, rfl⟩ (X4_breakOff_c t_v0 hc31) mv_RX4_79 rfl rfl hl.1 ⟨Nat.le_of_ble_eq_true rfl, Nat.le_of_ble_eq_true rfl⟩ (Nat.le_of_ble_eq_true rfl) ⟨Nat.le_refl _, Nat.le_refl _⟩ dX4_readLine_116 (fun H locs w => ?_)
          have hf := Option.some.inj hf
          subst hf
          exact q_vret E w hr hlk dX4_readLine_119
      · have hf := q_neg c23 hf
        refine lv_aload_n E.1 E.2.1 dX4_readLine_56 rfl (lv_at hl 0 rfl) ?_
        refine q_gi E w t_v0 fl_RX4_41 dX4_readLine_57 ?_
        refine lv_iconst (v := 2) E.1 E.2.1 dX4_readLine_60 rfl ?_
        refine lv_icmp_eq (tgt := 69) E.1 E.2.1 dX4_readLine_61 (by decide) (fun c34 => ?_) (fun c34 => ?_)
        · have hf := q_pos c34 hf
          refine lv_aload_n E.1 E.2.1 dX4_readLine_69 rfl (lv_at hl 0 rfl) ?_
          refine q_gs E w 14 t_v0 fl_RX4_53 dX4_readLine_70 ?_
          refine lv_iload_n E.1 E.2.1 dX4_readLine_73 rfl (lv_at hl 2 rfl) ?_
          refine lv_aload_n E.1 E.2.1 dX4_readLine_74 rfl (lv_at hl 0 rfl) ?_
          refine q_gi E w t_v0 fl_RX4_50 dX4_readLine_75 ?_
          obtain ⟨b35, hf⟩ := q_if hf
          refine p_iast E w ((lay_4_10 t_v0).1) ((lay_4_10 t_v0).2) b35 dX4_readLine_78 (fun h36 H locs eh w => ?_)
          have hf := sq_e eh hf
          clear eh
          refine lv_aload_n E.1 E.2.1 dX4_readLine_79 rfl (lv_at hl 0 rfl) ?_
          refine lv_iload_n E.1 E.2.1 dX4_readLine_80 rfl (lv_at hl 1 rfl) ?_
          refine lv_iload_n E.1 E.2.1 dX4_readLine_81 rfl (lv_at hl 2 rfl) ?_
          obtain ⟨r38, hc37, hf⟩ := bd1_e hf
          refine k_Vi (As := [.int v2, .int v3]) (rest := []) E w t_v0 ⟨by decide, rfl⟩ (X4_canBe_c t_v0 hc37) mv_RX4_93 rfl rfl hl.1 ⟨Nat.le_of_ble_eq_true rfl, Nat.le_of_ble_eq_true rfl⟩ (Nat.le_of_ble_eq_true rfl) ⟨Nat.le_refl _, Nat.le_refl _⟩ dX4_readLine_82 (fun H locs w => ?_)
          refine lv_if_ne (tgt := 97) E.1 E.2.1 dX4_readLine_85 (by decide) (fun c40 => ?_) (fun c40 => ?_)
          · have hf := q_neg c40 hf
            refine lv_aload_n E.1 E.2.1 dX4_readLine_97 rfl (lv_at hl 0 rfl) ?_
            obtain ⟨h43, hc41, hf⟩ := bd1_e hf
            refine k_Vv (As := []) (rest := []) E w t_v0 ⟨by decide, rfl⟩ (X4_advance_c t_v0 hc41) mv_RX4_61 rfl rfl hl.1 ⟨Nat.le_of_ble_eq_true rfl, Nat.le_of_ble_eq_true rfl⟩ (Nat.le_of_ble_eq_true rfl) ⟨Nat.le_refl _, Nat.le_refl _⟩ dX4_readLine_98 (fun H locs w => ?_)
            refine lv_iinc (v := v3 + 1) (lv' := [(3, .int (v3 + 1)), (0, .ref (ad G v0)), (2, .int v2)]) E.1 E.2.1 dX4_readLine_101 hl (k := 2) rfl rfl (by decide) rfl (fun ls hl => ?_)
            refine lv_goto (tgt := 40) E.1 E.2.1 dX4_readLine_104 (by decide) ?_
            exact ih _ _ _ _ _ _ _ hf w t_v0 (lv_sub hl [1, 2, 0] rfl)
          · have hf := q_pos c40 hf
            refine lv_aload_n E.1 E.2.1 dX4_readLine_88 rfl (lv_at hl 0 rfl) ?_
            refine lv_iconst (v := 2) E.1 E.2.1 dX4_readLine_89 rfl ?_
            refine lv_aload_n E.1 E.2.1 dX4_readLine_90 rfl (lv_at hl 0 rfl) ?_
            refine q_gi E w t_v0 fl_RX4_44 dX4_readLine_91 ?_
            obtain ⟨h46, hc44, hf⟩ := bd1_e hf
            refine k_Vv (As := [.int 2, .int (h36.1 v0 7)]) (rest := []) E w t_v0 ⟨by decide, rfl⟩ (X4_blame_c t_v0 hc44) mv_RX4_71 rfl rfl hl.1 ⟨Nat.le_of_ble_eq_true rfl, Nat.le_of_ble_eq_true rfl⟩ (Nat.le_of_ble_eq_true rfl) ⟨Nat.le_refl _, Nat.le_refl _⟩ dX4_readLine_94 (fun H locs w => ?_)
            refine lv_aload_n E.1 E.2.1 dX4_readLine_97 rfl (lv_at hl 0 rfl) ?_
            obtain ⟨h49, hc47, hf⟩ := bd1_e hf
            refine k_Vv (As := []) (rest := []) E w t_v0 ⟨by decide, rfl⟩ (X4_advance_c t_v0 hc47) mv_RX4_61 rfl rfl hl.1 ⟨Nat.le_of_ble_eq_true rfl, Nat.le_of_ble_eq_true rfl⟩ (Nat.le_of_ble_eq_true rfl) ⟨Nat.le_refl _, Nat.le_refl _⟩ dX4_readLine_98 (fun H locs w => ?_)
            refine lv_iinc (v := v3 + 1) (lv' := [(3, .int (v3 + 1)), (0, .ref (ad G v0)), (2, .int v2)]) E.1 E.2.1 dX4_readLine_101 hl (k := 2) rfl rfl (by decide) rfl (fun ls hl => ?_)
            refine lv_goto (tgt := 40) E.1 E.2.1 dX4_readLine_104 (by decide) ?_
            exact ih _ _ _ _ _ _ _ hf w t_v0 (lv_sub hl [1, 2, 0] rfl)
        · have hf := q_neg c34 hf
          refine lv_aload_n E.1 E.2.1 dX4_readLine_64 rfl (lv_at hl 0 rfl) ?_
          obtain ⟨h52, hc50, hf⟩ := bd1_e hf
          refine k_Vv (As := []) (rest := []) E w t_v0 ⟨by decide, rfl⟩ (X4_breakOff_c t_v0 hc50) mv_RX4_79 rfl rfl hl.1 ⟨Nat.le_of_ble_eq_true rfl, Nat.le_of_ble_eq_true rfl⟩ (Nat.le_of_ble_eq_true rfl) ⟨Nat.le_refl _, Nat.le_refl _⟩ dX4_readLine_65 (fun H locs w => ?_)
          have hf := Option.some.inj hf
          subst hf
          exact q_vret E w hr hlk dX4_readLine_68

def X4_readLine (N : Nat) (h : HS) (v0 : Nat) (v1 : Int32) : Option HS := bd1 (X4_lineOf N h v0 v1) fun r2 => (if r2 = ((-1) : Int32) then bd1 (X4_breakOff N h v0) fun h61 => some h61 else bd1 (X4_isFull N h v0 r2 v1) fun r6 => (if r6 = 0 then bd1 (X4_advance N h v0) fun h11 => X4_readLine_l40 N N h11 v0 r2 0 else bd1 (X4_blame N h v0 3 (h.1 v0 7)) fun h55 => bd1 (X4_advance N h55 v0) fun h58 => X4_readLine_l40 N N h58 v0 r2 0))
set_option maxRecDepth 4000 in
set_option maxHeartbeats 2000000 in
theorem X4_readLine_c {l : Launch} {G : GT} {N : Nat} {h : HS} {v0 : Nat} {v1 : Int32} {z : HS} (t_v0 : sh v0 = 4) (hf : X4_readLine N h v0 v1 = some z) : CT l G yX4_readLine cX4_readLine 4 none 8 246 [.ref (ad G v0), .int v1] h none z := by
  unfold X4_readLine at hf
  refine CT.of (by decide) (Nat.le_of_ble_eq_true rfl) ?_
  intro p e s m below meth c ls E hr hlk w hl
  have hl : lv_has ls 4 [(0, .ref (ad G v0)), (1, .int v1)] := hl
  refine lv_aload_n E.1 E.2.1 dX4_readLine_0 rfl (lv_at hl 0 rfl) ?_
  refine lv_iload_n E.1 E.2.1 dX4_readLine_1 rfl (lv_at hl 1 rfl) ?_
  obtain ⟨r2, hc1, hf⟩ := bd1_e hf
  refine k_Vi (As := [.int v1]) (rest := []) E w t_v0 ⟨by decide, rfl⟩ (X4_lineOf_c t_v0 hc1) mv_RX4_75 rfl rfl hl.1 ⟨Nat.le_of_ble_eq_true rfl, Nat.le_of_ble_eq_true rfl⟩ (Nat.le_of_ble_eq_true rfl) ⟨Nat.le_refl _, Nat.le_refl _⟩ dX4_readLine_2 (fun H locs w => ?_)
  refine lv_istore_n (lv' := [(2, .int r2), (0, .ref (ad G v0)), (1, .int v1)]) E.1 E.2.1 dX4_readLine_5 rfl hl (by decide) rfl (fun ls hl => ?_)
  refine lv_iload_n E.1 E.2.1 dX4_readLine_6 rfl (lv_at hl 0 rfl) ?_
  refine lv_iconst (v := (-1)) E.1 E.2.1 dX4_readLine_7 rfl ?_
  refine lv_icmp_ne (tgt := 16) E.1 E.2.1 dX4_readLine_8 (by decide) (fun c4 => ?_) (fun c4 => ?_)
  · have hf := q_neg c4 hf
    refine lv_aload_n E.1 E.2.1 dX4_readLine_16 rfl (lv_at hl 1 rfl) ?_
    refine lv_iload_n E.1 E.2.1 dX4_readLine_17 rfl (lv_at hl 0 rfl) ?_
    refine lv_iload_n E.1 E.2.1 dX4_readLine_18 rfl (lv_at hl 2 rfl) ?_
    obtain ⟨r6, hc5, hf⟩ := bd1_e hf
    refine k_Vi (As := [.int r2, .int v1]) (rest := []) E w t_v0 ⟨by decide, rfl⟩ (X4_isFull_c t_v0 hc5) mv_RX4_82 rfl rfl hl.1 ⟨Nat.le_of_ble_eq_true rfl, Nat.le_of_ble_eq_true rfl⟩ (Nat.le_of_ble_eq_true rfl) ⟨Nat.le_refl _, Nat.le_refl _⟩ dX4_readLine_19 (fun H locs w => ?_)
    refine lv_if_eq (tgt := 34) E.1 E.2.1 dX4_readLine_22 (by decide) (fun c8 => ?_) (fun c8 => ?_)
    · have hf := q_pos c8 hf
      refine lv_aload_n E.1 E.2.1 dX4_readLine_34 rfl (lv_at hl 1 rfl) ?_
      obtain ⟨h11, hc9, hf⟩ := bd1_e hf
      refine k_Vv (As := []) (rest := []) E w t_v0 ⟨by decide, rfl⟩ (X4_advance_c t_v0 hc9) mv_RX4_61 rfl rfl hl.1 ⟨Nat.le_of_ble_eq_true rfl, Nat.le_of_ble_eq_true rfl⟩ (Nat.le_of_ble_eq_true rfl) ⟨Nat.le_refl _, Nat.le_refl _⟩ dX4_readLine_35 (fun H locs w => ?_)
      refine lv_iconst (v := 0) E.1 E.2.1 dX4_readLine_38 rfl ?_
      refine lv_istore_n (lv' := [(3, .int 0), (2, .int r2), (0, .ref (ad G v0)), (1, .int v1)]) E.1 E.2.1 dX4_readLine_39 rfl hl (by decide) rfl (fun ls hl => ?_)
      exact X4_readLine_l40_w E hr hlk N _ _ _ _ _ _ _ hf w t_v0 (lv_sub hl [2, 1, 0] rfl)
    · have hf := q_neg c8 hf
      refine lv_aload_n E.1 E.2.1 dX4_readLine_25 rfl (lv_at hl 1 rfl) ?_
      refine lv_iconst (v := 3) E.1 E.2.1 dX4_readLine_26 rfl ?_
      refine lv_aload_n E.1 E.2.1 dX4_readLine_27 rfl (lv_at hl 1 rfl) ?_
      refine q_gi E w t_v0 fl_RX4_44 dX4_readLine_28 ?_
      obtain ⟨h55, hc53, hf⟩ := bd1_e hf
      refine k_Vv (As := [.int 3, .int (h.1 v0 7)]) (rest := []) E w t_v0 ⟨by decide, rfl⟩ (X4_blame_c t_v0 hc53) mv_RX4_71 rfl rfl hl.1 ⟨Nat.le_of_ble_eq_true rfl, Nat.le_of_ble_eq_true rfl⟩ (Nat.le_of_ble_eq_true rfl) ⟨Nat.le_refl _, Nat.le_refl _⟩ dX4_readLine_31 (fun H locs w => ?_)
      refine lv_aload_n E.1 E.2.1 dX4_readLine_34 rfl (lv_at hl 1 rfl) ?_
      obtain ⟨h58, hc56, hf⟩ := bd1_e hf
      refine k_Vv (As := []) (rest := []) E w t_v0 ⟨by decide, rfl⟩ (X4_advance_c t_v0 hc56) mv_RX4_61 rfl rfl hl.1 ⟨Nat.le_of_ble_eq_true rfl, Nat.le_of_ble_eq_true rfl⟩ (Nat.le_of_ble_eq_true rfl) ⟨Nat.le_refl _, Nat.le_refl _⟩ dX4_readLine_35 (fun H locs w => ?_)
      refine lv_iconst (v := 0) E.1 E.2.1 dX4_readLine_38 rfl ?_
      refine lv_istore_n (lv' := [(3, .int 0), (2, .int r2), (0, .ref (ad G v0)), (1, .int v1)]) E.1 E.2.1 dX4_readLine_39 rfl hl (by decide) rfl (fun ls hl => ?_)
      exact X4_readLine_l40_w E hr hlk N _ _ _ _ _ _ _ hf w t_v0 (lv_sub hl [2, 1, 0] rfl)
  · have hf := q_pos c4 hf
    refine lv_aload_n E.1 E.2.1 dX4_readLine_11 rfl (lv_at hl 1 rfl) ?_
    obtain ⟨h61, hc59, hf⟩ := bd1_e hf
    refine k_Vv (As := []) (rest := []) E w t_v0 ⟨by decide, rfl⟩ (X4_breakOff_c t_v0 hc59) mv_RX4_79 rfl rfl hl.1 ⟨Nat.le_of_ble_eq_true rfl, Nat.le_of_ble_eq_true rfl⟩ (Nat.le_of_ble_eq_true rfl) ⟨Nat.le_refl _, Nat.le_refl _⟩ dX4_readLine_12 (fun H locs w => ?_)
    have hf := Option.some.inj hf
    subst hf
    exact q_vret E w hr hlk dX4_readLine_15

def X4_read_l47 (N : Nat) : Nat → HS → Nat → Int32 → Int32 → Option HS
  | 0, _, _, _, _ => none
  | n + 1, h, v0, v3, v4 => (if (600 : Int32) < v4 then (if (h.1 v0 2) = 0 then bd1 (X1_isWhole N h (v0 + 1)) fun r16 => (if r16 = 0 then bd1 (X4_blame N h v0 4 (h.1 v0 5)) fun h21 => some h21 else some h) else some h) else (if (h.1 v0 6) = 0 then (if (h.1 v0 2) = 0 then bd1 (X1_isWhole N h (v0 + 1)) fun r25 => (if r25 = 0 then bd1 (X4_blame N h v0 4 (h.1 v0 5)) fun h30 => some h30 else some h) else some h) else (if (h.1 v0 2) = (1 : Int32) then (if (h.1 v0 2) = 0 then bd1 (X1_isWhole N h (v0 + 1)) fun r34 => (if r34 = 0 then bd1 (X4_blame N h v0 4 (h.1 v0 5)) fun h39 => some h39 else some h) else some h) else bd1 (X4_readLine N h v0 v3) fun h42 => X4_read_l47 N n h42 v0 v3 (v4 + 1))))
set_option maxRecDepth 4000 in
set_option maxHeartbeats 2000000 in
theorem X4_read_l47_w {p : Program} {l : Launch} {e : Env} {s : State} {m : MethodId} {args : Array Value} {below : List Frame} {meth : Method} {c : Code} {G : GT} {N : Nat} {z : HS} (E : CallFix p m c cX4_read 5 s args UW RX4) (hr : meth.sig.returnType = none) (hlk : meth.locks = false) : ∀ (n : Nat) (h : HS) (H : Heap) (locs : List Loc) (ls : Array Slot) (v0 : Nat) (v3 : Int32) (v4 : Int32), X4_read_l47 N n h v0 v3 v4 = some z → WD G s h H locs → sh v0 = 4 → lv_has ls 5 [(0, .ref (ad G v0)), (3, .int v3), (4, .int v4)] → W p l e ({ frames := 9, cells := 0, slots := 0, locals := 269 } : Room) s m args below meth c H locs 0 0 (MQ below (QC G none z) args s 0 0 (AD G)) (F0 m 47 ls []) := by
  intro n
  induction n with
  | zero =>
    intro h H locs ls v0 v3 v4 hf
    cases hf
  | succ n ih =>
    intro h H locs ls v0 v3 v4 hf w t_v0 hl
    unfold X4_read_l47 at hf
    refine lv_iload E.1 E.2.1 dX4_read_47 (lv_at hl 2 rfl) ?_
    refine lv_sipush (v := 600) E.1 E.2.1 dX4_read_49 rfl ?_
    refine lv_icmp_gt (tgt := 81) E.1 E.2.1 dX4_read_52 (by decide) (fun c13 => ?_) (fun c13 => ?_)
    · have hf := q_pos c13 hf
      refine lv_aload_n E.1 E.2.1 dX4_read_81 rfl (lv_at hl 0 rfl) ?_
      refine q_gi E w t_v0 fl_RX4_27 dX4_read_82 ?_
      refine lv_if_ne (tgt := 107) E.1 E.2.1 dX4_read_85 (by decide) (fun c14 => ?_) (fun c14 => ?_)
      · have hf := q_neg c14 hf
        have hf := Option.some.inj hf
        subst hf
        exact q_vret E w hr hlk dX4_read_107
      · have hf := q_pos c14 hf
        refine lv_aload_n E.1 E.2.1 dX4_read_88 rfl (lv_at hl 0 rfl) ?_
        refine q_gs E w 1 t_v0 fl_RX4_12 dX4_read_89 ?_
        obtain ⟨r16, hc15, hf⟩ := bd1_e hf
        refine k_Vi (As := []) (rest := []) E w (lay_4_0 t_v0) ⟨by decide, rfl⟩ (X1_isWhole_c (lay_4_0 t_v0) hc15) mv_RX4_67 rfl rfl hl.1 ⟨Nat.le_of_ble_eq_true rfl, Nat.le_of_ble_eq_true rfl⟩ (Nat.le_of_ble_eq_true rfl) ⟨Nat.le_refl _, Nat.le_refl _⟩ dX4_read_92 (fun H locs w => ?_)
        refine lv_if_ne (tgt := 107) E.1 E.2.1 dX4_read_95 (by decide) (fun c18 => ?_) (fun c18 => ?_)
        · have hf := q_neg c18 hf
          have hf := Option.some.inj hf
          subst hf
          exact q_vret E w hr hlk dX4_read_107
        · have hf := q_pos c18 hf
          refine lv_aload_n E.1 E.2.1 dX4_read_98 rfl (lv_at hl 0 rfl) ?_
          refine lv_iconst (v := 4) E.1 E.2.1 dX4_read_99 rfl ?_
          refine lv_aload_n E.1 E.2.1 dX4_read_100 rfl (lv_at hl 0 rfl) ?_
          refine q_gi E w t_v0 fl_RX4_38 dX4_read_101 ?_
          obtain ⟨h21, hc19, hf⟩ := bd1_e hf
          refine k_Vv (As := [.int 4, .int (h.1 v0 5)]) (rest := []) E w t_v0 ⟨by decide, rfl⟩ (X4_blame_c t_v0 hc19) mv_RX4_71 rfl rfl hl.1 ⟨Nat.le_of_ble_eq_true rfl, Nat.le_of_ble_eq_true rfl⟩ (Nat.le_of_ble_eq_true rfl) ⟨Nat.le_refl _, Nat.le_refl _⟩ dX4_read_104 (fun H locs w => ?_)
          have hf := Option.some.inj hf
          subst hf
          exact q_vret E w hr hlk dX4_read_107
    · have hf := q_neg c13 hf
      refine lv_aload_n E.1 E.2.1 dX4_read_55 rfl (lv_at hl 0 rfl) ?_
      refine q_gi E w t_v0 fl_RX4_41 dX4_read_56 ?_
      refine lv_if_eq (tgt := 81) E.1 E.2.1 dX4_read_59 (by decide) (fun c22 => ?_) (fun c22 => ?_)
      · have hf := q_pos c22 hf
        refine lv_aload_n E.1 E.2.1 dX4_read_81 rfl (lv_at hl 0 rfl) ?_
        refine q_gi E w t_v0 fl_RX4_27 dX4_read_82 ?_
        refine lv_if_ne (tgt := 107) E.1 E.2.1 dX4_read_85 (by decide) (fun c23 => ?_) (fun c23 => ?_)
        · have hf := q_neg c23 hf
          have hf := Option.some.inj hf
          subst hf
          exact q_vret E w hr hlk dX4_read_107
        · have hf := q_pos c23 hf
          refine lv_aload_n E.1 E.2.1 dX4_read_88 rfl (lv_at hl 0 rfl) ?_
          refine q_gs E w 1 t_v0 fl_RX4_12 dX4_read_89 ?_
          obtain ⟨r25, hc24, hf⟩ := bd1_e hf
          refine k_Vi (As := []) (rest := []) E w (lay_4_0 t_v0) ⟨by decide, rfl⟩ (X1_isWhole_c (lay_4_0 t_v0) hc24) mv_RX4_67 rfl rfl hl.1 ⟨Nat.le_of_ble_eq_true rfl, Nat.le_of_ble_eq_true rfl⟩ (Nat.le_of_ble_eq_true rfl) ⟨Nat.le_refl _, Nat.le_refl _⟩ dX4_read_92 (fun H locs w => ?_)
          refine lv_if_ne (tgt := 107) E.1 E.2.1 dX4_read_95 (by decide) (fun c27 => ?_) (fun c27 => ?_)
          · have hf := q_neg c27 hf
            have hf := Option.some.inj hf
            subst hf
            exact q_vret E w hr hlk dX4_read_107
          · have hf := q_pos c27 hf
            refine lv_aload_n E.1 E.2.1 dX4_read_98 rfl (lv_at hl 0 rfl) ?_
            refine lv_iconst (v := 4) E.1 E.2.1 dX4_read_99 rfl ?_
            refine lv_aload_n E.1 E.2.1 dX4_read_100 rfl (lv_at hl 0 rfl) ?_
            refine q_gi E w t_v0 fl_RX4_38 dX4_read_101 ?_
            obtain ⟨h30, hc28, hf⟩ := bd1_e hf
            refine k_Vv (As := [.int 4, .int (h.1 v0 5)]) (rest := []) E w t_v0 ⟨by decide, rfl⟩ (X4_blame_c t_v0 hc28) mv_RX4_71 rfl rfl hl.1 ⟨Nat.le_of_ble_eq_true rfl, Nat.le_of_ble_eq_true rfl⟩ (Nat.le_of_ble_eq_true rfl) ⟨Nat.le_refl _, Nat.le_refl _⟩ dX4_read_104 (fun H locs w => ?_)
            have hf := Option.some.inj hf
            subst hf
            exact q_vret E w hr hlk dX4_read_107
      · have hf := q_neg c22 hf
        refine lv_aload_n E.1 E.2.1 dX4_read_62 rfl (lv_at hl 0 rfl) ?_
        refine q_gi E w t_v0 fl_RX4_27 dX4_read_63 ?_
        refine lv_iconst (v := 1) E.1 E.2.1 dX4_read_66 rfl ?_
        refine lv_icmp_eq (tgt := 81) E.1 E.2.1 dX4_read_67 (by decide) (fun c31 => ?_) (fun c31 => ?_)
        · have hf := q_pos c31 hf
          refine lv_aload_n E.1 E.2.1 dX4_read_81 rfl (lv_at hl 0 rfl) ?_
          refine q_gi E w t_v0 fl_RX4_27 dX4_read_82 ?_
          refine lv_if_ne (tgt := 107) E.1 E.2.1 dX4_read_85 (by decide) (fun c32 => ?_) (fun c32 => ?_)
          · have hf := q_neg c32 hf
            have hf := Option.some.inj hf
            subst hf
            exact q_vret E w hr hlk dX4_read_107
          · have hf := q_pos c32 hf
            refine lv_aload_n E.1 E.2.1 dX4_read_88 rfl (lv_at hl 0 rfl) ?_
            refine q_gs E w 1 t_v0 fl_RX4_12 dX4_read_89 ?_
            obtain ⟨r34, hc33, hf⟩ := bd1_e hf
            refine k_Vi (As := []) (rest := []) E w (lay_4_0 t_v0) ⟨by decide, rfl⟩ (X1_isWhole_c (lay_4_0 t_v0) hc33) mv_RX4_67 rfl rfl hl.1 ⟨Nat.le_of_ble_eq_true rfl, Nat.le_of_ble_eq_true rfl⟩ (Nat.le_of_ble_eq_true rfl) ⟨Nat.le_refl _, Nat.le_refl _⟩ dX4_read_92 (fun H locs w => ?_)
            refine lv_if_ne (tgt := 107) E.1 E.2.1 dX4_read_95 (by decide) (fun c36 => ?_) (fun c36 => ?_)
            · have hf := q_neg c36 hf
              have hf := Option.some.inj hf
              subst hf
              exact q_vret E w hr hlk dX4_read_107
            · have hf := q_pos c36 hf
              refine lv_aload_n E.1 E.2.1 dX4_read_98 rfl (lv_at hl 0 rfl) ?_
              refine lv_iconst (v := 4) E.1 E.2.1 dX4_read_99 rfl ?_
              refine lv_aload_n E.1 E.2.1 dX4_read_100 rfl (lv_at hl 0 rfl) ?_
              refine q_gi E w t_v0 fl_RX4_38 dX4_read_101 ?_
              obtain ⟨h39, hc37, hf⟩ := bd1_e hf
              refine k_Vv (As := [.int 4, .int (h.1 v0 5)]) (rest := []) E w t_v0 ⟨by decide, rfl⟩ (X4_blame_c t_v0 hc37) mv_RX4_71 rfl rfl hl.1 ⟨Nat.le_of_ble_eq_true rfl, Nat.le_of_ble_eq_true rfl⟩ (Nat.le_of_ble_eq_true rfl) ⟨Nat.le_refl _, Nat.le_refl _⟩ dX4_read_104 (fun H locs w => ?_)
              have hf := Option.some.inj hf
              subst hf
              exact q_vret E w hr hlk dX4_read_107
        · have hf := q_neg c31 hf
          refine lv_aload_n E.1 E.2.1 dX4_read_70 rfl (lv_at hl 0 rfl) ?_
          refine lv_iload_n E.1 E.2.1 dX4_read_71 rfl (lv_at hl 1 rfl) ?_
          obtain ⟨h42, hc40, hf⟩ := bd1_e hf
          refine k_Vv (As := [.int v3]) (rest := []) E w t_v0 ⟨by decide, rfl⟩ (X4_readLine_c t_v0 hc40) mv_RX4_64 rfl rfl hl.1 ⟨Nat.le_of_ble_eq_true rfl, Nat.le_of_ble_eq_true rfl⟩ (Nat.le_of_ble_eq_true rfl) ⟨Nat.le_refl _, Nat.le_refl _⟩ dX4_read_72 (fun H locs w => ?_)
          refine lv_iinc (v := v4 + 1) (lv' := [(4, .int (v4 + 1)), (0, .ref (ad G v0)), (3, .int v3)]) E.1 E.2.1 dX4_read_75 hl (k := 2) rfl rfl (by decide) rfl (fun ls hl => ?_)
          refine lv_goto (tgt := 47) E.1 E.2.1 dX4_read_78 (by decide) ?_
          exact ih _ _ _ _ _ _ _ hf w t_v0 (lv_sub hl [1, 2, 0] rfl)

def X4_read (N : Nat) (h : HS) (v0 : Nat) (v1 : Nat) (v2 : Int32) (v3 : Int32) : Option HS := bd1 (X1_clear N h (v0 + 1)) fun h3 => sq (wi h3 (v0 + 11) 3 0) fun h4 => sq (wi h4 v0 2 0) fun h5 => sq (wi h5 v0 3 (-1)) fun h6 => sq (wr h6 v0 v1) fun h7 => sq (wi h7 v0 5 v2) fun h8 => sq (wi h8 v0 8 0) fun h9 => bd1 (X4_advance N h9 v0) fun h12 => X4_read_l47 N N h12 v0 v3 0
set_option maxRecDepth 4000 in
set_option maxHeartbeats 2000000 in
theorem X4_read_c {l : Launch} {G : GT} {N : Nat} {h : HS} {v0 : Nat} {v1 : Nat} {v2 : Int32} {v3 : Int32} {z : HS} (t_v0 : sh v0 = 4) (t_v1 : sh v1 = 12) (hf : X4_read N h v0 v1 v2 v3 = some z) : CT l G yX4_read cX4_read 5 none 9 269 [.ref (ad G v0), .ref (ad G v1), .int v2, .int v3] h none z := by
  unfold X4_read at hf
  refine CT.of (by decide) (Nat.le_of_ble_eq_true rfl) ?_
  intro p e s m below meth c ls E hr hlk w hl
  have hl : lv_has ls 5 [(0, .ref (ad G v0)), (1, .ref (ad G v1)), (2, .int v2), (3, .int v3)] := hl
  refine lv_aload_n E.1 E.2.1 dX4_read_0 rfl (lv_at hl 0 rfl) ?_
  refine q_gs E w 1 t_v0 fl_RX4_12 dX4_read_1 ?_
  obtain ⟨h3, hc1, hf⟩ := bd1_e hf
  refine k_Vv (As := []) (rest := []) E w (lay_4_0 t_v0) ⟨by decide, rfl⟩ (X1_clear_c (lay_4_0 t_v0) hc1) mv_RX4_57 rfl rfl hl.1 ⟨Nat.le_of_ble_eq_true rfl, Nat.le_of_ble_eq_true rfl⟩ (Nat.le_of_ble_eq_true rfl) ⟨Nat.le_refl _, Nat.le_refl _⟩ dX4_read_4 (fun H locs w => ?_)
  refine lv_aload_n E.1 E.2.1 dX4_read_7 rfl (lv_at hl 0 rfl) ?_
  refine q_gs E w 11 t_v0 fl_RX4_23 dX4_read_8 ?_
  refine lv_iconst (v := 0) E.1 E.2.1 dX4_read_11 rfl ?_
  refine p_pi E w (lay_4_1 t_v0) fl_RX4_60 (fp_6_3 _) dX4_read_12 (fun h4 H locs eh w => ?_)
  have hf := sq_e eh hf
  clear eh
  refine lv_aload_n E.1 E.2.1 dX4_read_15 rfl (lv_at hl 0 rfl) ?_
  refine lv_iconst (v := 0) E.1 E.2.1 dX4_read_16 rfl ?_
  refine p_pi E w t_v0 fl_RX4_27 (fp_4_2 _) dX4_read_17 (fun h5 H locs eh w => ?_)
  have hf := sq_e eh hf
  clear eh
  refine lv_aload_n E.1 E.2.1 dX4_read_20 rfl (lv_at hl 0 rfl) ?_
  refine lv_iconst (v := (-1)) E.1 E.2.1 dX4_read_21 rfl ?_
  refine p_pi E w t_v0 fl_RX4_31 (fp_4_3 _) dX4_read_22 (fun h6 H locs eh w => ?_)
  have hf := sq_e eh hf
  clear eh
  refine lv_aload_n E.1 E.2.1 dX4_read_25 rfl (lv_at hl 0 rfl) ?_
  refine lv_aload_n E.1 E.2.1 dX4_read_26 rfl (lv_at hl 1 rfl) ?_
  refine p_pr E w t_v0 fl_RX4_34 (by decide) (fp_4_4 _) ⟨fun _ => t_v1, fun z => absurd rfl z⟩ dX4_read_27 (fun h7 H locs eh w => ?_)
  have hf := sq_e eh hf
  clear eh
  refine lv_aload_n E.1 E.2.1 dX4_read_30 rfl (lv_at hl 0 rfl) ?_
  refine lv_iload_n E.1 E.2.1 dX4_read_31 rfl (lv_at hl 2 rfl) ?_
  refine p_pi E w t_v0 fl_RX4_38 (fp_4_5 _) dX4_read_32 (fun h8 H locs eh w => ?_)
  have hf := sq_e eh hf
  clear eh
  refine lv_aload_n E.1 E.2.1 dX4_read_35 rfl (lv_at hl 0 rfl) ?_
  refine lv_iconst (v := 0) E.1 E.2.1 dX4_read_36 rfl ?_
  refine p_pi E w t_v0 fl_RX4_47 (fp_4_8 _) dX4_read_37 (fun h9 H locs eh w => ?_)
  have hf := sq_e eh hf
  clear eh
  refine lv_aload_n E.1 E.2.1 dX4_read_40 rfl (lv_at hl 0 rfl) ?_
  obtain ⟨h12, hc10, hf⟩ := bd1_e hf
  refine k_Vv (As := []) (rest := []) E w t_v0 ⟨by decide, rfl⟩ (X4_advance_c t_v0 hc10) mv_RX4_61 rfl rfl hl.1 ⟨Nat.le_of_ble_eq_true rfl, Nat.le_of_ble_eq_true rfl⟩ (Nat.le_of_ble_eq_true rfl) ⟨Nat.le_refl _, Nat.le_refl _⟩ dX4_read_41 (fun H locs w => ?_)
  refine lv_iconst (v := 0) E.1 E.2.1 dX4_read_44 rfl ?_
  refine lv_istore (lv' := [(4, .int 0), (0, .ref (ad G v0)), (1, .ref (ad G v1)), (2, .int v2), (3, .int v3)]) E.1 E.2.1 dX4_read_45 hl (by decide) rfl (fun ls hl => ?_)
  exact X4_read_l47_w E hr hlk N _ _ _ _ _ _ _ hf w t_v0 (lv_sub hl [1, 4, 0] rfl)
