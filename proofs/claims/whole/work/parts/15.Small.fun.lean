def X0_enter (N : Nat) (h : HS) (v0 : Nat) (v1 : Nat) : Option HS := sq (wr h v0 v1) fun h1 => sq (wa h1 (v0 + 11) (va_cpy (h1.1 (v1 + 5)) (h1.1 (v0 + 11)) 0 0 8)) fun h2 => some h2
set_option maxRecDepth 4000 in
set_option maxHeartbeats 2000000 in
theorem X0_enter_c {l : Launch} {G : GT} {N : Nat} {h : HS} {v0 : Nat} {v1 : Nat} {z : HS} (t_v0 : sh v0 = 0) (t_v1 : sh v1 = 1) (hf : X0_enter N h v0 v1 = some z) : CT l G yX0_enter cX0_enter 2 none 1 40 [.ref (ad G v0), .ref (ad G v1)] h none z := by
  unfold X0_enter at hf
  refine CT.of (by decide) (Nat.le_of_ble_eq_true rfl) ?_
  intro p e s m below meth c ls E hr hlk w hl
  have hl : lv_has ls 2 [(0, .ref (ad G v0)), (1, .ref (ad G v1))] := hl
  refine lv_aload_n E.1 E.2.1 dX0_enter_0 rfl (lv_at hl 0 rfl) ?_
  refine lv_aload_n E.1 E.2.1 dX0_enter_1 rfl (lv_at hl 1 rfl) ?_
  refine p_pr E w t_v0 fl_RX0_12 (by decide) (fp_0_0 _) ⟨fun z => absurd z (by decide), fun _ => t_v1⟩ dX0_enter_2 (fun h1 H locs eh w => ?_)
  have hf := sq_e eh hf
  clear eh
  refine lv_aload_n E.1 E.2.1 dX0_enter_5 rfl (lv_at hl 1 rfl) ?_
  refine q_gs E w 5 t_v1 fl_RX0_22 dX0_enter_6 ?_
  refine lv_iconst (v := 0) E.1 E.2.1 dX0_enter_9 rfl ?_
  refine lv_aload_n E.1 E.2.1 dX0_enter_10 rfl (lv_at hl 0 rfl) ?_
  refine q_gs E w 11 t_v0 fl_RX0_18 dX0_enter_11 ?_
  refine lv_iconst (v := 0) E.1 E.2.1 dX0_enter_14 rfl ?_
  refine lv_bipush (v := 8) E.1 E.2.1 dX0_enter_15 rfl ?_
  refine p_copy E w (t := 1) (by decide) ((lay_1_9 t_v1).1) ((lay_0_1 t_v0).1) ((lay_1_9 t_v1).2) ((lay_0_1 t_v0).2) mc_RX0_23 hl.1 (sp := 0) (dp := 0) (n := 8) (by decide) (by decide) (by decide) (by decide) (by decide) ⟨Nat.le_of_ble_eq_true rfl, Nat.le_of_ble_eq_true rfl⟩ dX0_enter_17 (fun h2 H locs eh w => ?_)
  have hf := sq_e eh hf
  clear eh
  have hf := Option.some.inj hf
  subst hf
  exact q_vret E w hr hlk dX0_enter_20

def X0_part_b43 (N : Nat) (h : HS) (v0 : Int64) (v2 : Int32) (v3 : Int64) : Option Int64 := (if 0 < (lg_cmp v3 0) then (if v2 = 0 then (if v3 = 0 then none else some (v0 / v3)) else (if v3 = 0 then none else some (100000000 / v3))) else some (-1))
set_option maxRecDepth 4000 in
set_option maxHeartbeats 2000000 in
theorem X0_part_b43_w {p : Program} {l : Launch} {e : Env} {s : State} {m : MethodId} {args : Array Value} {below : List Frame} {meth : Method} {c : Code} {G : GT} {N : Nat} {z : Int64} {h : HS} (E : CallFix p m c cX0_part 10 s args UW RX0) (hr : meth.sig.returnType = (some .long)) (hlk : meth.locks = false) {H : Heap} {locs : List Loc} {ls : Array Slot} {v0 : Int64} {v2 : Int32} {v3 : Int64} (hf : X0_part_b43 N h v0 v2 v3 = some z) (w : WD G s h H locs) (hl : lv_has ls 10 [(0, .long v0), (2, .int v2), (3, .long v3)]) : W p l e ({ frames := 0, cells := 0, slots := 0, locals := 0 } : Room) s m args below meth c H locs 0 0 (MQ below (QC G (some (.long z)) h) args s 0 0 (AD G)) (F0 m 43 ls []) := by
  unfold X0_part_b43 at hf
  refine lv_lload_n E.1 E.2.1 dX0_part_43 rfl (lv_at hl 2 rfl) ?_
  refine lv_lconst (v := 0) E.1 E.2.1 dX0_part_44 rfl ?_
  refine W.lcmp E.1 E.2.1 dX0_part_45 ?_
  refine lv_if_gt (tgt := 53) E.1 E.2.1 dX0_part_46 (by decide) (fun c2 => ?_) (fun c2 => ?_)
  · have hf := q_pos c2 hf
    refine lv_iload_n E.1 E.2.1 dX0_part_53 rfl (lv_at hl 1 rfl) ?_
    refine lv_if_eq (tgt := 65) E.1 E.2.1 dX0_part_54 (by decide) (fun c3 => ?_) (fun c3 => ?_)
    · have hf := q_pos c3 hf
      refine lv_lload_n E.1 E.2.1 dX0_part_65 rfl (lv_at hl 0 rfl) ?_
      refine lv_lload_n E.1 E.2.1 dX0_part_66 rfl (lv_at hl 2 rfl) ?_
      obtain ⟨z4, hf⟩ := q_if hf
      refine lv_ldiv E.1 E.2.1 dX0_part_67 z4 ?_
      have hf := Option.some.inj hf
      subst hf
      exact q_lret E w hr hlk dX0_part_68
    · have hf := q_neg c3 hf
      refine lv_ldc2 (v := 100000000) E.1 E.2.1 E.2.2.2.1 (E.2.2.2.2 _ ct_RX0_29) dX0_part_57 ?_
      refine lv_lload_n E.1 E.2.1 dX0_part_60 rfl (lv_at hl 2 rfl) ?_
      obtain ⟨z5, hf⟩ := q_if hf
      refine lv_ldiv E.1 E.2.1 dX0_part_61 z5 ?_
      refine lv_goto (tgt := 68) E.1 E.2.1 dX0_part_62 (by decide) ?_
      have hf := Option.some.inj hf
      subst hf
      exact q_lret E w hr hlk dX0_part_68
  · have hf := q_neg c2 hf
    refine lv_ldc2 (v := (-1)) E.1 E.2.1 E.2.2.2.1 (E.2.2.2.2 _ ct_RX0_31) dX0_part_49 ?_
    have hf := Option.some.inj hf
    subst hf
    exact q_lret E w hr hlk dX0_part_52

def X0_part_l10 (N : Nat) (h : HS) : Nat → Int64 → Int32 → Int64 → Int64 → Int32 → Option Int64
  | 0, _, _, _, _, _ => none
  | n + 1, v0, v2, v3, v5, v7 => (if (100 : Int32) ≤ v7 then X0_part_b43 N h v0 v2 v3 else (if (lg_cmp v5 0) ≤ 0 then X0_part_b43 N h v0 v2 v3 else (if v5 = 0 then none else X0_part_l10 N h n v0 v2 v5 (v3 - v3 / v5 * v5) (v7 + 1))))
set_option maxRecDepth 4000 in
set_option maxHeartbeats 2000000 in
theorem X0_part_l10_w {p : Program} {l : Launch} {e : Env} {s : State} {m : MethodId} {args : Array Value} {below : List Frame} {meth : Method} {c : Code} {G : GT} {N : Nat} {h : HS} {z : Int64} (E : CallFix p m c cX0_part 10 s args UW RX0) (hr : meth.sig.returnType = (some .long)) (hlk : meth.locks = false) : ∀ (n : Nat) (H : Heap) (locs : List Loc) (ls : Array Slot) (v0 : Int64) (v2 : Int32) (v3 : Int64) (v5 : Int64) (v7 : Int32), X0_part_l10 N h n v0 v2 v3 v5 v7 = some z → WD G s h H locs → lv_has ls 10 [(0, .long v0), (2, .int v2), (3, .long v3), (5, .long v5), (7, .int v7)] → W p l e ({ frames := 0, cells := 0, slots := 0, locals := 0 } : Room) s m args below meth c H locs 0 0 (MQ below (QC G (some (.long z)) h) args s 0 0 (AD G)) (F0 m 10 ls []) := by
  intro n
  induction n with
  | zero =>
    intro H locs ls v0 v2 v3 v5 v7 hf
    cases hf
  | succ n ih =>
    intro H locs ls v0 v2 v3 v5 v7 hf w  hl
    unfold X0_part_l10 at hf
    refine lv_iload E.1 E.2.1 dX0_part_10 (lv_at hl 4 rfl) ?_
    refine lv_bipush (v := 100) E.1 E.2.1 dX0_part_12 rfl ?_
    refine lv_icmp_ge (tgt := 43) E.1 E.2.1 dX0_part_14 (by decide) (fun c1 => ?_) (fun c1 => ?_)
    · have hf := q_pos c1 hf
      exact X0_part_b43_w E hr hlk hf w  (lv_sub hl [0, 1, 2] rfl)
    · have hf := q_neg c1 hf
      refine lv_lload E.1 E.2.1 dX0_part_17 (lv_at hl 3 rfl) ?_
      refine lv_lconst (v := 0) E.1 E.2.1 dX0_part_19 rfl ?_
      refine W.lcmp E.1 E.2.1 dX0_part_20 ?_
      refine lv_if_le (tgt := 43) E.1 E.2.1 dX0_part_21 (by decide) (fun c6 => ?_) (fun c6 => ?_)
      · have hf := q_pos c6 hf
        exact X0_part_b43_w E hr hlk hf w  (lv_sub hl [0, 1, 2] rfl)
      · have hf := q_neg c6 hf
        refine lv_lload_n E.1 E.2.1 dX0_part_24 rfl (lv_at hl 2 rfl) ?_
        refine lv_lload E.1 E.2.1 dX0_part_25 (lv_at hl 3 rfl) ?_
        obtain ⟨z7, hf⟩ := q_if hf
        refine lv_lrem E.1 E.2.1 dX0_part_27 z7 ?_
        refine lv_lstore (lv' := [(8, .long (v3 - v3 / v5 * v5)), (0, .long v0), (2, .int v2), (3, .long v3), (5, .long v5), (7, .int v7)]) E.1 E.2.1 dX0_part_28 hl (by decide) rfl (fun ls hl => ?_)
        refine lv_lload E.1 E.2.1 dX0_part_30 (lv_at hl 4 rfl) ?_
        refine lv_lstore_n (lv' := [(3, .long v5), (8, .long (v3 - v3 / v5 * v5)), (0, .long v0), (2, .int v2), (5, .long v5), (7, .int v7)]) E.1 E.2.1 dX0_part_32 rfl hl (by decide) rfl (fun ls hl => ?_)
        refine lv_lload E.1 E.2.1 dX0_part_33 (lv_at hl 1 rfl) ?_
        refine lv_lstore (lv' := [(5, .long (v3 - v3 / v5 * v5)), (3, .long v5), (8, .long (v3 - v3 / v5 * v5)), (0, .long v0), (2, .int v2), (7, .int v7)]) E.1 E.2.1 dX0_part_35 hl (by decide) rfl (fun ls hl => ?_)
        refine lv_iinc (v := v7 + 1) (lv' := [(7, .int (v7 + 1)), (5, .long (v3 - v3 / v5 * v5)), (3, .long v5), (8, .long (v3 - v3 / v5 * v5)), (0, .long v0), (2, .int v2)]) E.1 E.2.1 dX0_part_37 hl (k := 5) rfl rfl (by decide) rfl (fun ls hl => ?_)
        refine lv_goto (tgt := 10) E.1 E.2.1 dX0_part_40 (by decide) ?_
        exact ih _ _ _ _ _ _ _ _ hf w  (lv_sub hl [4, 5, 2, 1, 0] rfl)

def X0_part (N : Nat) (h : HS) (v0 : Int64) (v2 : Int32) : Option Int64 := X0_part_l10 N h N v0 v2 100000000 v0 0
set_option maxRecDepth 4000 in
set_option maxHeartbeats 2000000 in
theorem X0_part_c {l : Launch} {G : GT} {N : Nat} {h : HS} {v0 : Int64} {v2 : Int32} {z : Int64} (hf : X0_part N h v0 v2 = some z) : CT l G yX0_part cX0_part 10 (some .long) 0 0 [.long v0, .int v2] h (some (.long z)) h := by
  unfold X0_part at hf
  refine CT.of (by decide) (Nat.le_of_ble_eq_true rfl) ?_
  intro p e s m below meth c ls E hr hlk w hl
  have hl : lv_has ls 10 [(0, .long v0), (2, .int v2)] := hl
  refine lv_ldc2 (v := 100000000) E.1 E.2.1 E.2.2.2.1 (E.2.2.2.2 _ ct_RX0_29) dX0_part_0 ?_
  refine lv_lstore_n (lv' := [(3, .long 100000000), (0, .long v0), (2, .int v2)]) E.1 E.2.1 dX0_part_3 rfl hl (by decide) rfl (fun ls hl => ?_)
  refine lv_lload_n E.1 E.2.1 dX0_part_4 rfl (lv_at hl 1 rfl) ?_
  refine lv_lstore (lv' := [(5, .long v0), (3, .long 100000000), (0, .long v0), (2, .int v2)]) E.1 E.2.1 dX0_part_5 hl (by decide) rfl (fun ls hl => ?_)
  refine lv_iconst (v := 0) E.1 E.2.1 dX0_part_7 rfl ?_
  refine lv_istore (lv' := [(7, .int 0), (5, .long v0), (3, .long 100000000), (0, .long v0), (2, .int v2)]) E.1 E.2.1 dX0_part_8 hl (by decide) rfl (fun ls hl => ?_)
  exact X0_part_l10_w E hr hlk N _ _ _ _ _ _ _ _ hf w  (lv_sub hl [3, 4, 2, 1, 0] rfl)

def X0_asleep_b40 (N : Nat) (h : HS) (K5 : Nat → Int32 → Int64 → Int32 → Option Int64) (v0 : Nat) (v1 : Int32) (v2 : Int64) (v4 : Int32) (u0 : Int32) : Option Int64 := (if u0 = 0 then K5 v0 v1 (v2 * 10) (v4 + 1) else bd1 (X10_at N h ((h.2 v0) + 6) v4) fun r10 => K5 v0 v1 (v2 * ((10 - r10).toInt64)) (v4 + 1))
set_option maxRecDepth 4000 in
set_option maxHeartbeats 2000000 in
theorem X0_asleep_b40_w {p : Program} {l : Launch} {e : Env} {s : State} {m : MethodId} {args : Array Value} {below : List Frame} {meth : Method} {c : Code} {G : GT} {N : Nat} {z : Int64} {h : HS} (E : CallFix p m c cX0_asleep 6 s args UW RX0) (hr : meth.sig.returnType = (some .long)) (hlk : meth.locks = false) {K5 : Nat → Int32 → Int64 → Int32 → Option Int64} (hK5 : ∀ (H : Heap) (locs : List Loc) (ls : Array Slot) (v0 : Nat) (v1 : Int32) (v2 : Int64) (v4 : Int32), K5 v0 v1 v2 v4 = some z → WD G s h H locs → sh v0 = 0 → lv_has ls 6 [(0, .ref (ad G v0)), (1, .int v1), (2, .long v2), (4, .int v4)] → W p l e ({ frames := 2, cells := 0, slots := 0, locals := 42 } : Room) s m args below meth c H locs 0 0 (MQ below (QC G (some (.long z)) h) args s 0 0 (AD G)) (F0 m 5 ls [])) {H : Heap} {locs : List Loc} {ls : Array Slot} {v0 : Nat} {v1 : Int32} {v2 : Int64} {v4 : Int32} {u0 : Int32} (hf : X0_asleep_b40 N h K5 v0 v1 v2 v4 u0 = some z) (w : WD G s h H locs) (t_v0 : sh v0 = 0) (hl : lv_has ls 6 [(0, .ref (ad G v0)), (1, .int v1), (2, .long v2), (4, .int v4)]) : W p l e ({ frames := 2, cells := 0, slots := 0, locals := 42 } : Room) s m args below meth c H locs 0 0 (MQ below (QC G (some (.long z)) h) args s 0 0 (AD G)) (F0 m 40 ls [.int u0]) := by
  unfold X0_asleep_b40 at hf
  refine lv_istore (lv' := [(5, .int u0), (0, .ref (ad G v0)), (1, .int v1), (2, .long v2), (4, .int v4)]) E.1 E.2.1 dX0_asleep_40 hl (by decide) rfl (fun ls hl => ?_)
  refine lv_lload_n E.1 E.2.1 dX0_asleep_42 rfl (lv_at hl 3 rfl) ?_
  refine lv_iload E.1 E.2.1 dX0_asleep_43 (lv_at hl 0 rfl) ?_
  refine lv_if_eq (tgt := 67) E.1 E.2.1 dX0_asleep_45 (by decide) (fun c7 => ?_) (fun c7 => ?_)
  · have hf := q_pos c7 hf
    refine lv_ldc2 (v := 10) E.1 E.2.1 E.2.2.2.1 (E.2.2.2.2 _ ct_RX0_44) dX0_asleep_67 ?_
    refine lv_lmul E.1 E.2.1 dX0_asleep_70 ?_
    refine lv_lstore_n (lv' := [(2, .long (v2 * 10)), (5, .int u0), (0, .ref (ad G v0)), (1, .int v1), (4, .int v4)]) E.1 E.2.1 dX0_asleep_71 rfl hl (by decide) rfl (fun ls hl => ?_)
    refine lv_iinc (v := v4 + 1) (lv' := [(4, .int (v4 + 1)), (2, .long (v2 * 10)), (5, .int u0), (0, .ref (ad G v0)), (1, .int v1)]) E.1 E.2.1 dX0_asleep_72 hl (k := 4) rfl rfl (by decide) rfl (fun ls hl => ?_)
    refine lv_goto (tgt := 5) E.1 E.2.1 dX0_asleep_75 (by decide) ?_
    exact hK5 _ _ _ _ _ _ _ hf w t_v0 (lv_sub hl [3, 4, 1, 0] rfl)
  · have hf := q_neg c7 hf
    refine lv_bipush (v := 10) E.1 E.2.1 dX0_asleep_48 rfl ?_
    refine lv_aload_n E.1 E.2.1 dX0_asleep_50 rfl (lv_at hl 1 rfl) ?_
    refine q_gh E w t_v0 (by decide) fl_RX0_12 dX0_asleep_51 (fun t8 => ?_)
    refine q_gs E w 6 t8 fl_RX0_37 dX0_asleep_54 ?_
    refine lv_iload E.1 E.2.1 dX0_asleep_57 (lv_at hl 4 rfl) ?_
    obtain ⟨r10, hc9, hf⟩ := bd1_e hf
    refine k_Ni (As := [.ref (ad G ((h.2 v0) + 6)), .int v4]) (rest := [.int 10, .long v2]) E w (X10_at_c ((lay_1_10 t8).1) hc9) mn_RX0_40 rfl rfl hl.1 ⟨Nat.le_of_ble_eq_true rfl, Nat.le_of_ble_eq_true rfl⟩ (Nat.le_of_ble_eq_true rfl) ⟨Nat.le_refl _, Nat.le_refl _⟩ dX0_asleep_59 (fun H locs w => ?_)
    refine lv_isub E.1 E.2.1 dX0_asleep_62 ?_
    refine lv_i2l (v := (10 - r10).toInt64) E.1 E.2.1 dX0_asleep_63 rfl ?_
    refine lv_goto (tgt := 70) E.1 E.2.1 dX0_asleep_64 (by decide) ?_
    refine lv_lmul E.1 E.2.1 dX0_asleep_70 ?_
    refine lv_lstore_n (lv' := [(2, .long (v2 * ((10 - r10).toInt64))), (5, .int u0), (0, .ref (ad G v0)), (1, .int v1), (4, .int v4)]) E.1 E.2.1 dX0_asleep_71 rfl hl (by decide) rfl (fun ls hl => ?_)
    refine lv_iinc (v := v4 + 1) (lv' := [(4, .int (v4 + 1)), (2, .long (v2 * ((10 - r10).toInt64))), (5, .int u0), (0, .ref (ad G v0)), (1, .int v1)]) E.1 E.2.1 dX0_asleep_72 hl (k := 4) rfl rfl (by decide) rfl (fun ls hl => ?_)
    refine lv_goto (tgt := 5) E.1 E.2.1 dX0_asleep_75 (by decide) ?_
    exact hK5 _ _ _ _ _ _ _ hf w t_v0 (lv_sub hl [3, 4, 1, 0] rfl)

def X0_asleep_l5 (N : Nat) (h : HS) : Nat → Nat → Int32 → Int64 → Int32 → Option Int64
  | 0, _, _, _, _ => none
  | n + 1, v0, v1, v2, v4 => (if (8 : Int32) ≤ v4 then some v2 else bd1 (X1_sounds N h (h.2 v0) v4) fun r4 => (if r4 = 0 then X0_asleep_b40 N h (X0_asleep_l5 N h n) v0 v1 v2 v4 0 else (if v4 < 0 ∨ 8 ≤ v4.toNatClampNeg then none else (if v1 < (h.1 (v0 + 11) v4.toNatClampNeg) then X0_asleep_b40 N h (X0_asleep_l5 N h n) v0 v1 v2 v4 0 else X0_asleep_b40 N h (X0_asleep_l5 N h n) v0 v1 v2 v4 1))))
set_option maxRecDepth 4000 in
set_option maxHeartbeats 2000000 in
theorem X0_asleep_l5_w {p : Program} {l : Launch} {e : Env} {s : State} {m : MethodId} {args : Array Value} {below : List Frame} {meth : Method} {c : Code} {G : GT} {N : Nat} {h : HS} {z : Int64} (E : CallFix p m c cX0_asleep 6 s args UW RX0) (hr : meth.sig.returnType = (some .long)) (hlk : meth.locks = false) : ∀ (n : Nat) (H : Heap) (locs : List Loc) (ls : Array Slot) (v0 : Nat) (v1 : Int32) (v2 : Int64) (v4 : Int32), X0_asleep_l5 N h n v0 v1 v2 v4 = some z → WD G s h H locs → sh v0 = 0 → lv_has ls 6 [(0, .ref (ad G v0)), (1, .int v1), (2, .long v2), (4, .int v4)] → W p l e ({ frames := 2, cells := 0, slots := 0, locals := 42 } : Room) s m args below meth c H locs 0 0 (MQ below (QC G (some (.long z)) h) args s 0 0 (AD G)) (F0 m 5 ls []) := by
  intro n
  induction n with
  | zero =>
    intro H locs ls v0 v1 v2 v4 hf
    cases hf
  | succ n ih =>
    intro H locs ls v0 v1 v2 v4 hf w t_v0 hl
    unfold X0_asleep_l5 at hf
    refine lv_iload E.1 E.2.1 dX0_asleep_5 (lv_at hl 3 rfl) ?_
    refine lv_bipush (v := 8) E.1 E.2.1 dX0_asleep_7 rfl ?_
    refine lv_icmp_ge (tgt := 78) E.1 E.2.1 dX0_asleep_9 (by decide) (fun c1 => ?_) (fun c1 => ?_)
    · have hf := q_pos c1 hf
      refine lv_lload_n E.1 E.2.1 dX0_asleep_78 rfl (lv_at hl 2 rfl) ?_
      have hf := Option.some.inj hf
      subst hf
      exact q_lret E w hr hlk dX0_asleep_79
    · have hf := q_neg c1 hf
      refine lv_aload_n E.1 E.2.1 dX0_asleep_12 rfl (lv_at hl 0 rfl) ?_
      refine q_gh E w t_v0 (by decide) fl_RX0_12 dX0_asleep_13 (fun t2 => ?_)
      refine lv_iload E.1 E.2.1 dX0_asleep_16 (lv_at hl 3 rfl) ?_
      obtain ⟨r4, hc3, hf⟩ := bd1_e hf
      refine k_Vi (As := [.int v4]) (rest := []) E w t2 ⟨by decide, rfl⟩ (X1_sounds_c t2 hc3) mv_RX0_33 rfl rfl hl.1 ⟨Nat.le_of_ble_eq_true rfl, Nat.le_of_ble_eq_true rfl⟩ (Nat.le_of_ble_eq_true rfl) ⟨Nat.le_refl _, Nat.le_refl _⟩ dX0_asleep_18 (fun H locs w => ?_)
      refine lv_if_eq (tgt := 39) E.1 E.2.1 dX0_asleep_21 (by decide) (fun c6 => ?_) (fun c6 => ?_)
      · have hf := q_pos c6 hf
        refine lv_iconst (v := 0) E.1 E.2.1 dX0_asleep_39 rfl ?_
        exact X0_asleep_b40_w E hr hlk ih hf w t_v0 (lv_sub hl [0, 1, 2, 3] rfl)
      · have hf := q_neg c6 hf
        refine lv_aload_n E.1 E.2.1 dX0_asleep_24 rfl (lv_at hl 0 rfl) ?_
        refine q_gs E w 11 t_v0 fl_RX0_18 dX0_asleep_25 ?_
        refine lv_iload E.1 E.2.1 dX0_asleep_28 (lv_at hl 3 rfl) ?_
        obtain ⟨b12, hf⟩ := q_if hf
        refine q_iald E w ((lay_0_1 t_v0).1) ((lay_0_1 t_v0).2) b12 dX0_asleep_30 ?_
        refine lv_iload_n E.1 E.2.1 dX0_asleep_31 rfl (lv_at hl 1 rfl) ?_
        refine lv_icmp_gt (tgt := 39) E.1 E.2.1 dX0_asleep_32 (by decide) (fun c13 => ?_) (fun c13 => ?_)
        · have hf := q_pos c13 hf
          refine lv_iconst (v := 0) E.1 E.2.1 dX0_asleep_39 rfl ?_
          exact X0_asleep_b40_w E hr hlk ih hf w t_v0 (lv_sub hl [0, 1, 2, 3] rfl)
        · have hf := q_neg c13 hf
          refine lv_iconst (v := 1) E.1 E.2.1 dX0_asleep_35 rfl ?_
          refine lv_goto (tgt := 40) E.1 E.2.1 dX0_asleep_36 (by decide) ?_
          exact X0_asleep_b40_w E hr hlk ih hf w t_v0 (lv_sub hl [0, 1, 2, 3] rfl)

def X0_asleep (N : Nat) (h : HS) (v0 : Nat) (v1 : Int32) : Option Int64 := X0_asleep_l5 N h N v0 v1 1 0
set_option maxRecDepth 4000 in
set_option maxHeartbeats 2000000 in
theorem X0_asleep_c {l : Launch} {G : GT} {N : Nat} {h : HS} {v0 : Nat} {v1 : Int32} {z : Int64} (t_v0 : sh v0 = 0) (hf : X0_asleep N h v0 v1 = some z) : CT l G yX0_asleep cX0_asleep 6 (some .long) 2 42 [.ref (ad G v0), .int v1] h (some (.long z)) h := by
  unfold X0_asleep at hf
  refine CT.of (by decide) (Nat.le_of_ble_eq_true rfl) ?_
  intro p e s m below meth c ls E hr hlk w hl
  have hl : lv_has ls 6 [(0, .ref (ad G v0)), (1, .int v1)] := hl
  refine lv_lconst (v := 1) E.1 E.2.1 dX0_asleep_0 rfl ?_
  refine lv_lstore_n (lv' := [(2, .long 1), (0, .ref (ad G v0)), (1, .int v1)]) E.1 E.2.1 dX0_asleep_1 rfl hl (by decide) rfl (fun ls hl => ?_)
  refine lv_iconst (v := 0) E.1 E.2.1 dX0_asleep_2 rfl ?_
  refine lv_istore (lv' := [(4, .int 0), (2, .long 1), (0, .ref (ad G v0)), (1, .int v1)]) E.1 E.2.1 dX0_asleep_3 hl (by decide) rfl (fun ls hl => ?_)
  exact X0_asleep_l5_w E hr hlk N _ _ _ _ _ _ _ hf w t_v0 (lv_sub hl [2, 3, 1, 0] rfl)

def X0_mean_l4 (N : Nat) (h : HS) : Nat → Nat → Int64 → Int32 → Option Int64
  | 0, _, _, _ => none
  | n + 1, v0, v1, v3 => (if (h.1 (h.2 v0) 0) ≤ v3 then some v1 else bd1 (X10_at N h ((h.2 v0) + 2) v3) fun r5 => bd1 (X0_asleep N h v0 v3) fun r8 => X0_mean_l4 N h n v0 (v1 + (r5.toInt64 * (100000000 - r8))) (v3 + 1))
set_option maxRecDepth 4000 in
set_option maxHeartbeats 2000000 in
theorem X0_mean_l4_w {p : Program} {l : Launch} {e : Env} {s : State} {m : MethodId} {args : Array Value} {below : List Frame} {meth : Method} {c : Code} {G : GT} {N : Nat} {h : HS} {z : Int64} (E : CallFix p m c cX0_mean 4 s args UW RX0) (hr : meth.sig.returnType = (some .long)) (hlk : meth.locks = false) : ∀ (n : Nat) (H : Heap) (locs : List Loc) (ls : Array Slot) (v0 : Nat) (v1 : Int64) (v3 : Int32), X0_mean_l4 N h n v0 v1 v3 = some z → WD G s h H locs → sh v0 = 0 → lv_has ls 4 [(0, .ref (ad G v0)), (1, .long v1), (3, .int v3)] → W p l e ({ frames := 3, cells := 0, slots := 0, locals := 67 } : Room) s m args below meth c H locs 0 0 (MQ below (QC G (some (.long z)) h) args s 0 0 (AD G)) (F0 m 4 ls []) := by
  intro n
  induction n with
  | zero =>
    intro H locs ls v0 v1 v3 hf
    cases hf
  | succ n ih =>
    intro H locs ls v0 v1 v3 hf w t_v0 hl
    unfold X0_mean_l4 at hf
    refine lv_iload_n E.1 E.2.1 dX0_mean_4 rfl (lv_at hl 2 rfl) ?_
    refine lv_aload_n E.1 E.2.1 dX0_mean_5 rfl (lv_at hl 0 rfl) ?_
    refine q_gh E w t_v0 (by decide) fl_RX0_12 dX0_mean_6 (fun t1 => ?_)
    refine q_gi E w t1 fl_RX0_46 dX0_mean_9 ?_
    refine lv_icmp_ge (tgt := 46) E.1 E.2.1 dX0_mean_12 (by decide) (fun c2 => ?_) (fun c2 => ?_)
    · have hf := q_pos c2 hf
      refine lv_lload_n E.1 E.2.1 dX0_mean_46 rfl (lv_at hl 1 rfl) ?_
      have hf := Option.some.inj hf
      subst hf
      exact q_lret E w hr hlk dX0_mean_47
    · have hf := q_neg c2 hf
      refine lv_lload_n E.1 E.2.1 dX0_mean_15 rfl (lv_at hl 1 rfl) ?_
      refine lv_aload_n E.1 E.2.1 dX0_mean_16 rfl (lv_at hl 0 rfl) ?_
      refine q_gh E w t_v0 (by decide) fl_RX0_12 dX0_mean_17 (fun t3 => ?_)
      refine q_gs E w 2 t3 fl_RX0_50 dX0_mean_20 ?_
      refine lv_iload_n E.1 E.2.1 dX0_mean_23 rfl (lv_at hl 2 rfl) ?_
      obtain ⟨r5, hc4, hf⟩ := bd1_e hf
      refine k_Ni (As := [.ref (ad G ((h.2 v0) + 2)), .int v3]) (rest := [.long v1]) E w (X10_at_c ((lay_1_6 t3).1) hc4) mn_RX0_40 rfl rfl hl.1 ⟨Nat.le_of_ble_eq_true rfl, Nat.le_of_ble_eq_true rfl⟩ (Nat.le_of_ble_eq_true rfl) ⟨Nat.le_refl _, Nat.le_refl _⟩ dX0_mean_24 (fun H locs w => ?_)
      refine lv_i2l (v := r5.toInt64) E.1 E.2.1 dX0_mean_27 rfl ?_
      refine lv_ldc2 (v := 100000000) E.1 E.2.1 E.2.2.2.1 (E.2.2.2.2 _ ct_RX0_29) dX0_mean_28 ?_
      refine lv_aload_n E.1 E.2.1 dX0_mean_31 rfl (lv_at hl 0 rfl) ?_
      refine lv_iload_n E.1 E.2.1 dX0_mean_32 rfl (lv_at hl 2 rfl) ?_
      obtain ⟨r8, hc7, hf⟩ := bd1_e hf
      refine k_Vl (As := [.int v3]) (rest := [.long 100000000, .long r5.toInt64, .long v1]) E w t_v0 ⟨by decide, rfl⟩ (X0_asleep_c t_v0 hc7) mv_RX0_53 rfl rfl hl.1 ⟨Nat.le_of_ble_eq_true rfl, Nat.le_of_ble_eq_true rfl⟩ (Nat.le_of_ble_eq_true rfl) ⟨Nat.le_refl _, Nat.le_refl _⟩ dX0_mean_33 (fun H locs w => ?_)
      refine lv_lsub E.1 E.2.1 dX0_mean_36 ?_
      refine lv_lmul E.1 E.2.1 dX0_mean_37 ?_
      refine lv_ladd E.1 E.2.1 dX0_mean_38 ?_
      refine lv_lstore_n (lv' := [(1, .long (v1 + (r5.toInt64 * (100000000 - r8)))), (0, .ref (ad G v0)), (3, .int v3)]) E.1 E.2.1 dX0_mean_39 rfl hl (by decide) rfl (fun ls hl => ?_)
      refine lv_iinc (v := v3 + 1) (lv' := [(3, .int (v3 + 1)), (1, .long (v1 + (r5.toInt64 * (100000000 - r8)))), (0, .ref (ad G v0))]) E.1 E.2.1 dX0_mean_40 hl (k := 2) rfl rfl (by decide) rfl (fun ls hl => ?_)
      refine lv_goto (tgt := 4) E.1 E.2.1 dX0_mean_43 (by decide) ?_
      exact ih _ _ _ _ _ _ hf w t_v0 (lv_sub hl [2, 1, 0] rfl)

def X0_mean (N : Nat) (h : HS) (v0 : Nat) : Option Int64 := X0_mean_l4 N h N v0 0 0
set_option maxRecDepth 4000 in
set_option maxHeartbeats 2000000 in
theorem X0_mean_c {l : Launch} {G : GT} {N : Nat} {h : HS} {v0 : Nat} {z : Int64} (t_v0 : sh v0 = 0) (hf : X0_mean N h v0 = some z) : CT l G yX0_mean cX0_mean 4 (some .long) 3 67 [.ref (ad G v0)] h (some (.long z)) h := by
  unfold X0_mean at hf
  refine CT.of (by decide) (Nat.le_of_ble_eq_true rfl) ?_
  intro p e s m below meth c ls E hr hlk w hl
  have hl : lv_has ls 4 [(0, .ref (ad G v0))] := hl
  refine lv_lconst (v := 0) E.1 E.2.1 dX0_mean_0 rfl ?_
  refine lv_lstore_n (lv' := [(1, .long 0), (0, .ref (ad G v0))]) E.1 E.2.1 dX0_mean_1 rfl hl (by decide) rfl (fun ls hl => ?_)
  refine lv_iconst (v := 0) E.1 E.2.1 dX0_mean_2 rfl ?_
  refine lv_istore_n (lv' := [(3, .int 0), (1, .long 0), (0, .ref (ad G v0))]) E.1 E.2.1 dX0_mean_3 rfl hl (by decide) rfl (fun ls hl => ?_)
  exact X0_mean_l4_w E hr hlk N _ _ _ _ _ _ hf w t_v0 (lv_sub hl [2, 1, 0] rfl)

def X0_atLeast_l18 (N : Nat) (h : HS) : Nat → Nat → Int32 → Int32 → Option Int64
  | 0, _, _, _ => none
  | n + 1, v0, v1, v2 => (if v2 < 0 then some 0 else bd1 (X1_from N h (h.2 v0) v2) fun r7 => bd1 (X1_peopleOf N h (h.2 v0) r7) fun r10 => (if r10 < v1 then X0_atLeast_l18 N h n v0 v1 (v2 + (-1)) else bd1 (X0_asleep N h v0 v2) fun r14 => some (100000000 - r14)))
set_option maxRecDepth 4000 in
set_option maxHeartbeats 2000000 in
theorem X0_atLeast_l18_w {p : Program} {l : Launch} {e : Env} {s : State} {m : MethodId} {args : Array Value} {below : List Frame} {meth : Method} {c : Code} {G : GT} {N : Nat} {h : HS} {z : Int64} (E : CallFix p m c cX0_atLeast 3 s args UW RX0) (hr : meth.sig.returnType = (some .long)) (hlk : meth.locks = false) : ∀ (n : Nat) (H : Heap) (locs : List Loc) (ls : Array Slot) (v0 : Nat) (v1 : Int32) (v2 : Int32), X0_atLeast_l18 N h n v0 v1 v2 = some z → WD G s h H locs → sh v0 = 0 → lv_has ls 3 [(0, .ref (ad G v0)), (1, .int v1), (2, .int v2)] → W p l e ({ frames := 3, cells := 0, slots := 0, locals := 67 } : Room) s m args below meth c H locs 0 0 (MQ below (QC G (some (.long z)) h) args s 0 0 (AD G)) (F0 m 18 ls []) := by
  intro n
  induction n with
  | zero =>
    intro H locs ls v0 v1 v2 hf
    cases hf
  | succ n ih =>
    intro H locs ls v0 v1 v2 hf w t_v0 hl
    unfold X0_atLeast_l18 at hf
    refine lv_iload_n E.1 E.2.1 dX0_atLeast_18 rfl (lv_at hl 2 rfl) ?_
    refine lv_if_lt (tgt := 57) E.1 E.2.1 dX0_atLeast_19 (by decide) (fun c3 => ?_) (fun c3 => ?_)
    · have hf := q_pos c3 hf
      refine lv_lconst (v := 0) E.1 E.2.1 dX0_atLeast_57 rfl ?_
      have hf := Option.some.inj hf
      subst hf
      exact q_lret E w hr hlk dX0_atLeast_58
    · have hf := q_neg c3 hf
      refine lv_aload_n E.1 E.2.1 dX0_atLeast_22 rfl (lv_at hl 0 rfl) ?_
      refine q_gh E w t_v0 (by decide) fl_RX0_12 dX0_atLeast_23 (fun t4 => ?_)
      refine lv_aload_n E.1 E.2.1 dX0_atLeast_26 rfl (lv_at hl 0 rfl) ?_
      refine q_gh E w t_v0 (by decide) fl_RX0_12 dX0_atLeast_27 (fun t5 => ?_)
      refine lv_iload_n E.1 E.2.1 dX0_atLeast_30 rfl (lv_at hl 2 rfl) ?_
      obtain ⟨r7, hc6, hf⟩ := bd1_e hf
      refine k_Vi (As := [.int v2]) (rest := [.ref (ad G (h.2 v0))]) E w t5 ⟨by decide, rfl⟩ (X1_from_c t5 hc6) mv_RX0_57 rfl rfl hl.1 ⟨Nat.le_of_ble_eq_true rfl, Nat.le_of_ble_eq_true rfl⟩ (Nat.le_of_ble_eq_true rfl) ⟨Nat.le_refl _, Nat.le_refl _⟩ dX0_atLeast_31 (fun H locs w => ?_)
      obtain ⟨r10, hc9, hf⟩ := bd1_e hf
      refine k_Vi (As := [.int r7]) (rest := []) E w t4 ⟨by decide, rfl⟩ (X1_peopleOf_c t4 hc9) mv_RX0_61 rfl rfl hl.1 ⟨Nat.le_of_ble_eq_true rfl, Nat.le_of_ble_eq_true rfl⟩ (Nat.le_of_ble_eq_true rfl) ⟨Nat.le_refl _, Nat.le_refl _⟩ dX0_atLeast_34 (fun H locs w => ?_)
      refine lv_iload_n E.1 E.2.1 dX0_atLeast_37 rfl (lv_at hl 1 rfl) ?_
      refine lv_icmp_lt (tgt := 51) E.1 E.2.1 dX0_atLeast_38 (by decide) (fun c12 => ?_) (fun c12 => ?_)
      · have hf := q_pos c12 hf
        refine lv_iinc (v := v2 + (-1)) (lv' := [(2, .int (v2 + (-1))), (0, .ref (ad G v0)), (1, .int v1)]) E.1 E.2.1 dX0_atLeast_51 hl (k := 2) rfl rfl (by decide) rfl (fun ls hl => ?_)
        refine lv_goto (tgt := 18) E.1 E.2.1 dX0_atLeast_54 (by decide) ?_
        exact ih _ _ _ _ _ _ hf w t_v0 (lv_sub hl [1, 2, 0] rfl)
      · have hf := q_neg c12 hf
        refine lv_ldc2 (v := 100000000) E.1 E.2.1 E.2.2.2.1 (E.2.2.2.2 _ ct_RX0_29) dX0_atLeast_41 ?_
        refine lv_aload_n E.1 E.2.1 dX0_atLeast_44 rfl (lv_at hl 0 rfl) ?_
        refine lv_iload_n E.1 E.2.1 dX0_atLeast_45 rfl (lv_at hl 2 rfl) ?_
        obtain ⟨r14, hc13, hf⟩ := bd1_e hf
        refine k_Vl (As := [.int v2]) (rest := [.long 100000000]) E w t_v0 ⟨by decide, rfl⟩ (X0_asleep_c t_v0 hc13) mv_RX0_53 rfl rfl hl.1 ⟨Nat.le_of_ble_eq_true rfl, Nat.le_of_ble_eq_true rfl⟩ (Nat.le_of_ble_eq_true rfl) ⟨Nat.le_refl _, Nat.le_refl _⟩ dX0_atLeast_46 (fun H locs w => ?_)
        refine lv_lsub E.1 E.2.1 dX0_atLeast_49 ?_
        have hf := Option.some.inj hf
        subst hf
        exact q_lret E w hr hlk dX0_atLeast_50

def X0_atLeast (N : Nat) (h : HS) (v0 : Nat) (v1 : Int32) : Option Int64 := (if 0 < v1 then X0_atLeast_l18 N h N v0 v1 ((h.1 (h.2 v0) 0) - 1) else some 100000000)
set_option maxRecDepth 4000 in
set_option maxHeartbeats 2000000 in
theorem X0_atLeast_c {l : Launch} {G : GT} {N : Nat} {h : HS} {v0 : Nat} {v1 : Int32} {z : Int64} (t_v0 : sh v0 = 0) (hf : X0_atLeast N h v0 v1 = some z) : CT l G yX0_atLeast cX0_atLeast 3 (some .long) 3 67 [.ref (ad G v0), .int v1] h (some (.long z)) h := by
  unfold X0_atLeast at hf
  refine CT.of (by decide) (Nat.le_of_ble_eq_true rfl) ?_
  intro p e s m below meth c ls E hr hlk w hl
  have hl : lv_has ls 3 [(0, .ref (ad G v0)), (1, .int v1)] := hl
  refine lv_iload_n E.1 E.2.1 dX0_atLeast_0 rfl (lv_at hl 1 rfl) ?_
  refine lv_if_gt (tgt := 8) E.1 E.2.1 dX0_atLeast_1 (by decide) (fun c1 => ?_) (fun c1 => ?_)
  · have hf := q_pos c1 hf
    refine lv_aload_n E.1 E.2.1 dX0_atLeast_8 rfl (lv_at hl 0 rfl) ?_
    refine q_gh E w t_v0 (by decide) fl_RX0_12 dX0_atLeast_9 (fun t2 => ?_)
    refine q_gi E w t2 fl_RX0_46 dX0_atLeast_12 ?_
    refine lv_iconst (v := 1) E.1 E.2.1 dX0_atLeast_15 rfl ?_
    refine lv_isub E.1 E.2.1 dX0_atLeast_16 ?_
    refine lv_istore_n (lv' := [(2, .int ((h.1 (h.2 v0) 0) - 1)), (0, .ref (ad G v0)), (1, .int v1)]) E.1 E.2.1 dX0_atLeast_17 rfl hl (by decide) rfl (fun ls hl => ?_)
    exact X0_atLeast_l18_w E hr hlk N _ _ _ _ _ _ hf w t_v0 (lv_sub hl [1, 2, 0] rfl)
  · have hf := q_neg c1 hf
    refine lv_ldc2 (v := 100000000) E.1 E.2.1 E.2.2.2.1 (E.2.2.2.2 _ ct_RX0_29) dX0_atLeast_4 ?_
    have hf := Option.some.inj hf
    subst hf
    exact q_lret E w hr hlk dX0_atLeast_7

def X0_swap (N : Nat) (h : HS) (v0 : Nat) (v1 : Int32) (v2 : Int32) : Option HS := (if v1 < 0 then some h else (if (8 : Int32) ≤ v1 then some h else (if v2 < 0 then some h else (if (8 : Int32) ≤ v2 then some h else (if v1 < 0 ∨ 8 ≤ v1.toNatClampNeg then none else (if v2 < 0 ∨ 8 ≤ v2.toNatClampNeg then none else (if v1 < 0 ∨ 8 ≤ v1.toNatClampNeg then none else sq (wi h (v0 + 11) v1.toNatClampNeg (h.1 (v0 + 11) v2.toNatClampNeg)) fun h8 => (if v2 < 0 ∨ 8 ≤ v2.toNatClampNeg then none else sq (wi h8 (v0 + 11) v2.toNatClampNeg (h.1 (v0 + 11) v1.toNatClampNeg)) fun h10 => some h10))))))))
set_option maxRecDepth 4000 in
set_option maxHeartbeats 2000000 in
theorem X0_swap_c {l : Launch} {G : GT} {N : Nat} {h : HS} {v0 : Nat} {v1 : Int32} {v2 : Int32} {z : HS} (t_v0 : sh v0 = 0) (hf : X0_swap N h v0 v1 v2 = some z) : CT l G yX0_swap cX0_swap 4 none 0 0 [.ref (ad G v0), .int v1, .int v2] h none z := by
  unfold X0_swap at hf
  refine CT.of (by decide) (Nat.le_of_ble_eq_true rfl) ?_
  intro p e s m below meth c ls E hr hlk w hl
  have hl : lv_has ls 4 [(0, .ref (ad G v0)), (1, .int v1), (2, .int v2)] := hl
  refine lv_iload_n E.1 E.2.1 dX0_swap_0 rfl (lv_at hl 1 rfl) ?_
  refine lv_if_lt (tgt := 46) E.1 E.2.1 dX0_swap_1 (by decide) (fun c1 => ?_) (fun c1 => ?_)
  · have hf := q_pos c1 hf
    have hf := Option.some.inj hf
    subst hf
    exact q_vret E w hr hlk dX0_swap_46
  · have hf := q_neg c1 hf
    refine lv_iload_n E.1 E.2.1 dX0_swap_4 rfl (lv_at hl 1 rfl) ?_
    refine lv_bipush (v := 8) E.1 E.2.1 dX0_swap_5 rfl ?_
    refine lv_icmp_ge (tgt := 46) E.1 E.2.1 dX0_swap_7 (by decide) (fun c2 => ?_) (fun c2 => ?_)
    · have hf := q_pos c2 hf
      have hf := Option.some.inj hf
      subst hf
      exact q_vret E w hr hlk dX0_swap_46
    · have hf := q_neg c2 hf
      refine lv_iload_n E.1 E.2.1 dX0_swap_10 rfl (lv_at hl 2 rfl) ?_
      refine lv_if_lt (tgt := 46) E.1 E.2.1 dX0_swap_11 (by decide) (fun c3 => ?_) (fun c3 => ?_)
      · have hf := q_pos c3 hf
        have hf := Option.some.inj hf
        subst hf
        exact q_vret E w hr hlk dX0_swap_46
      · have hf := q_neg c3 hf
        refine lv_iload_n E.1 E.2.1 dX0_swap_14 rfl (lv_at hl 2 rfl) ?_
        refine lv_bipush (v := 8) E.1 E.2.1 dX0_swap_15 rfl ?_
        refine lv_icmp_ge (tgt := 46) E.1 E.2.1 dX0_swap_17 (by decide) (fun c4 => ?_) (fun c4 => ?_)
        · have hf := q_pos c4 hf
          have hf := Option.some.inj hf
          subst hf
          exact q_vret E w hr hlk dX0_swap_46
        · have hf := q_neg c4 hf
          refine lv_aload_n E.1 E.2.1 dX0_swap_20 rfl (lv_at hl 0 rfl) ?_
          refine q_gs E w 11 t_v0 fl_RX0_18 dX0_swap_21 ?_
          refine lv_iload_n E.1 E.2.1 dX0_swap_24 rfl (lv_at hl 1 rfl) ?_
          obtain ⟨b5, hf⟩ := q_if hf
          refine q_iald E w ((lay_0_1 t_v0).1) ((lay_0_1 t_v0).2) b5 dX0_swap_25 ?_
          refine lv_istore_n (lv' := [(3, .int (h.1 (v0 + 11) v1.toNatClampNeg)), (0, .ref (ad G v0)), (1, .int v1), (2, .int v2)]) E.1 E.2.1 dX0_swap_26 rfl hl (by decide) rfl (fun ls hl => ?_)
          refine lv_aload_n E.1 E.2.1 dX0_swap_27 rfl (lv_at hl 1 rfl) ?_
          refine q_gs E w 11 t_v0 fl_RX0_18 dX0_swap_28 ?_
          refine lv_iload_n E.1 E.2.1 dX0_swap_31 rfl (lv_at hl 2 rfl) ?_
          refine lv_aload_n E.1 E.2.1 dX0_swap_32 rfl (lv_at hl 1 rfl) ?_
          refine q_gs E w 11 t_v0 fl_RX0_18 dX0_swap_33 ?_
          refine lv_iload_n E.1 E.2.1 dX0_swap_36 rfl (lv_at hl 3 rfl) ?_
          obtain ⟨b6, hf⟩ := q_if hf
          refine q_iald E w ((lay_0_1 t_v0).1) ((lay_0_1 t_v0).2) b6 dX0_swap_37 ?_
          obtain ⟨b7, hf⟩ := q_if hf
          refine p_iast E w ((lay_0_1 t_v0).1) ((lay_0_1 t_v0).2) b7 dX0_swap_38 (fun h8 H locs eh w => ?_)
          have hf := sq_e eh hf
          clear eh
          refine lv_aload_n E.1 E.2.1 dX0_swap_39 rfl (lv_at hl 1 rfl) ?_
          refine q_gs E w 11 t_v0 fl_RX0_18 dX0_swap_40 ?_
          refine lv_iload_n E.1 E.2.1 dX0_swap_43 rfl (lv_at hl 3 rfl) ?_
          refine lv_iload_n E.1 E.2.1 dX0_swap_44 rfl (lv_at hl 0 rfl) ?_
          obtain ⟨b9, hf⟩ := q_if hf
          refine p_iast E w ((lay_0_1 t_v0).1) ((lay_0_1 t_v0).2) b9 dX0_swap_45 (fun h10 H locs eh w => ?_)
          have hf := sq_e eh hf
          clear eh
          have hf := Option.some.inj hf
          subst hf
          exact q_vret E w hr hlk dX0_swap_46

def X0_bestSwap_l28 (N : Nat) (K10 : HS → Nat → Int64 → Int32 → Int32 → Option (Int32 × HS)) : Nat → HS → Nat → Int64 → Int32 → Int32 → Int32 → Option (Int32 × HS)
  | 0, _, _, _, _, _, _ => none
  | n + 1, h, v0, v1, v3, v4, v5 => (if (h.1 (h.2 v0) 1) ≤ v5 then K10 h v0 v1 v3 (v4 + 1) else bd1 (X0_swap N h v0 v4 v5) fun h10 => bd1 (X0_mean N h10 v0) fun r12 => bd1 (X0_swap N h10 v0 v4 v5) fun h16 => (if 0 ≤ (lg_cmp r12 v1) then X0_bestSwap_l28 N K10 n h16 v0 v1 v3 v4 (v5 + 1) else X0_bestSwap_l28 N K10 n h16 v0 r12 ((10 * v4) + v5) v4 (v5 + 1)))
set_option maxRecDepth 4000 in
set_option maxHeartbeats 2000000 in
theorem X0_bestSwap_l28_w {p : Program} {l : Launch} {e : Env} {s : State} {m : MethodId} {args : Array Value} {below : List Frame} {meth : Method} {c : Code} {G : GT} {N : Nat} {z : (Int32 × HS)} (E : CallFix p m c cX0_bestSwap 8 s args UW RX0) (hr : meth.sig.returnType = (some .int)) (hlk : meth.locks = false) {K10 : HS → Nat → Int64 → Int32 → Int32 → Option (Int32 × HS)} (hK10 : ∀ (h : HS) (H : Heap) (locs : List Loc) (ls : Array Slot) (v0 : Nat) (v1 : Int64) (v3 : Int32) (v4 : Int32), K10 h v0 v1 v3 v4 = some z → WD G s h H locs → sh v0 = 0 → lv_has ls 8 [(0, .ref (ad G v0)), (1, .long v1), (3, .int v3), (4, .int v4)] → W p l e ({ frames := 4, cells := 0, slots := 0, locals := 90 } : Room) s m args below meth c H locs 0 0 (MQ below (QC G (some (.int z.1)) z.2) args s 0 0 (AD G)) (F0 m 10 ls [])) : ∀ (n : Nat) (h : HS) (H : Heap) (locs : List Loc) (ls : Array Slot) (v0 : Nat) (v1 : Int64) (v3 : Int32) (v4 : Int32) (v5 : Int32), X0_bestSwap_l28 N K10 n h v0 v1 v3 v4 v5 = some z → WD G s h H locs → sh v0 = 0 → lv_has ls 8 [(0, .ref (ad G v0)), (1, .long v1), (3, .int v3), (4, .int v4), (5, .int v5)] → W p l e ({ frames := 4, cells := 0, slots := 0, locals := 90 } : Room) s m args below meth c H locs 0 0 (MQ below (QC G (some (.int z.1)) z.2) args s 0 0 (AD G)) (F0 m 28 ls []) := by
  intro n
  induction n with
  | zero =>
    intro h H locs ls v0 v1 v3 v4 v5 hf
    cases hf
  | succ n ih =>
    intro h H locs ls v0 v1 v3 v4 v5 hf w t_v0 hl
    unfold X0_bestSwap_l28 at hf
    refine lv_iload E.1 E.2.1 dX0_bestSwap_28 (lv_at hl 4 rfl) ?_
    refine lv_aload_n E.1 E.2.1 dX0_bestSwap_30 rfl (lv_at hl 0 rfl) ?_
    refine q_gh E w t_v0 (by decide) fl_RX0_12 dX0_bestSwap_31 (fun t6 => ?_)
    refine q_gi E w t6 fl_RX0_68 dX0_bestSwap_34 ?_
    refine lv_icmp_ge (tgt := 87) E.1 E.2.1 dX0_bestSwap_37 (by decide) (fun c7 => ?_) (fun c7 => ?_)
    · have hf := q_pos c7 hf
      refine lv_iinc (v := v4 + 1) (lv' := [(4, .int (v4 + 1)), (0, .ref (ad G v0)), (1, .long v1), (3, .int v3), (5, .int v5)]) E.1 E.2.1 dX0_bestSwap_87 hl (k := 3) rfl rfl (by decide) rfl (fun ls hl => ?_)
      refine lv_goto (tgt := 10) E.1 E.2.1 dX0_bestSwap_90 (by decide) ?_
      exact hK10 _ _ _ _ _ _ _ _ hf w t_v0 (lv_sub hl [1, 2, 3, 0] rfl)
    · have hf := q_neg c7 hf
      refine lv_aload_n E.1 E.2.1 dX0_bestSwap_40 rfl (lv_at hl 0 rfl) ?_
      refine lv_iload E.1 E.2.1 dX0_bestSwap_41 (lv_at hl 3 rfl) ?_
      refine lv_iload E.1 E.2.1 dX0_bestSwap_43 (lv_at hl 4 rfl) ?_
      obtain ⟨h10, hc8, hf⟩ := bd1_e hf
      refine k_Vv (As := [.int v4, .int v5]) (rest := []) E w t_v0 ⟨by decide, rfl⟩ (X0_swap_c t_v0 hc8) mv_RX0_71 rfl rfl hl.1 ⟨Nat.le_of_ble_eq_true rfl, Nat.le_of_ble_eq_true rfl⟩ (Nat.le_of_ble_eq_true rfl) ⟨Nat.le_refl _, Nat.le_refl _⟩ dX0_bestSwap_45 (fun H locs w => ?_)
      refine lv_aload_n E.1 E.2.1 dX0_bestSwap_48 rfl (lv_at hl 0 rfl) ?_
      obtain ⟨r12, hc11, hf⟩ := bd1_e hf
      refine k_Vl (As := []) (rest := []) E w t_v0 ⟨by decide, rfl⟩ (X0_mean_c t_v0 hc11) mv_RX0_64 rfl rfl hl.1 ⟨Nat.le_of_ble_eq_true rfl, Nat.le_of_ble_eq_true rfl⟩ (Nat.le_of_ble_eq_true rfl) ⟨Nat.le_refl _, Nat.le_refl _⟩ dX0_bestSwap_49 (fun H locs w => ?_)
      refine lv_lstore (lv' := [(6, .long r12), (0, .ref (ad G v0)), (1, .long v1), (3, .int v3), (4, .int v4), (5, .int v5)]) E.1 E.2.1 dX0_bestSwap_52 hl (by decide) rfl (fun ls hl => ?_)
      refine lv_aload_n E.1 E.2.1 dX0_bestSwap_54 rfl (lv_at hl 1 rfl) ?_
      refine lv_iload E.1 E.2.1 dX0_bestSwap_55 (lv_at hl 4 rfl) ?_
      refine lv_iload E.1 E.2.1 dX0_bestSwap_57 (lv_at hl 5 rfl) ?_
      obtain ⟨h16, hc14, hf⟩ := bd1_e hf
      refine k_Vv (As := [.int v4, .int v5]) (rest := []) E w t_v0 ⟨by decide, rfl⟩ (X0_swap_c t_v0 hc14) mv_RX0_71 rfl rfl hl.1 ⟨Nat.le_of_ble_eq_true rfl, Nat.le_of_ble_eq_true rfl⟩ (Nat.le_of_ble_eq_true rfl) ⟨Nat.le_refl _, Nat.le_refl _⟩ dX0_bestSwap_59 (fun H locs w => ?_)
      refine lv_lload E.1 E.2.1 dX0_bestSwap_62 (lv_at hl 0 rfl) ?_
      refine lv_lload_n E.1 E.2.1 dX0_bestSwap_64 rfl (lv_at hl 2 rfl) ?_
      refine W.lcmp E.1 E.2.1 dX0_bestSwap_65 ?_
      refine lv_if_ge (tgt := 81) E.1 E.2.1 dX0_bestSwap_66 (by decide) (fun c17 => ?_) (fun c17 => ?_)
      · have hf := q_pos c17 hf
        refine lv_iinc (v := v5 + 1) (lv' := [(5, .int (v5 + 1)), (6, .long r12), (0, .ref (ad G v0)), (1, .long v1), (3, .int v3), (4, .int v4)]) E.1 E.2.1 dX0_bestSwap_81 hl (k := 5) rfl rfl (by decide) rfl (fun ls hl => ?_)
        refine lv_goto (tgt := 28) E.1 E.2.1 dX0_bestSwap_84 (by decide) ?_
        exact ih _ _ _ _ _ _ _ _ _ hf w t_v0 (lv_sub hl [2, 3, 4, 5, 0] rfl)
      · have hf := q_neg c17 hf
        refine lv_lload E.1 E.2.1 dX0_bestSwap_69 (lv_at hl 0 rfl) ?_
        refine lv_lstore_n (lv' := [(1, .long r12), (6, .long r12), (0, .ref (ad G v0)), (3, .int v3), (4, .int v4), (5, .int v5)]) E.1 E.2.1 dX0_bestSwap_71 rfl hl (by decide) rfl (fun ls hl => ?_)
        refine lv_bipush (v := 10) E.1 E.2.1 dX0_bestSwap_72 rfl ?_
        refine lv_iload E.1 E.2.1 dX0_bestSwap_74 (lv_at hl 4 rfl) ?_
        refine lv_imul E.1 E.2.1 dX0_bestSwap_76 ?_
        refine lv_iload E.1 E.2.1 dX0_bestSwap_77 (lv_at hl 5 rfl) ?_
        refine lv_iadd E.1 E.2.1 dX0_bestSwap_79 ?_
        refine lv_istore_n (lv' := [(3, .int ((10 * v4) + v5)), (1, .long r12), (6, .long r12), (0, .ref (ad G v0)), (4, .int v4), (5, .int v5)]) E.1 E.2.1 dX0_bestSwap_80 rfl hl (by decide) rfl (fun ls hl => ?_)
        refine lv_iinc (v := v5 + 1) (lv' := [(5, .int (v5 + 1)), (3, .int ((10 * v4) + v5)), (1, .long r12), (6, .long r12), (0, .ref (ad G v0)), (4, .int v4)]) E.1 E.2.1 dX0_bestSwap_81 hl (k := 5) rfl rfl (by decide) rfl (fun ls hl => ?_)
        refine lv_goto (tgt := 28) E.1 E.2.1 dX0_bestSwap_84 (by decide) ?_
        exact ih _ _ _ _ _ _ _ _ _ hf w t_v0 (lv_sub hl [4, 2, 1, 5, 0] rfl)

def X0_bestSwap_l10 (N : Nat) : Nat → HS → Nat → Int64 → Int32 → Int32 → Option (Int32 × HS)
  | 0, _, _, _, _, _ => none
  | n + 1, h, v0, v1, v3, v4 => (if (h.1 (h.2 v0) 1) ≤ v4 then some (v3, h) else X0_bestSwap_l28 N (X0_bestSwap_l10 N n) N h v0 v1 v3 v4 (v4 + 1))
set_option maxRecDepth 4000 in
set_option maxHeartbeats 2000000 in
theorem X0_bestSwap_l10_w {p : Program} {l : Launch} {e : Env} {s : State} {m : MethodId} {args : Array Value} {below : List Frame} {meth : Method} {c : Code} {G : GT} {N : Nat} {z : (Int32 × HS)} (E : CallFix p m c cX0_bestSwap 8 s args UW RX0) (hr : meth.sig.returnType = (some .int)) (hlk : meth.locks = false) : ∀ (n : Nat) (h : HS) (H : Heap) (locs : List Loc) (ls : Array Slot) (v0 : Nat) (v1 : Int64) (v3 : Int32) (v4 : Int32), X0_bestSwap_l10 N n h v0 v1 v3 v4 = some z → WD G s h H locs → sh v0 = 0 → lv_has ls 8 [(0, .ref (ad G v0)), (1, .long v1), (3, .int v3), (4, .int v4)] → W p l e ({ frames := 4, cells := 0, slots := 0, locals := 90 } : Room) s m args below meth c H locs 0 0 (MQ below (QC G (some (.int z.1)) z.2) args s 0 0 (AD G)) (F0 m 10 ls []) := by
  intro n
  induction n with
  | zero =>
    intro h H locs ls v0 v1 v3 v4 hf
    cases hf
  | succ n ih =>
    intro h H locs ls v0 v1 v3 v4 hf w t_v0 hl
    unfold X0_bestSwap_l10 at hf
    refine lv_iload E.1 E.2.1 dX0_bestSwap_10 (lv_at hl 3 rfl) ?_
    refine lv_aload_n E.1 E.2.1 dX0_bestSwap_12 rfl (lv_at hl 0 rfl) ?_
    refine q_gh E w t_v0 (by decide) fl_RX0_12 dX0_bestSwap_13 (fun t4 => ?_)
    refine q_gi E w t4 fl_RX0_68 dX0_bestSwap_16 ?_
    refine lv_icmp_ge (tgt := 93) E.1 E.2.1 dX0_bestSwap_19 (by decide) (fun c5 => ?_) (fun c5 => ?_)
    · have hf := q_pos c5 hf
      refine lv_iload_n E.1 E.2.1 dX0_bestSwap_93 rfl (lv_at hl 2 rfl) ?_
      have hf := Option.some.inj hf
      subst hf
      exact q_iret E w hr hlk dX0_bestSwap_94
    · have hf := q_neg c5 hf
      refine lv_iload E.1 E.2.1 dX0_bestSwap_22 (lv_at hl 3 rfl) ?_
      refine lv_iconst (v := 1) E.1 E.2.1 dX0_bestSwap_24 rfl ?_
      refine lv_iadd E.1 E.2.1 dX0_bestSwap_25 ?_
      refine lv_istore (lv' := [(5, .int (v4 + 1)), (0, .ref (ad G v0)), (1, .long v1), (3, .int v3), (4, .int v4)]) E.1 E.2.1 dX0_bestSwap_26 hl (by decide) rfl (fun ls hl => ?_)
      exact X0_bestSwap_l28_w E hr hlk ih N _ _ _ _ _ _ _ _ _ hf w t_v0 (lv_sub hl [1, 2, 3, 4, 0] rfl)

def X0_bestSwap (N : Nat) (h : HS) (v0 : Nat) : Option (Int32 × HS) := bd1 (X0_mean N h v0) fun r2 => X0_bestSwap_l10 N N h v0 r2 (-1) 0
set_option maxRecDepth 4000 in
set_option maxHeartbeats 2000000 in
theorem X0_bestSwap_c {l : Launch} {G : GT} {N : Nat} {h : HS} {v0 : Nat} {z : (Int32 × HS)} (t_v0 : sh v0 = 0) (hf : X0_bestSwap N h v0 = some z) : CT l G yX0_bestSwap cX0_bestSwap 8 (some .int) 4 90 [.ref (ad G v0)] h (some (.int z.1)) z.2 := by
  unfold X0_bestSwap at hf
  refine CT.of (by decide) (Nat.le_of_ble_eq_true rfl) ?_
  intro p e s m below meth c ls E hr hlk w hl
  have hl : lv_has ls 8 [(0, .ref (ad G v0))] := hl
  refine lv_aload_n E.1 E.2.1 dX0_bestSwap_0 rfl (lv_at hl 0 rfl) ?_
  obtain ⟨r2, hc1, hf⟩ := bd1_e hf
  refine k_Vl (As := []) (rest := []) E w t_v0 ⟨by decide, rfl⟩ (X0_mean_c t_v0 hc1) mv_RX0_64 rfl rfl hl.1 ⟨Nat.le_of_ble_eq_true rfl, Nat.le_of_ble_eq_true rfl⟩ (Nat.le_of_ble_eq_true rfl) ⟨Nat.le_refl _, Nat.le_refl _⟩ dX0_bestSwap_1 (fun H locs w => ?_)
  refine lv_lstore_n (lv' := [(1, .long r2), (0, .ref (ad G v0))]) E.1 E.2.1 dX0_bestSwap_4 rfl hl (by decide) rfl (fun ls hl => ?_)
  refine lv_iconst (v := (-1)) E.1 E.2.1 dX0_bestSwap_5 rfl ?_
  refine lv_istore_n (lv' := [(3, .int (-1)), (1, .long r2), (0, .ref (ad G v0))]) E.1 E.2.1 dX0_bestSwap_6 rfl hl (by decide) rfl (fun ls hl => ?_)
  refine lv_iconst (v := 0) E.1 E.2.1 dX0_bestSwap_7 rfl ?_
  refine lv_istore (lv' := [(4, .int 0), (3, .int (-1)), (1, .long r2), (0, .ref (ad G v0))]) E.1 E.2.1 dX0_bestSwap_8 hl (by decide) rfl (fun ls hl => ?_)
  exact X0_bestSwap_l10_w E hr hlk N _ _ _ _ _ _ _ _ hf w t_v0 (lv_sub hl [3, 2, 1, 0] rfl)

def X8_isWalled (N : Nat) (h : HS) (v0 : Nat) (v1 : Int32) : Option Int32 := (if (((h.1 (h.2 v0) 4) >>> (v1 &&& 31)) &&& 1) = 0 then some (nz 0) else some (nz 1))
set_option maxRecDepth 4000 in
set_option maxHeartbeats 2000000 in
theorem X8_isWalled_c {l : Launch} {G : GT} {N : Nat} {h : HS} {v0 : Nat} {v1 : Int32} {z : Int32} (t_v0 : sh v0 = 8) (hf : X8_isWalled N h v0 v1 = some z) : CT l G yX8_isWalled cX8_isWalled 2 (some .boolean) 0 0 [.ref (ad G v0), .int v1] h (some (.int z)) h := by
  unfold X8_isWalled at hf
  refine CT.of (by decide) (Nat.le_of_ble_eq_true rfl) ?_
  intro p e s m below meth c ls E hr hlk w hl
  have hl : lv_has ls 2 [(0, .ref (ad G v0)), (1, .int v1)] := hl
  refine lv_aload_n E.1 E.2.1 dX8_isWalled_0 rfl (lv_at hl 0 rfl) ?_
  refine q_gh E w t_v0 (by decide) fl_RX8_12 dX8_isWalled_1 (fun t1 => ?_)
  refine q_gi E w t1 fl_RX8_42 dX8_isWalled_4 ?_
  refine lv_iload_n E.1 E.2.1 dX8_isWalled_7 rfl (lv_at hl 1 rfl) ?_
  refine lv_ishr E.1 E.2.1 dX8_isWalled_8 ?_
  refine lv_iconst (v := 1) E.1 E.2.1 dX8_isWalled_9 rfl ?_
  refine lv_iand E.1 E.2.1 dX8_isWalled_10 ?_
  refine lv_if_eq (tgt := 18) E.1 E.2.1 dX8_isWalled_11 (by decide) (fun c2 => ?_) (fun c2 => ?_)
  · have hf := q_pos c2 hf
    refine lv_iconst (v := 0) E.1 E.2.1 dX8_isWalled_18 rfl ?_
    have hf := Option.some.inj hf
    subst hf
    exact q_zret E w hr hlk dX8_isWalled_19
  · have hf := q_neg c2 hf
    refine lv_iconst (v := 1) E.1 E.2.1 dX8_isWalled_14 rfl ?_
    refine lv_goto (tgt := 19) E.1 E.2.1 dX8_isWalled_15 (by decide) ?_
    have hf := Option.some.inj hf
    subst hf
    exact q_zret E w hr hlk dX8_isWalled_19

def X8_free_l2 (N : Nat) : Nat → HS → Nat → Int32 → Option HS
  | 0, _, _, _ => none
  | n + 1, h, v0, v1 => (if (8 : Int32) ≤ v1 then some h else bd1 (X8_isWalled N h v0 v1) fun r3 => (if r3 = 0 then bd1 (X10_at N h ((h.2 v0) + 3) v1) fun r8 => (if v1 < 0 ∨ 8 ≤ v1.toNatClampNeg then none else sq (wi h (v0 + 11) v1.toNatClampNeg r8) fun h11 => X8_free_l2 N n h11 v0 (v1 + 1)) else (if v1 < 0 ∨ 8 ≤ v1.toNatClampNeg then none else sq (wi h (v0 + 11) v1.toNatClampNeg 0) fun h13 => X8_free_l2 N n h13 v0 (v1 + 1))))
set_option maxRecDepth 4000 in
set_option maxHeartbeats 2000000 in
theorem X8_free_l2_w {p : Program} {l : Launch} {e : Env} {s : State} {m : MethodId} {args : Array Value} {below : List Frame} {meth : Method} {c : Code} {G : GT} {N : Nat} {z : HS} (E : CallFix p m c cX8_free 2 s args UW RX8) (hr : meth.sig.returnType = none) (hlk : meth.locks = false) : ∀ (n : Nat) (h : HS) (H : Heap) (locs : List Loc) (ls : Array Slot) (v0 : Nat) (v1 : Int32), X8_free_l2 N n h v0 v1 = some z → WD G s h H locs → sh v0 = 8 → lv_has ls 2 [(0, .ref (ad G v0)), (1, .int v1)] → W p l e ({ frames := 1, cells := 0, slots := 0, locals := 21 } : Room) s m args below meth c H locs 0 0 (MQ below (QC G none z) args s 0 0 (AD G)) (F0 m 2 ls []) := by
  intro n
  induction n with
  | zero =>
    intro h H locs ls v0 v1 hf
    cases hf
  | succ n ih =>
    intro h H locs ls v0 v1 hf w t_v0 hl
    unfold X8_free_l2 at hf
    refine lv_iload_n E.1 E.2.1 dX8_free_2 rfl (lv_at hl 1 rfl) ?_
    refine lv_bipush (v := 8) E.1 E.2.1 dX8_free_3 rfl ?_
    refine lv_icmp_ge (tgt := 43) E.1 E.2.1 dX8_free_5 (by decide) (fun c1 => ?_) (fun c1 => ?_)
    · have hf := q_pos c1 hf
      have hf := Option.some.inj hf
      subst hf
      exact q_vret E w hr hlk dX8_free_43
    · have hf := q_neg c1 hf
      refine lv_aload_n E.1 E.2.1 dX8_free_8 rfl (lv_at hl 0 rfl) ?_
      refine q_gs E w 11 t_v0 fl_RX8_18 dX8_free_9 ?_
      refine lv_iload_n E.1 E.2.1 dX8_free_12 rfl (lv_at hl 1 rfl) ?_
      refine lv_aload_n E.1 E.2.1 dX8_free_13 rfl (lv_at hl 0 rfl) ?_
      refine lv_iload_n E.1 E.2.1 dX8_free_14 rfl (lv_at hl 1 rfl) ?_
      obtain ⟨r3, hc2, hf⟩ := bd1_e hf
      refine k_Vi (As := [.int v1]) (rest := [.int v1, .ref (ad G (v0 + 11))]) E w t_v0 ⟨by decide, rfl⟩ (X8_isWalled_c t_v0 hc2) mv_RX8_31 rfl rfl hl.1 ⟨Nat.le_of_ble_eq_true rfl, Nat.le_of_ble_eq_true rfl⟩ (Nat.le_of_ble_eq_true rfl) ⟨Nat.le_refl _, Nat.le_refl _⟩ dX8_free_15 (fun H locs w => ?_)
      refine lv_if_eq (tgt := 25) E.1 E.2.1 dX8_free_18 (by decide) (fun c5 => ?_) (fun c5 => ?_)
      · have hf := q_pos c5 hf
        refine lv_aload_n E.1 E.2.1 dX8_free_25 rfl (lv_at hl 0 rfl) ?_
        refine q_gh E w t_v0 (by decide) fl_RX8_12 dX8_free_26 (fun t6 => ?_)
        refine q_gs E w 3 t6 fl_RX8_35 dX8_free_29 ?_
        refine lv_iload_n E.1 E.2.1 dX8_free_32 rfl (lv_at hl 1 rfl) ?_
        obtain ⟨r8, hc7, hf⟩ := bd1_e hf
        refine k_Ni (As := [.ref (ad G ((h.2 v0) + 3)), .int v1]) (rest := [.int v1, .ref (ad G (v0 + 11))]) E w (X10_at_c ((lay_1_7 t6).1) hc7) mn_RX8_38 rfl rfl hl.1 ⟨Nat.le_of_ble_eq_true rfl, Nat.le_of_ble_eq_true rfl⟩ (Nat.le_of_ble_eq_true rfl) ⟨Nat.le_refl _, Nat.le_refl _⟩ dX8_free_33 (fun H locs w => ?_)
        obtain ⟨b10, hf⟩ := q_if hf
        refine p_iast E w ((lay_8_1 t_v0).1) ((lay_8_1 t_v0).2) b10 dX8_free_36 (fun h11 H locs eh w => ?_)
        have hf := sq_e eh hf
        clear eh
        refine lv_iinc (v := v1 + 1) (lv' := [(1, .int (v1 + 1)), (0, .ref (ad G v0))]) E.1 E.2.1 dX8_free_37 hl (k := 1) rfl rfl (by decide) rfl (fun ls hl => ?_)
        refine lv_goto (tgt := 2) E.1 E.2.1 dX8_free_40 (by decide) ?_
        exact ih _ _ _ _ _ _ hf w t_v0 (lv_sub hl [1, 0] rfl)
      · have hf := q_neg c5 hf
        refine lv_iconst (v := 0) E.1 E.2.1 dX8_free_21 rfl ?_
        refine lv_goto (tgt := 36) E.1 E.2.1 dX8_free_22 (by decide) ?_
        obtain ⟨b12, hf⟩ := q_if hf
        refine p_iast E w ((lay_8_1 t_v0).1) ((lay_8_1 t_v0).2) b12 dX8_free_36 (fun h13 H locs eh w => ?_)
        have hf := sq_e eh hf
        clear eh
        refine lv_iinc (v := v1 + 1) (lv' := [(1, .int (v1 + 1)), (0, .ref (ad G v0))]) E.1 E.2.1 dX8_free_37 hl (k := 1) rfl rfl (by decide) rfl (fun ls hl => ?_)
        refine lv_goto (tgt := 2) E.1 E.2.1 dX8_free_40 (by decide) ?_
        exact ih _ _ _ _ _ _ hf w t_v0 (lv_sub hl [1, 0] rfl)

def X8_free (N : Nat) (h : HS) (v0 : Nat) : Option HS := X8_free_l2 N N h v0 0
set_option maxRecDepth 4000 in
set_option maxHeartbeats 2000000 in
theorem X8_free_c {l : Launch} {G : GT} {N : Nat} {h : HS} {v0 : Nat} {z : HS} (t_v0 : sh v0 = 8) (hf : X8_free N h v0 = some z) : CT l G yX8_free cX8_free 2 none 1 21 [.ref (ad G v0)] h none z := by
  unfold X8_free at hf
  refine CT.of (by decide) (Nat.le_of_ble_eq_true rfl) ?_
  intro p e s m below meth c ls E hr hlk w hl
  have hl : lv_has ls 2 [(0, .ref (ad G v0))] := hl
  refine lv_iconst (v := 0) E.1 E.2.1 dX8_free_0 rfl ?_
  refine lv_istore_n (lv' := [(1, .int 0), (0, .ref (ad G v0))]) E.1 E.2.1 dX8_free_1 rfl hl (by decide) rfl (fun ls hl => ?_)
  exact X8_free_l2_w E hr hlk N _ _ _ _ _ _ hf w t_v0 (lv_sub hl [1, 0] rfl)

def X8_enter (N : Nat) (h : HS) (v0 : Nat) (v1 : Nat) : Option HS := sq (wr h v0 v1) fun h1 => bd1 (X8_free N h1 v0) fun h4 => some h4
set_option maxRecDepth 4000 in
set_option maxHeartbeats 2000000 in
theorem X8_enter_c {l : Launch} {G : GT} {N : Nat} {h : HS} {v0 : Nat} {v1 : Nat} {z : HS} (t_v0 : sh v0 = 8) (t_v1 : sh v1 = 1) (hf : X8_enter N h v0 v1 = some z) : CT l G yX8_enter cX8_enter 2 none 2 42 [.ref (ad G v0), .ref (ad G v1)] h none z := by
  unfold X8_enter at hf
  refine CT.of (by decide) (Nat.le_of_ble_eq_true rfl) ?_
  intro p e s m below meth c ls E hr hlk w hl
  have hl : lv_has ls 2 [(0, .ref (ad G v0)), (1, .ref (ad G v1))] := hl
  refine lv_aload_n E.1 E.2.1 dX8_enter_0 rfl (lv_at hl 0 rfl) ?_
  refine lv_aload_n E.1 E.2.1 dX8_enter_1 rfl (lv_at hl 1 rfl) ?_
  refine p_pr E w t_v0 fl_RX8_12 (by decide) (fp_8_0 _) ⟨fun z => absurd z (by decide), fun _ => t_v1⟩ dX8_enter_2 (fun h1 H locs eh w => ?_)
  have hf := sq_e eh hf
  clear eh
  refine lv_aload_n E.1 E.2.1 dX8_enter_5 rfl (lv_at hl 0 rfl) ?_
  obtain ⟨h4, hc2, hf⟩ := bd1_e hf
  refine k_Vv (As := []) (rest := []) E w t_v0 ⟨by decide, rfl⟩ (X8_free_c t_v0 hc2) mv_RX8_28 rfl rfl hl.1 ⟨Nat.le_of_ble_eq_true rfl, Nat.le_of_ble_eq_true rfl⟩ (Nat.le_of_ble_eq_true rfl) ⟨Nat.le_refl _, Nat.le_refl _⟩ dX8_enter_6 (fun H locs w => ?_)
  have hf := Option.some.inj hf
  subst hf
  exact q_vret E w hr hlk dX8_enter_9

def X8_waysNear_l4 (N : Nat) (h : HS) : Nat → Nat → Int32 → Int32 → Int32 → Option Int32
  | 0, _, _, _, _ => none
  | n + 1, v0, v1, v2, v3 => (if (9 : Int32) < v3 then some v2 else (if (h.1 (h.2 v0) 3) < (if 0 ≤ (v3 - v1) then (v3 - v1) else 0 - (v3 - v1)) then X8_waysNear_l4 N h n v0 v1 (v2 + 0) (v3 + 1) else (if v3 < 0 ∨ 10 ≤ v3.toNatClampNeg then none else X8_waysNear_l4 N h n v0 v1 (v2 + (h.1 (v0 + 12) v3.toNatClampNeg)) (v3 + 1))))
set_option maxRecDepth 4000 in
set_option maxHeartbeats 2000000 in
theorem X8_waysNear_l4_w {p : Program} {l : Launch} {e : Env} {s : State} {m : MethodId} {args : Array Value} {below : List Frame} {meth : Method} {c : Code} {G : GT} {N : Nat} {h : HS} {z : Int32} (E : CallFix p m c cX8_waysNear 4 s args UW RX8) (hr : meth.sig.returnType = (some .int)) (hlk : meth.locks = false) : ∀ (n : Nat) (H : Heap) (locs : List Loc) (ls : Array Slot) (v0 : Nat) (v1 : Int32) (v2 : Int32) (v3 : Int32), X8_waysNear_l4 N h n v0 v1 v2 v3 = some z → WD G s h H locs → sh v0 = 8 → lv_has ls 4 [(0, .ref (ad G v0)), (1, .int v1), (2, .int v2), (3, .int v3)] → W p l e ({ frames := 1, cells := 0, slots := 0, locals := 24 } : Room) s m args below meth c H locs 0 0 (MQ below (QC G (some (.int z)) h) args s 0 0 (AD G)) (F0 m 4 ls []) := by
  intro n
  induction n with
  | zero =>
    intro H locs ls v0 v1 v2 v3 hf
    cases hf
  | succ n ih =>
    intro H locs ls v0 v1 v2 v3 hf w t_v0 hl
    unfold X8_waysNear_l4 at hf
    refine lv_iload_n E.1 E.2.1 dX8_waysNear_4 rfl (lv_at hl 3 rfl) ?_
    refine lv_bipush (v := 9) E.1 E.2.1 dX8_waysNear_5 rfl ?_
    refine lv_icmp_gt (tgt := 45) E.1 E.2.1 dX8_waysNear_7 (by decide) (fun c1 => ?_) (fun c1 => ?_)
    · have hf := q_pos c1 hf
      refine lv_iload_n E.1 E.2.1 dX8_waysNear_45 rfl (lv_at hl 2 rfl) ?_
      have hf := Option.some.inj hf
      subst hf
      exact q_iret E w hr hlk dX8_waysNear_46
    · have hf := q_neg c1 hf
      refine lv_iload_n E.1 E.2.1 dX8_waysNear_10 rfl (lv_at hl 2 rfl) ?_
      refine lv_iload_n E.1 E.2.1 dX8_waysNear_11 rfl (lv_at hl 3 rfl) ?_
      refine lv_iload_n E.1 E.2.1 dX8_waysNear_12 rfl (lv_at hl 1 rfl) ?_
      refine lv_isub E.1 E.2.1 dX8_waysNear_13 ?_
      refine q_abs E mm_RX8_66 hl.1 ⟨Nat.le_of_ble_eq_true rfl, Nat.le_of_ble_eq_true rfl⟩ ⟨Nat.le_refl _, Nat.le_refl _⟩ dX8_waysNear_14 ?_
      refine lv_aload_n E.1 E.2.1 dX8_waysNear_17 rfl (lv_at hl 0 rfl) ?_
      refine q_gh E w t_v0 (by decide) fl_RX8_12 dX8_waysNear_18 (fun t2 => ?_)
      refine q_gi E w t2 fl_RX8_71 dX8_waysNear_21 ?_
      refine lv_icmp_gt (tgt := 36) E.1 E.2.1 dX8_waysNear_24 (by decide) (fun c3 => ?_) (fun c3 => ?_)
      · have hf := q_pos c3 hf
        refine lv_iconst (v := 0) E.1 E.2.1 dX8_waysNear_36 rfl ?_
        refine lv_iadd E.1 E.2.1 dX8_waysNear_37 ?_
        refine lv_istore_n (lv' := [(2, .int (v2 + 0)), (0, .ref (ad G v0)), (1, .int v1), (3, .int v3)]) E.1 E.2.1 dX8_waysNear_38 rfl hl (by decide) rfl (fun ls hl => ?_)
        refine lv_iinc (v := v3 + 1) (lv' := [(3, .int (v3 + 1)), (2, .int (v2 + 0)), (0, .ref (ad G v0)), (1, .int v1)]) E.1 E.2.1 dX8_waysNear_39 hl (k := 3) rfl rfl (by decide) rfl (fun ls hl => ?_)
        refine lv_goto (tgt := 4) E.1 E.2.1 dX8_waysNear_42 (by decide) ?_
        exact ih _ _ _ _ _ _ _ hf w t_v0 (lv_sub hl [2, 3, 1, 0] rfl)
      · have hf := q_neg c3 hf
        refine lv_aload_n E.1 E.2.1 dX8_waysNear_27 rfl (lv_at hl 0 rfl) ?_
        refine q_gs E w 12 t_v0 fl_RX8_22 dX8_waysNear_28 ?_
        refine lv_iload_n E.1 E.2.1 dX8_waysNear_31 rfl (lv_at hl 3 rfl) ?_
        obtain ⟨b4, hf⟩ := q_if hf
        refine q_iald E w ((lay_8_2 t_v0).1) ((lay_8_2 t_v0).2) b4 dX8_waysNear_32 ?_
        refine lv_goto (tgt := 37) E.1 E.2.1 dX8_waysNear_33 (by decide) ?_
        refine lv_iadd E.1 E.2.1 dX8_waysNear_37 ?_
        refine lv_istore_n (lv' := [(2, .int (v2 + (h.1 (v0 + 12) v3.toNatClampNeg))), (0, .ref (ad G v0)), (1, .int v1), (3, .int v3)]) E.1 E.2.1 dX8_waysNear_38 rfl hl (by decide) rfl (fun ls hl => ?_)
        refine lv_iinc (v := v3 + 1) (lv' := [(3, .int (v3 + 1)), (2, .int (v2 + (h.1 (v0 + 12) v3.toNatClampNeg))), (0, .ref (ad G v0)), (1, .int v1)]) E.1 E.2.1 dX8_waysNear_39 hl (k := 3) rfl rfl (by decide) rfl (fun ls hl => ?_)
        refine lv_goto (tgt := 4) E.1 E.2.1 dX8_waysNear_42 (by decide) ?_
        exact ih _ _ _ _ _ _ _ hf w t_v0 (lv_sub hl [2, 3, 1, 0] rfl)

def X8_waysNear (N : Nat) (h : HS) (v0 : Nat) (v1 : Int32) : Option Int32 := X8_waysNear_l4 N h N v0 v1 0 1
set_option maxRecDepth 4000 in
set_option maxHeartbeats 2000000 in
theorem X8_waysNear_c {l : Launch} {G : GT} {N : Nat} {h : HS} {v0 : Nat} {v1 : Int32} {z : Int32} (t_v0 : sh v0 = 8) (hf : X8_waysNear N h v0 v1 = some z) : CT l G yX8_waysNear cX8_waysNear 4 (some .int) 1 24 [.ref (ad G v0), .int v1] h (some (.int z)) h := by
  unfold X8_waysNear at hf
  refine CT.of (by decide) (Nat.le_of_ble_eq_true rfl) ?_
  intro p e s m below meth c ls E hr hlk w hl
  have hl : lv_has ls 4 [(0, .ref (ad G v0)), (1, .int v1)] := hl
  refine lv_iconst (v := 0) E.1 E.2.1 dX8_waysNear_0 rfl ?_
  refine lv_istore_n (lv' := [(2, .int 0), (0, .ref (ad G v0)), (1, .int v1)]) E.1 E.2.1 dX8_waysNear_1 rfl hl (by decide) rfl (fun ls hl => ?_)
  refine lv_iconst (v := 1) E.1 E.2.1 dX8_waysNear_2 rfl ?_
  refine lv_istore_n (lv' := [(3, .int 1), (2, .int 0), (0, .ref (ad G v0)), (1, .int v1)]) E.1 E.2.1 dX8_waysNear_3 rfl hl (by decide) rfl (fun ls hl => ?_)
  exact X8_waysNear_l4_w E hr hlk N _ _ _ _ _ _ _ hf w t_v0 (lv_sub hl [2, 3, 1, 0] rfl)

def X8_goTo_b42 (N : Nat) (h : HS) (K6 : HS → Nat → Int32 → Int32 → Int32 → Int32 → Int32 → Option (Int32 × HS)) (v0 : Nat) (v1 : Int32) (v2 : Int32) (v3 : Int32) (v4 : Int32) (v5 : Int32) (u0 : Int32) : Option (Int32 × HS) := (if u0 = 0 then (if v5 < 0 ∨ 10 ≤ v5.toNatClampNeg then none else sq (wi h (v0 + 13) v5.toNatClampNeg 0) fun h19 => (if v5 < 0 ∨ 10 ≤ v5.toNatClampNeg then none else K6 h19 v0 v1 v2 v3 (v4 + (h19.1 (v0 + 13) v5.toNatClampNeg)) (v5 + 1))) else (if v2 = 0 then (if v5 < 0 ∨ 10 ≤ v5.toNatClampNeg then none else sq (wi h (v0 + 13) v5.toNatClampNeg v3) fun h10 => (if v5 < 0 ∨ 10 ≤ v5.toNatClampNeg then none else K6 h10 v0 v1 v2 v3 (v4 + (h10.1 (v0 + 13) v5.toNatClampNeg)) (v5 + 1))) else bd1 (X8_waysNear N h v0 v5) fun r13 => (if v5 < 0 ∨ 10 ≤ v5.toNatClampNeg then none else sq (wi h (v0 + 13) v5.toNatClampNeg r13) fun h16 => (if v5 < 0 ∨ 10 ≤ v5.toNatClampNeg then none else K6 h16 v0 v1 v2 v3 (v4 + (h16.1 (v0 + 13) v5.toNatClampNeg)) (v5 + 1)))))
set_option maxRecDepth 4000 in
set_option maxHeartbeats 2000000 in
theorem X8_goTo_b42_w {p : Program} {l : Launch} {e : Env} {s : State} {m : MethodId} {args : Array Value} {below : List Frame} {meth : Method} {c : Code} {G : GT} {N : Nat} {z : (Int32 × HS)} {h : HS} (E : CallFix p m c cX8_goTo 7 s args UW RX8) (hr : meth.sig.returnType = (some .int)) (hlk : meth.locks = false) {K6 : HS → Nat → Int32 → Int32 → Int32 → Int32 → Int32 → Option (Int32 × HS)} (hK6 : ∀ (h : HS) (H : Heap) (locs : List Loc) (ls : Array Slot) (v0 : Nat) (v1 : Int32) (v2 : Int32) (v3 : Int32) (v4 : Int32) (v5 : Int32), K6 h v0 v1 v2 v3 v4 v5 = some z → WD G s h H locs → sh v0 = 8 → lv_has ls 7 [(0, .ref (ad G v0)), (1, .int v1), (2, .int v2), (3, .int v3), (4, .int v4), (5, .int v5)] → W p l e ({ frames := 2, cells := 0, slots := 0, locals := 47 } : Room) s m args below meth c H locs 0 0 (MQ below (QC G (some (.int z.1)) z.2) args s 0 0 (AD G)) (F0 m 6 ls [])) {H : Heap} {locs : List Loc} {ls : Array Slot} {v0 : Nat} {v1 : Int32} {v2 : Int32} {v3 : Int32} {v4 : Int32} {v5 : Int32} {u0 : Int32} (hf : X8_goTo_b42 N h K6 v0 v1 v2 v3 v4 v5 u0 = some z) (w : WD G s h H locs) (t_v0 : sh v0 = 8) (hl : lv_has ls 7 [(0, .ref (ad G v0)), (1, .int v1), (2, .int v2), (3, .int v3), (4, .int v4), (5, .int v5)]) : W p l e ({ frames := 2, cells := 0, slots := 0, locals := 47 } : Room) s m args below meth c H locs 0 0 (MQ below (QC G (some (.int z.1)) z.2) args s 0 0 (AD G)) (F0 m 42 ls [.int u0]) := by
  unfold X8_goTo_b42 at hf
  refine lv_istore (lv' := [(6, .int u0), (0, .ref (ad G v0)), (1, .int v1), (2, .int v2), (3, .int v3), (4, .int v4), (5, .int v5)]) E.1 E.2.1 dX8_goTo_42 hl (by decide) rfl (fun ls hl => ?_)
  refine lv_aload_n E.1 E.2.1 dX8_goTo_44 rfl (lv_at hl 1 rfl) ?_
  refine q_gs E w 13 t_v0 fl_RX8_25 dX8_goTo_45 ?_
  refine lv_iload E.1 E.2.1 dX8_goTo_48 (lv_at hl 6 rfl) ?_
  refine lv_iload E.1 E.2.1 dX8_goTo_50 (lv_at hl 0 rfl) ?_
  refine lv_if_ne (tgt := 59) E.1 E.2.1 dX8_goTo_52 (by decide) (fun c7 => ?_) (fun c7 => ?_)
  · have hf := q_neg c7 hf
    refine lv_iload_n E.1 E.2.1 dX8_goTo_59 rfl (lv_at hl 3 rfl) ?_
    refine lv_if_eq (tgt := 72) E.1 E.2.1 dX8_goTo_60 (by decide) (fun c8 => ?_) (fun c8 => ?_)
    · have hf := q_pos c8 hf
      refine lv_iload_n E.1 E.2.1 dX8_goTo_72 rfl (lv_at hl 4 rfl) ?_
      obtain ⟨b9, hf⟩ := q_if hf
      refine p_iast E w ((lay_8_3 t_v0).1) ((lay_8_3 t_v0).2) b9 dX8_goTo_73 (fun h10 H locs eh w => ?_)
      have hf := sq_e eh hf
      clear eh
      refine lv_iload E.1 E.2.1 dX8_goTo_74 (lv_at hl 5 rfl) ?_
      refine lv_aload_n E.1 E.2.1 dX8_goTo_76 rfl (lv_at hl 1 rfl) ?_
      refine q_gs E w 13 t_v0 fl_RX8_25 dX8_goTo_77 ?_
      refine lv_iload E.1 E.2.1 dX8_goTo_80 (lv_at hl 6 rfl) ?_
      obtain ⟨b11, hf⟩ := q_if hf
      refine q_iald E w ((lay_8_3 t_v0).1) ((lay_8_3 t_v0).2) b11 dX8_goTo_82 ?_
      refine lv_iadd E.1 E.2.1 dX8_goTo_83 ?_
      refine lv_istore (lv' := [(4, .int (v4 + (h10.1 (v0 + 13) v5.toNatClampNeg))), (6, .int u0), (0, .ref (ad G v0)), (1, .int v1), (2, .int v2), (3, .int v3), (5, .int v5)]) E.1 E.2.1 dX8_goTo_84 hl (by decide) rfl (fun ls hl => ?_)
      refine lv_iinc (v := v5 + 1) (lv' := [(5, .int (v5 + 1)), (4, .int (v4 + (h10.1 (v0 + 13) v5.toNatClampNeg))), (6, .int u0), (0, .ref (ad G v0)), (1, .int v1), (2, .int v2), (3, .int v3)]) E.1 E.2.1 dX8_goTo_86 hl (k := 6) rfl rfl (by decide) rfl (fun ls hl => ?_)
      refine lv_goto (tgt := 6) E.1 E.2.1 dX8_goTo_89 (by decide) ?_
      exact hK6 _ _ _ _ _ _ _ _ _ _ hf w t_v0 (lv_sub hl [3, 4, 5, 6, 1, 0] rfl)
    · have hf := q_neg c8 hf
      refine lv_aload_n E.1 E.2.1 dX8_goTo_63 rfl (lv_at hl 1 rfl) ?_
      refine lv_iload E.1 E.2.1 dX8_goTo_64 (lv_at hl 6 rfl) ?_
      obtain ⟨r13, hc12, hf⟩ := bd1_e hf
      refine k_Vi (As := [.int v5]) (rest := [.int v5, .ref (ad G (v0 + 13))]) E w t_v0 ⟨by decide, rfl⟩ (X8_waysNear_c t_v0 hc12) mv_RX8_56 rfl rfl hl.1 ⟨Nat.le_of_ble_eq_true rfl, Nat.le_of_ble_eq_true rfl⟩ (Nat.le_of_ble_eq_true rfl) ⟨Nat.le_refl _, Nat.le_refl _⟩ dX8_goTo_66 (fun H locs w => ?_)
      refine lv_goto (tgt := 73) E.1 E.2.1 dX8_goTo_69 (by decide) ?_
      obtain ⟨b15, hf⟩ := q_if hf
      refine p_iast E w ((lay_8_3 t_v0).1) ((lay_8_3 t_v0).2) b15 dX8_goTo_73 (fun h16 H locs eh w => ?_)
      have hf := sq_e eh hf
      clear eh
      refine lv_iload E.1 E.2.1 dX8_goTo_74 (lv_at hl 5 rfl) ?_
      refine lv_aload_n E.1 E.2.1 dX8_goTo_76 rfl (lv_at hl 1 rfl) ?_
      refine q_gs E w 13 t_v0 fl_RX8_25 dX8_goTo_77 ?_
      refine lv_iload E.1 E.2.1 dX8_goTo_80 (lv_at hl 6 rfl) ?_
      obtain ⟨b17, hf⟩ := q_if hf
      refine q_iald E w ((lay_8_3 t_v0).1) ((lay_8_3 t_v0).2) b17 dX8_goTo_82 ?_
      refine lv_iadd E.1 E.2.1 dX8_goTo_83 ?_
      refine lv_istore (lv' := [(4, .int (v4 + (h16.1 (v0 + 13) v5.toNatClampNeg))), (6, .int u0), (0, .ref (ad G v0)), (1, .int v1), (2, .int v2), (3, .int v3), (5, .int v5)]) E.1 E.2.1 dX8_goTo_84 hl (by decide) rfl (fun ls hl => ?_)
      refine lv_iinc (v := v5 + 1) (lv' := [(5, .int (v5 + 1)), (4, .int (v4 + (h16.1 (v0 + 13) v5.toNatClampNeg))), (6, .int u0), (0, .ref (ad G v0)), (1, .int v1), (2, .int v2), (3, .int v3)]) E.1 E.2.1 dX8_goTo_86 hl (k := 6) rfl rfl (by decide) rfl (fun ls hl => ?_)
      refine lv_goto (tgt := 6) E.1 E.2.1 dX8_goTo_89 (by decide) ?_
      exact hK6 _ _ _ _ _ _ _ _ _ _ hf w t_v0 (lv_sub hl [3, 4, 5, 6, 1, 0] rfl)
  · have hf := q_pos c7 hf
    refine lv_iconst (v := 0) E.1 E.2.1 dX8_goTo_55 rfl ?_
    refine lv_goto (tgt := 73) E.1 E.2.1 dX8_goTo_56 (by decide) ?_
    obtain ⟨b18, hf⟩ := q_if hf
    refine p_iast E w ((lay_8_3 t_v0).1) ((lay_8_3 t_v0).2) b18 dX8_goTo_73 (fun h19 H locs eh w => ?_)
    have hf := sq_e eh hf
    clear eh
    refine lv_iload E.1 E.2.1 dX8_goTo_74 (lv_at hl 5 rfl) ?_
    refine lv_aload_n E.1 E.2.1 dX8_goTo_76 rfl (lv_at hl 1 rfl) ?_
    refine q_gs E w 13 t_v0 fl_RX8_25 dX8_goTo_77 ?_
    refine lv_iload E.1 E.2.1 dX8_goTo_80 (lv_at hl 6 rfl) ?_
    obtain ⟨b20, hf⟩ := q_if hf
    refine q_iald E w ((lay_8_3 t_v0).1) ((lay_8_3 t_v0).2) b20 dX8_goTo_82 ?_
    refine lv_iadd E.1 E.2.1 dX8_goTo_83 ?_
    refine lv_istore (lv' := [(4, .int (v4 + (h19.1 (v0 + 13) v5.toNatClampNeg))), (6, .int u0), (0, .ref (ad G v0)), (1, .int v1), (2, .int v2), (3, .int v3), (5, .int v5)]) E.1 E.2.1 dX8_goTo_84 hl (by decide) rfl (fun ls hl => ?_)
    refine lv_iinc (v := v5 + 1) (lv' := [(5, .int (v5 + 1)), (4, .int (v4 + (h19.1 (v0 + 13) v5.toNatClampNeg))), (6, .int u0), (0, .ref (ad G v0)), (1, .int v1), (2, .int v2), (3, .int v3)]) E.1 E.2.1 dX8_goTo_86 hl (k := 6) rfl rfl (by decide) rfl (fun ls hl => ?_)
    refine lv_goto (tgt := 6) E.1 E.2.1 dX8_goTo_89 (by decide) ?_
    exact hK6 _ _ _ _ _ _ _ _ _ _ hf w t_v0 (lv_sub hl [3, 4, 5, 6, 1, 0] rfl)

def X8_goTo_l6 (N : Nat) : Nat → HS → Nat → Int32 → Int32 → Int32 → Int32 → Int32 → Option (Int32 × HS)
  | 0, _, _, _, _, _, _, _ => none
  | n + 1, h, v0, v1, v2, v3, v4, v5 => (if (9 : Int32) < v5 then sq (wa h (v0 + 12) (va_cpy (h.1 (v0 + 13)) (h.1 (v0 + 12)) 0 0 10)) fun h2 => some (v4, h2) else bd1 (X10_at N h (v0 + 11) v1) fun r4 => (if r4 = 0 then X8_goTo_b42 N h (X8_goTo_l6 N n) v0 v1 v2 v3 v4 v5 1 else bd1 (X10_at N h (v0 + 11) v1) fun r22 => (if r22 = v5 then X8_goTo_b42 N h (X8_goTo_l6 N n) v0 v1 v2 v3 v4 v5 1 else X8_goTo_b42 N h (X8_goTo_l6 N n) v0 v1 v2 v3 v4 v5 0)))
set_option maxRecDepth 4000 in
set_option maxHeartbeats 2000000 in
theorem X8_goTo_l6_w {p : Program} {l : Launch} {e : Env} {s : State} {m : MethodId} {args : Array Value} {below : List Frame} {meth : Method} {c : Code} {G : GT} {N : Nat} {z : (Int32 × HS)} (E : CallFix p m c cX8_goTo 7 s args UW RX8) (hr : meth.sig.returnType = (some .int)) (hlk : meth.locks = false) : ∀ (n : Nat) (h : HS) (H : Heap) (locs : List Loc) (ls : Array Slot) (v0 : Nat) (v1 : Int32) (v2 : Int32) (v3 : Int32) (v4 : Int32) (v5 : Int32), X8_goTo_l6 N n h v0 v1 v2 v3 v4 v5 = some z → WD G s h H locs → sh v0 = 8 → lv_has ls 7 [(0, .ref (ad G v0)), (1, .int v1), (2, .int v2), (3, .int v3), (4, .int v4), (5, .int v5)] → W p l e ({ frames := 2, cells := 0, slots := 0, locals := 47 } : Room) s m args below meth c H locs 0 0 (MQ below (QC G (some (.int z.1)) z.2) args s 0 0 (AD G)) (F0 m 6 ls []) := by
  intro n
  induction n with
  | zero =>
    intro h H locs ls v0 v1 v2 v3 v4 v5 hf
    cases hf
  | succ n ih =>
    intro h H locs ls v0 v1 v2 v3 v4 v5 hf w t_v0 hl
    unfold X8_goTo_l6 at hf
    refine lv_iload E.1 E.2.1 dX8_goTo_6 (lv_at hl 5 rfl) ?_
    refine lv_bipush (v := 9) E.1 E.2.1 dX8_goTo_8 rfl ?_
    refine lv_icmp_gt (tgt := 92) E.1 E.2.1 dX8_goTo_10 (by decide) (fun c1 => ?_) (fun c1 => ?_)
    · have hf := q_pos c1 hf
      refine lv_aload_n E.1 E.2.1 dX8_goTo_92 rfl (lv_at hl 0 rfl) ?_
      refine q_gs E w 13 t_v0 fl_RX8_25 dX8_goTo_93 ?_
      refine lv_iconst (v := 0) E.1 E.2.1 dX8_goTo_96 rfl ?_
      refine lv_aload_n E.1 E.2.1 dX8_goTo_97 rfl (lv_at hl 0 rfl) ?_
      refine q_gs E w 12 t_v0 fl_RX8_22 dX8_goTo_98 ?_
      refine lv_iconst (v := 0) E.1 E.2.1 dX8_goTo_101 rfl ?_
      refine lv_bipush (v := 10) E.1 E.2.1 dX8_goTo_102 rfl ?_
      refine p_copy E w (t := 1) (by decide) ((lay_8_3 t_v0).1) ((lay_8_2 t_v0).1) ((lay_8_3 t_v0).2) ((lay_8_2 t_v0).2) mc_RX8_60 hl.1 (sp := 0) (dp := 0) (n := 10) (by decide) (by decide) (by decide) (by decide) (by decide) ⟨Nat.le_of_ble_eq_true rfl, Nat.le_of_ble_eq_true rfl⟩ dX8_goTo_104 (fun h2 H locs eh w => ?_)
      have hf := sq_e eh hf
      clear eh
      refine lv_iload E.1 E.2.1 dX8_goTo_107 (lv_at hl 4 rfl) ?_
      have hf := Option.some.inj hf
      subst hf
      exact q_iret E w hr hlk dX8_goTo_109
    · have hf := q_neg c1 hf
      refine lv_aload_n E.1 E.2.1 dX8_goTo_13 rfl (lv_at hl 0 rfl) ?_
      refine q_gs E w 11 t_v0 fl_RX8_18 dX8_goTo_14 ?_
      refine lv_iload_n E.1 E.2.1 dX8_goTo_17 rfl (lv_at hl 1 rfl) ?_
      obtain ⟨r4, hc3, hf⟩ := bd1_e hf
      refine k_Ni (As := [.ref (ad G (v0 + 11)), .int v1]) (rest := []) E w (X10_at_c ((lay_8_1 t_v0).1) hc3) mn_RX8_38 rfl rfl hl.1 ⟨Nat.le_of_ble_eq_true rfl, Nat.le_of_ble_eq_true rfl⟩ (Nat.le_of_ble_eq_true rfl) ⟨Nat.le_refl _, Nat.le_refl _⟩ dX8_goTo_18 (fun H locs w => ?_)
      refine lv_if_eq (tgt := 37) E.1 E.2.1 dX8_goTo_21 (by decide) (fun c6 => ?_) (fun c6 => ?_)
      · have hf := q_pos c6 hf
        refine lv_iconst (v := 1) E.1 E.2.1 dX8_goTo_37 rfl ?_
        refine lv_goto (tgt := 42) E.1 E.2.1 dX8_goTo_38 (by decide) ?_
        exact X8_goTo_b42_w E hr hlk ih hf w t_v0 (lv_sub hl [0, 1, 2, 3, 4, 5] rfl)
      · have hf := q_neg c6 hf
        refine lv_aload_n E.1 E.2.1 dX8_goTo_24 rfl (lv_at hl 0 rfl) ?_
        refine q_gs E w 11 t_v0 fl_RX8_18 dX8_goTo_25 ?_
        refine lv_iload_n E.1 E.2.1 dX8_goTo_28 rfl (lv_at hl 1 rfl) ?_
        obtain ⟨r22, hc21, hf⟩ := bd1_e hf
        refine k_Ni (As := [.ref (ad G (v0 + 11)), .int v1]) (rest := []) E w (X10_at_c ((lay_8_1 t_v0).1) hc21) mn_RX8_38 rfl rfl hl.1 ⟨Nat.le_of_ble_eq_true rfl, Nat.le_of_ble_eq_true rfl⟩ (Nat.le_of_ble_eq_true rfl) ⟨Nat.le_refl _, Nat.le_refl _⟩ dX8_goTo_29 (fun H locs w => ?_)
        refine lv_iload E.1 E.2.1 dX8_goTo_32 (lv_at hl 5 rfl) ?_
        refine lv_icmp_ne (tgt := 41) E.1 E.2.1 dX8_goTo_34 (by decide) (fun c24 => ?_) (fun c24 => ?_)
        · have hf := q_neg c24 hf
          refine lv_iconst (v := 0) E.1 E.2.1 dX8_goTo_41 rfl ?_
          exact X8_goTo_b42_w E hr hlk ih hf w t_v0 (lv_sub hl [0, 1, 2, 3, 4, 5] rfl)
        · have hf := q_pos c24 hf
          refine lv_iconst (v := 1) E.1 E.2.1 dX8_goTo_37 rfl ?_
          refine lv_goto (tgt := 42) E.1 E.2.1 dX8_goTo_38 (by decide) ?_
          exact X8_goTo_b42_w E hr hlk ih hf w t_v0 (lv_sub hl [0, 1, 2, 3, 4, 5] rfl)

def X8_goTo (N : Nat) (h : HS) (v0 : Nat) (v1 : Int32) (v2 : Int32) (v3 : Int32) : Option (Int32 × HS) := X8_goTo_l6 N N h v0 v1 v2 v3 0 1
set_option maxRecDepth 4000 in
set_option maxHeartbeats 2000000 in
theorem X8_goTo_c {l : Launch} {G : GT} {N : Nat} {h : HS} {v0 : Nat} {v1 : Int32} {v2 : Int32} {v3 : Int32} {z : (Int32 × HS)} (t_v0 : sh v0 = 8) (hf : X8_goTo N h v0 v1 v2 v3 = some z) : CT l G yX8_goTo cX8_goTo 7 (some .int) 2 47 [.ref (ad G v0), .int v1, .int v2, .int v3] h (some (.int z.1)) z.2 := by
  unfold X8_goTo at hf
  refine CT.of (by decide) (Nat.le_of_ble_eq_true rfl) ?_
  intro p e s m below meth c ls E hr hlk w hl
  have hl : lv_has ls 7 [(0, .ref (ad G v0)), (1, .int v1), (2, .int v2), (3, .int v3)] := hl
  refine lv_iconst (v := 0) E.1 E.2.1 dX8_goTo_0 rfl ?_
  refine lv_istore (lv' := [(4, .int 0), (0, .ref (ad G v0)), (1, .int v1), (2, .int v2), (3, .int v3)]) E.1 E.2.1 dX8_goTo_1 hl (by decide) rfl (fun ls hl => ?_)
  refine lv_iconst (v := 1) E.1 E.2.1 dX8_goTo_3 rfl ?_
  refine lv_istore (lv' := [(5, .int 1), (4, .int 0), (0, .ref (ad G v0)), (1, .int v1), (2, .int v2), (3, .int v3)]) E.1 E.2.1 dX8_goTo_4 hl (by decide) rfl (fun ls hl => ?_)
  exact X8_goTo_l6_w E hr hlk N _ _ _ _ _ _ _ _ _ _ hf w t_v0 (lv_sub hl [2, 3, 4, 5, 1, 0] rfl)

def X8_rows_b47 (N : Nat) (h : HS) (K6 : HS → Nat → Int32 → Int32 → Int32 → Option (Int32 × HS)) (v0 : Nat) (v1 : Int32) (v2 : Int32) (v3 : Int32) (u0 : Int32) : Option (Int32 × HS) := (if u0 = 0 then K6 h v0 v1 u0 (v3 + 1) else bd2 (X8_goTo N h v0 v3 v2 v1) fun r10 h11 => K6 h11 v0 r10 u0 (v3 + 1))
set_option maxRecDepth 4000 in
set_option maxHeartbeats 2000000 in
theorem X8_rows_b47_w {p : Program} {l : Launch} {e : Env} {s : State} {m : MethodId} {args : Array Value} {below : List Frame} {meth : Method} {c : Code} {G : GT} {N : Nat} {z : (Int32 × HS)} {h : HS} (E : CallFix p m c cX8_rows 5 s args UW RX8) (hr : meth.sig.returnType = (some .int)) (hlk : meth.locks = false) {K6 : HS → Nat → Int32 → Int32 → Int32 → Option (Int32 × HS)} (hK6 : ∀ (h : HS) (H : Heap) (locs : List Loc) (ls : Array Slot) (v0 : Nat) (v1 : Int32) (v2 : Int32) (v3 : Int32), K6 h v0 v1 v2 v3 = some z → WD G s h H locs → sh v0 = 8 → lv_has ls 5 [(0, .ref (ad G v0)), (1, .int v1), (2, .int v2), (3, .int v3)] → W p l e ({ frames := 3, cells := 0, slots := 0, locals := 73 } : Room) s m args below meth c H locs 0 0 (MQ below (QC G (some (.int z.1)) z.2) args s 0 0 (AD G)) (F0 m 6 ls [])) {H : Heap} {locs : List Loc} {ls : Array Slot} {v0 : Nat} {v1 : Int32} {v2 : Int32} {v3 : Int32} {u0 : Int32} (hf : X8_rows_b47 N h K6 v0 v1 v2 v3 u0 = some z) (w : WD G s h H locs) (t_v0 : sh v0 = 8) (hl : lv_has ls 5 [(0, .ref (ad G v0)), (1, .int v1), (2, .int v2), (3, .int v3)]) : W p l e ({ frames := 3, cells := 0, slots := 0, locals := 73 } : Room) s m args below meth c H locs 0 0 (MQ below (QC G (some (.int z.1)) z.2) args s 0 0 (AD G)) (F0 m 47 ls [.int u0]) := by
  unfold X8_rows_b47 at hf
  refine lv_istore (lv' := [(4, .int u0), (0, .ref (ad G v0)), (1, .int v1), (2, .int v2), (3, .int v3)]) E.1 E.2.1 dX8_rows_47 hl (by decide) rfl (fun ls hl => ?_)
  refine lv_iload E.1 E.2.1 dX8_rows_49 (lv_at hl 0 rfl) ?_
  refine lv_if_eq (tgt := 62) E.1 E.2.1 dX8_rows_51 (by decide) (fun c8 => ?_) (fun c8 => ?_)
  · have hf := q_pos c8 hf
    refine lv_iload E.1 E.2.1 dX8_rows_62 (lv_at hl 0 rfl) ?_
    refine lv_istore_n (lv' := [(2, .int u0), (4, .int u0), (0, .ref (ad G v0)), (1, .int v1), (3, .int v3)]) E.1 E.2.1 dX8_rows_64 rfl hl (by decide) rfl (fun ls hl => ?_)
    refine lv_iinc (v := v3 + 1) (lv' := [(3, .int (v3 + 1)), (2, .int u0), (4, .int u0), (0, .ref (ad G v0)), (1, .int v1)]) E.1 E.2.1 dX8_rows_65 hl (k := 4) rfl rfl (by decide) rfl (fun ls hl => ?_)
    refine lv_goto (tgt := 6) E.1 E.2.1 dX8_rows_68 (by decide) ?_
    exact hK6 _ _ _ _ _ _ _ _ hf w t_v0 (lv_sub hl [3, 4, 1, 0] rfl)
  · have hf := q_neg c8 hf
    refine lv_aload_n E.1 E.2.1 dX8_rows_54 rfl (lv_at hl 1 rfl) ?_
    refine lv_iload_n E.1 E.2.1 dX8_rows_55 rfl (lv_at hl 4 rfl) ?_
    refine lv_iload_n E.1 E.2.1 dX8_rows_56 rfl (lv_at hl 3 rfl) ?_
    refine lv_iload_n E.1 E.2.1 dX8_rows_57 rfl (lv_at hl 2 rfl) ?_
    obtain ⟨r10, h11, hc9, hf⟩ := bd2_e hf
    refine k_Vi (As := [.int v3, .int v2, .int v1]) (rest := []) E w t_v0 ⟨by decide, rfl⟩ (X8_goTo_c t_v0 hc9) mv_RX8_52 rfl rfl hl.1 ⟨Nat.le_of_ble_eq_true rfl, Nat.le_of_ble_eq_true rfl⟩ (Nat.le_of_ble_eq_true rfl) ⟨Nat.le_refl _, Nat.le_refl _⟩ dX8_rows_58 (fun H locs w => ?_)
    refine lv_istore_n (lv' := [(1, .int r10), (4, .int u0), (0, .ref (ad G v0)), (2, .int v2), (3, .int v3)]) E.1 E.2.1 dX8_rows_61 rfl hl (by decide) rfl (fun ls hl => ?_)
    refine lv_iload E.1 E.2.1 dX8_rows_62 (lv_at hl 1 rfl) ?_
    refine lv_istore_n (lv' := [(2, .int u0), (1, .int r10), (4, .int u0), (0, .ref (ad G v0)), (3, .int v3)]) E.1 E.2.1 dX8_rows_64 rfl hl (by decide) rfl (fun ls hl => ?_)
    refine lv_iinc (v := v3 + 1) (lv' := [(3, .int (v3 + 1)), (2, .int u0), (1, .int r10), (4, .int u0), (0, .ref (ad G v0))]) E.1 E.2.1 dX8_rows_65 hl (k := 4) rfl rfl (by decide) rfl (fun ls hl => ?_)
    refine lv_goto (tgt := 6) E.1 E.2.1 dX8_rows_68 (by decide) ?_
    exact hK6 _ _ _ _ _ _ _ _ hf w t_v0 (lv_sub hl [4, 2, 1, 0] rfl)

def X8_rows_l6 (N : Nat) : Nat → HS → Nat → Int32 → Int32 → Int32 → Option (Int32 × HS)
  | 0, _, _, _, _, _ => none
  | n + 1, h, v0, v1, v2, v3 => (if (h.1 (h.2 v0) 1) ≤ v3 then some (v1, h) else (if (8 : Int32) ≤ v3 then some (v1, h) else bd1 (X8_isWalled N h v0 v3) fun r5 => (if r5 = 0 then bd1 (X1_sounds N h (h.2 v0) v3) fun r14 => (if r14 = 0 then X8_rows_b47 N h (X8_rows_l6 N n) v0 v1 v2 v3 0 else X8_rows_b47 N h (X8_rows_l6 N n) v0 v1 v2 v3 1) else X8_rows_b47 N h (X8_rows_l6 N n) v0 v1 v2 v3 1)))
set_option maxRecDepth 4000 in
set_option maxHeartbeats 2000000 in
theorem X8_rows_l6_w {p : Program} {l : Launch} {e : Env} {s : State} {m : MethodId} {args : Array Value} {below : List Frame} {meth : Method} {c : Code} {G : GT} {N : Nat} {z : (Int32 × HS)} (E : CallFix p m c cX8_rows 5 s args UW RX8) (hr : meth.sig.returnType = (some .int)) (hlk : meth.locks = false) : ∀ (n : Nat) (h : HS) (H : Heap) (locs : List Loc) (ls : Array Slot) (v0 : Nat) (v1 : Int32) (v2 : Int32) (v3 : Int32), X8_rows_l6 N n h v0 v1 v2 v3 = some z → WD G s h H locs → sh v0 = 8 → lv_has ls 5 [(0, .ref (ad G v0)), (1, .int v1), (2, .int v2), (3, .int v3)] → W p l e ({ frames := 3, cells := 0, slots := 0, locals := 73 } : Room) s m args below meth c H locs 0 0 (MQ below (QC G (some (.int z.1)) z.2) args s 0 0 (AD G)) (F0 m 6 ls []) := by
  intro n
  induction n with
  | zero =>
    intro h H locs ls v0 v1 v2 v3 hf
    cases hf
  | succ n ih =>
    intro h H locs ls v0 v1 v2 v3 hf w t_v0 hl
    unfold X8_rows_l6 at hf
    refine lv_iload_n E.1 E.2.1 dX8_rows_6 rfl (lv_at hl 3 rfl) ?_
    refine lv_aload_n E.1 E.2.1 dX8_rows_7 rfl (lv_at hl 0 rfl) ?_
    refine q_gh E w t_v0 (by decide) fl_RX8_12 dX8_rows_8 (fun t1 => ?_)
    refine q_gi E w t1 fl_RX8_46 dX8_rows_11 ?_
    refine lv_icmp_ge (tgt := 71) E.1 E.2.1 dX8_rows_14 (by decide) (fun c2 => ?_) (fun c2 => ?_)
    · have hf := q_pos c2 hf
      refine lv_iload_n E.1 E.2.1 dX8_rows_71 rfl (lv_at hl 1 rfl) ?_
      have hf := Option.some.inj hf
      subst hf
      exact q_iret E w hr hlk dX8_rows_72
    · have hf := q_neg c2 hf
      refine lv_iload_n E.1 E.2.1 dX8_rows_17 rfl (lv_at hl 3 rfl) ?_
      refine lv_bipush (v := 8) E.1 E.2.1 dX8_rows_18 rfl ?_
      refine lv_icmp_ge (tgt := 71) E.1 E.2.1 dX8_rows_20 (by decide) (fun c3 => ?_) (fun c3 => ?_)
      · have hf := q_pos c3 hf
        refine lv_iload_n E.1 E.2.1 dX8_rows_71 rfl (lv_at hl 1 rfl) ?_
        have hf := Option.some.inj hf
        subst hf
        exact q_iret E w hr hlk dX8_rows_72
      · have hf := q_neg c3 hf
        refine lv_aload_n E.1 E.2.1 dX8_rows_23 rfl (lv_at hl 0 rfl) ?_
        refine lv_iload_n E.1 E.2.1 dX8_rows_24 rfl (lv_at hl 3 rfl) ?_
        obtain ⟨r5, hc4, hf⟩ := bd1_e hf
        refine k_Vi (As := [.int v3]) (rest := []) E w t_v0 ⟨by decide, rfl⟩ (X8_isWalled_c t_v0 hc4) mv_RX8_31 rfl rfl hl.1 ⟨Nat.le_of_ble_eq_true rfl, Nat.le_of_ble_eq_true rfl⟩ (Nat.le_of_ble_eq_true rfl) ⟨Nat.le_refl _, Nat.le_refl _⟩ dX8_rows_25 (fun H locs w => ?_)
        refine lv_if_ne (tgt := 42) E.1 E.2.1 dX8_rows_28 (by decide) (fun c7 => ?_) (fun c7 => ?_)
        · have hf := q_neg c7 hf
          refine lv_iconst (v := 1) E.1 E.2.1 dX8_rows_42 rfl ?_
          refine lv_goto (tgt := 47) E.1 E.2.1 dX8_rows_43 (by decide) ?_
          exact X8_rows_b47_w E hr hlk ih hf w t_v0 (lv_sub hl [0, 1, 2, 3] rfl)
        · have hf := q_pos c7 hf
          refine lv_aload_n E.1 E.2.1 dX8_rows_31 rfl (lv_at hl 0 rfl) ?_
          refine q_gh E w t_v0 (by decide) fl_RX8_12 dX8_rows_32 (fun t12 => ?_)
          refine lv_iload_n E.1 E.2.1 dX8_rows_35 rfl (lv_at hl 3 rfl) ?_
          obtain ⟨r14, hc13, hf⟩ := bd1_e hf
          refine k_Vi (As := [.int v3]) (rest := []) E w t12 ⟨by decide, rfl⟩ (X1_sounds_c t12 hc13) mv_RX8_49 rfl rfl hl.1 ⟨Nat.le_of_ble_eq_true rfl, Nat.le_of_ble_eq_true rfl⟩ (Nat.le_of_ble_eq_true rfl) ⟨Nat.le_refl _, Nat.le_refl _⟩ dX8_rows_36 (fun H locs w => ?_)
          refine lv_if_eq (tgt := 46) E.1 E.2.1 dX8_rows_39 (by decide) (fun c16 => ?_) (fun c16 => ?_)
          · have hf := q_pos c16 hf
            refine lv_iconst (v := 0) E.1 E.2.1 dX8_rows_46 rfl ?_
            exact X8_rows_b47_w E hr hlk ih hf w t_v0 (lv_sub hl [0, 1, 2, 3] rfl)
          · have hf := q_neg c16 hf
            refine lv_iconst (v := 1) E.1 E.2.1 dX8_rows_42 rfl ?_
            refine lv_goto (tgt := 47) E.1 E.2.1 dX8_rows_43 (by decide) ?_
            exact X8_rows_b47_w E hr hlk ih hf w t_v0 (lv_sub hl [0, 1, 2, 3] rfl)

def X8_rows (N : Nat) (h : HS) (v0 : Nat) : Option (Int32 × HS) := X8_rows_l6 N N h v0 1 0 0
set_option maxRecDepth 4000 in
set_option maxHeartbeats 2000000 in
theorem X8_rows_c {l : Launch} {G : GT} {N : Nat} {h : HS} {v0 : Nat} {z : (Int32 × HS)} (t_v0 : sh v0 = 8) (hf : X8_rows N h v0 = some z) : CT l G yX8_rows cX8_rows 5 (some .int) 3 73 [.ref (ad G v0)] h (some (.int z.1)) z.2 := by
  unfold X8_rows at hf
  refine CT.of (by decide) (Nat.le_of_ble_eq_true rfl) ?_
  intro p e s m below meth c ls E hr hlk w hl
  have hl : lv_has ls 5 [(0, .ref (ad G v0))] := hl
  refine lv_iconst (v := 1) E.1 E.2.1 dX8_rows_0 rfl ?_
  refine lv_istore_n (lv' := [(1, .int 1), (0, .ref (ad G v0))]) E.1 E.2.1 dX8_rows_1 rfl hl (by decide) rfl (fun ls hl => ?_)
  refine lv_iconst (v := 0) E.1 E.2.1 dX8_rows_2 rfl ?_
  refine lv_istore_n (lv' := [(2, .int 0), (1, .int 1), (0, .ref (ad G v0))]) E.1 E.2.1 dX8_rows_3 rfl hl (by decide) rfl (fun ls hl => ?_)
  refine lv_iconst (v := 0) E.1 E.2.1 dX8_rows_4 rfl ?_
  refine lv_istore_n (lv' := [(3, .int 0), (2, .int 0), (1, .int 1), (0, .ref (ad G v0))]) E.1 E.2.1 dX8_rows_5 rfl hl (by decide) rfl (fun ls hl => ?_)
  exact X8_rows_l6_w E hr hlk N _ _ _ _ _ _ _ _ hf w t_v0 (lv_sub hl [3, 2, 1, 0] rfl)

def X8_lowest_l14 (N : Nat) : Nat → HS → Nat → Int32 → Int32 → Option (Int32 × HS)
  | 0, _, _, _, _ => none
  | n + 1, h, v0, v1, v2 => (if (9 : Int32) < v2 then some ((-1), h) else (if v1 < 0 ∨ 8 ≤ v1.toNatClampNeg then none else sq (wi h (v0 + 11) v1.toNatClampNeg v2) fun h5 => bd2 (X8_rows N h5 v0) fun r7 h8 => (if r7 ≤ 0 then X8_lowest_l14 N n h8 v0 v1 (v2 + 1) else some (v2, h8))))
set_option maxRecDepth 4000 in
set_option maxHeartbeats 2000000 in
theorem X8_lowest_l14_w {p : Program} {l : Launch} {e : Env} {s : State} {m : MethodId} {args : Array Value} {below : List Frame} {meth : Method} {c : Code} {G : GT} {N : Nat} {z : (Int32 × HS)} (E : CallFix p m c cX8_lowest 3 s args UW RX8) (hr : meth.sig.returnType = (some .int)) (hlk : meth.locks = false) : ∀ (n : Nat) (h : HS) (H : Heap) (locs : List Loc) (ls : Array Slot) (v0 : Nat) (v1 : Int32) (v2 : Int32), X8_lowest_l14 N n h v0 v1 v2 = some z → WD G s h H locs → sh v0 = 8 → lv_has ls 3 [(0, .ref (ad G v0)), (1, .int v1), (2, .int v2)] → W p l e ({ frames := 4, cells := 0, slots := 0, locals := 97 } : Room) s m args below meth c H locs 0 0 (MQ below (QC G (some (.int z.1)) z.2) args s 0 0 (AD G)) (F0 m 14 ls []) := by
  intro n
  induction n with
  | zero =>
    intro h H locs ls v0 v1 v2 hf
    cases hf
  | succ n ih =>
    intro h H locs ls v0 v1 v2 hf w t_v0 hl
    unfold X8_lowest_l14 at hf
    refine lv_iload_n E.1 E.2.1 dX8_lowest_14 rfl (lv_at hl 2 rfl) ?_
    refine lv_bipush (v := 9) E.1 E.2.1 dX8_lowest_15 rfl ?_
    refine lv_icmp_gt (tgt := 42) E.1 E.2.1 dX8_lowest_17 (by decide) (fun c3 => ?_) (fun c3 => ?_)
    · have hf := q_pos c3 hf
      refine lv_iconst (v := (-1)) E.1 E.2.1 dX8_lowest_42 rfl ?_
      have hf := Option.some.inj hf
      subst hf
      exact q_iret E w hr hlk dX8_lowest_43
    · have hf := q_neg c3 hf
      refine lv_aload_n E.1 E.2.1 dX8_lowest_20 rfl (lv_at hl 0 rfl) ?_
      refine q_gs E w 11 t_v0 fl_RX8_18 dX8_lowest_21 ?_
      refine lv_iload_n E.1 E.2.1 dX8_lowest_24 rfl (lv_at hl 1 rfl) ?_
      refine lv_iload_n E.1 E.2.1 dX8_lowest_25 rfl (lv_at hl 2 rfl) ?_
      obtain ⟨b4, hf⟩ := q_if hf
      refine p_iast E w ((lay_8_1 t_v0).1) ((lay_8_1 t_v0).2) b4 dX8_lowest_26 (fun h5 H locs eh w => ?_)
      have hf := sq_e eh hf
      clear eh
      refine lv_aload_n E.1 E.2.1 dX8_lowest_27 rfl (lv_at hl 0 rfl) ?_
      obtain ⟨r7, h8, hc6, hf⟩ := bd2_e hf
      refine k_Vi (As := []) (rest := []) E w t_v0 ⟨by decide, rfl⟩ (X8_rows_c t_v0 hc6) mv_RX8_81 rfl rfl hl.1 ⟨Nat.le_of_ble_eq_true rfl, Nat.le_of_ble_eq_true rfl⟩ (Nat.le_of_ble_eq_true rfl) ⟨Nat.le_refl _, Nat.le_refl _⟩ dX8_lowest_28 (fun H locs w => ?_)
      refine lv_if_le (tgt := 36) E.1 E.2.1 dX8_lowest_31 (by decide) (fun c9 => ?_) (fun c9 => ?_)
      · have hf := q_pos c9 hf
        refine lv_iinc (v := v2 + 1) (lv' := [(2, .int (v2 + 1)), (0, .ref (ad G v0)), (1, .int v1)]) E.1 E.2.1 dX8_lowest_36 hl (k := 2) rfl rfl (by decide) rfl (fun ls hl => ?_)
        refine lv_goto (tgt := 14) E.1 E.2.1 dX8_lowest_39 (by decide) ?_
        exact ih _ _ _ _ _ _ _ hf w t_v0 (lv_sub hl [1, 2, 0] rfl)
      · have hf := q_neg c9 hf
        refine lv_iload_n E.1 E.2.1 dX8_lowest_34 rfl (lv_at hl 2 rfl) ?_
        have hf := Option.some.inj hf
        subst hf
        exact q_iret E w hr hlk dX8_lowest_35

def X8_lowest (N : Nat) (h : HS) (v0 : Nat) (v1 : Int32) : Option (Int32 × HS) := (if v1 < 0 then some ((-1), h) else (if v1 < (8 : Int32) then X8_lowest_l14 N N h v0 v1 1 else some ((-1), h)))
set_option maxRecDepth 4000 in
set_option maxHeartbeats 2000000 in
theorem X8_lowest_c {l : Launch} {G : GT} {N : Nat} {h : HS} {v0 : Nat} {v1 : Int32} {z : (Int32 × HS)} (t_v0 : sh v0 = 8) (hf : X8_lowest N h v0 v1 = some z) : CT l G yX8_lowest cX8_lowest 3 (some .int) 4 97 [.ref (ad G v0), .int v1] h (some (.int z.1)) z.2 := by
  unfold X8_lowest at hf
  refine CT.of (by decide) (Nat.le_of_ble_eq_true rfl) ?_
  intro p e s m below meth c ls E hr hlk w hl
  have hl : lv_has ls 3 [(0, .ref (ad G v0)), (1, .int v1)] := hl
  refine lv_iload_n E.1 E.2.1 dX8_lowest_0 rfl (lv_at hl 1 rfl) ?_
  refine lv_if_lt (tgt := 10) E.1 E.2.1 dX8_lowest_1 (by decide) (fun c1 => ?_) (fun c1 => ?_)
  · have hf := q_pos c1 hf
    refine lv_iconst (v := (-1)) E.1 E.2.1 dX8_lowest_10 rfl ?_
    have hf := Option.some.inj hf
    subst hf
    exact q_iret E w hr hlk dX8_lowest_11
  · have hf := q_neg c1 hf
    refine lv_iload_n E.1 E.2.1 dX8_lowest_4 rfl (lv_at hl 1 rfl) ?_
    refine lv_bipush (v := 8) E.1 E.2.1 dX8_lowest_5 rfl ?_
    refine lv_icmp_lt (tgt := 12) E.1 E.2.1 dX8_lowest_7 (by decide) (fun c2 => ?_) (fun c2 => ?_)
    · have hf := q_pos c2 hf
      refine lv_iconst (v := 1) E.1 E.2.1 dX8_lowest_12 rfl ?_
      refine lv_istore_n (lv' := [(2, .int 1), (0, .ref (ad G v0)), (1, .int v1)]) E.1 E.2.1 dX8_lowest_13 rfl hl (by decide) rfl (fun ls hl => ?_)
      exact X8_lowest_l14_w E hr hlk N _ _ _ _ _ _ _ hf w t_v0 (lv_sub hl [1, 2, 0] rfl)
    · have hf := q_neg c2 hf
      refine lv_iconst (v := (-1)) E.1 E.2.1 dX8_lowest_10 rfl ?_
      have hf := Option.some.inj hf
      subst hf
      exact q_iret E w hr hlk dX8_lowest_11

def X8_leastOf_l4 (N : Nat) : Nat → HS → Nat → Int32 → Int32 → Int32 → Option (Int32 × HS)
  | 0, _, _, _, _, _ => none
  | n + 1, h, v0, v1, v2, v3 => (if v1 < v3 then bd1 (X8_free N h v0) fun h4 => some (v2, h4) else (if (8 : Int32) ≤ v3 then bd1 (X8_free N h v0) fun h8 => some (v2, h8) else bd1 (X10_bitAt N h (h.1 (h.2 v0) 4) v3) fun r11 => bd2 (X8_lowest N h v0 r11) fun r14 h15 => X8_leastOf_l4 N n h15 v0 v1 r14 (v3 + 1)))
set_option maxRecDepth 4000 in
set_option maxHeartbeats 2000000 in
theorem X8_leastOf_l4_w {p : Program} {l : Launch} {e : Env} {s : State} {m : MethodId} {args : Array Value} {below : List Frame} {meth : Method} {c : Code} {G : GT} {N : Nat} {z : (Int32 × HS)} (E : CallFix p m c cX8_leastOf 4 s args UW RX8) (hr : meth.sig.returnType = (some .int)) (hlk : meth.locks = false) : ∀ (n : Nat) (h : HS) (H : Heap) (locs : List Loc) (ls : Array Slot) (v0 : Nat) (v1 : Int32) (v2 : Int32) (v3 : Int32), X8_leastOf_l4 N n h v0 v1 v2 v3 = some z → WD G s h H locs → sh v0 = 8 → lv_has ls 4 [(0, .ref (ad G v0)), (1, .int v1), (2, .int v2), (3, .int v3)] → W p l e ({ frames := 5, cells := 0, slots := 0, locals := 119 } : Room) s m args below meth c H locs 0 0 (MQ below (QC G (some (.int z.1)) z.2) args s 0 0 (AD G)) (F0 m 4 ls []) := by
  intro n
  induction n with
  | zero =>
    intro h H locs ls v0 v1 v2 v3 hf
    cases hf
  | succ n ih =>
    intro h H locs ls v0 v1 v2 v3 hf w t_v0 hl
    unfold X8_leastOf_l4 at hf
    refine lv_iload_n E.1 E.2.1 dX8_leastOf_4 rfl (lv_at hl 3 rfl) ?_
    refine lv_iload_n E.1 E.2.1 dX8_leastOf_5 rfl (lv_at hl 1 rfl) ?_
    refine lv_icmp_gt (tgt := 37) E.1 E.2.1 dX8_leastOf_6 (by decide) (fun c1 => ?_) (fun c1 => ?_)
    · have hf := q_pos c1 hf
      refine lv_aload_n E.1 E.2.1 dX8_leastOf_37 rfl (lv_at hl 0 rfl) ?_
      obtain ⟨h4, hc2, hf⟩ := bd1_e hf
      refine k_Vv (As := []) (rest := []) E w t_v0 ⟨by decide, rfl⟩ (X8_free_c t_v0 hc2) mv_RX8_28 rfl rfl hl.1 ⟨Nat.le_of_ble_eq_true rfl, Nat.le_of_ble_eq_true rfl⟩ (Nat.le_of_ble_eq_true rfl) ⟨Nat.le_refl _, Nat.le_refl _⟩ dX8_leastOf_38 (fun H locs w => ?_)
      refine lv_iload_n E.1 E.2.1 dX8_leastOf_41 rfl (lv_at hl 2 rfl) ?_
      have hf := Option.some.inj hf
      subst hf
      exact q_iret E w hr hlk dX8_leastOf_42
    · have hf := q_neg c1 hf
      refine lv_iload_n E.1 E.2.1 dX8_leastOf_9 rfl (lv_at hl 3 rfl) ?_
      refine lv_bipush (v := 8) E.1 E.2.1 dX8_leastOf_10 rfl ?_
      refine lv_icmp_ge (tgt := 37) E.1 E.2.1 dX8_leastOf_12 (by decide) (fun c5 => ?_) (fun c5 => ?_)
      · have hf := q_pos c5 hf
        refine lv_aload_n E.1 E.2.1 dX8_leastOf_37 rfl (lv_at hl 0 rfl) ?_
        obtain ⟨h8, hc6, hf⟩ := bd1_e hf
        refine k_Vv (As := []) (rest := []) E w t_v0 ⟨by decide, rfl⟩ (X8_free_c t_v0 hc6) mv_RX8_28 rfl rfl hl.1 ⟨Nat.le_of_ble_eq_true rfl, Nat.le_of_ble_eq_true rfl⟩ (Nat.le_of_ble_eq_true rfl) ⟨Nat.le_refl _, Nat.le_refl _⟩ dX8_leastOf_38 (fun H locs w => ?_)
        refine lv_iload_n E.1 E.2.1 dX8_leastOf_41 rfl (lv_at hl 2 rfl) ?_
        have hf := Option.some.inj hf
        subst hf
        exact q_iret E w hr hlk dX8_leastOf_42
      · have hf := q_neg c5 hf
        refine lv_aload_n E.1 E.2.1 dX8_leastOf_15 rfl (lv_at hl 0 rfl) ?_
        refine lv_aload_n E.1 E.2.1 dX8_leastOf_16 rfl (lv_at hl 0 rfl) ?_
        refine q_gh E w t_v0 (by decide) fl_RX8_12 dX8_leastOf_17 (fun t9 => ?_)
        refine q_gi E w t9 fl_RX8_42 dX8_leastOf_20 ?_
        refine lv_iload_n E.1 E.2.1 dX8_leastOf_23 rfl (lv_at hl 3 rfl) ?_
        obtain ⟨r11, hc10, hf⟩ := bd1_e hf
        refine k_Ni (As := [.int (h.1 (h.2 v0) 4), .int v3]) (rest := [.ref (ad G v0)]) E w (X10_bitAt_c  hc10) mn_RX8_74 rfl rfl hl.1 ⟨Nat.le_of_ble_eq_true rfl, Nat.le_of_ble_eq_true rfl⟩ (Nat.le_of_ble_eq_true rfl) ⟨Nat.le_refl _, Nat.le_refl _⟩ dX8_leastOf_24 (fun H locs w => ?_)
        obtain ⟨r14, h15, hc13, hf⟩ := bd2_e hf
        refine k_Vi (As := [.int r11]) (rest := []) E w t_v0 ⟨by decide, rfl⟩ (X8_lowest_c t_v0 hc13) mv_RX8_78 rfl rfl hl.1 ⟨Nat.le_of_ble_eq_true rfl, Nat.le_of_ble_eq_true rfl⟩ (Nat.le_of_ble_eq_true rfl) ⟨Nat.le_refl _, Nat.le_refl _⟩ dX8_leastOf_27 (fun H locs w => ?_)
        refine lv_istore_n (lv' := [(2, .int r14), (0, .ref (ad G v0)), (1, .int v1), (3, .int v3)]) E.1 E.2.1 dX8_leastOf_30 rfl hl (by decide) rfl (fun ls hl => ?_)
        refine lv_iinc (v := v3 + 1) (lv' := [(3, .int (v3 + 1)), (2, .int r14), (0, .ref (ad G v0)), (1, .int v1)]) E.1 E.2.1 dX8_leastOf_31 hl (k := 3) rfl rfl (by decide) rfl (fun ls hl => ?_)
        refine lv_goto (tgt := 4) E.1 E.2.1 dX8_leastOf_34 (by decide) ?_
        exact ih _ _ _ _ _ _ _ _ hf w t_v0 (lv_sub hl [2, 3, 1, 0] rfl)

def X8_leastOf (N : Nat) (h : HS) (v0 : Nat) (v1 : Int32) : Option (Int32 × HS) := X8_leastOf_l4 N N h v0 v1 (-1) 0
set_option maxRecDepth 4000 in
set_option maxHeartbeats 2000000 in
theorem X8_leastOf_c {l : Launch} {G : GT} {N : Nat} {h : HS} {v0 : Nat} {v1 : Int32} {z : (Int32 × HS)} (t_v0 : sh v0 = 8) (hf : X8_leastOf N h v0 v1 = some z) : CT l G yX8_leastOf cX8_leastOf 4 (some .int) 5 119 [.ref (ad G v0), .int v1] h (some (.int z.1)) z.2 := by
  unfold X8_leastOf at hf
  refine CT.of (by decide) (Nat.le_of_ble_eq_true rfl) ?_
  intro p e s m below meth c ls E hr hlk w hl
  have hl : lv_has ls 4 [(0, .ref (ad G v0)), (1, .int v1)] := hl
  refine lv_iconst (v := (-1)) E.1 E.2.1 dX8_leastOf_0 rfl ?_
  refine lv_istore_n (lv' := [(2, .int (-1)), (0, .ref (ad G v0)), (1, .int v1)]) E.1 E.2.1 dX8_leastOf_1 rfl hl (by decide) rfl (fun ls hl => ?_)
  refine lv_iconst (v := 0) E.1 E.2.1 dX8_leastOf_2 rfl ?_
  refine lv_istore_n (lv' := [(3, .int 0), (2, .int (-1)), (0, .ref (ad G v0)), (1, .int v1)]) E.1 E.2.1 dX8_leastOf_3 rfl hl (by decide) rfl (fun ls hl => ?_)
  exact X8_leastOf_l4_w E hr hlk N _ _ _ _ _ _ _ _ hf w t_v0 (lv_sub hl [2, 3, 1, 0] rfl)

def X8_sureOf_l32 (N : Nat) : Nat → HS → Nat → Int32 → Int32 → Int32 → Int32 → Option (Int32 × HS)
  | 0, _, _, _, _, _, _ => none
  | n + 1, h, v0, v2, v3, v4, v5 => (if (9 : Int32) < v5 then bd1 (X8_free N h v0) fun h10 => (if v4 = (1 : Int32) then some (v3, h10) else some ((-1), h10)) else (if v2 < 0 ∨ 8 ≤ v2.toNatClampNeg then none else sq (wi h (v0 + 11) v2.toNatClampNeg v5) fun h13 => bd2 (X8_rows N h13 v0) fun r15 h16 => (if r15 ≤ 0 then X8_sureOf_l32 N n h16 v0 v2 v3 v4 (v5 + 1) else X8_sureOf_l32 N n h16 v0 v2 v5 (v4 + 1) (v5 + 1))))
set_option maxRecDepth 4000 in
set_option maxHeartbeats 2000000 in
theorem X8_sureOf_l32_w {p : Program} {l : Launch} {e : Env} {s : State} {m : MethodId} {args : Array Value} {below : List Frame} {meth : Method} {c : Code} {G : GT} {N : Nat} {z : (Int32 × HS)} (E : CallFix p m c cX8_sureOf 6 s args UW RX8) (hr : meth.sig.returnType = (some .int)) (hlk : meth.locks = false) : ∀ (n : Nat) (h : HS) (H : Heap) (locs : List Loc) (ls : Array Slot) (v0 : Nat) (v2 : Int32) (v3 : Int32) (v4 : Int32) (v5 : Int32), X8_sureOf_l32 N n h v0 v2 v3 v4 v5 = some z → WD G s h H locs → sh v0 = 8 → lv_has ls 6 [(0, .ref (ad G v0)), (2, .int v2), (3, .int v3), (4, .int v4), (5, .int v5)] → W p l e ({ frames := 4, cells := 0, slots := 0, locals := 97 } : Room) s m args below meth c H locs 0 0 (MQ below (QC G (some (.int z.1)) z.2) args s 0 0 (AD G)) (F0 m 32 ls []) := by
  intro n
  induction n with
  | zero =>
    intro h H locs ls v0 v2 v3 v4 v5 hf
    cases hf
  | succ n ih =>
    intro h H locs ls v0 v2 v3 v4 v5 hf w t_v0 hl
    unfold X8_sureOf_l32 at hf
    refine lv_iload E.1 E.2.1 dX8_sureOf_32 (lv_at hl 4 rfl) ?_
    refine lv_bipush (v := 9) E.1 E.2.1 dX8_sureOf_34 rfl ?_
    refine lv_icmp_gt (tgt := 66) E.1 E.2.1 dX8_sureOf_36 (by decide) (fun c7 => ?_) (fun c7 => ?_)
    · have hf := q_pos c7 hf
      refine lv_aload_n E.1 E.2.1 dX8_sureOf_66 rfl (lv_at hl 0 rfl) ?_
      obtain ⟨h10, hc8, hf⟩ := bd1_e hf
      refine k_Vv (As := []) (rest := []) E w t_v0 ⟨by decide, rfl⟩ (X8_free_c t_v0 hc8) mv_RX8_28 rfl rfl hl.1 ⟨Nat.le_of_ble_eq_true rfl, Nat.le_of_ble_eq_true rfl⟩ (Nat.le_of_ble_eq_true rfl) ⟨Nat.le_refl _, Nat.le_refl _⟩ dX8_sureOf_67 (fun H locs w => ?_)
      refine lv_iload E.1 E.2.1 dX8_sureOf_70 (lv_at hl 3 rfl) ?_
      refine lv_iconst (v := 1) E.1 E.2.1 dX8_sureOf_72 rfl ?_
      refine lv_icmp_ne (tgt := 80) E.1 E.2.1 dX8_sureOf_73 (by decide) (fun c11 => ?_) (fun c11 => ?_)
      · have hf := q_neg c11 hf
        refine lv_iconst (v := (-1)) E.1 E.2.1 dX8_sureOf_80 rfl ?_
        have hf := Option.some.inj hf
        subst hf
        exact q_iret E w hr hlk dX8_sureOf_81
      · have hf := q_pos c11 hf
        refine lv_iload_n E.1 E.2.1 dX8_sureOf_76 rfl (lv_at hl 2 rfl) ?_
        refine lv_goto (tgt := 81) E.1 E.2.1 dX8_sureOf_77 (by decide) ?_
        have hf := Option.some.inj hf
        subst hf
        exact q_iret E w hr hlk dX8_sureOf_81
    · have hf := q_neg c7 hf
      refine lv_aload_n E.1 E.2.1 dX8_sureOf_39 rfl (lv_at hl 0 rfl) ?_
      refine q_gs E w 11 t_v0 fl_RX8_18 dX8_sureOf_40 ?_
      refine lv_iload_n E.1 E.2.1 dX8_sureOf_43 rfl (lv_at hl 1 rfl) ?_
      refine lv_iload E.1 E.2.1 dX8_sureOf_44 (lv_at hl 4 rfl) ?_
      obtain ⟨b12, hf⟩ := q_if hf
      refine p_iast E w ((lay_8_1 t_v0).1) ((lay_8_1 t_v0).2) b12 dX8_sureOf_46 (fun h13 H locs eh w => ?_)
      have hf := sq_e eh hf
      clear eh
      refine lv_aload_n E.1 E.2.1 dX8_sureOf_47 rfl (lv_at hl 0 rfl) ?_
      obtain ⟨r15, h16, hc14, hf⟩ := bd2_e hf
      refine k_Vi (As := []) (rest := []) E w t_v0 ⟨by decide, rfl⟩ (X8_rows_c t_v0 hc14) mv_RX8_81 rfl rfl hl.1 ⟨Nat.le_of_ble_eq_true rfl, Nat.le_of_ble_eq_true rfl⟩ (Nat.le_of_ble_eq_true rfl) ⟨Nat.le_refl _, Nat.le_refl _⟩ dX8_sureOf_48 (fun H locs w => ?_)
      refine lv_if_le (tgt := 60) E.1 E.2.1 dX8_sureOf_51 (by decide) (fun c17 => ?_) (fun c17 => ?_)
      · have hf := q_pos c17 hf
        refine lv_iinc (v := v5 + 1) (lv' := [(5, .int (v5 + 1)), (0, .ref (ad G v0)), (2, .int v2), (3, .int v3), (4, .int v4)]) E.1 E.2.1 dX8_sureOf_60 hl (k := 4) rfl rfl (by decide) rfl (fun ls hl => ?_)
        refine lv_goto (tgt := 32) E.1 E.2.1 dX8_sureOf_63 (by decide) ?_
        exact ih _ _ _ _ _ _ _ _ _ hf w t_v0 (lv_sub hl [1, 2, 3, 4, 0] rfl)
      · have hf := q_neg c17 hf
        refine lv_iload E.1 E.2.1 dX8_sureOf_54 (lv_at hl 4 rfl) ?_
        refine lv_istore_n (lv' := [(3, .int v5), (0, .ref (ad G v0)), (2, .int v2), (4, .int v4), (5, .int v5)]) E.1 E.2.1 dX8_sureOf_56 rfl hl (by decide) rfl (fun ls hl => ?_)
        refine lv_iinc (v := v4 + 1) (lv' := [(4, .int (v4 + 1)), (3, .int v5), (0, .ref (ad G v0)), (2, .int v2), (5, .int v5)]) E.1 E.2.1 dX8_sureOf_57 hl (k := 3) rfl rfl (by decide) rfl (fun ls hl => ?_)
        refine lv_iinc (v := v5 + 1) (lv' := [(5, .int (v5 + 1)), (4, .int (v4 + 1)), (3, .int v5), (0, .ref (ad G v0)), (2, .int v2)]) E.1 E.2.1 dX8_sureOf_60 hl (k := 4) rfl rfl (by decide) rfl (fun ls hl => ?_)
        refine lv_goto (tgt := 32) E.1 E.2.1 dX8_sureOf_63 (by decide) ?_
        exact ih _ _ _ _ _ _ _ _ _ hf w t_v0 (lv_sub hl [3, 4, 2, 1, 0] rfl)

def X8_sureOf (N : Nat) (h : HS) (v0 : Nat) (v1 : Int32) : Option (Int32 × HS) := bd1 (X10_bitAt N h (h.1 (h.2 v0) 4) v1) fun r3 => (if r3 < 0 then some ((-1), h) else (if r3 < (8 : Int32) then X8_sureOf_l32 N N h v0 r3 (-1) 0 1 else some ((-1), h)))
set_option maxRecDepth 4000 in
set_option maxHeartbeats 2000000 in
theorem X8_sureOf_c {l : Launch} {G : GT} {N : Nat} {h : HS} {v0 : Nat} {v1 : Int32} {z : (Int32 × HS)} (t_v0 : sh v0 = 8) (hf : X8_sureOf N h v0 v1 = some z) : CT l G yX8_sureOf cX8_sureOf 6 (some .int) 4 97 [.ref (ad G v0), .int v1] h (some (.int z.1)) z.2 := by
  unfold X8_sureOf at hf
  refine CT.of (by decide) (Nat.le_of_ble_eq_true rfl) ?_
  intro p e s m below meth c ls E hr hlk w hl
  have hl : lv_has ls 6 [(0, .ref (ad G v0)), (1, .int v1)] := hl
  refine lv_aload_n E.1 E.2.1 dX8_sureOf_0 rfl (lv_at hl 0 rfl) ?_
  refine q_gh E w t_v0 (by decide) fl_RX8_12 dX8_sureOf_1 (fun t1 => ?_)
  refine q_gi E w t1 fl_RX8_42 dX8_sureOf_4 ?_
  refine lv_iload_n E.1 E.2.1 dX8_sureOf_7 rfl (lv_at hl 1 rfl) ?_
  obtain ⟨r3, hc2, hf⟩ := bd1_e hf
  refine k_Ni (As := [.int (h.1 (h.2 v0) 4), .int v1]) (rest := []) E w (X10_bitAt_c  hc2) mn_RX8_74 rfl rfl hl.1 ⟨Nat.le_of_ble_eq_true rfl, Nat.le_of_ble_eq_true rfl⟩ (Nat.le_of_ble_eq_true rfl) ⟨Nat.le_refl _, Nat.le_refl _⟩ dX8_sureOf_8 (fun H locs w => ?_)
  refine lv_istore_n (lv' := [(2, .int r3), (0, .ref (ad G v0)), (1, .int v1)]) E.1 E.2.1 dX8_sureOf_11 rfl hl (by decide) rfl (fun ls hl => ?_)
  refine lv_iload_n E.1 E.2.1 dX8_sureOf_12 rfl (lv_at hl 0 rfl) ?_
  refine lv_if_lt (tgt := 22) E.1 E.2.1 dX8_sureOf_13 (by decide) (fun c5 => ?_) (fun c5 => ?_)
  · have hf := q_pos c5 hf
    refine lv_iconst (v := (-1)) E.1 E.2.1 dX8_sureOf_22 rfl ?_
    have hf := Option.some.inj hf
    subst hf
    exact q_iret E w hr hlk dX8_sureOf_23
  · have hf := q_neg c5 hf
    refine lv_iload_n E.1 E.2.1 dX8_sureOf_16 rfl (lv_at hl 0 rfl) ?_
    refine lv_bipush (v := 8) E.1 E.2.1 dX8_sureOf_17 rfl ?_
    refine lv_icmp_lt (tgt := 24) E.1 E.2.1 dX8_sureOf_19 (by decide) (fun c6 => ?_) (fun c6 => ?_)
    · have hf := q_pos c6 hf
      refine lv_iconst (v := (-1)) E.1 E.2.1 dX8_sureOf_24 rfl ?_
      refine lv_istore_n (lv' := [(3, .int (-1)), (2, .int r3), (0, .ref (ad G v0)), (1, .int v1)]) E.1 E.2.1 dX8_sureOf_25 rfl hl (by decide) rfl (fun ls hl => ?_)
      refine lv_iconst (v := 0) E.1 E.2.1 dX8_sureOf_26 rfl ?_
      refine lv_istore (lv' := [(4, .int 0), (3, .int (-1)), (2, .int r3), (0, .ref (ad G v0)), (1, .int v1)]) E.1 E.2.1 dX8_sureOf_27 hl (by decide) rfl (fun ls hl => ?_)
      refine lv_iconst (v := 1) E.1 E.2.1 dX8_sureOf_29 rfl ?_
      refine lv_istore (lv' := [(5, .int 1), (4, .int 0), (3, .int (-1)), (2, .int r3), (0, .ref (ad G v0)), (1, .int v1)]) E.1 E.2.1 dX8_sureOf_30 hl (by decide) rfl (fun ls hl => ?_)
      exact X8_sureOf_l32_w E hr hlk N _ _ _ _ _ _ _ _ _ hf w t_v0 (lv_sub hl [4, 3, 2, 1, 0] rfl)
    · have hf := q_neg c6 hf
      refine lv_iconst (v := (-1)) E.1 E.2.1 dX8_sureOf_22 rfl ?_
      have hf := Option.some.inj hf
      subst hf
      exact q_iret E w hr hlk dX8_sureOf_23

def X9_awakeNow_l4 (N : Nat) (h : HS) : Nat → Nat → Int32 → Int32 → Option Int32
  | 0, _, _, _ => none
  | n + 1, v0, v1, v2 => (if (8 : Int32) ≤ v2 then some v1 else (if (((h.1 v0 2) >>> (v2 &&& 31)) &&& 1) = 0 then X9_awakeNow_l4 N h n v0 v1 (v2 + 1) else bd1 (X10_at N h ((h.2 v0) + 5) v2) fun r6 => bd1 (X1_from N h (h.2 v0) r6) fun r9 => X9_awakeNow_l4 N h n v0 (v1 ||| r9) (v2 + 1)))
set_option maxRecDepth 4000 in
set_option maxHeartbeats 2000000 in
theorem X9_awakeNow_l4_w {p : Program} {l : Launch} {e : Env} {s : State} {m : MethodId} {args : Array Value} {below : List Frame} {meth : Method} {c : Code} {G : GT} {N : Nat} {h : HS} {z : Int32} (E : CallFix p m c cX9_awakeNow 3 s args UW RX9) (hr : meth.sig.returnType = (some .int)) (hlk : meth.locks = false) : ∀ (n : Nat) (H : Heap) (locs : List Loc) (ls : Array Slot) (v0 : Nat) (v1 : Int32) (v2 : Int32), X9_awakeNow_l4 N h n v0 v1 v2 = some z → WD G s h H locs → sh v0 = 9 → lv_has ls 3 [(0, .ref (ad G v0)), (1, .int v1), (2, .int v2)] → W p l e ({ frames := 1, cells := 0, slots := 0, locals := 21 } : Room) s m args below meth c H locs 0 0 (MQ below (QC G (some (.int z)) h) args s 0 0 (AD G)) (F0 m 4 ls []) := by
  intro n
  induction n with
  | zero =>
    intro H locs ls v0 v1 v2 hf
    cases hf
  | succ n ih =>
    intro H locs ls v0 v1 v2 hf w t_v0 hl
    unfold X9_awakeNow_l4 at hf
    refine lv_iload_n E.1 E.2.1 dX9_awakeNow_4 rfl (lv_at hl 2 rfl) ?_
    refine lv_bipush (v := 8) E.1 E.2.1 dX9_awakeNow_5 rfl ?_
    refine lv_icmp_ge (tgt := 48) E.1 E.2.1 dX9_awakeNow_7 (by decide) (fun c1 => ?_) (fun c1 => ?_)
    · have hf := q_pos c1 hf
      refine lv_iload_n E.1 E.2.1 dX9_awakeNow_48 rfl (lv_at hl 1 rfl) ?_
      have hf := Option.some.inj hf
      subst hf
      exact q_iret E w hr hlk dX9_awakeNow_49
    · have hf := q_neg c1 hf
      refine lv_aload_n E.1 E.2.1 dX9_awakeNow_10 rfl (lv_at hl 0 rfl) ?_
      refine q_gi E w t_v0 fl_RX9_22 dX9_awakeNow_11 ?_
      refine lv_iload_n E.1 E.2.1 dX9_awakeNow_14 rfl (lv_at hl 2 rfl) ?_
      refine lv_ishr E.1 E.2.1 dX9_awakeNow_15 ?_
      refine lv_iconst (v := 1) E.1 E.2.1 dX9_awakeNow_16 rfl ?_
      refine lv_iand E.1 E.2.1 dX9_awakeNow_17 ?_
      refine lv_if_eq (tgt := 42) E.1 E.2.1 dX9_awakeNow_18 (by decide) (fun c2 => ?_) (fun c2 => ?_)
      · have hf := q_pos c2 hf
        refine lv_iinc (v := v2 + 1) (lv' := [(2, .int (v2 + 1)), (0, .ref (ad G v0)), (1, .int v1)]) E.1 E.2.1 dX9_awakeNow_42 hl (k := 2) rfl rfl (by decide) rfl (fun ls hl => ?_)
        refine lv_goto (tgt := 4) E.1 E.2.1 dX9_awakeNow_45 (by decide) ?_
        exact ih _ _ _ _ _ _ hf w t_v0 (lv_sub hl [1, 2, 0] rfl)
      · have hf := q_neg c2 hf
        refine lv_iload_n E.1 E.2.1 dX9_awakeNow_21 rfl (lv_at hl 1 rfl) ?_
        refine lv_aload_n E.1 E.2.1 dX9_awakeNow_22 rfl (lv_at hl 0 rfl) ?_
        refine q_gh E w t_v0 (by decide) fl_RX9_12 dX9_awakeNow_23 (fun t3 => ?_)
        refine lv_aload_n E.1 E.2.1 dX9_awakeNow_26 rfl (lv_at hl 0 rfl) ?_
        refine q_gh E w t_v0 (by decide) fl_RX9_12 dX9_awakeNow_27 (fun t4 => ?_)
        refine q_gs E w 5 t4 fl_RX9_69 dX9_awakeNow_30 ?_
        refine lv_iload_n E.1 E.2.1 dX9_awakeNow_33 rfl (lv_at hl 2 rfl) ?_
        obtain ⟨r6, hc5, hf⟩ := bd1_e hf
        refine k_Ni (As := [.ref (ad G ((h.2 v0) + 5)), .int v2]) (rest := [.ref (ad G (h.2 v0)), .int v1]) E w (X10_at_c ((lay_1_9 t4).1) hc5) mn_RX9_55 rfl rfl hl.1 ⟨Nat.le_of_ble_eq_true rfl, Nat.le_of_ble_eq_true rfl⟩ (Nat.le_of_ble_eq_true rfl) ⟨Nat.le_refl _, Nat.le_refl _⟩ dX9_awakeNow_34 (fun H locs w => ?_)
        obtain ⟨r9, hc8, hf⟩ := bd1_e hf
        refine k_Vi (As := [.int r6]) (rest := [.int v1]) E w t3 ⟨by decide, rfl⟩ (X1_from_c t3 hc8) mv_RX9_72 rfl rfl hl.1 ⟨Nat.le_of_ble_eq_true rfl, Nat.le_of_ble_eq_true rfl⟩ (Nat.le_of_ble_eq_true rfl) ⟨Nat.le_refl _, Nat.le_refl _⟩ dX9_awakeNow_37 (fun H locs w => ?_)
        refine lv_ior E.1 E.2.1 dX9_awakeNow_40 ?_
        refine lv_istore_n (lv' := [(1, .int (v1 ||| r9)), (0, .ref (ad G v0)), (2, .int v2)]) E.1 E.2.1 dX9_awakeNow_41 rfl hl (by decide) rfl (fun ls hl => ?_)
        refine lv_iinc (v := v2 + 1) (lv' := [(2, .int (v2 + 1)), (1, .int (v1 ||| r9)), (0, .ref (ad G v0))]) E.1 E.2.1 dX9_awakeNow_42 hl (k := 2) rfl rfl (by decide) rfl (fun ls hl => ?_)
        refine lv_goto (tgt := 4) E.1 E.2.1 dX9_awakeNow_45 (by decide) ?_
        exact ih _ _ _ _ _ _ hf w t_v0 (lv_sub hl [2, 1, 0] rfl)

def X9_awakeNow (N : Nat) (h : HS) (v0 : Nat) : Option Int32 := X9_awakeNow_l4 N h N v0 0 0
set_option maxRecDepth 4000 in
set_option maxHeartbeats 2000000 in
theorem X9_awakeNow_c {l : Launch} {G : GT} {N : Nat} {h : HS} {v0 : Nat} {z : Int32} (t_v0 : sh v0 = 9) (hf : X9_awakeNow N h v0 = some z) : CT l G yX9_awakeNow cX9_awakeNow 3 (some .int) 1 21 [.ref (ad G v0)] h (some (.int z)) h := by
  unfold X9_awakeNow at hf
  refine CT.of (by decide) (Nat.le_of_ble_eq_true rfl) ?_
  intro p e s m below meth c ls E hr hlk w hl
  have hl : lv_has ls 3 [(0, .ref (ad G v0))] := hl
  refine lv_iconst (v := 0) E.1 E.2.1 dX9_awakeNow_0 rfl ?_
  refine lv_istore_n (lv' := [(1, .int 0), (0, .ref (ad G v0))]) E.1 E.2.1 dX9_awakeNow_1 rfl hl (by decide) rfl (fun ls hl => ?_)
  refine lv_iconst (v := 0) E.1 E.2.1 dX9_awakeNow_2 rfl ?_
  refine lv_istore_n (lv' := [(2, .int 0), (1, .int 0), (0, .ref (ad G v0))]) E.1 E.2.1 dX9_awakeNow_3 rfl hl (by decide) rfl (fun ls hl => ?_)
  exact X9_awakeNow_l4_w E hr hlk N _ _ _ _ _ _ hf w t_v0 (lv_sub hl [2, 1, 0] rfl)

def X9_landlordFrom_l25 (N : Nat) (F_X9_landlordFrom : HS → Nat → Int32 → Option (Int32 × HS)) (F_X9_houseFrom : HS → Nat → Int32 → Option (Int32 × HS)) : Nat → HS → Nat → Int32 → Int32 → Int32 → Int32 → Option (Int32 × HS)
  | 0, _, _, _, _, _, _ => none
  | n + 1, h, v0, v1, v2, v3, v4 => (if v4 < 0 then (if v1 = 0 then sq (wi h v0 5 v3) fun h7 => some (v2, h7) else some (v2, h)) else bd1 (X1_sounds N h (h.2 v0) v4) fun r10 => (if r10 = 0 then X9_landlordFrom_l25 N F_X9_landlordFrom F_X9_houseFrom n h v0 v1 v2 v3 (v4 + (-1)) else (if (((h.1 v0 2) >>> (v4 &&& 31)) &&& 1) = 0 then sq (wi h v0 2 ((h.1 v0 2) ||| ((1 : Int32) <<< (v4 &&& 31)))) fun h14 => bd1 (X10_at N h14 ((h14.2 v0) + 4) v4) fun r17 => bd2 (F_X9_houseFrom h14 v0 (v1 + 1)) fun r20 h21 => sq (wi h21 v0 2 ((h21.1 v0 2) &&& (((1 : Int32) <<< (v4 &&& 31)) ^^^ (-1)))) fun h22 => (if (r17 + r20) < v2 then X9_landlordFrom_l25 N F_X9_landlordFrom F_X9_houseFrom n h22 v0 v1 v2 v3 (v4 + (-1)) else X9_landlordFrom_l25 N F_X9_landlordFrom F_X9_houseFrom n h22 v0 v1 (r17 + r20) v4 (v4 + (-1))) else X9_landlordFrom_l25 N F_X9_landlordFrom F_X9_houseFrom n h v0 v1 v2 v3 (v4 + (-1)))))
set_option maxRecDepth 4000 in
set_option maxHeartbeats 2000000 in
theorem X9_landlordFrom_l25_w {p : Program} {l : Launch} {e : Env} {s : State} {m : MethodId} {args : Array Value} {below : List Frame} {meth : Method} {c : Code} {G : GT} {N : Nat} {F_X9_landlordFrom : HS → Nat → Int32 → Option (Int32 × HS)} {F_X9_houseFrom : HS → Nat → Int32 → Option (Int32 × HS)} {fr lo : Nat} {z : (Int32 × HS)} (E : CallFix p m c cX9_landlordFrom 6 s args UW RX9) (hr : meth.sig.returnType = (some .int)) (hlk : meth.locks = false) (hF_X9_landlordFrom : ∀ (h : HS) (v0 : Nat) (v1 : Int32) (z : (Int32 × HS)), F_X9_landlordFrom h v0 v1 = some z → sh v0 = 9 → CT l G yX9_landlordFrom cX9_landlordFrom 6 (some .int) fr lo [.ref (ad G v0), .int v1] h (some (.int z.1)) z.2) (hF_X9_houseFrom : ∀ (h : HS) (v0 : Nat) (v1 : Int32) (z : (Int32 × HS)), F_X9_houseFrom h v0 v1 = some z → sh v0 = 9 → CT l G yX9_houseFrom cX9_houseFrom 5 (some .int) fr lo [.ref (ad G v0), .int v1] h (some (.int z.1)) z.2) : ∀ (n : Nat) (h : HS) (H : Heap) (locs : List Loc) (ls : Array Slot) (v0 : Nat) (v1 : Int32) (v2 : Int32) (v3 : Int32) (v4 : Int32), X9_landlordFrom_l25 N F_X9_landlordFrom F_X9_houseFrom n h v0 v1 v2 v3 v4 = some z → WD G s h H locs → sh v0 = 9 → lv_has ls 6 [(0, .ref (ad G v0)), (1, .int v1), (2, .int v2), (3, .int v3), (4, .int v4)] → W p l e ({ frames := fr + 2, cells := 0, slots := 0, locals := lo + 43 } : Room) s m args below meth c H locs 0 0 (MQ below (QC G (some (.int z.1)) z.2) args s 0 0 (AD G)) (F0 m 25 ls []) := by
  intro n
  induction n with
  | zero =>
    intro h H locs ls v0 v1 v2 v3 v4 hf
    cases hf
  | succ n ih =>
    intro h H locs ls v0 v1 v2 v3 v4 hf w t_v0 hl
    unfold X9_landlordFrom_l25 at hf
    refine lv_iload E.1 E.2.1 dX9_landlordFrom_25 (lv_at hl 4 rfl) ?_
    refine lv_if_lt (tgt := 122) E.1 E.2.1 dX9_landlordFrom_27 (by decide) (fun c5 => ?_) (fun c5 => ?_)
    · have hf := q_pos c5 hf
      refine lv_iload_n E.1 E.2.1 dX9_landlordFrom_122 rfl (lv_at hl 1 rfl) ?_
      refine lv_if_ne (tgt := 131) E.1 E.2.1 dX9_landlordFrom_123 (by decide) (fun c6 => ?_) (fun c6 => ?_)
      · have hf := q_neg c6 hf
        refine lv_iload_n E.1 E.2.1 dX9_landlordFrom_131 rfl (lv_at hl 2 rfl) ?_
        have hf := Option.some.inj hf
        subst hf
        exact q_iret E w hr hlk dX9_landlordFrom_132
      · have hf := q_pos c6 hf
        refine lv_aload_n E.1 E.2.1 dX9_landlordFrom_126 rfl (lv_at hl 0 rfl) ?_
        refine lv_iload_n E.1 E.2.1 dX9_landlordFrom_127 rfl (lv_at hl 3 rfl) ?_
        refine p_pi E w t_v0 fl_RX9_31 (fp_9_5 _) dX9_landlordFrom_128 (fun h7 H locs eh w => ?_)
        have hf := sq_e eh hf
        clear eh
        refine lv_iload_n E.1 E.2.1 dX9_landlordFrom_131 rfl (lv_at hl 2 rfl) ?_
        have hf := Option.some.inj hf
        subst hf
        exact q_iret E w hr hlk dX9_landlordFrom_132
    · have hf := q_neg c5 hf
      refine lv_aload_n E.1 E.2.1 dX9_landlordFrom_30 rfl (lv_at hl 0 rfl) ?_
      refine q_gh E w t_v0 (by decide) fl_RX9_12 dX9_landlordFrom_31 (fun t8 => ?_)
      refine lv_iload E.1 E.2.1 dX9_landlordFrom_34 (lv_at hl 4 rfl) ?_
      obtain ⟨r10, hc9, hf⟩ := bd1_e hf
      refine k_Vi (As := [.int v4]) (rest := []) E w t8 ⟨by decide, rfl⟩ (X1_sounds_c t8 hc9) mv_RX9_47 rfl rfl hl.1 ⟨Nat.le_trans (Nat.le_of_ble_eq_true rfl) (Nat.le_add_left 2 fr), Nat.le_trans (Nat.le_of_ble_eq_true rfl) (Nat.le_add_left 43 lo)⟩ (Nat.le_of_ble_eq_true rfl) ⟨Nat.le_refl _, Nat.le_refl _⟩ dX9_landlordFrom_36 (fun H locs w => ?_)
      refine lv_if_eq (tgt := 116) E.1 E.2.1 dX9_landlordFrom_39 (by decide) (fun c12 => ?_) (fun c12 => ?_)
      · have hf := q_pos c12 hf
        refine lv_iinc (v := v4 + (-1)) (lv' := [(4, .int (v4 + (-1))), (0, .ref (ad G v0)), (1, .int v1), (2, .int v2), (3, .int v3)]) E.1 E.2.1 dX9_landlordFrom_116 hl (k := 4) rfl rfl (by decide) rfl (fun ls hl => ?_)
        refine lv_goto (tgt := 25) E.1 E.2.1 dX9_landlordFrom_119 (by decide) ?_
        exact ih _ _ _ _ _ _ _ _ _ hf w t_v0 (lv_sub hl [1, 2, 3, 4, 0] rfl)
      · have hf := q_neg c12 hf
        refine lv_aload_n E.1 E.2.1 dX9_landlordFrom_42 rfl (lv_at hl 0 rfl) ?_
        refine q_gi E w t_v0 fl_RX9_22 dX9_landlordFrom_43 ?_
        refine lv_iload E.1 E.2.1 dX9_landlordFrom_46 (lv_at hl 4 rfl) ?_
        refine lv_ishr E.1 E.2.1 dX9_landlordFrom_48 ?_
        refine lv_iconst (v := 1) E.1 E.2.1 dX9_landlordFrom_49 rfl ?_
        refine lv_iand E.1 E.2.1 dX9_landlordFrom_50 ?_
        refine lv_if_ne (tgt := 116) E.1 E.2.1 dX9_landlordFrom_51 (by decide) (fun c13 => ?_) (fun c13 => ?_)
        · have hf := q_neg c13 hf
          refine lv_iinc (v := v4 + (-1)) (lv' := [(4, .int (v4 + (-1))), (0, .ref (ad G v0)), (1, .int v1), (2, .int v2), (3, .int v3)]) E.1 E.2.1 dX9_landlordFrom_116 hl (k := 4) rfl rfl (by decide) rfl (fun ls hl => ?_)
          refine lv_goto (tgt := 25) E.1 E.2.1 dX9_landlordFrom_119 (by decide) ?_
          exact ih _ _ _ _ _ _ _ _ _ hf w t_v0 (lv_sub hl [1, 2, 3, 4, 0] rfl)
        · have hf := q_pos c13 hf
          refine lv_aload_n E.1 E.2.1 dX9_landlordFrom_54 rfl (lv_at hl 0 rfl) ?_
          refine lv_dup E.1 E.2.1 dX9_landlordFrom_55 rfl ?_
          refine q_gi E w t_v0 fl_RX9_22 dX9_landlordFrom_56 ?_
          refine lv_iconst (v := 1) E.1 E.2.1 dX9_landlordFrom_59 rfl ?_
          refine lv_iload E.1 E.2.1 dX9_landlordFrom_60 (lv_at hl 4 rfl) ?_
          refine lv_ishl E.1 E.2.1 dX9_landlordFrom_62 ?_
          refine lv_ior E.1 E.2.1 dX9_landlordFrom_63 ?_
          refine p_pi E w t_v0 fl_RX9_22 (fp_9_2 _) dX9_landlordFrom_64 (fun h14 H locs eh w => ?_)
          have hf := sq_e eh hf
          clear eh
          refine lv_aload_n E.1 E.2.1 dX9_landlordFrom_67 rfl (lv_at hl 0 rfl) ?_
          refine q_gh E w t_v0 (by decide) fl_RX9_12 dX9_landlordFrom_68 (fun t15 => ?_)
          refine q_gs E w 4 t15 fl_RX9_51 dX9_landlordFrom_71 ?_
          refine lv_iload E.1 E.2.1 dX9_landlordFrom_74 (lv_at hl 4 rfl) ?_
          obtain ⟨r17, hc16, hf⟩ := bd1_e hf
          refine k_Ni (As := [.ref (ad G ((h14.2 v0) + 4)), .int v4]) (rest := []) E w (X10_at_c ((lay_1_8 t15).1) hc16) mn_RX9_55 rfl rfl hl.1 ⟨Nat.le_trans (Nat.le_of_ble_eq_true rfl) (Nat.le_add_left 2 fr), Nat.le_trans (Nat.le_of_ble_eq_true rfl) (Nat.le_add_left 43 lo)⟩ (Nat.le_of_ble_eq_true rfl) ⟨Nat.le_refl _, Nat.le_refl _⟩ dX9_landlordFrom_76 (fun H locs w => ?_)
          refine lv_aload_n E.1 E.2.1 dX9_landlordFrom_79 rfl (lv_at hl 0 rfl) ?_
          refine lv_iload_n E.1 E.2.1 dX9_landlordFrom_80 rfl (lv_at hl 1 rfl) ?_
          refine lv_iconst (v := 1) E.1 E.2.1 dX9_landlordFrom_81 rfl ?_
          refine lv_iadd E.1 E.2.1 dX9_landlordFrom_82 ?_
          obtain ⟨r20, h21, hc19, hf⟩ := bd2_e hf
          refine k_Vi (As := [.int (v1 + 1)]) (rest := [.int r17]) E w t_v0 ⟨by decide, rfl⟩ (hF_X9_houseFrom _ _ _ _ hc19 t_v0) mv_RX9_44 rfl rfl hl.1 ⟨Nat.add_le_add_left (Nat.le_of_ble_eq_true rfl) fr, (by show 8 + (5 + 11) + lo ≤ lo + 43; omega)⟩ (Nat.le_of_ble_eq_true rfl) ⟨Nat.le_refl _, Nat.le_refl _⟩ dX9_landlordFrom_83 (fun H locs w => ?_)
          refine lv_iadd E.1 E.2.1 dX9_landlordFrom_86 ?_
          refine lv_istore (lv' := [(5, .int (r17 + r20)), (0, .ref (ad G v0)), (1, .int v1), (2, .int v2), (3, .int v3), (4, .int v4)]) E.1 E.2.1 dX9_landlordFrom_87 hl (by decide) rfl (fun ls hl => ?_)
          refine lv_aload_n E.1 E.2.1 dX9_landlordFrom_89 rfl (lv_at hl 1 rfl) ?_
          refine lv_dup E.1 E.2.1 dX9_landlordFrom_90 rfl ?_
          refine q_gi E w t_v0 fl_RX9_22 dX9_landlordFrom_91 ?_
          refine lv_iconst (v := 1) E.1 E.2.1 dX9_landlordFrom_94 rfl ?_
          refine lv_iload E.1 E.2.1 dX9_landlordFrom_95 (lv_at hl 5 rfl) ?_
          refine lv_ishl E.1 E.2.1 dX9_landlordFrom_97 ?_
          refine lv_iconst (v := (-1)) E.1 E.2.1 dX9_landlordFrom_98 rfl ?_
          refine lv_ixor E.1 E.2.1 dX9_landlordFrom_99 ?_
          refine lv_iand E.1 E.2.1 dX9_landlordFrom_100 ?_
          refine p_pi E w t_v0 fl_RX9_22 (fp_9_2 _) dX9_landlordFrom_101 (fun h22 H locs eh w => ?_)
          have hf := sq_e eh hf
          clear eh
          refine lv_iload E.1 E.2.1 dX9_landlordFrom_104 (lv_at hl 0 rfl) ?_
          refine lv_iload_n E.1 E.2.1 dX9_landlordFrom_106 rfl (lv_at hl 3 rfl) ?_
          refine lv_icmp_lt (tgt := 116) E.1 E.2.1 dX9_landlordFrom_107 (by decide) (fun c23 => ?_) (fun c23 => ?_)
          · have hf := q_pos c23 hf
            refine lv_iinc (v := v4 + (-1)) (lv' := [(4, .int (v4 + (-1))), (5, .int (r17 + r20)), (0, .ref (ad G v0)), (1, .int v1), (2, .int v2), (3, .int v3)]) E.1 E.2.1 dX9_landlordFrom_116 hl (k := 5) rfl rfl (by decide) rfl (fun ls hl => ?_)
            refine lv_goto (tgt := 25) E.1 E.2.1 dX9_landlordFrom_119 (by decide) ?_
            exact ih _ _ _ _ _ _ _ _ _ hf w t_v0 (lv_sub hl [2, 3, 4, 5, 0] rfl)
          · have hf := q_neg c23 hf
            refine lv_iload E.1 E.2.1 dX9_landlordFrom_110 (lv_at hl 0 rfl) ?_
            refine lv_istore_n (lv' := [(2, .int (r17 + r20)), (5, .int (r17 + r20)), (0, .ref (ad G v0)), (1, .int v1), (3, .int v3), (4, .int v4)]) E.1 E.2.1 dX9_landlordFrom_112 rfl hl (by decide) rfl (fun ls hl => ?_)
            refine lv_iload E.1 E.2.1 dX9_landlordFrom_113 (lv_at hl 5 rfl) ?_
            refine lv_istore_n (lv' := [(3, .int v4), (2, .int (r17 + r20)), (5, .int (r17 + r20)), (0, .ref (ad G v0)), (1, .int v1), (4, .int v4)]) E.1 E.2.1 dX9_landlordFrom_115 rfl hl (by decide) rfl (fun ls hl => ?_)
            refine lv_iinc (v := v4 + (-1)) (lv' := [(4, .int (v4 + (-1))), (3, .int v4), (2, .int (r17 + r20)), (5, .int (r17 + r20)), (0, .ref (ad G v0)), (1, .int v1)]) E.1 E.2.1 dX9_landlordFrom_116 hl (k := 5) rfl rfl (by decide) rfl (fun ls hl => ?_)
            refine lv_goto (tgt := 25) E.1 E.2.1 dX9_landlordFrom_119 (by decide) ?_
            exact ih _ _ _ _ _ _ _ _ _ hf w t_v0 (lv_sub hl [4, 5, 2, 1, 0] rfl)

def X9_landlordFrom_B (N : Nat) (F_X9_landlordFrom : HS → Nat → Int32 → Option (Int32 × HS)) (F_X9_houseFrom : HS → Nat → Int32 → Option (Int32 × HS)) (h : HS) (v0 : Nat) (v1 : Int32) : Option (Int32 × HS) := (if v1 < (h.1 v0 1) then bd2 (F_X9_houseFrom h v0 (v1 + 1)) fun r3 h4 => X9_landlordFrom_l25 N F_X9_landlordFrom F_X9_houseFrom N h4 v0 v1 r3 8 7 else some (0, h))
set_option maxRecDepth 4000 in
set_option maxHeartbeats 2000000 in
theorem X9_landlordFrom_B_c {l : Launch} {G : GT} {N : Nat} {F_X9_landlordFrom : HS → Nat → Int32 → Option (Int32 × HS)} {F_X9_houseFrom : HS → Nat → Int32 → Option (Int32 × HS)} {fr lo : Nat} (hF_X9_landlordFrom : ∀ (h : HS) (v0 : Nat) (v1 : Int32) (z : (Int32 × HS)), F_X9_landlordFrom h v0 v1 = some z → sh v0 = 9 → CT l G yX9_landlordFrom cX9_landlordFrom 6 (some .int) fr lo [.ref (ad G v0), .int v1] h (some (.int z.1)) z.2) (hF_X9_houseFrom : ∀ (h : HS) (v0 : Nat) (v1 : Int32) (z : (Int32 × HS)), F_X9_houseFrom h v0 v1 = some z → sh v0 = 9 → CT l G yX9_houseFrom cX9_houseFrom 5 (some .int) fr lo [.ref (ad G v0), .int v1] h (some (.int z.1)) z.2) {h : HS} {v0 : Nat} {v1 : Int32} {z : (Int32 × HS)} (t_v0 : sh v0 = 9) (hf : X9_landlordFrom_B N F_X9_landlordFrom F_X9_houseFrom h v0 v1 = some z) : CT l G yX9_landlordFrom cX9_landlordFrom 6 (some .int) (fr + 2) (lo + 43) [.ref (ad G v0), .int v1] h (some (.int z.1)) z.2 := by
  unfold X9_landlordFrom_B at hf
  refine CT.of (by decide) (Nat.le_of_ble_eq_true rfl) ?_
  intro p e s m below meth c ls E hr hlk w hl
  have hl : lv_has ls 6 [(0, .ref (ad G v0)), (1, .int v1)] := hl
  refine lv_iload_n E.1 E.2.1 dX9_landlordFrom_0 rfl (lv_at hl 1 rfl) ?_
  refine lv_aload_n E.1 E.2.1 dX9_landlordFrom_1 rfl (lv_at hl 0 rfl) ?_
  refine q_gi E w t_v0 fl_RX9_18 dX9_landlordFrom_2 ?_
  refine lv_icmp_lt (tgt := 10) E.1 E.2.1 dX9_landlordFrom_5 (by decide) (fun c1 => ?_) (fun c1 => ?_)
  · have hf := q_pos c1 hf
    refine lv_aload_n E.1 E.2.1 dX9_landlordFrom_10 rfl (lv_at hl 0 rfl) ?_
    refine lv_iload_n E.1 E.2.1 dX9_landlordFrom_11 rfl (lv_at hl 1 rfl) ?_
    refine lv_iconst (v := 1) E.1 E.2.1 dX9_landlordFrom_12 rfl ?_
    refine lv_iadd E.1 E.2.1 dX9_landlordFrom_13 ?_
    obtain ⟨r3, h4, hc2, hf⟩ := bd2_e hf
    refine k_Vi (As := [.int (v1 + 1)]) (rest := []) E w t_v0 ⟨by decide, rfl⟩ (hF_X9_houseFrom _ _ _ _ hc2 t_v0) mv_RX9_44 rfl rfl hl.1 ⟨Nat.add_le_add_left (Nat.le_of_ble_eq_true rfl) fr, (by show 8 + (5 + 11) + lo ≤ lo + 43; omega)⟩ (Nat.le_of_ble_eq_true rfl) ⟨Nat.le_refl _, Nat.le_refl _⟩ dX9_landlordFrom_14 (fun H locs w => ?_)
    refine lv_istore_n (lv' := [(2, .int r3), (0, .ref (ad G v0)), (1, .int v1)]) E.1 E.2.1 dX9_landlordFrom_17 rfl hl (by decide) rfl (fun ls hl => ?_)
    refine lv_bipush (v := 8) E.1 E.2.1 dX9_landlordFrom_18 rfl ?_
    refine lv_istore_n (lv' := [(3, .int 8), (2, .int r3), (0, .ref (ad G v0)), (1, .int v1)]) E.1 E.2.1 dX9_landlordFrom_20 rfl hl (by decide) rfl (fun ls hl => ?_)
    refine lv_bipush (v := 7) E.1 E.2.1 dX9_landlordFrom_21 rfl ?_
    refine lv_istore (lv' := [(4, .int 7), (3, .int 8), (2, .int r3), (0, .ref (ad G v0)), (1, .int v1)]) E.1 E.2.1 dX9_landlordFrom_23 hl (by decide) rfl (fun ls hl => ?_)
    exact X9_landlordFrom_l25_w E hr hlk hF_X9_landlordFrom hF_X9_houseFrom N _ _ _ _ _ _ _ _ _ hf w t_v0 (lv_sub hl [3, 4, 2, 1, 0] rfl)
  · have hf := q_neg c1 hf
    refine lv_iconst (v := 0) E.1 E.2.1 dX9_landlordFrom_8 rfl ?_
    have hf := Option.some.inj hf
    subst hf
    exact q_iret E w hr hlk dX9_landlordFrom_9

def X9_houseFrom_l26 (N : Nat) (F_X9_landlordFrom : HS → Nat → Int32 → Option (Int32 × HS)) (F_X9_houseFrom : HS → Nat → Int32 → Option (Int32 × HS)) : Nat → HS → Nat → Int32 → Int32 → Int32 → Int32 → Option (Int32 × HS)
  | 0, _, _, _, _, _, _ => none
  | n + 1, h, v0, v1, v2, v3, v4 => (if (h.1 (h.2 v0) 0) ≤ v4 then some (v3, h) else (if ((v2 >>> (v4 &&& 31)) &&& 1) = 0 then X9_houseFrom_l26 N F_X9_landlordFrom F_X9_houseFrom n h v0 v1 v2 v3 (v4 + 1) else (if (((h.1 v0 3) >>> (v4 &&& 31)) &&& 1) = 0 then sq (wi h v0 3 ((h.1 v0 3) ||| ((1 : Int32) <<< (v4 &&& 31)))) fun h12 => bd2 (F_X9_landlordFrom h12 v0 (v1 + 1)) fun r14 h15 => bd1 (X10_at N h15 ((h15.2 v0) + 1) v4) fun r18 => sq (wi h15 v0 3 ((h15.1 v0 3) &&& (((1 : Int32) <<< (v4 &&& 31)) ^^^ (-1)))) fun h20 => X9_houseFrom_l26 N F_X9_landlordFrom F_X9_houseFrom n h20 v0 v1 v2 (if (r14 - r18) < v3 then (r14 - r18) else v3) (v4 + 1) else X9_houseFrom_l26 N F_X9_landlordFrom F_X9_houseFrom n h v0 v1 v2 v3 (v4 + 1))))
set_option maxRecDepth 4000 in
set_option maxHeartbeats 2000000 in
theorem X9_houseFrom_l26_w {p : Program} {l : Launch} {e : Env} {s : State} {m : MethodId} {args : Array Value} {below : List Frame} {meth : Method} {c : Code} {G : GT} {N : Nat} {F_X9_landlordFrom : HS → Nat → Int32 → Option (Int32 × HS)} {F_X9_houseFrom : HS → Nat → Int32 → Option (Int32 × HS)} {fr lo : Nat} {z : (Int32 × HS)} (E : CallFix p m c cX9_houseFrom 5 s args UW RX9) (hr : meth.sig.returnType = (some .int)) (hlk : meth.locks = false) (hF_X9_landlordFrom : ∀ (h : HS) (v0 : Nat) (v1 : Int32) (z : (Int32 × HS)), F_X9_landlordFrom h v0 v1 = some z → sh v0 = 9 → CT l G yX9_landlordFrom cX9_landlordFrom 6 (some .int) fr lo [.ref (ad G v0), .int v1] h (some (.int z.1)) z.2) (hF_X9_houseFrom : ∀ (h : HS) (v0 : Nat) (v1 : Int32) (z : (Int32 × HS)), F_X9_houseFrom h v0 v1 = some z → sh v0 = 9 → CT l G yX9_houseFrom cX9_houseFrom 5 (some .int) fr lo [.ref (ad G v0), .int v1] h (some (.int z.1)) z.2) : ∀ (n : Nat) (h : HS) (H : Heap) (locs : List Loc) (ls : Array Slot) (v0 : Nat) (v1 : Int32) (v2 : Int32) (v3 : Int32) (v4 : Int32), X9_houseFrom_l26 N F_X9_landlordFrom F_X9_houseFrom n h v0 v1 v2 v3 v4 = some z → WD G s h H locs → sh v0 = 9 → lv_has ls 5 [(0, .ref (ad G v0)), (1, .int v1), (2, .int v2), (3, .int v3), (4, .int v4)] → W p l e ({ frames := fr + 2, cells := 0, slots := 0, locals := lo + 43 } : Room) s m args below meth c H locs 0 0 (MQ below (QC G (some (.int z.1)) z.2) args s 0 0 (AD G)) (F0 m 26 ls []) := by
  intro n
  induction n with
  | zero =>
    intro h H locs ls v0 v1 v2 v3 v4 hf
    cases hf
  | succ n ih =>
    intro h H locs ls v0 v1 v2 v3 v4 hf w t_v0 hl
    unfold X9_houseFrom_l26 at hf
    refine lv_iload E.1 E.2.1 dX9_houseFrom_26 (lv_at hl 4 rfl) ?_
    refine lv_aload_n E.1 E.2.1 dX9_houseFrom_28 rfl (lv_at hl 0 rfl) ?_
    refine q_gh E w t_v0 (by decide) fl_RX9_12 dX9_houseFrom_29 (fun t8 => ?_)
    refine q_gi E w t8 fl_RX9_63 dX9_houseFrom_32 ?_
    refine lv_icmp_ge (tgt := 118) E.1 E.2.1 dX9_houseFrom_35 (by decide) (fun c9 => ?_) (fun c9 => ?_)
    · have hf := q_pos c9 hf
      refine lv_iload_n E.1 E.2.1 dX9_houseFrom_118 rfl (lv_at hl 3 rfl) ?_
      have hf := Option.some.inj hf
      subst hf
      exact q_iret E w hr hlk dX9_houseFrom_119
    · have hf := q_neg c9 hf
      refine lv_iload_n E.1 E.2.1 dX9_houseFrom_38 rfl (lv_at hl 2 rfl) ?_
      refine lv_iload E.1 E.2.1 dX9_houseFrom_39 (lv_at hl 4 rfl) ?_
      refine lv_ishr E.1 E.2.1 dX9_houseFrom_41 ?_
      refine lv_iconst (v := 1) E.1 E.2.1 dX9_houseFrom_42 rfl ?_
      refine lv_iand E.1 E.2.1 dX9_houseFrom_43 ?_
      refine lv_if_eq (tgt := 112) E.1 E.2.1 dX9_houseFrom_44 (by decide) (fun c10 => ?_) (fun c10 => ?_)
      · have hf := q_pos c10 hf
        refine lv_iinc (v := v4 + 1) (lv' := [(4, .int (v4 + 1)), (0, .ref (ad G v0)), (1, .int v1), (2, .int v2), (3, .int v3)]) E.1 E.2.1 dX9_houseFrom_112 hl (k := 4) rfl rfl (by decide) rfl (fun ls hl => ?_)
        refine lv_goto (tgt := 26) E.1 E.2.1 dX9_houseFrom_115 (by decide) ?_
        exact ih _ _ _ _ _ _ _ _ _ hf w t_v0 (lv_sub hl [1, 2, 3, 4, 0] rfl)
      · have hf := q_neg c10 hf
        refine lv_aload_n E.1 E.2.1 dX9_houseFrom_47 rfl (lv_at hl 0 rfl) ?_
        refine q_gi E w t_v0 fl_RX9_25 dX9_houseFrom_48 ?_
        refine lv_iload E.1 E.2.1 dX9_houseFrom_51 (lv_at hl 4 rfl) ?_
        refine lv_ishr E.1 E.2.1 dX9_houseFrom_53 ?_
        refine lv_iconst (v := 1) E.1 E.2.1 dX9_houseFrom_54 rfl ?_
        refine lv_iand E.1 E.2.1 dX9_houseFrom_55 ?_
        refine lv_if_ne (tgt := 112) E.1 E.2.1 dX9_houseFrom_56 (by decide) (fun c11 => ?_) (fun c11 => ?_)
        · have hf := q_neg c11 hf
          refine lv_iinc (v := v4 + 1) (lv' := [(4, .int (v4 + 1)), (0, .ref (ad G v0)), (1, .int v1), (2, .int v2), (3, .int v3)]) E.1 E.2.1 dX9_houseFrom_112 hl (k := 4) rfl rfl (by decide) rfl (fun ls hl => ?_)
          refine lv_goto (tgt := 26) E.1 E.2.1 dX9_houseFrom_115 (by decide) ?_
          exact ih _ _ _ _ _ _ _ _ _ hf w t_v0 (lv_sub hl [1, 2, 3, 4, 0] rfl)
        · have hf := q_pos c11 hf
          refine lv_aload_n E.1 E.2.1 dX9_houseFrom_59 rfl (lv_at hl 0 rfl) ?_
          refine lv_dup E.1 E.2.1 dX9_houseFrom_60 rfl ?_
          refine q_gi E w t_v0 fl_RX9_25 dX9_houseFrom_61 ?_
          refine lv_iconst (v := 1) E.1 E.2.1 dX9_houseFrom_64 rfl ?_
          refine lv_iload E.1 E.2.1 dX9_houseFrom_65 (lv_at hl 4 rfl) ?_
          refine lv_ishl E.1 E.2.1 dX9_houseFrom_67 ?_
          refine lv_ior E.1 E.2.1 dX9_houseFrom_68 ?_
          refine p_pi E w t_v0 fl_RX9_25 (fp_9_3 _) dX9_houseFrom_69 (fun h12 H locs eh w => ?_)
          have hf := sq_e eh hf
          clear eh
          refine lv_iload_n E.1 E.2.1 dX9_houseFrom_72 rfl (lv_at hl 3 rfl) ?_
          refine lv_aload_n E.1 E.2.1 dX9_houseFrom_73 rfl (lv_at hl 0 rfl) ?_
          refine lv_iload_n E.1 E.2.1 dX9_houseFrom_74 rfl (lv_at hl 1 rfl) ?_
          refine lv_iconst (v := 1) E.1 E.2.1 dX9_houseFrom_75 rfl ?_
          refine lv_iadd E.1 E.2.1 dX9_houseFrom_76 ?_
          obtain ⟨r14, h15, hc13, hf⟩ := bd2_e hf
          refine k_Vi (As := [.int (v1 + 1)]) (rest := [.int v3]) E w t_v0 ⟨by decide, rfl⟩ (hF_X9_landlordFrom _ _ _ _ hc13 t_v0) mv_RX9_40 rfl rfl hl.1 ⟨Nat.add_le_add_left (Nat.le_of_ble_eq_true rfl) fr, (by show 8 + (6 + 11) + lo ≤ lo + 43; omega)⟩ (Nat.le_of_ble_eq_true rfl) ⟨Nat.le_refl _, Nat.le_refl _⟩ dX9_houseFrom_77 (fun H locs w => ?_)
          refine lv_aload_n E.1 E.2.1 dX9_houseFrom_80 rfl (lv_at hl 0 rfl) ?_
          refine q_gh E w t_v0 (by decide) fl_RX9_12 dX9_houseFrom_81 (fun t16 => ?_)
          refine q_gs E w 1 t16 fl_RX9_66 dX9_houseFrom_84 ?_
          refine lv_iload E.1 E.2.1 dX9_houseFrom_87 (lv_at hl 4 rfl) ?_
          obtain ⟨r18, hc17, hf⟩ := bd1_e hf
          refine k_Ni (As := [.ref (ad G ((h15.2 v0) + 1)), .int v4]) (rest := [.int r14, .int v3]) E w (X10_at_c ((lay_1_5 t16).1) hc17) mn_RX9_55 rfl rfl hl.1 ⟨Nat.le_trans (Nat.le_of_ble_eq_true rfl) (Nat.le_add_left 2 fr), Nat.le_trans (Nat.le_of_ble_eq_true rfl) (Nat.le_add_left 43 lo)⟩ (Nat.le_of_ble_eq_true rfl) ⟨Nat.le_refl _, Nat.le_refl _⟩ dX9_houseFrom_89 (fun H locs w => ?_)
          refine lv_isub E.1 E.2.1 dX9_houseFrom_92 ?_
          refine q_min E mm_RX9_34 hl.1 ⟨Nat.le_trans (Nat.le_of_ble_eq_true rfl) (Nat.le_add_left 2 fr), Nat.le_trans (Nat.le_of_ble_eq_true rfl) (Nat.le_add_left 43 lo)⟩ ⟨Nat.le_refl _, Nat.le_refl _⟩ dX9_houseFrom_93 ?_
          refine lv_istore_n (lv' := [(3, .int (if (r14 - r18) < v3 then (r14 - r18) else v3)), (0, .ref (ad G v0)), (1, .int v1), (2, .int v2), (4, .int v4)]) E.1 E.2.1 dX9_houseFrom_96 rfl hl (by decide) rfl (fun ls hl => ?_)
          refine lv_aload_n E.1 E.2.1 dX9_houseFrom_97 rfl (lv_at hl 1 rfl) ?_
          refine lv_dup E.1 E.2.1 dX9_houseFrom_98 rfl ?_
          refine q_gi E w t_v0 fl_RX9_25 dX9_houseFrom_99 ?_
          refine lv_iconst (v := 1) E.1 E.2.1 dX9_houseFrom_102 rfl ?_
          refine lv_iload E.1 E.2.1 dX9_houseFrom_103 (lv_at hl 4 rfl) ?_
          refine lv_ishl E.1 E.2.1 dX9_houseFrom_105 ?_
          refine lv_iconst (v := (-1)) E.1 E.2.1 dX9_houseFrom_106 rfl ?_
          refine lv_ixor E.1 E.2.1 dX9_houseFrom_107 ?_
          refine lv_iand E.1 E.2.1 dX9_houseFrom_108 ?_
          refine p_pi E w t_v0 fl_RX9_25 (fp_9_3 _) dX9_houseFrom_109 (fun h20 H locs eh w => ?_)
          have hf := sq_e eh hf
          clear eh
          refine lv_iinc (v := v4 + 1) (lv' := [(4, .int (v4 + 1)), (3, .int (if (r14 - r18) < v3 then (r14 - r18) else v3)), (0, .ref (ad G v0)), (1, .int v1), (2, .int v2)]) E.1 E.2.1 dX9_houseFrom_112 hl (k := 4) rfl rfl (by decide) rfl (fun ls hl => ?_)
          refine lv_goto (tgt := 26) E.1 E.2.1 dX9_houseFrom_115 (by decide) ?_
          exact ih _ _ _ _ _ _ _ _ _ hf w t_v0 (lv_sub hl [2, 3, 4, 1, 0] rfl)

def X9_houseFrom_B (N : Nat) (F_X9_landlordFrom : HS → Nat → Int32 → Option (Int32 × HS)) (F_X9_houseFrom : HS → Nat → Int32 → Option (Int32 × HS)) (h : HS) (v0 : Nat) (v1 : Int32) : Option (Int32 × HS) := (if v1 < (h.1 v0 1) then bd1 (X9_awakeNow N h v0) fun r3 => bd2 (F_X9_landlordFrom h v0 (v1 + 1)) fun r6 h7 => X9_houseFrom_l26 N F_X9_landlordFrom F_X9_houseFrom N h7 v0 v1 r3 r6 0 else some (0, h))
set_option maxRecDepth 4000 in
set_option maxHeartbeats 2000000 in
theorem X9_houseFrom_B_c {l : Launch} {G : GT} {N : Nat} {F_X9_landlordFrom : HS → Nat → Int32 → Option (Int32 × HS)} {F_X9_houseFrom : HS → Nat → Int32 → Option (Int32 × HS)} {fr lo : Nat} (hF_X9_landlordFrom : ∀ (h : HS) (v0 : Nat) (v1 : Int32) (z : (Int32 × HS)), F_X9_landlordFrom h v0 v1 = some z → sh v0 = 9 → CT l G yX9_landlordFrom cX9_landlordFrom 6 (some .int) fr lo [.ref (ad G v0), .int v1] h (some (.int z.1)) z.2) (hF_X9_houseFrom : ∀ (h : HS) (v0 : Nat) (v1 : Int32) (z : (Int32 × HS)), F_X9_houseFrom h v0 v1 = some z → sh v0 = 9 → CT l G yX9_houseFrom cX9_houseFrom 5 (some .int) fr lo [.ref (ad G v0), .int v1] h (some (.int z.1)) z.2) {h : HS} {v0 : Nat} {v1 : Int32} {z : (Int32 × HS)} (t_v0 : sh v0 = 9) (hf : X9_houseFrom_B N F_X9_landlordFrom F_X9_houseFrom h v0 v1 = some z) : CT l G yX9_houseFrom cX9_houseFrom 5 (some .int) (fr + 2) (lo + 43) [.ref (ad G v0), .int v1] h (some (.int z.1)) z.2 := by
  unfold X9_houseFrom_B at hf
  refine CT.of (by decide) (Nat.le_of_ble_eq_true rfl) ?_
  intro p e s m below meth c ls E hr hlk w hl
  have hl : lv_has ls 5 [(0, .ref (ad G v0)), (1, .int v1)] := hl
  refine lv_iload_n E.1 E.2.1 dX9_houseFrom_0 rfl (lv_at hl 1 rfl) ?_
  refine lv_aload_n E.1 E.2.1 dX9_houseFrom_1 rfl (lv_at hl 0 rfl) ?_
  refine q_gi E w t_v0 fl_RX9_18 dX9_houseFrom_2 ?_
  refine lv_icmp_lt (tgt := 10) E.1 E.2.1 dX9_houseFrom_5 (by decide) (fun c1 => ?_) (fun c1 => ?_)
  · have hf := q_pos c1 hf
    refine lv_aload_n E.1 E.2.1 dX9_houseFrom_10 rfl (lv_at hl 0 rfl) ?_
    obtain ⟨r3, hc2, hf⟩ := bd1_e hf
    refine k_Vi (As := []) (rest := []) E w t_v0 ⟨by decide, rfl⟩ (X9_awakeNow_c t_v0 hc2) mv_RX9_59 rfl rfl hl.1 ⟨Nat.le_trans (Nat.le_of_ble_eq_true rfl) (Nat.le_add_left 2 fr), Nat.le_trans (Nat.le_of_ble_eq_true rfl) (Nat.le_add_left 43 lo)⟩ (Nat.le_of_ble_eq_true rfl) ⟨Nat.le_refl _, Nat.le_refl _⟩ dX9_houseFrom_11 (fun H locs w => ?_)
    refine lv_istore_n (lv' := [(2, .int r3), (0, .ref (ad G v0)), (1, .int v1)]) E.1 E.2.1 dX9_houseFrom_14 rfl hl (by decide) rfl (fun ls hl => ?_)
    refine lv_aload_n E.1 E.2.1 dX9_houseFrom_15 rfl (lv_at hl 1 rfl) ?_
    refine lv_iload_n E.1 E.2.1 dX9_houseFrom_16 rfl (lv_at hl 2 rfl) ?_
    refine lv_iconst (v := 1) E.1 E.2.1 dX9_houseFrom_17 rfl ?_
    refine lv_iadd E.1 E.2.1 dX9_houseFrom_18 ?_
    obtain ⟨r6, h7, hc5, hf⟩ := bd2_e hf
    refine k_Vi (As := [.int (v1 + 1)]) (rest := []) E w t_v0 ⟨by decide, rfl⟩ (hF_X9_landlordFrom _ _ _ _ hc5 t_v0) mv_RX9_40 rfl rfl hl.1 ⟨Nat.add_le_add_left (Nat.le_of_ble_eq_true rfl) fr, (by show 8 + (6 + 11) + lo ≤ lo + 43; omega)⟩ (Nat.le_of_ble_eq_true rfl) ⟨Nat.le_refl _, Nat.le_refl _⟩ dX9_houseFrom_19 (fun H locs w => ?_)
    refine lv_istore_n (lv' := [(3, .int r6), (2, .int r3), (0, .ref (ad G v0)), (1, .int v1)]) E.1 E.2.1 dX9_houseFrom_22 rfl hl (by decide) rfl (fun ls hl => ?_)
    refine lv_iconst (v := 0) E.1 E.2.1 dX9_houseFrom_23 rfl ?_
    refine lv_istore (lv' := [(4, .int 0), (3, .int r6), (2, .int r3), (0, .ref (ad G v0)), (1, .int v1)]) E.1 E.2.1 dX9_houseFrom_24 hl (by decide) rfl (fun ls hl => ?_)
    exact X9_houseFrom_l26_w E hr hlk hF_X9_landlordFrom hF_X9_houseFrom N _ _ _ _ _ _ _ _ _ hf w t_v0 (lv_sub hl [3, 4, 2, 1, 0] rfl)
  · have hf := q_neg c1 hf
    refine lv_iconst (v := 0) E.1 E.2.1 dX9_houseFrom_8 rfl ?_
    have hf := Option.some.inj hf
    subst hf
    exact q_iret E w hr hlk dX9_houseFrom_9

def X9_landlordFrom_r (N : Nat) : Nat → ((HS → Nat → Int32 → Option (Int32 × HS)) × (HS → Nat → Int32 → Option (Int32 × HS)))
  | 0 => ((fun _ _ _ => none), (fun _ _ _ => none))
  | d + 1 => (X9_landlordFrom_B N (X9_landlordFrom_r N d).1 (X9_landlordFrom_r N d).2, X9_houseFrom_B N (X9_landlordFrom_r N d).1 (X9_landlordFrom_r N d).2)

set_option maxRecDepth 4000 in
theorem X9_landlordFrom_r_c {l : Launch} {G : GT} {N : Nat} : ∀ d : Nat, (∀ (h : HS) (v0 : Nat) (v1 : Int32) (z : (Int32 × HS)), (X9_landlordFrom_r N d).1 h v0 v1 = some z → sh v0 = 9 → CT l G yX9_landlordFrom cX9_landlordFrom 6 (some .int) (2 * d) (43 * d) [.ref (ad G v0), .int v1] h (some (.int z.1)) z.2) ∧ (∀ (h : HS) (v0 : Nat) (v1 : Int32) (z : (Int32 × HS)), (X9_landlordFrom_r N d).2 h v0 v1 = some z → sh v0 = 9 → CT l G yX9_houseFrom cX9_houseFrom 5 (some .int) (2 * d) (43 * d) [.ref (ad G v0), .int v1] h (some (.int z.1)) z.2) := by
  intro d
  induction d with
  | zero =>
    exact ⟨(fun h v0 v1 z hf => by cases hf), (fun h v0 v1 z hf => by cases hf)⟩
  | succ d ih =>
    exact ⟨(fun h v0 v1 z hf t0 => X9_landlordFrom_B_c ih.1 ih.2 t0 hf), (fun h v0 v1 z hf t0 => X9_houseFrom_B_c ih.1 ih.2 t0 hf)⟩
def X9_landlordFrom (N : Nat) (h : HS) (v0 : Nat) (v1 : Int32) : Option (Int32 × HS) := (X9_landlordFrom_r N 12).1 h v0 v1
theorem X9_landlordFrom_c {l : Launch} {G : GT} {N : Nat} {h : HS} {v0 : Nat} {v1 : Int32} {z : (Int32 × HS)} (tv0 : sh v0 = 9) (hf : X9_landlordFrom N h v0 v1 = some z) : CT l G yX9_landlordFrom cX9_landlordFrom 6 (some .int) 24 516 [.ref (ad G v0), .int v1] h (some (.int z.1)) z.2 := (X9_landlordFrom_r_c 12).1 _ _ _ _ hf tv0
def X9_houseFrom (N : Nat) (h : HS) (v0 : Nat) (v1 : Int32) : Option (Int32 × HS) := (X9_landlordFrom_r N 12).2 h v0 v1
theorem X9_houseFrom_c {l : Launch} {G : GT} {N : Nat} {h : HS} {v0 : Nat} {v1 : Int32} {z : (Int32 × HS)} (tv0 : sh v0 = 9) (hf : X9_houseFrom N h v0 v1 = some z) : CT l G yX9_houseFrom cX9_houseFrom 5 (some .int) 24 516 [.ref (ad G v0), .int v1] h (some (.int z.1)) z.2 := (X9_landlordFrom_r_c 12).2 _ _ _ _ hf tv0

def X9_play (N : Nat) (h : HS) (v0 : Nat) (v1 : Nat) (v2 : Int32) : Option HS := sq (wr h v0 v1) fun h1 => sq (wi h1 v0 1 (if 4 < v2 then 4 else v2)) fun h2 => sq (wi h2 v0 2 0) fun h3 => sq (wi h3 v0 3 0) fun h4 => sq (wi h4 v0 5 (-1)) fun h5 => bd2 (X9_landlordFrom N h5 v0 0) fun r7 h8 => sq (wi h8 v0 4 r7) fun h9 => some h9
set_option maxRecDepth 4000 in
set_option maxHeartbeats 2000000 in
theorem X9_play_c {l : Launch} {G : GT} {N : Nat} {h : HS} {v0 : Nat} {v1 : Nat} {v2 : Int32} {z : HS} (t_v0 : sh v0 = 9) (t_v1 : sh v1 = 1) (hf : X9_play N h v0 v1 v2 = some z) : CT l G yX9_play cX9_play 3 none 25 541 [.ref (ad G v0), .ref (ad G v1), .int v2] h none z := by
  unfold X9_play at hf
  refine CT.of (by decide) (Nat.le_of_ble_eq_true rfl) ?_
  intro p e s m below meth c ls E hr hlk w hl
  have hl : lv_has ls 3 [(0, .ref (ad G v0)), (1, .ref (ad G v1)), (2, .int v2)] := hl
  refine lv_aload_n E.1 E.2.1 dX9_play_0 rfl (lv_at hl 0 rfl) ?_
  refine lv_aload_n E.1 E.2.1 dX9_play_1 rfl (lv_at hl 1 rfl) ?_
  refine p_pr E w t_v0 fl_RX9_12 (by decide) (fp_9_0 _) ⟨fun z => absurd z (by decide), fun _ => t_v1⟩ dX9_play_2 (fun h1 H locs eh w => ?_)
  have hf := sq_e eh hf
  clear eh
  refine lv_aload_n E.1 E.2.1 dX9_play_5 rfl (lv_at hl 0 rfl) ?_
  refine lv_iload_n E.1 E.2.1 dX9_play_6 rfl (lv_at hl 2 rfl) ?_
  refine lv_iconst (v := 4) E.1 E.2.1 dX9_play_7 rfl ?_
  refine q_min E mm_RX9_34 hl.1 ⟨Nat.le_of_ble_eq_true rfl, Nat.le_of_ble_eq_true rfl⟩ ⟨Nat.le_refl _, Nat.le_refl _⟩ dX9_play_8 ?_
  refine p_pi E w t_v0 fl_RX9_18 (fp_9_1 _) dX9_play_11 (fun h2 H locs eh w => ?_)
  have hf := sq_e eh hf
  clear eh
  refine lv_aload_n E.1 E.2.1 dX9_play_14 rfl (lv_at hl 0 rfl) ?_
  refine lv_iconst (v := 0) E.1 E.2.1 dX9_play_15 rfl ?_
  refine p_pi E w t_v0 fl_RX9_22 (fp_9_2 _) dX9_play_16 (fun h3 H locs eh w => ?_)
  have hf := sq_e eh hf
  clear eh
  refine lv_aload_n E.1 E.2.1 dX9_play_19 rfl (lv_at hl 0 rfl) ?_
  refine lv_iconst (v := 0) E.1 E.2.1 dX9_play_20 rfl ?_
  refine p_pi E w t_v0 fl_RX9_25 (fp_9_3 _) dX9_play_21 (fun h4 H locs eh w => ?_)
  have hf := sq_e eh hf
  clear eh
  refine lv_aload_n E.1 E.2.1 dX9_play_24 rfl (lv_at hl 0 rfl) ?_
  refine lv_iconst (v := (-1)) E.1 E.2.1 dX9_play_25 rfl ?_
  refine p_pi E w t_v0 fl_RX9_31 (fp_9_5 _) dX9_play_26 (fun h5 H locs eh w => ?_)
  have hf := sq_e eh hf
  clear eh
  refine lv_aload_n E.1 E.2.1 dX9_play_29 rfl (lv_at hl 0 rfl) ?_
  refine lv_aload_n E.1 E.2.1 dX9_play_30 rfl (lv_at hl 0 rfl) ?_
  refine lv_iconst (v := 0) E.1 E.2.1 dX9_play_31 rfl ?_
  obtain ⟨r7, h8, hc6, hf⟩ := bd2_e hf
  refine k_Vi (As := [.int 0]) (rest := [.ref (ad G v0)]) E w t_v0 ⟨by decide, rfl⟩ (X9_landlordFrom_c t_v0 hc6) mv_RX9_40 rfl rfl hl.1 ⟨Nat.le_of_ble_eq_true rfl, Nat.le_of_ble_eq_true rfl⟩ (Nat.le_of_ble_eq_true rfl) ⟨Nat.le_refl _, Nat.le_refl _⟩ dX9_play_32 (fun H locs w => ?_)
  refine p_pi E w t_v0 fl_RX9_28 (fp_9_4 _) dX9_play_35 (fun h9 H locs eh w => ?_)
  have hf := sq_e eh hf
  clear eh
  have hf := Option.some.inj hf
  subst hf
  exact q_vret E w hr hlk dX9_play_38
