def X11_floorsAsTold_l2 (N : Nat) : Nat → HS → Nat → Int32 → Option HS
  | 0, _, _, _ => none
  | n + 1, h, v0, v1 => (if (h.1 v0 14) ≤ v1 then some h else bd1 (X11_floorOf N h v0 v1) fun r3 => (if v1 < 0 ∨ 8 ≤ v1.toNatClampNeg then none else sq (wi h (v0 + 9) v1.toNatClampNeg r3) fun h6 => X11_floorsAsTold_l2 N n h6 v0 (v1 + 1)))
set_option maxRecDepth 4000 in
set_option maxHeartbeats 2000000 in
theorem X11_floorsAsTold_l2_w {p : Program} {l : Launch} {e : Env} {s : State} {m : MethodId} {args : Array Value} {below : List Frame} {meth : Method} {c : Code} {G : GT} {N : Nat} {z : HS} (E : CallFix p m c cX11_floorsAsTold 2 s args UW RX11) (hr : meth.sig.returnType = none) (hlk : meth.locks = false) : ∀ (n : Nat) (h : HS) (H : Heap) (locs : List Loc) (ls : Array Slot) (v0 : Nat) (v1 : Int32), X11_floorsAsTold_l2 N n h v0 v1 = some z → WD G s h H locs → sh v0 = 11 → lv_has ls 2 [(0, .ref (ad G v0)), (1, .int v1)] → W p l e ({ frames := 1, cells := 0, slots := 0, locals := 21 } : Room) s m args below meth c H locs 0 0 (MQ below (QC G none z) args s 0 0 (AD G)) (F0 m 2 ls []) := by
  intro n
  induction n with
  | zero =>
    intro h H locs ls v0 v1 hf
    cases hf
  | succ n ih =>
    intro h H locs ls v0 v1 hf w t_v0 hl
    unfold X11_floorsAsTold_l2 at hf
    refine lv_iload_n E.1 E.2.1 dX11_floorsAsTold_2 rfl (lv_at hl 1 rfl) ?_
    refine lv_aload_n E.1 E.2.1 dX11_floorsAsTold_3 rfl (lv_at hl 0 rfl) ?_
    refine q_gi E w t_v0 fl_RX11_188 dX11_floorsAsTold_4 ?_
    refine lv_icmp_ge (tgt := 27) E.1 E.2.1 dX11_floorsAsTold_7 (by decide) (fun c1 => ?_) (fun c1 => ?_)
    · have hf := q_pos c1 hf
      have hf := Option.some.inj hf
      subst hf
      exact q_vret E w hr hlk dX11_floorsAsTold_27
    · have hf := q_neg c1 hf
      refine lv_aload_n E.1 E.2.1 dX11_floorsAsTold_10 rfl (lv_at hl 0 rfl) ?_
      refine q_gs E w 9 t_v0 fl_RX11_35 dX11_floorsAsTold_11 ?_
      refine lv_iload_n E.1 E.2.1 dX11_floorsAsTold_14 rfl (lv_at hl 1 rfl) ?_
      refine lv_aload_n E.1 E.2.1 dX11_floorsAsTold_15 rfl (lv_at hl 0 rfl) ?_
      refine lv_iload_n E.1 E.2.1 dX11_floorsAsTold_16 rfl (lv_at hl 1 rfl) ?_
      obtain ⟨r3, hc2, hf⟩ := bd1_e hf
      refine k_Vi (As := [.int v1]) (rest := [.int v1, .ref (ad G (v0 + 9))]) E w t_v0 ⟨by decide, rfl⟩ (X11_floorOf_c t_v0 hc2) mv_RX11_265 rfl rfl hl.1 ⟨Nat.le_of_ble_eq_true rfl, Nat.le_of_ble_eq_true rfl⟩ (Nat.le_of_ble_eq_true rfl) ⟨Nat.le_refl _, Nat.le_refl _⟩ dX11_floorsAsTold_17 (fun H locs w => ?_)
      obtain ⟨b5, hf⟩ := q_if hf
      refine p_iast E w ((lay_11_24 t_v0).1) ((lay_11_24 t_v0).2) b5 dX11_floorsAsTold_20 (fun h6 H locs eh w => ?_)
      have hf := sq_e eh hf
      clear eh
      refine lv_iinc (v := v1 + 1) (lv' := [(1, .int (v1 + 1)), (0, .ref (ad G v0))]) E.1 E.2.1 dX11_floorsAsTold_21 hl (k := 1) rfl rfl (by decide) rfl (fun ls hl => ?_)
      refine lv_goto (tgt := 2) E.1 E.2.1 dX11_floorsAsTold_24 (by decide) ?_
      exact ih _ _ _ _ _ _ hf w t_v0 (lv_sub hl [1, 0] rfl)

def X11_floorsAsTold (N : Nat) (h : HS) (v0 : Nat) : Option HS := X11_floorsAsTold_l2 N N h v0 0
set_option maxRecDepth 4000 in
set_option maxHeartbeats 2000000 in
theorem X11_floorsAsTold_c {l : Launch} {G : GT} {N : Nat} {h : HS} {v0 : Nat} {z : HS} (t_v0 : sh v0 = 11) (hf : X11_floorsAsTold N h v0 = some z) : CT l G yX11_floorsAsTold cX11_floorsAsTold 2 none 1 21 [.ref (ad G v0)] h none z := by
  unfold X11_floorsAsTold at hf
  refine CT.of (by decide) (Nat.le_of_ble_eq_true rfl) ?_
  intro p e s m below meth c ls E hr hlk w hl
  have hl : lv_has ls 2 [(0, .ref (ad G v0))] := hl
  refine lv_iconst (v := 0) E.1 E.2.1 dX11_floorsAsTold_0 rfl ?_
  refine lv_istore_n (lv' := [(1, .int 0), (0, .ref (ad G v0))]) E.1 E.2.1 dX11_floorsAsTold_1 rfl hl (by decide) rfl (fun ls hl => ?_)
  exact X11_floorsAsTold_l2_w E hr hlk N _ _ _ _ _ _ hf w t_v0 (lv_sub hl [1, 0] rfl)

def X11_common_l6 (N : Nat) (h : HS) : Nat → Int64 → Int64 → Option Int64
  | 0, _, _ => none
  | n + 1, v4, v6 => (if (lg_cmp v6 0) = 0 then some v4 else (if v6 = 0 then none else X11_common_l6 N h n v6 (v4 - v4 / v6 * v6)))
set_option maxRecDepth 4000 in
set_option maxHeartbeats 2000000 in
theorem X11_common_l6_w {p : Program} {l : Launch} {e : Env} {s : State} {m : MethodId} {args : Array Value} {below : List Frame} {meth : Method} {c : Code} {G : GT} {N : Nat} {h : HS} {z : Int64} (E : CallFix p m c cX11_common 10 s args UW RX11) (hr : meth.sig.returnType = (some .long)) (hlk : meth.locks = false) : ∀ (n : Nat) (H : Heap) (locs : List Loc) (ls : Array Slot) (v4 : Int64) (v6 : Int64), X11_common_l6 N h n v4 v6 = some z → WD G s h H locs → lv_has ls 10 [(4, .long v4), (6, .long v6)] → W p l e ({ frames := 0, cells := 0, slots := 0, locals := 0 } : Room) s m args below meth c H locs 0 0 (MQ below (QC G (some (.long z)) h) args s 0 0 (AD G)) (F0 m 6 ls []) := by
  intro n
  induction n with
  | zero =>
    intro H locs ls v4 v6 hf
    cases hf
  | succ n ih =>
    intro H locs ls v4 v6 hf w  hl
    unfold X11_common_l6 at hf
    refine lv_lload E.1 E.2.1 dX11_common_6 (lv_at hl 1 rfl) ?_
    refine lv_lconst (v := 0) E.1 E.2.1 dX11_common_8 rfl ?_
    refine W.lcmp E.1 E.2.1 dX11_common_9 ?_
    refine lv_if_eq (tgt := 31) E.1 E.2.1 dX11_common_10 (by decide) (fun c1 => ?_) (fun c1 => ?_)
    · have hf := q_pos c1 hf
      refine lv_lload E.1 E.2.1 dX11_common_31 (lv_at hl 0 rfl) ?_
      have hf := Option.some.inj hf
      subst hf
      exact q_lret E w hr hlk dX11_common_33
    · have hf := q_neg c1 hf
      refine lv_lload E.1 E.2.1 dX11_common_13 (lv_at hl 0 rfl) ?_
      refine lv_lload E.1 E.2.1 dX11_common_15 (lv_at hl 1 rfl) ?_
      obtain ⟨z2, hf⟩ := q_if hf
      refine lv_lrem E.1 E.2.1 dX11_common_17 z2 ?_
      refine lv_lstore (lv' := [(8, .long (v4 - v4 / v6 * v6)), (4, .long v4), (6, .long v6)]) E.1 E.2.1 dX11_common_18 hl (by decide) rfl (fun ls hl => ?_)
      refine lv_lload E.1 E.2.1 dX11_common_20 (lv_at hl 2 rfl) ?_
      refine lv_lstore (lv' := [(4, .long v6), (8, .long (v4 - v4 / v6 * v6)), (6, .long v6)]) E.1 E.2.1 dX11_common_22 hl (by decide) rfl (fun ls hl => ?_)
      refine lv_lload E.1 E.2.1 dX11_common_24 (lv_at hl 1 rfl) ?_
      refine lv_lstore (lv' := [(6, .long (v4 - v4 / v6 * v6)), (4, .long v6), (8, .long (v4 - v4 / v6 * v6))]) E.1 E.2.1 dX11_common_26 hl (by decide) rfl (fun ls hl => ?_)
      refine lv_goto (tgt := 6) E.1 E.2.1 dX11_common_28 (by decide) ?_
      exact ih _ _ _ _ _ hf w  (lv_sub hl [1, 0] rfl)

def X11_common (N : Nat) (h : HS) (v0 : Int64) (v2 : Int64) : Option Int64 := X11_common_l6 N h N v0 v2
set_option maxRecDepth 4000 in
set_option maxHeartbeats 2000000 in
theorem X11_common_c {l : Launch} {G : GT} {N : Nat} {h : HS} {v0 : Int64} {v2 : Int64} {z : Int64} (hf : X11_common N h v0 v2 = some z) : CT l G yX11_common cX11_common 10 (some .long) 0 0 [.long v0, .long v2] h (some (.long z)) h := by
  unfold X11_common at hf
  refine CT.of (by decide) (Nat.le_of_ble_eq_true rfl) ?_
  intro p e s m below meth c ls E hr hlk w hl
  have hl : lv_has ls 10 [(0, .long v0), (2, .long v2)] := hl
  refine lv_lload_n E.1 E.2.1 dX11_common_0 rfl (lv_at hl 0 rfl) ?_
  refine lv_lstore (lv' := [(4, .long v0), (0, .long v0), (2, .long v2)]) E.1 E.2.1 dX11_common_1 hl (by decide) rfl (fun ls hl => ?_)
  refine lv_lload_n E.1 E.2.1 dX11_common_3 rfl (lv_at hl 2 rfl) ?_
  refine lv_lstore (lv' := [(6, .long v2), (4, .long v0), (0, .long v0), (2, .long v2)]) E.1 E.2.1 dX11_common_4 hl (by decide) rfl (fun ls hl => ?_)
  exact X11_common_l6_w E hr hlk N _ _ _ _ _ hf w  (lv_sub hl [1, 0] rfl)

def X11_tens_l4 (N : Nat) (h : HS) : Nat → Int32 → Int64 → Int32 → Option Int64
  | 0, _, _, _ => none
  | n + 1, v0, v1, v3 => (if v0 ≤ v3 then some v1 else X11_tens_l4 N h n v0 (v1 * 10) (v3 + 1))
set_option maxRecDepth 4000 in
set_option maxHeartbeats 2000000 in
theorem X11_tens_l4_w {p : Program} {l : Launch} {e : Env} {s : State} {m : MethodId} {args : Array Value} {below : List Frame} {meth : Method} {c : Code} {G : GT} {N : Nat} {h : HS} {z : Int64} (E : CallFix p m c cX11_tens 4 s args UW RX11) (hr : meth.sig.returnType = (some .long)) (hlk : meth.locks = false) : ∀ (n : Nat) (H : Heap) (locs : List Loc) (ls : Array Slot) (v0 : Int32) (v1 : Int64) (v3 : Int32), X11_tens_l4 N h n v0 v1 v3 = some z → WD G s h H locs → lv_has ls 4 [(0, .int v0), (1, .long v1), (3, .int v3)] → W p l e ({ frames := 0, cells := 0, slots := 0, locals := 0 } : Room) s m args below meth c H locs 0 0 (MQ below (QC G (some (.long z)) h) args s 0 0 (AD G)) (F0 m 4 ls []) := by
  intro n
  induction n with
  | zero =>
    intro H locs ls v0 v1 v3 hf
    cases hf
  | succ n ih =>
    intro H locs ls v0 v1 v3 hf w  hl
    unfold X11_tens_l4 at hf
    refine lv_iload_n E.1 E.2.1 dX11_tens_4 rfl (lv_at hl 2 rfl) ?_
    refine lv_iload_n E.1 E.2.1 dX11_tens_5 rfl (lv_at hl 0 rfl) ?_
    refine lv_icmp_ge (tgt := 21) E.1 E.2.1 dX11_tens_6 (by decide) (fun c1 => ?_) (fun c1 => ?_)
    · have hf := q_pos c1 hf
      refine lv_lload_n E.1 E.2.1 dX11_tens_21 rfl (lv_at hl 1 rfl) ?_
      have hf := Option.some.inj hf
      subst hf
      exact q_lret E w hr hlk dX11_tens_22
    · have hf := q_neg c1 hf
      refine lv_lload_n E.1 E.2.1 dX11_tens_9 rfl (lv_at hl 1 rfl) ?_
      refine lv_ldc2 (v := 10) E.1 E.2.1 E.2.2.2.1 (E.2.2.2.2 _ ct_RX11_289) dX11_tens_10 ?_
      refine lv_lmul E.1 E.2.1 dX11_tens_13 ?_
      refine lv_lstore_n (lv' := [(1, .long (v1 * 10)), (0, .int v0), (3, .int v3)]) E.1 E.2.1 dX11_tens_14 rfl hl (by decide) rfl (fun ls hl => ?_)
      refine lv_iinc (v := v3 + 1) (lv' := [(3, .int (v3 + 1)), (1, .long (v1 * 10)), (0, .int v0)]) E.1 E.2.1 dX11_tens_15 hl (k := 2) rfl rfl (by decide) rfl (fun ls hl => ?_)
      refine lv_goto (tgt := 4) E.1 E.2.1 dX11_tens_18 (by decide) ?_
      exact ih _ _ _ _ _ _ hf w  (lv_sub hl [2, 1, 0] rfl)

def X11_tens (N : Nat) (h : HS) (v0 : Int32) : Option Int64 := X11_tens_l4 N h N v0 1 0
set_option maxRecDepth 4000 in
set_option maxHeartbeats 2000000 in
theorem X11_tens_c {l : Launch} {G : GT} {N : Nat} {h : HS} {v0 : Int32} {z : Int64} (hf : X11_tens N h v0 = some z) : CT l G yX11_tens cX11_tens 4 (some .long) 0 0 [.int v0] h (some (.long z)) h := by
  unfold X11_tens at hf
  refine CT.of (by decide) (Nat.le_of_ble_eq_true rfl) ?_
  intro p e s m below meth c ls E hr hlk w hl
  have hl : lv_has ls 4 [(0, .int v0)] := hl
  refine lv_lconst (v := 1) E.1 E.2.1 dX11_tens_0 rfl ?_
  refine lv_lstore_n (lv' := [(1, .long 1), (0, .int v0)]) E.1 E.2.1 dX11_tens_1 rfl hl (by decide) rfl (fun ls hl => ?_)
  refine lv_iconst (v := 0) E.1 E.2.1 dX11_tens_2 rfl ?_
  refine lv_istore_n (lv' := [(3, .int 0), (1, .long 1), (0, .int v0)]) E.1 E.2.1 dX11_tens_3 rfl hl (by decide) rfl (fun ls hl => ?_)
  exact X11_tens_l4_w E hr hlk N _ _ _ _ _ _ hf w  (lv_sub hl [2, 1, 0] rfl)

def X11_asleep_l5 (N : Nat) (h : HS) : Nat → Nat → Int32 → Int64 → Int32 → Option Int64
  | 0, _, _, _, _ => none
  | n + 1, v0, v1, v2, v4 => (if (h.1 v0 14) ≤ v4 then some v2 else (if v4 < 0 ∨ 8 ≤ v4.toNatClampNeg then none else (if v1 < (h.1 (v0 + 9) v4.toNatClampNeg) then X11_asleep_l5 N h n v0 v1 (v2 * 10) (v4 + 1) else bd1 (X11_riskOf N h v0 v4) fun r5 => X11_asleep_l5 N h n v0 v1 (v2 * ((10 - r5).toInt64)) (v4 + 1))))
set_option maxRecDepth 4000 in
set_option maxHeartbeats 2000000 in
theorem X11_asleep_l5_w {p : Program} {l : Launch} {e : Env} {s : State} {m : MethodId} {args : Array Value} {below : List Frame} {meth : Method} {c : Code} {G : GT} {N : Nat} {h : HS} {z : Int64} (E : CallFix p m c cX11_asleep 5 s args UW RX11) (hr : meth.sig.returnType = (some .long)) (hlk : meth.locks = false) : ∀ (n : Nat) (H : Heap) (locs : List Loc) (ls : Array Slot) (v0 : Nat) (v1 : Int32) (v2 : Int64) (v4 : Int32), X11_asleep_l5 N h n v0 v1 v2 v4 = some z → WD G s h H locs → sh v0 = 11 → lv_has ls 5 [(0, .ref (ad G v0)), (1, .int v1), (2, .long v2), (4, .int v4)] → W p l e ({ frames := 2, cells := 0, slots := 0, locals := 42 } : Room) s m args below meth c H locs 0 0 (MQ below (QC G (some (.long z)) h) args s 0 0 (AD G)) (F0 m 5 ls []) := by
  intro n
  induction n with
  | zero =>
    intro H locs ls v0 v1 v2 v4 hf
    cases hf
  | succ n ih =>
    intro H locs ls v0 v1 v2 v4 hf w t_v0 hl
    unfold X11_asleep_l5 at hf
    refine lv_iload E.1 E.2.1 dX11_asleep_5 (lv_at hl 3 rfl) ?_
    refine lv_aload_n E.1 E.2.1 dX11_asleep_7 rfl (lv_at hl 0 rfl) ?_
    refine q_gi E w t_v0 fl_RX11_188 dX11_asleep_8 ?_
    refine lv_icmp_ge (tgt := 50) E.1 E.2.1 dX11_asleep_11 (by decide) (fun c1 => ?_) (fun c1 => ?_)
    · have hf := q_pos c1 hf
      refine lv_lload_n E.1 E.2.1 dX11_asleep_50 rfl (lv_at hl 2 rfl) ?_
      have hf := Option.some.inj hf
      subst hf
      exact q_lret E w hr hlk dX11_asleep_51
    · have hf := q_neg c1 hf
      refine lv_lload_n E.1 E.2.1 dX11_asleep_14 rfl (lv_at hl 2 rfl) ?_
      refine lv_aload_n E.1 E.2.1 dX11_asleep_15 rfl (lv_at hl 0 rfl) ?_
      refine q_gs E w 9 t_v0 fl_RX11_35 dX11_asleep_16 ?_
      refine lv_iload E.1 E.2.1 dX11_asleep_19 (lv_at hl 3 rfl) ?_
      obtain ⟨b2, hf⟩ := q_if hf
      refine q_iald E w ((lay_11_24 t_v0).1) ((lay_11_24 t_v0).2) b2 dX11_asleep_21 ?_
      refine lv_iload_n E.1 E.2.1 dX11_asleep_22 rfl (lv_at hl 1 rfl) ?_
      refine lv_icmp_gt (tgt := 39) E.1 E.2.1 dX11_asleep_23 (by decide) (fun c3 => ?_) (fun c3 => ?_)
      · have hf := q_pos c3 hf
        refine lv_ldc2 (v := 10) E.1 E.2.1 E.2.2.2.1 (E.2.2.2.2 _ ct_RX11_289) dX11_asleep_39 ?_
        refine lv_lmul E.1 E.2.1 dX11_asleep_42 ?_
        refine lv_lstore_n (lv' := [(2, .long (v2 * 10)), (0, .ref (ad G v0)), (1, .int v1), (4, .int v4)]) E.1 E.2.1 dX11_asleep_43 rfl hl (by decide) rfl (fun ls hl => ?_)
        refine lv_iinc (v := v4 + 1) (lv' := [(4, .int (v4 + 1)), (2, .long (v2 * 10)), (0, .ref (ad G v0)), (1, .int v1)]) E.1 E.2.1 dX11_asleep_44 hl (k := 3) rfl rfl (by decide) rfl (fun ls hl => ?_)
        refine lv_goto (tgt := 5) E.1 E.2.1 dX11_asleep_47 (by decide) ?_
        exact ih _ _ _ _ _ _ _ hf w t_v0 (lv_sub hl [2, 3, 1, 0] rfl)
      · have hf := q_neg c3 hf
        refine lv_bipush (v := 10) E.1 E.2.1 dX11_asleep_26 rfl ?_
        refine lv_aload_n E.1 E.2.1 dX11_asleep_28 rfl (lv_at hl 0 rfl) ?_
        refine lv_iload E.1 E.2.1 dX11_asleep_29 (lv_at hl 3 rfl) ?_
        obtain ⟨r5, hc4, hf⟩ := bd1_e hf
        refine k_Vi (As := [.int v4]) (rest := [.int 10, .long v2]) E w t_v0 ⟨by decide, rfl⟩ (X11_riskOf_c t_v0 hc4) mv_RX11_291 rfl rfl hl.1 ⟨Nat.le_of_ble_eq_true rfl, Nat.le_of_ble_eq_true rfl⟩ (Nat.le_of_ble_eq_true rfl) ⟨Nat.le_refl _, Nat.le_refl _⟩ dX11_asleep_31 (fun H locs w => ?_)
        refine lv_isub E.1 E.2.1 dX11_asleep_34 ?_
        refine lv_i2l (v := (10 - r5).toInt64) E.1 E.2.1 dX11_asleep_35 rfl ?_
        refine lv_goto (tgt := 42) E.1 E.2.1 dX11_asleep_36 (by decide) ?_
        refine lv_lmul E.1 E.2.1 dX11_asleep_42 ?_
        refine lv_lstore_n (lv' := [(2, .long (v2 * ((10 - r5).toInt64))), (0, .ref (ad G v0)), (1, .int v1), (4, .int v4)]) E.1 E.2.1 dX11_asleep_43 rfl hl (by decide) rfl (fun ls hl => ?_)
        refine lv_iinc (v := v4 + 1) (lv' := [(4, .int (v4 + 1)), (2, .long (v2 * ((10 - r5).toInt64))), (0, .ref (ad G v0)), (1, .int v1)]) E.1 E.2.1 dX11_asleep_44 hl (k := 3) rfl rfl (by decide) rfl (fun ls hl => ?_)
        refine lv_goto (tgt := 5) E.1 E.2.1 dX11_asleep_47 (by decide) ?_
        exact ih _ _ _ _ _ _ _ hf w t_v0 (lv_sub hl [2, 3, 1, 0] rfl)

def X11_asleep (N : Nat) (h : HS) (v0 : Nat) (v1 : Int32) : Option Int64 := X11_asleep_l5 N h N v0 v1 1 0
set_option maxRecDepth 4000 in
set_option maxHeartbeats 2000000 in
theorem X11_asleep_c {l : Launch} {G : GT} {N : Nat} {h : HS} {v0 : Nat} {v1 : Int32} {z : Int64} (t_v0 : sh v0 = 11) (hf : X11_asleep N h v0 v1 = some z) : CT l G yX11_asleep cX11_asleep 5 (some .long) 2 42 [.ref (ad G v0), .int v1] h (some (.long z)) h := by
  unfold X11_asleep at hf
  refine CT.of (by decide) (Nat.le_of_ble_eq_true rfl) ?_
  intro p e s m below meth c ls E hr hlk w hl
  have hl : lv_has ls 5 [(0, .ref (ad G v0)), (1, .int v1)] := hl
  refine lv_lconst (v := 1) E.1 E.2.1 dX11_asleep_0 rfl ?_
  refine lv_lstore_n (lv' := [(2, .long 1), (0, .ref (ad G v0)), (1, .int v1)]) E.1 E.2.1 dX11_asleep_1 rfl hl (by decide) rfl (fun ls hl => ?_)
  refine lv_iconst (v := 0) E.1 E.2.1 dX11_asleep_2 rfl ?_
  refine lv_istore (lv' := [(4, .int 0), (2, .long 1), (0, .ref (ad G v0)), (1, .int v1)]) E.1 E.2.1 dX11_asleep_3 hl (by decide) rfl (fun ls hl => ?_)
  exact X11_asleep_l5_w E hr hlk N _ _ _ _ _ _ _ hf w t_v0 (lv_sub hl [2, 3, 1, 0] rfl)

def X11_wakesOf_l4 (N : Nat) (h : HS) : Nat → Nat → Int64 → Int32 → Option Int64
  | 0, _, _, _ => none
  | n + 1, v0, v1, v3 => (if (h.1 v0 13) ≤ v3 then some v1 else bd1 (X11_peopleOf N h v0 v3) fun r3 => bd1 (X11_tens N h (h.1 v0 14)) fun r6 => bd1 (X11_asleep N h v0 v3) fun r9 => X11_wakesOf_l4 N h n v0 (v1 + (r3.toInt64 * (r6 - r9))) (v3 + 1))
set_option maxRecDepth 4000 in
set_option maxHeartbeats 2000000 in
theorem X11_wakesOf_l4_w {p : Program} {l : Launch} {e : Env} {s : State} {m : MethodId} {args : Array Value} {below : List Frame} {meth : Method} {c : Code} {G : GT} {N : Nat} {h : HS} {z : Int64} (E : CallFix p m c cX11_wakesOf 4 s args UW RX11) (hr : meth.sig.returnType = (some .long)) (hlk : meth.locks = false) : ∀ (n : Nat) (H : Heap) (locs : List Loc) (ls : Array Slot) (v0 : Nat) (v1 : Int64) (v3 : Int32), X11_wakesOf_l4 N h n v0 v1 v3 = some z → WD G s h H locs → sh v0 = 11 → lv_has ls 4 [(0, .ref (ad G v0)), (1, .long v1), (3, .int v3)] → W p l e ({ frames := 3, cells := 0, slots := 0, locals := 66 } : Room) s m args below meth c H locs 0 0 (MQ below (QC G (some (.long z)) h) args s 0 0 (AD G)) (F0 m 4 ls []) := by
  intro n
  induction n with
  | zero =>
    intro H locs ls v0 v1 v3 hf
    cases hf
  | succ n ih =>
    intro H locs ls v0 v1 v3 hf w t_v0 hl
    unfold X11_wakesOf_l4 at hf
    refine lv_iload_n E.1 E.2.1 dX11_wakesOf_4 rfl (lv_at hl 2 rfl) ?_
    refine lv_aload_n E.1 E.2.1 dX11_wakesOf_5 rfl (lv_at hl 0 rfl) ?_
    refine q_gi E w t_v0 fl_RX11_185 dX11_wakesOf_6 ?_
    refine lv_icmp_ge (tgt := 41) E.1 E.2.1 dX11_wakesOf_9 (by decide) (fun c1 => ?_) (fun c1 => ?_)
    · have hf := q_pos c1 hf
      refine lv_lload_n E.1 E.2.1 dX11_wakesOf_41 rfl (lv_at hl 1 rfl) ?_
      have hf := Option.some.inj hf
      subst hf
      exact q_lret E w hr hlk dX11_wakesOf_42
    · have hf := q_neg c1 hf
      refine lv_lload_n E.1 E.2.1 dX11_wakesOf_12 rfl (lv_at hl 1 rfl) ?_
      refine lv_aload_n E.1 E.2.1 dX11_wakesOf_13 rfl (lv_at hl 0 rfl) ?_
      refine lv_iload_n E.1 E.2.1 dX11_wakesOf_14 rfl (lv_at hl 2 rfl) ?_
      obtain ⟨r3, hc2, hf⟩ := bd1_e hf
      refine k_Vi (As := [.int v3]) (rest := [.long v1]) E w t_v0 ⟨by decide, rfl⟩ (X11_peopleOf_c t_v0 hc2) mv_RX11_206 rfl rfl hl.1 ⟨Nat.le_of_ble_eq_true rfl, Nat.le_of_ble_eq_true rfl⟩ (Nat.le_of_ble_eq_true rfl) ⟨Nat.le_refl _, Nat.le_refl _⟩ dX11_wakesOf_15 (fun H locs w => ?_)
      refine lv_i2l (v := r3.toInt64) E.1 E.2.1 dX11_wakesOf_18 rfl ?_
      refine lv_aload_n E.1 E.2.1 dX11_wakesOf_19 rfl (lv_at hl 0 rfl) ?_
      refine q_gi E w t_v0 fl_RX11_188 dX11_wakesOf_20 ?_
      obtain ⟨r6, hc5, hf⟩ := bd1_e hf
      refine k_Sl (As := [.int (h.1 v0 14)]) (rest := [.long r3.toInt64, .long v1]) E w (X11_tens_c  hc5) ms_RX11_294 rfl rfl hl.1 ⟨Nat.le_of_ble_eq_true rfl, Nat.le_of_ble_eq_true rfl⟩ (Nat.le_of_ble_eq_true rfl) ⟨Nat.le_refl _, Nat.le_refl _⟩ dX11_wakesOf_23 (fun H locs w => ?_)
      refine lv_aload_n E.1 E.2.1 dX11_wakesOf_26 rfl (lv_at hl 0 rfl) ?_
      refine lv_iload_n E.1 E.2.1 dX11_wakesOf_27 rfl (lv_at hl 2 rfl) ?_
      obtain ⟨r9, hc8, hf⟩ := bd1_e hf
      refine k_Vl (As := [.int v3]) (rest := [.long r6, .long r3.toInt64, .long v1]) E w t_v0 ⟨by decide, rfl⟩ (X11_asleep_c t_v0 hc8) mv_RX11_298 rfl rfl hl.1 ⟨Nat.le_of_ble_eq_true rfl, Nat.le_of_ble_eq_true rfl⟩ (Nat.le_of_ble_eq_true rfl) ⟨Nat.le_refl _, Nat.le_refl _⟩ dX11_wakesOf_28 (fun H locs w => ?_)
      refine lv_lsub E.1 E.2.1 dX11_wakesOf_31 ?_
      refine lv_lmul E.1 E.2.1 dX11_wakesOf_32 ?_
      refine lv_ladd E.1 E.2.1 dX11_wakesOf_33 ?_
      refine lv_lstore_n (lv' := [(1, .long (v1 + (r3.toInt64 * (r6 - r9)))), (0, .ref (ad G v0)), (3, .int v3)]) E.1 E.2.1 dX11_wakesOf_34 rfl hl (by decide) rfl (fun ls hl => ?_)
      refine lv_iinc (v := v3 + 1) (lv' := [(3, .int (v3 + 1)), (1, .long (v1 + (r3.toInt64 * (r6 - r9)))), (0, .ref (ad G v0))]) E.1 E.2.1 dX11_wakesOf_35 hl (k := 2) rfl rfl (by decide) rfl (fun ls hl => ?_)
      refine lv_goto (tgt := 4) E.1 E.2.1 dX11_wakesOf_38 (by decide) ?_
      exact ih _ _ _ _ _ _ hf w t_v0 (lv_sub hl [2, 1, 0] rfl)

def X11_wakesOf (N : Nat) (h : HS) (v0 : Nat) : Option Int64 := X11_wakesOf_l4 N h N v0 0 0
set_option maxRecDepth 4000 in
set_option maxHeartbeats 2000000 in
theorem X11_wakesOf_c {l : Launch} {G : GT} {N : Nat} {h : HS} {v0 : Nat} {z : Int64} (t_v0 : sh v0 = 11) (hf : X11_wakesOf N h v0 = some z) : CT l G yX11_wakesOf cX11_wakesOf 4 (some .long) 3 66 [.ref (ad G v0)] h (some (.long z)) h := by
  unfold X11_wakesOf at hf
  refine CT.of (by decide) (Nat.le_of_ble_eq_true rfl) ?_
  intro p e s m below meth c ls E hr hlk w hl
  have hl : lv_has ls 4 [(0, .ref (ad G v0))] := hl
  refine lv_lconst (v := 0) E.1 E.2.1 dX11_wakesOf_0 rfl ?_
  refine lv_lstore_n (lv' := [(1, .long 0), (0, .ref (ad G v0))]) E.1 E.2.1 dX11_wakesOf_1 rfl hl (by decide) rfl (fun ls hl => ?_)
  refine lv_iconst (v := 0) E.1 E.2.1 dX11_wakesOf_2 rfl ?_
  refine lv_istore_n (lv' := [(3, .int 0), (1, .long 0), (0, .ref (ad G v0))]) E.1 E.2.1 dX11_wakesOf_3 rfl hl (by decide) rfl (fun ls hl => ?_)
  exact X11_wakesOf_l4_w E hr hlk N _ _ _ _ _ _ hf w t_v0 (lv_sub hl [2, 1, 0] rfl)

def X11_wakes (N : Nat) (h : HS) (v0 : Nat) (v1 : Int32) (v2 : Int32) : Option (Int64 × HS) := bd2 (X11_isHouse N h v0 v1) fun r2 h3 => (if r2 = 0 then some ((-1), h3) else bd1 (X11_floorsAsTold N h3 v0) fun h7 => bd1 (X11_wakesOf N h7 v0) fun r9 => bd1 (X11_tens N h7 (h7.1 v0 14)) fun r12 => bd1 (X11_common N h7 r9 r12) fun r15 => (if v2 = 0 then bd1 (X11_wakesOf N h7 v0) fun r19 => (if r15 = 0 then none else some (r19 / r15, h7)) else bd1 (X11_tens N h7 (h7.1 v0 14)) fun r23 => (if r15 = 0 then none else some (r23 / r15, h7))))
set_option maxRecDepth 4000 in
set_option maxHeartbeats 2000000 in
theorem X11_wakes_c {l : Launch} {G : GT} {N : Nat} {h : HS} {v0 : Nat} {v1 : Int32} {v2 : Int32} {z : (Int64 × HS)} (t_v0 : sh v0 = 11) (hf : X11_wakes N h v0 v1 v2 = some z) : CT l G yX11_wakes cX11_wakes 5 (some .long) 4 89 [.ref (ad G v0), .int v1, .int v2] h (some (.long z.1)) z.2 := by
  unfold X11_wakes at hf
  refine CT.of (by decide) (Nat.le_of_ble_eq_true rfl) ?_
  intro p e s m below meth c ls E hr hlk w hl
  have hl : lv_has ls 5 [(0, .ref (ad G v0)), (1, .int v1), (2, .int v2)] := hl
  refine lv_aload_n E.1 E.2.1 dX11_wakes_0 rfl (lv_at hl 0 rfl) ?_
  refine lv_iload_n E.1 E.2.1 dX11_wakes_1 rfl (lv_at hl 1 rfl) ?_
  obtain ⟨r2, h3, hc1, hf⟩ := bd2_e hf
  refine k_Vi (As := [.int v1]) (rest := []) E w t_v0 ⟨by decide, rfl⟩ (X11_isHouse_c t_v0 hc1) mv_RX11_197 rfl rfl hl.1 ⟨Nat.le_of_ble_eq_true rfl, Nat.le_of_ble_eq_true rfl⟩ (Nat.le_of_ble_eq_true rfl) ⟨Nat.le_refl _, Nat.le_refl _⟩ dX11_wakes_2 (fun H locs w => ?_)
  refine lv_if_ne (tgt := 12) E.1 E.2.1 dX11_wakes_5 (by decide) (fun c4 => ?_) (fun c4 => ?_)
  · have hf := q_neg c4 hf
    refine lv_aload_n E.1 E.2.1 dX11_wakes_12 rfl (lv_at hl 0 rfl) ?_
    obtain ⟨h7, hc5, hf⟩ := bd1_e hf
    refine k_Vv (As := []) (rest := []) E w t_v0 ⟨by decide, rfl⟩ (X11_floorsAsTold_c t_v0 hc5) mv_RX11_303 rfl rfl hl.1 ⟨Nat.le_of_ble_eq_true rfl, Nat.le_of_ble_eq_true rfl⟩ (Nat.le_of_ble_eq_true rfl) ⟨Nat.le_refl _, Nat.le_refl _⟩ dX11_wakes_13 (fun H locs w => ?_)
    refine lv_aload_n E.1 E.2.1 dX11_wakes_16 rfl (lv_at hl 0 rfl) ?_
    obtain ⟨r9, hc8, hf⟩ := bd1_e hf
    refine k_Vl (As := []) (rest := []) E w t_v0 ⟨by decide, rfl⟩ (X11_wakesOf_c t_v0 hc8) mv_RX11_306 rfl rfl hl.1 ⟨Nat.le_of_ble_eq_true rfl, Nat.le_of_ble_eq_true rfl⟩ (Nat.le_of_ble_eq_true rfl) ⟨Nat.le_refl _, Nat.le_refl _⟩ dX11_wakes_17 (fun H locs w => ?_)
    refine lv_aload_n E.1 E.2.1 dX11_wakes_20 rfl (lv_at hl 0 rfl) ?_
    refine q_gi E w t_v0 fl_RX11_188 dX11_wakes_21 ?_
    obtain ⟨r12, hc11, hf⟩ := bd1_e hf
    refine k_Sl (As := [.int (h7.1 v0 14)]) (rest := [.long r9]) E w (X11_tens_c  hc11) ms_RX11_294 rfl rfl hl.1 ⟨Nat.le_of_ble_eq_true rfl, Nat.le_of_ble_eq_true rfl⟩ (Nat.le_of_ble_eq_true rfl) ⟨Nat.le_refl _, Nat.le_refl _⟩ dX11_wakes_24 (fun H locs w => ?_)
    obtain ⟨r15, hc14, hf⟩ := bd1_e hf
    refine k_Sl (As := [.long r9, .long r12]) (rest := []) E w (X11_common_c  hc14) ms_RX11_310 rfl rfl hl.1 ⟨Nat.le_of_ble_eq_true rfl, Nat.le_of_ble_eq_true rfl⟩ (Nat.le_of_ble_eq_true rfl) ⟨Nat.le_refl _, Nat.le_refl _⟩ dX11_wakes_27 (fun H locs w => ?_)
    refine lv_lstore_n (lv' := [(3, .long r15), (0, .ref (ad G v0)), (1, .int v1), (2, .int v2)]) E.1 E.2.1 dX11_wakes_30 rfl hl (by decide) rfl (fun ls hl => ?_)
    refine lv_iload_n E.1 E.2.1 dX11_wakes_31 rfl (lv_at hl 3 rfl) ?_
    refine lv_if_eq (tgt := 45) E.1 E.2.1 dX11_wakes_32 (by decide) (fun c17 => ?_) (fun c17 => ?_)
    · have hf := q_pos c17 hf
      refine lv_aload_n E.1 E.2.1 dX11_wakes_45 rfl (lv_at hl 1 rfl) ?_
      obtain ⟨r19, hc18, hf⟩ := bd1_e hf
      refine k_Vl (As := []) (rest := []) E w t_v0 ⟨by decide, rfl⟩ (X11_wakesOf_c t_v0 hc18) mv_RX11_306 rfl rfl hl.1 ⟨Nat.le_of_ble_eq_true rfl, Nat.le_of_ble_eq_true rfl⟩ (Nat.le_of_ble_eq_true rfl) ⟨Nat.le_refl _, Nat.le_refl _⟩ dX11_wakes_46 (fun H locs w => ?_)
      refine lv_lload_n E.1 E.2.1 dX11_wakes_49 rfl (lv_at hl 0 rfl) ?_
      obtain ⟨z21, hf⟩ := q_if hf
      refine lv_ldiv E.1 E.2.1 dX11_wakes_50 z21 ?_
      have hf := Option.some.inj hf
      subst hf
      exact q_lret E w hr hlk dX11_wakes_51
    · have hf := q_neg c17 hf
      refine lv_aload_n E.1 E.2.1 dX11_wakes_35 rfl (lv_at hl 1 rfl) ?_
      refine q_gi E w t_v0 fl_RX11_188 dX11_wakes_36 ?_
      obtain ⟨r23, hc22, hf⟩ := bd1_e hf
      refine k_Sl (As := [.int (h7.1 v0 14)]) (rest := []) E w (X11_tens_c  hc22) ms_RX11_294 rfl rfl hl.1 ⟨Nat.le_of_ble_eq_true rfl, Nat.le_of_ble_eq_true rfl⟩ (Nat.le_of_ble_eq_true rfl) ⟨Nat.le_refl _, Nat.le_refl _⟩ dX11_wakes_39 (fun H locs w => ?_)
      refine lv_goto (tgt := 49) E.1 E.2.1 dX11_wakes_42 (by decide) ?_
      refine lv_lload_n E.1 E.2.1 dX11_wakes_49 rfl (lv_at hl 0 rfl) ?_
      obtain ⟨z25, hf⟩ := q_if hf
      refine lv_ldiv E.1 E.2.1 dX11_wakes_50 z25 ?_
      have hf := Option.some.inj hf
      subst hf
      exact q_lret E w hr hlk dX11_wakes_51
  · have hf := q_pos c4 hf
    refine lv_ldc2 (v := (-1)) E.1 E.2.1 E.2.2.2.1 (E.2.2.2.2 _ ct_RX11_301) dX11_wakes_8 ?_
    have hf := Option.some.inj hf
    subst hf
    exact q_lret E w hr hlk dX11_wakes_11

def X11_change_l40 (N : Nat) (K25 : HS → Nat → Int64 → Int32 → Int32 → Option (Int32 × HS)) : Nat → HS → Nat → Int64 → Int32 → Int32 → Int32 → Option (Int32 × HS)
  | 0, _, _, _, _, _, _ => none
  | n + 1, h, v0, v2, v4, v5, v6 => (if (h.1 v0 14) ≤ v6 then K25 h v0 v2 v4 (v5 + 1) else bd1 (X11_floorOf N h v0 v6) fun r14 => (if v5 < 0 ∨ 8 ≤ v5.toNatClampNeg then none else sq (wi h (v0 + 9) v5.toNatClampNeg r14) fun h17 => bd1 (X11_floorOf N h17 v0 v5) fun r19 => (if v6 < 0 ∨ 8 ≤ v6.toNatClampNeg then none else sq (wi h17 (v0 + 9) v6.toNatClampNeg r19) fun h22 => bd1 (X11_wakesOf N h22 v0) fun r24 => bd1 (X11_floorOf N h22 v0 v5) fun r27 => (if v5 < 0 ∨ 8 ≤ v5.toNatClampNeg then none else sq (wi h22 (v0 + 9) v5.toNatClampNeg r27) fun h30 => bd1 (X11_floorOf N h30 v0 v6) fun r32 => (if v6 < 0 ∨ 8 ≤ v6.toNatClampNeg then none else sq (wi h30 (v0 + 9) v6.toNatClampNeg r32) fun h35 => (if (lg_cmp r24 v2) < 0 then X11_change_l40 N K25 n h35 v0 r24 ((10 * v5) + v6) v5 (v6 + 1) else X11_change_l40 N K25 n h35 v0 v2 v4 v5 (v6 + 1)))))))
set_option maxRecDepth 4000 in
set_option maxHeartbeats 2000000 in
theorem X11_change_l40_w {p : Program} {l : Launch} {e : Env} {s : State} {m : MethodId} {args : Array Value} {below : List Frame} {meth : Method} {c : Code} {G : GT} {N : Nat} {z : (Int32 × HS)} (E : CallFix p m c cX11_change 9 s args UW RX11) (hr : meth.sig.returnType = (some .int)) (hlk : meth.locks = false) {K25 : HS → Nat → Int64 → Int32 → Int32 → Option (Int32 × HS)} (hK25 : ∀ (h : HS) (H : Heap) (locs : List Loc) (ls : Array Slot) (v0 : Nat) (v2 : Int64) (v4 : Int32) (v5 : Int32), K25 h v0 v2 v4 v5 = some z → WD G s h H locs → sh v0 = 11 → lv_has ls 9 [(0, .ref (ad G v0)), (2, .long v2), (4, .int v4), (5, .int v5)] → W p l e ({ frames := 4, cells := 0, slots := 0, locals := 89 } : Room) s m args below meth c H locs 0 0 (MQ below (QC G (some (.int z.1)) z.2) args s 0 0 (AD G)) (F0 m 25 ls [])) : ∀ (n : Nat) (h : HS) (H : Heap) (locs : List Loc) (ls : Array Slot) (v0 : Nat) (v2 : Int64) (v4 : Int32) (v5 : Int32) (v6 : Int32), X11_change_l40 N K25 n h v0 v2 v4 v5 v6 = some z → WD G s h H locs → sh v0 = 11 → lv_has ls 9 [(0, .ref (ad G v0)), (2, .long v2), (4, .int v4), (5, .int v5), (6, .int v6)] → W p l e ({ frames := 4, cells := 0, slots := 0, locals := 89 } : Room) s m args below meth c H locs 0 0 (MQ below (QC G (some (.int z.1)) z.2) args s 0 0 (AD G)) (F0 m 40 ls []) := by
  intro n
  induction n with
  | zero =>
    intro h H locs ls v0 v2 v4 v5 v6 hf
    cases hf
  | succ n ih =>
    intro h H locs ls v0 v2 v4 v5 v6 hf w t_v0 hl
    unfold X11_change_l40 at hf
    refine lv_iload E.1 E.2.1 dX11_change_40 (lv_at hl 4 rfl) ?_
    refine lv_aload_n E.1 E.2.1 dX11_change_42 rfl (lv_at hl 0 rfl) ?_
    refine q_gi E w t_v0 fl_RX11_188 dX11_change_43 ?_
    refine lv_icmp_ge (tgt := 136) E.1 E.2.1 dX11_change_46 (by decide) (fun c12 => ?_) (fun c12 => ?_)
    · have hf := q_pos c12 hf
      refine lv_iinc (v := v5 + 1) (lv' := [(5, .int (v5 + 1)), (0, .ref (ad G v0)), (2, .long v2), (4, .int v4), (6, .int v6)]) E.1 E.2.1 dX11_change_136 hl (k := 3) rfl rfl (by decide) rfl (fun ls hl => ?_)
      refine lv_goto (tgt := 25) E.1 E.2.1 dX11_change_139 (by decide) ?_
      exact hK25 _ _ _ _ _ _ _ _ hf w t_v0 (lv_sub hl [1, 2, 3, 0] rfl)
    · have hf := q_neg c12 hf
      refine lv_aload_n E.1 E.2.1 dX11_change_49 rfl (lv_at hl 0 rfl) ?_
      refine q_gs E w 9 t_v0 fl_RX11_35 dX11_change_50 ?_
      refine lv_iload E.1 E.2.1 dX11_change_53 (lv_at hl 3 rfl) ?_
      refine lv_aload_n E.1 E.2.1 dX11_change_55 rfl (lv_at hl 0 rfl) ?_
      refine lv_iload E.1 E.2.1 dX11_change_56 (lv_at hl 4 rfl) ?_
      obtain ⟨r14, hc13, hf⟩ := bd1_e hf
      refine k_Vi (As := [.int v6]) (rest := [.int v5, .ref (ad G (v0 + 9))]) E w t_v0 ⟨by decide, rfl⟩ (X11_floorOf_c t_v0 hc13) mv_RX11_265 rfl rfl hl.1 ⟨Nat.le_of_ble_eq_true rfl, Nat.le_of_ble_eq_true rfl⟩ (Nat.le_of_ble_eq_true rfl) ⟨Nat.le_refl _, Nat.le_refl _⟩ dX11_change_58 (fun H locs w => ?_)
      obtain ⟨b16, hf⟩ := q_if hf
      refine p_iast E w ((lay_11_24 t_v0).1) ((lay_11_24 t_v0).2) b16 dX11_change_61 (fun h17 H locs eh w => ?_)
      have hf := sq_e eh hf
      clear eh
      refine lv_aload_n E.1 E.2.1 dX11_change_62 rfl (lv_at hl 0 rfl) ?_
      refine q_gs E w 9 t_v0 fl_RX11_35 dX11_change_63 ?_
      refine lv_iload E.1 E.2.1 dX11_change_66 (lv_at hl 4 rfl) ?_
      refine lv_aload_n E.1 E.2.1 dX11_change_68 rfl (lv_at hl 0 rfl) ?_
      refine lv_iload E.1 E.2.1 dX11_change_69 (lv_at hl 3 rfl) ?_
      obtain ⟨r19, hc18, hf⟩ := bd1_e hf
      refine k_Vi (As := [.int v5]) (rest := [.int v6, .ref (ad G (v0 + 9))]) E w t_v0 ⟨by decide, rfl⟩ (X11_floorOf_c t_v0 hc18) mv_RX11_265 rfl rfl hl.1 ⟨Nat.le_of_ble_eq_true rfl, Nat.le_of_ble_eq_true rfl⟩ (Nat.le_of_ble_eq_true rfl) ⟨Nat.le_refl _, Nat.le_refl _⟩ dX11_change_71 (fun H locs w => ?_)
      obtain ⟨b21, hf⟩ := q_if hf
      refine p_iast E w ((lay_11_24 t_v0).1) ((lay_11_24 t_v0).2) b21 dX11_change_74 (fun h22 H locs eh w => ?_)
      have hf := sq_e eh hf
      clear eh
      refine lv_aload_n E.1 E.2.1 dX11_change_75 rfl (lv_at hl 0 rfl) ?_
      obtain ⟨r24, hc23, hf⟩ := bd1_e hf
      refine k_Vl (As := []) (rest := []) E w t_v0 ⟨by decide, rfl⟩ (X11_wakesOf_c t_v0 hc23) mv_RX11_306 rfl rfl hl.1 ⟨Nat.le_of_ble_eq_true rfl, Nat.le_of_ble_eq_true rfl⟩ (Nat.le_of_ble_eq_true rfl) ⟨Nat.le_refl _, Nat.le_refl _⟩ dX11_change_76 (fun H locs w => ?_)
      refine lv_lstore (lv' := [(7, .long r24), (0, .ref (ad G v0)), (2, .long v2), (4, .int v4), (5, .int v5), (6, .int v6)]) E.1 E.2.1 dX11_change_79 hl (by decide) rfl (fun ls hl => ?_)
      refine lv_aload_n E.1 E.2.1 dX11_change_81 rfl (lv_at hl 1 rfl) ?_
      refine q_gs E w 9 t_v0 fl_RX11_35 dX11_change_82 ?_
      refine lv_iload E.1 E.2.1 dX11_change_85 (lv_at hl 4 rfl) ?_
      refine lv_aload_n E.1 E.2.1 dX11_change_87 rfl (lv_at hl 1 rfl) ?_
      refine lv_iload E.1 E.2.1 dX11_change_88 (lv_at hl 4 rfl) ?_
      obtain ⟨r27, hc26, hf⟩ := bd1_e hf
      refine k_Vi (As := [.int v5]) (rest := [.int v5, .ref (ad G (v0 + 9))]) E w t_v0 ⟨by decide, rfl⟩ (X11_floorOf_c t_v0 hc26) mv_RX11_265 rfl rfl hl.1 ⟨Nat.le_of_ble_eq_true rfl, Nat.le_of_ble_eq_true rfl⟩ (Nat.le_of_ble_eq_true rfl) ⟨Nat.le_refl _, Nat.le_refl _⟩ dX11_change_90 (fun H locs w => ?_)
      obtain ⟨b29, hf⟩ := q_if hf
      refine p_iast E w ((lay_11_24 t_v0).1) ((lay_11_24 t_v0).2) b29 dX11_change_93 (fun h30 H locs eh w => ?_)
      have hf := sq_e eh hf
      clear eh
      refine lv_aload_n E.1 E.2.1 dX11_change_94 rfl (lv_at hl 1 rfl) ?_
      refine q_gs E w 9 t_v0 fl_RX11_35 dX11_change_95 ?_
      refine lv_iload E.1 E.2.1 dX11_change_98 (lv_at hl 5 rfl) ?_
      refine lv_aload_n E.1 E.2.1 dX11_change_100 rfl (lv_at hl 1 rfl) ?_
      refine lv_iload E.1 E.2.1 dX11_change_101 (lv_at hl 5 rfl) ?_
      obtain ⟨r32, hc31, hf⟩ := bd1_e hf
      refine k_Vi (As := [.int v6]) (rest := [.int v6, .ref (ad G (v0 + 9))]) E w t_v0 ⟨by decide, rfl⟩ (X11_floorOf_c t_v0 hc31) mv_RX11_265 rfl rfl hl.1 ⟨Nat.le_of_ble_eq_true rfl, Nat.le_of_ble_eq_true rfl⟩ (Nat.le_of_ble_eq_true rfl) ⟨Nat.le_refl _, Nat.le_refl _⟩ dX11_change_103 (fun H locs w => ?_)
      obtain ⟨b34, hf⟩ := q_if hf
      refine p_iast E w ((lay_11_24 t_v0).1) ((lay_11_24 t_v0).2) b34 dX11_change_106 (fun h35 H locs eh w => ?_)
      have hf := sq_e eh hf
      clear eh
      refine lv_lload E.1 E.2.1 dX11_change_107 (lv_at hl 0 rfl) ?_
      refine lv_lload_n E.1 E.2.1 dX11_change_109 rfl (lv_at hl 2 rfl) ?_
      refine W.lcmp E.1 E.2.1 dX11_change_110 ?_
      refine lv_if_lt (tgt := 117) E.1 E.2.1 dX11_change_111 (by decide) (fun c36 => ?_) (fun c36 => ?_)
      · have hf := q_pos c36 hf
        refine lv_bipush (v := 10) E.1 E.2.1 dX11_change_117 rfl ?_
        refine lv_iload E.1 E.2.1 dX11_change_119 (lv_at hl 4 rfl) ?_
        refine lv_imul E.1 E.2.1 dX11_change_121 ?_
        refine lv_iload E.1 E.2.1 dX11_change_122 (lv_at hl 5 rfl) ?_
        refine lv_iadd E.1 E.2.1 dX11_change_124 ?_
        refine lv_istore (lv' := [(4, .int ((10 * v5) + v6)), (7, .long r24), (0, .ref (ad G v0)), (2, .long v2), (5, .int v5), (6, .int v6)]) E.1 E.2.1 dX11_change_125 hl (by decide) rfl (fun ls hl => ?_)
        refine lv_lload E.1 E.2.1 dX11_change_127 (lv_at hl 1 rfl) ?_
        refine lv_lstore_n (lv' := [(2, .long r24), (4, .int ((10 * v5) + v6)), (7, .long r24), (0, .ref (ad G v0)), (5, .int v5), (6, .int v6)]) E.1 E.2.1 dX11_change_129 rfl hl (by decide) rfl (fun ls hl => ?_)
        refine lv_iinc (v := v6 + 1) (lv' := [(6, .int (v6 + 1)), (2, .long r24), (4, .int ((10 * v5) + v6)), (7, .long r24), (0, .ref (ad G v0)), (5, .int v5)]) E.1 E.2.1 dX11_change_130 hl (k := 5) rfl rfl (by decide) rfl (fun ls hl => ?_)
        refine lv_goto (tgt := 40) E.1 E.2.1 dX11_change_133 (by decide) ?_
        exact ih _ _ _ _ _ _ _ _ _ hf w t_v0 (lv_sub hl [4, 1, 2, 5, 0] rfl)
      · have hf := q_neg c36 hf
        refine lv_goto (tgt := 130) E.1 E.2.1 dX11_change_114 (by decide) ?_
        refine lv_iinc (v := v6 + 1) (lv' := [(6, .int (v6 + 1)), (7, .long r24), (0, .ref (ad G v0)), (2, .long v2), (4, .int v4), (5, .int v5)]) E.1 E.2.1 dX11_change_130 hl (k := 5) rfl rfl (by decide) rfl (fun ls hl => ?_)
        refine lv_goto (tgt := 40) E.1 E.2.1 dX11_change_133 (by decide) ?_
        exact ih _ _ _ _ _ _ _ _ _ hf w t_v0 (lv_sub hl [2, 3, 4, 5, 0] rfl)

def X11_change_l25 (N : Nat) : Nat → HS → Nat → Int64 → Int32 → Int32 → Option (Int32 × HS)
  | 0, _, _, _, _, _ => none
  | n + 1, h, v0, v2, v4, v5 => (if (h.1 v0 14) ≤ v5 then some (v4, h) else X11_change_l40 N (X11_change_l25 N n) N h v0 v2 v4 v5 (v5 + 1))
set_option maxRecDepth 4000 in
set_option maxHeartbeats 2000000 in
theorem X11_change_l25_w {p : Program} {l : Launch} {e : Env} {s : State} {m : MethodId} {args : Array Value} {below : List Frame} {meth : Method} {c : Code} {G : GT} {N : Nat} {z : (Int32 × HS)} (E : CallFix p m c cX11_change 9 s args UW RX11) (hr : meth.sig.returnType = (some .int)) (hlk : meth.locks = false) : ∀ (n : Nat) (h : HS) (H : Heap) (locs : List Loc) (ls : Array Slot) (v0 : Nat) (v2 : Int64) (v4 : Int32) (v5 : Int32), X11_change_l25 N n h v0 v2 v4 v5 = some z → WD G s h H locs → sh v0 = 11 → lv_has ls 9 [(0, .ref (ad G v0)), (2, .long v2), (4, .int v4), (5, .int v5)] → W p l e ({ frames := 4, cells := 0, slots := 0, locals := 89 } : Room) s m args below meth c H locs 0 0 (MQ below (QC G (some (.int z.1)) z.2) args s 0 0 (AD G)) (F0 m 25 ls []) := by
  intro n
  induction n with
  | zero =>
    intro h H locs ls v0 v2 v4 v5 hf
    cases hf
  | succ n ih =>
    intro h H locs ls v0 v2 v4 v5 hf w t_v0 hl
    unfold X11_change_l25 at hf
    refine lv_iload E.1 E.2.1 dX11_change_25 (lv_at hl 3 rfl) ?_
    refine lv_aload_n E.1 E.2.1 dX11_change_27 rfl (lv_at hl 0 rfl) ?_
    refine q_gi E w t_v0 fl_RX11_188 dX11_change_28 ?_
    refine lv_icmp_ge (tgt := 142) E.1 E.2.1 dX11_change_31 (by decide) (fun c11 => ?_) (fun c11 => ?_)
    · have hf := q_pos c11 hf
      refine lv_iload E.1 E.2.1 dX11_change_142 (lv_at hl 2 rfl) ?_
      have hf := Option.some.inj hf
      subst hf
      exact q_iret E w hr hlk dX11_change_144
    · have hf := q_neg c11 hf
      refine lv_iload E.1 E.2.1 dX11_change_34 (lv_at hl 3 rfl) ?_
      refine lv_iconst (v := 1) E.1 E.2.1 dX11_change_36 rfl ?_
      refine lv_iadd E.1 E.2.1 dX11_change_37 ?_
      refine lv_istore (lv' := [(6, .int (v5 + 1)), (0, .ref (ad G v0)), (2, .long v2), (4, .int v4), (5, .int v5)]) E.1 E.2.1 dX11_change_38 hl (by decide) rfl (fun ls hl => ?_)
      exact X11_change_l40_w E hr hlk ih N _ _ _ _ _ _ _ _ _ hf w t_v0 (lv_sub hl [1, 2, 3, 4, 0] rfl)

def X11_change (N : Nat) (h : HS) (v0 : Nat) (v1 : Int32) : Option (Int32 × HS) := bd2 (X11_isHouse N h v0 v1) fun r2 h3 => (if r2 = 0 then some ((-1), h3) else bd1 (X11_floorsAsTold N h3 v0) fun h7 => bd1 (X11_wakesOf N h7 v0) fun r9 => X11_change_l25 N N h7 v0 r9 (-1) 0)
set_option maxRecDepth 4000 in
set_option maxHeartbeats 2000000 in
theorem X11_change_c {l : Launch} {G : GT} {N : Nat} {h : HS} {v0 : Nat} {v1 : Int32} {z : (Int32 × HS)} (t_v0 : sh v0 = 11) (hf : X11_change N h v0 v1 = some z) : CT l G yX11_change cX11_change 9 (some .int) 4 89 [.ref (ad G v0), .int v1] h (some (.int z.1)) z.2 := by
  unfold X11_change at hf
  refine CT.of (by decide) (Nat.le_of_ble_eq_true rfl) ?_
  intro p e s m below meth c ls E hr hlk w hl
  have hl : lv_has ls 9 [(0, .ref (ad G v0)), (1, .int v1)] := hl
  refine lv_aload_n E.1 E.2.1 dX11_change_0 rfl (lv_at hl 0 rfl) ?_
  refine lv_iload_n E.1 E.2.1 dX11_change_1 rfl (lv_at hl 1 rfl) ?_
  obtain ⟨r2, h3, hc1, hf⟩ := bd2_e hf
  refine k_Vi (As := [.int v1]) (rest := []) E w t_v0 ⟨by decide, rfl⟩ (X11_isHouse_c t_v0 hc1) mv_RX11_197 rfl rfl hl.1 ⟨Nat.le_of_ble_eq_true rfl, Nat.le_of_ble_eq_true rfl⟩ (Nat.le_of_ble_eq_true rfl) ⟨Nat.le_refl _, Nat.le_refl _⟩ dX11_change_2 (fun H locs w => ?_)
  refine lv_if_ne (tgt := 10) E.1 E.2.1 dX11_change_5 (by decide) (fun c4 => ?_) (fun c4 => ?_)
  · have hf := q_neg c4 hf
    refine lv_aload_n E.1 E.2.1 dX11_change_10 rfl (lv_at hl 0 rfl) ?_
    obtain ⟨h7, hc5, hf⟩ := bd1_e hf
    refine k_Vv (As := []) (rest := []) E w t_v0 ⟨by decide, rfl⟩ (X11_floorsAsTold_c t_v0 hc5) mv_RX11_303 rfl rfl hl.1 ⟨Nat.le_of_ble_eq_true rfl, Nat.le_of_ble_eq_true rfl⟩ (Nat.le_of_ble_eq_true rfl) ⟨Nat.le_refl _, Nat.le_refl _⟩ dX11_change_11 (fun H locs w => ?_)
    refine lv_aload_n E.1 E.2.1 dX11_change_14 rfl (lv_at hl 0 rfl) ?_
    obtain ⟨r9, hc8, hf⟩ := bd1_e hf
    refine k_Vl (As := []) (rest := []) E w t_v0 ⟨by decide, rfl⟩ (X11_wakesOf_c t_v0 hc8) mv_RX11_306 rfl rfl hl.1 ⟨Nat.le_of_ble_eq_true rfl, Nat.le_of_ble_eq_true rfl⟩ (Nat.le_of_ble_eq_true rfl) ⟨Nat.le_refl _, Nat.le_refl _⟩ dX11_change_15 (fun H locs w => ?_)
    refine lv_lstore_n (lv' := [(2, .long r9), (0, .ref (ad G v0)), (1, .int v1)]) E.1 E.2.1 dX11_change_18 rfl hl (by decide) rfl (fun ls hl => ?_)
    refine lv_iconst (v := (-1)) E.1 E.2.1 dX11_change_19 rfl ?_
    refine lv_istore (lv' := [(4, .int (-1)), (2, .long r9), (0, .ref (ad G v0)), (1, .int v1)]) E.1 E.2.1 dX11_change_20 hl (by decide) rfl (fun ls hl => ?_)
    refine lv_iconst (v := 0) E.1 E.2.1 dX11_change_22 rfl ?_
    refine lv_istore (lv' := [(5, .int 0), (4, .int (-1)), (2, .long r9), (0, .ref (ad G v0)), (1, .int v1)]) E.1 E.2.1 dX11_change_23 hl (by decide) rfl (fun ls hl => ?_)
    exact X11_change_l25_w E hr hlk N _ _ _ _ _ _ _ _ hf w t_v0 (lv_sub hl [3, 2, 1, 0] rfl)
  · have hf := q_pos c4 hf
    refine lv_iconst (v := (-1)) E.1 E.2.1 dX11_change_8 rfl ?_
    have hf := Option.some.inj hf
    subst hf
    exact q_iret E w hr hlk dX11_change_9

def X11_upFrom_l4 (N : Nat) (h : HS) : Nat → Nat → Int32 → Int32 → Option Int32
  | 0, _, _, _ => none
  | n + 1, v0, v2, v3 => (if (h.1 v0 13) ≤ v3 then some v2 else bd1 (X11_peopleOf N h v0 v3) fun r3 => X11_upFrom_l4 N h n v0 (v2 + r3) (v3 + 1))
set_option maxRecDepth 4000 in
set_option maxHeartbeats 2000000 in
theorem X11_upFrom_l4_w {p : Program} {l : Launch} {e : Env} {s : State} {m : MethodId} {args : Array Value} {below : List Frame} {meth : Method} {c : Code} {G : GT} {N : Nat} {h : HS} {z : Int32} (E : CallFix p m c cX11_upFrom 4 s args UW RX11) (hr : meth.sig.returnType = (some .int)) (hlk : meth.locks = false) : ∀ (n : Nat) (H : Heap) (locs : List Loc) (ls : Array Slot) (v0 : Nat) (v2 : Int32) (v3 : Int32), X11_upFrom_l4 N h n v0 v2 v3 = some z → WD G s h H locs → sh v0 = 11 → lv_has ls 4 [(0, .ref (ad G v0)), (2, .int v2), (3, .int v3)] → W p l e ({ frames := 1, cells := 0, slots := 0, locals := 21 } : Room) s m args below meth c H locs 0 0 (MQ below (QC G (some (.int z)) h) args s 0 0 (AD G)) (F0 m 4 ls []) := by
  intro n
  induction n with
  | zero =>
    intro H locs ls v0 v2 v3 hf
    cases hf
  | succ n ih =>
    intro H locs ls v0 v2 v3 hf w t_v0 hl
    unfold X11_upFrom_l4 at hf
    refine lv_iload_n E.1 E.2.1 dX11_upFrom_4 rfl (lv_at hl 2 rfl) ?_
    refine lv_aload_n E.1 E.2.1 dX11_upFrom_5 rfl (lv_at hl 0 rfl) ?_
    refine q_gi E w t_v0 fl_RX11_185 dX11_upFrom_6 ?_
    refine lv_icmp_ge (tgt := 26) E.1 E.2.1 dX11_upFrom_9 (by decide) (fun c1 => ?_) (fun c1 => ?_)
    · have hf := q_pos c1 hf
      refine lv_iload_n E.1 E.2.1 dX11_upFrom_26 rfl (lv_at hl 1 rfl) ?_
      have hf := Option.some.inj hf
      subst hf
      exact q_iret E w hr hlk dX11_upFrom_27
    · have hf := q_neg c1 hf
      refine lv_iload_n E.1 E.2.1 dX11_upFrom_12 rfl (lv_at hl 1 rfl) ?_
      refine lv_aload_n E.1 E.2.1 dX11_upFrom_13 rfl (lv_at hl 0 rfl) ?_
      refine lv_iload_n E.1 E.2.1 dX11_upFrom_14 rfl (lv_at hl 2 rfl) ?_
      obtain ⟨r3, hc2, hf⟩ := bd1_e hf
      refine k_Vi (As := [.int v3]) (rest := [.int v2]) E w t_v0 ⟨by decide, rfl⟩ (X11_peopleOf_c t_v0 hc2) mv_RX11_206 rfl rfl hl.1 ⟨Nat.le_of_ble_eq_true rfl, Nat.le_of_ble_eq_true rfl⟩ (Nat.le_of_ble_eq_true rfl) ⟨Nat.le_refl _, Nat.le_refl _⟩ dX11_upFrom_15 (fun H locs w => ?_)
      refine lv_iadd E.1 E.2.1 dX11_upFrom_18 ?_
      refine lv_istore_n (lv' := [(2, .int (v2 + r3)), (0, .ref (ad G v0)), (3, .int v3)]) E.1 E.2.1 dX11_upFrom_19 rfl hl (by decide) rfl (fun ls hl => ?_)
      refine lv_iinc (v := v3 + 1) (lv' := [(3, .int (v3 + 1)), (2, .int (v2 + r3)), (0, .ref (ad G v0))]) E.1 E.2.1 dX11_upFrom_20 hl (k := 2) rfl rfl (by decide) rfl (fun ls hl => ?_)
      refine lv_goto (tgt := 4) E.1 E.2.1 dX11_upFrom_23 (by decide) ?_
      exact ih _ _ _ _ _ _ hf w t_v0 (lv_sub hl [2, 1, 0] rfl)

def X11_upFrom (N : Nat) (h : HS) (v0 : Nat) (v1 : Int32) : Option Int32 := X11_upFrom_l4 N h N v0 0 v1
set_option maxRecDepth 4000 in
set_option maxHeartbeats 2000000 in
theorem X11_upFrom_c {l : Launch} {G : GT} {N : Nat} {h : HS} {v0 : Nat} {v1 : Int32} {z : Int32} (t_v0 : sh v0 = 11) (hf : X11_upFrom N h v0 v1 = some z) : CT l G yX11_upFrom cX11_upFrom 4 (some .int) 1 21 [.ref (ad G v0), .int v1] h (some (.int z)) h := by
  unfold X11_upFrom at hf
  refine CT.of (by decide) (Nat.le_of_ble_eq_true rfl) ?_
  intro p e s m below meth c ls E hr hlk w hl
  have hl : lv_has ls 4 [(0, .ref (ad G v0)), (1, .int v1)] := hl
  refine lv_iconst (v := 0) E.1 E.2.1 dX11_upFrom_0 rfl ?_
  refine lv_istore_n (lv' := [(2, .int 0), (0, .ref (ad G v0)), (1, .int v1)]) E.1 E.2.1 dX11_upFrom_1 rfl hl (by decide) rfl (fun ls hl => ?_)
  refine lv_iload_n E.1 E.2.1 dX11_upFrom_2 rfl (lv_at hl 2 rfl) ?_
  refine lv_istore_n (lv' := [(3, .int v1), (2, .int 0), (0, .ref (ad G v0)), (1, .int v1)]) E.1 E.2.1 dX11_upFrom_3 rfl hl (by decide) rfl (fun ls hl => ?_)
  exact X11_upFrom_l4_w E hr hlk N _ _ _ _ _ _ hf w t_v0 (lv_sub hl [2, 1, 0] rfl)

def X11_roofOf (N : Nat) (h : HS) (v0 : Nat) (v1 : Int32) : Option Int32 := bd1 (X11_noteOf N h v0 v1) fun r2 => (if r2 = 0 then some 0 else bd1 (X11_floorOf N h v0 v1) fun r6 => bd1 (X11_upFrom N h v0 r6) fun r9 => some r9)
set_option maxRecDepth 4000 in
set_option maxHeartbeats 2000000 in
theorem X11_roofOf_c {l : Launch} {G : GT} {N : Nat} {h : HS} {v0 : Nat} {v1 : Int32} {z : Int32} (t_v0 : sh v0 = 11) (hf : X11_roofOf N h v0 v1 = some z) : CT l G yX11_roofOf cX11_roofOf 2 (some .int) 2 44 [.ref (ad G v0), .int v1] h (some (.int z)) h := by
  unfold X11_roofOf at hf
  refine CT.of (by decide) (Nat.le_of_ble_eq_true rfl) ?_
  intro p e s m below meth c ls E hr hlk w hl
  have hl : lv_has ls 2 [(0, .ref (ad G v0)), (1, .int v1)] := hl
  refine lv_aload_n E.1 E.2.1 dX11_roofOf_0 rfl (lv_at hl 0 rfl) ?_
  refine lv_iload_n E.1 E.2.1 dX11_roofOf_1 rfl (lv_at hl 1 rfl) ?_
  obtain ⟨r2, hc1, hf⟩ := bd1_e hf
  refine k_Vi (As := [.int v1]) (rest := []) E w t_v0 ⟨by decide, rfl⟩ (X11_noteOf_c t_v0 hc1) mv_RX11_194 rfl rfl hl.1 ⟨Nat.le_of_ble_eq_true rfl, Nat.le_of_ble_eq_true rfl⟩ (Nat.le_of_ble_eq_true rfl) ⟨Nat.le_refl _, Nat.le_refl _⟩ dX11_roofOf_2 (fun H locs w => ?_)
  refine lv_if_ne (tgt := 12) E.1 E.2.1 dX11_roofOf_5 (by decide) (fun c4 => ?_) (fun c4 => ?_)
  · have hf := q_neg c4 hf
    refine lv_aload_n E.1 E.2.1 dX11_roofOf_12 rfl (lv_at hl 0 rfl) ?_
    refine lv_aload_n E.1 E.2.1 dX11_roofOf_13 rfl (lv_at hl 0 rfl) ?_
    refine lv_iload_n E.1 E.2.1 dX11_roofOf_14 rfl (lv_at hl 1 rfl) ?_
    obtain ⟨r6, hc5, hf⟩ := bd1_e hf
    refine k_Vi (As := [.int v1]) (rest := [.ref (ad G v0)]) E w t_v0 ⟨by decide, rfl⟩ (X11_floorOf_c t_v0 hc5) mv_RX11_265 rfl rfl hl.1 ⟨Nat.le_of_ble_eq_true rfl, Nat.le_of_ble_eq_true rfl⟩ (Nat.le_of_ble_eq_true rfl) ⟨Nat.le_refl _, Nat.le_refl _⟩ dX11_roofOf_15 (fun H locs w => ?_)
    obtain ⟨r9, hc8, hf⟩ := bd1_e hf
    refine k_Vi (As := [.int r6]) (rest := []) E w t_v0 ⟨by decide, rfl⟩ (X11_upFrom_c t_v0 hc8) mv_RX11_314 rfl rfl hl.1 ⟨Nat.le_of_ble_eq_true rfl, Nat.le_of_ble_eq_true rfl⟩ (Nat.le_of_ble_eq_true rfl) ⟨Nat.le_refl _, Nat.le_refl _⟩ dX11_roofOf_18 (fun H locs w => ?_)
    have hf := Option.some.inj hf
    subst hf
    exact q_iret E w hr hlk dX11_roofOf_21
  · have hf := q_pos c4 hf
    refine lv_iconst (v := 0) E.1 E.2.1 dX11_roofOf_8 rfl ?_
    refine lv_goto (tgt := 21) E.1 E.2.1 dX11_roofOf_9 (by decide) ?_
    have hf := Option.some.inj hf
    subst hf
    exact q_iret E w hr hlk dX11_roofOf_21

def X11_quietestOf_l4 (N : Nat) (h : HS) : Nat → Nat → Int32 → Int32 → Option Int32
  | 0, _, _, _ => none
  | n + 1, v0, v1, v2 => (if (h.1 v0 14) ≤ v2 then some v1 else bd1 (X11_noteOf N h v0 v2) fun r3 => (if r3 ≤ 0 then X11_quietestOf_l4 N h n v0 v1 (v2 + 1) else (if v1 = ((-1) : Int32) then X11_quietestOf_l4 N h n v0 v2 (v2 + 1) else bd1 (X11_roofOf N h v0 v2) fun r8 => bd1 (X11_roofOf N h v0 v1) fun r11 => (if r11 ≤ r8 then X11_quietestOf_l4 N h n v0 v1 (v2 + 1) else X11_quietestOf_l4 N h n v0 v2 (v2 + 1)))))
set_option maxRecDepth 4000 in
set_option maxHeartbeats 2000000 in
theorem X11_quietestOf_l4_w {p : Program} {l : Launch} {e : Env} {s : State} {m : MethodId} {args : Array Value} {below : List Frame} {meth : Method} {c : Code} {G : GT} {N : Nat} {h : HS} {z : Int32} (E : CallFix p m c cX11_quietestOf 3 s args UW RX11) (hr : meth.sig.returnType = (some .int)) (hlk : meth.locks = false) : ∀ (n : Nat) (H : Heap) (locs : List Loc) (ls : Array Slot) (v0 : Nat) (v1 : Int32) (v2 : Int32), X11_quietestOf_l4 N h n v0 v1 v2 = some z → WD G s h H locs → sh v0 = 11 → lv_has ls 3 [(0, .ref (ad G v0)), (1, .int v1), (2, .int v2)] → W p l e ({ frames := 3, cells := 0, slots := 0, locals := 65 } : Room) s m args below meth c H locs 0 0 (MQ below (QC G (some (.int z)) h) args s 0 0 (AD G)) (F0 m 4 ls []) := by
  intro n
  induction n with
  | zero =>
    intro H locs ls v0 v1 v2 hf
    cases hf
  | succ n ih =>
    intro H locs ls v0 v1 v2 hf w t_v0 hl
    unfold X11_quietestOf_l4 at hf
    refine lv_iload_n E.1 E.2.1 dX11_quietestOf_4 rfl (lv_at hl 2 rfl) ?_
    refine lv_aload_n E.1 E.2.1 dX11_quietestOf_5 rfl (lv_at hl 0 rfl) ?_
    refine q_gi E w t_v0 fl_RX11_188 dX11_quietestOf_6 ?_
    refine lv_icmp_ge (tgt := 46) E.1 E.2.1 dX11_quietestOf_9 (by decide) (fun c1 => ?_) (fun c1 => ?_)
    · have hf := q_pos c1 hf
      refine lv_iload_n E.1 E.2.1 dX11_quietestOf_46 rfl (lv_at hl 1 rfl) ?_
      have hf := Option.some.inj hf
      subst hf
      exact q_iret E w hr hlk dX11_quietestOf_47
    · have hf := q_neg c1 hf
      refine lv_aload_n E.1 E.2.1 dX11_quietestOf_12 rfl (lv_at hl 0 rfl) ?_
      refine lv_iload_n E.1 E.2.1 dX11_quietestOf_13 rfl (lv_at hl 2 rfl) ?_
      obtain ⟨r3, hc2, hf⟩ := bd1_e hf
      refine k_Vi (As := [.int v2]) (rest := []) E w t_v0 ⟨by decide, rfl⟩ (X11_noteOf_c t_v0 hc2) mv_RX11_194 rfl rfl hl.1 ⟨Nat.le_of_ble_eq_true rfl, Nat.le_of_ble_eq_true rfl⟩ (Nat.le_of_ble_eq_true rfl) ⟨Nat.le_refl _, Nat.le_refl _⟩ dX11_quietestOf_14 (fun H locs w => ?_)
      refine lv_if_le (tgt := 40) E.1 E.2.1 dX11_quietestOf_17 (by decide) (fun c5 => ?_) (fun c5 => ?_)
      · have hf := q_pos c5 hf
        refine lv_iinc (v := v2 + 1) (lv' := [(2, .int (v2 + 1)), (0, .ref (ad G v0)), (1, .int v1)]) E.1 E.2.1 dX11_quietestOf_40 hl (k := 2) rfl rfl (by decide) rfl (fun ls hl => ?_)
        refine lv_goto (tgt := 4) E.1 E.2.1 dX11_quietestOf_43 (by decide) ?_
        exact ih _ _ _ _ _ _ hf w t_v0 (lv_sub hl [1, 2, 0] rfl)
      · have hf := q_neg c5 hf
        refine lv_iload_n E.1 E.2.1 dX11_quietestOf_20 rfl (lv_at hl 1 rfl) ?_
        refine lv_iconst (v := (-1)) E.1 E.2.1 dX11_quietestOf_21 rfl ?_
        refine lv_icmp_eq (tgt := 38) E.1 E.2.1 dX11_quietestOf_22 (by decide) (fun c6 => ?_) (fun c6 => ?_)
        · have hf := q_pos c6 hf
          refine lv_iload_n E.1 E.2.1 dX11_quietestOf_38 rfl (lv_at hl 2 rfl) ?_
          refine lv_istore_n (lv' := [(1, .int v2), (0, .ref (ad G v0)), (2, .int v2)]) E.1 E.2.1 dX11_quietestOf_39 rfl hl (by decide) rfl (fun ls hl => ?_)
          refine lv_iinc (v := v2 + 1) (lv' := [(2, .int (v2 + 1)), (1, .int v2), (0, .ref (ad G v0))]) E.1 E.2.1 dX11_quietestOf_40 hl (k := 2) rfl rfl (by decide) rfl (fun ls hl => ?_)
          refine lv_goto (tgt := 4) E.1 E.2.1 dX11_quietestOf_43 (by decide) ?_
          exact ih _ _ _ _ _ _ hf w t_v0 (lv_sub hl [2, 1, 0] rfl)
        · have hf := q_neg c6 hf
          refine lv_aload_n E.1 E.2.1 dX11_quietestOf_25 rfl (lv_at hl 0 rfl) ?_
          refine lv_iload_n E.1 E.2.1 dX11_quietestOf_26 rfl (lv_at hl 2 rfl) ?_
          obtain ⟨r8, hc7, hf⟩ := bd1_e hf
          refine k_Vi (As := [.int v2]) (rest := []) E w t_v0 ⟨by decide, rfl⟩ (X11_roofOf_c t_v0 hc7) mv_RX11_317 rfl rfl hl.1 ⟨Nat.le_of_ble_eq_true rfl, Nat.le_of_ble_eq_true rfl⟩ (Nat.le_of_ble_eq_true rfl) ⟨Nat.le_refl _, Nat.le_refl _⟩ dX11_quietestOf_27 (fun H locs w => ?_)
          refine lv_aload_n E.1 E.2.1 dX11_quietestOf_30 rfl (lv_at hl 0 rfl) ?_
          refine lv_iload_n E.1 E.2.1 dX11_quietestOf_31 rfl (lv_at hl 1 rfl) ?_
          obtain ⟨r11, hc10, hf⟩ := bd1_e hf
          refine k_Vi (As := [.int v1]) (rest := [.int r8]) E w t_v0 ⟨by decide, rfl⟩ (X11_roofOf_c t_v0 hc10) mv_RX11_317 rfl rfl hl.1 ⟨Nat.le_of_ble_eq_true rfl, Nat.le_of_ble_eq_true rfl⟩ (Nat.le_of_ble_eq_true rfl) ⟨Nat.le_refl _, Nat.le_refl _⟩ dX11_quietestOf_32 (fun H locs w => ?_)
          refine lv_icmp_ge (tgt := 40) E.1 E.2.1 dX11_quietestOf_35 (by decide) (fun c13 => ?_) (fun c13 => ?_)
          · have hf := q_pos c13 hf
            refine lv_iinc (v := v2 + 1) (lv' := [(2, .int (v2 + 1)), (0, .ref (ad G v0)), (1, .int v1)]) E.1 E.2.1 dX11_quietestOf_40 hl (k := 2) rfl rfl (by decide) rfl (fun ls hl => ?_)
            refine lv_goto (tgt := 4) E.1 E.2.1 dX11_quietestOf_43 (by decide) ?_
            exact ih _ _ _ _ _ _ hf w t_v0 (lv_sub hl [1, 2, 0] rfl)
          · have hf := q_neg c13 hf
            refine lv_iload_n E.1 E.2.1 dX11_quietestOf_38 rfl (lv_at hl 2 rfl) ?_
            refine lv_istore_n (lv' := [(1, .int v2), (0, .ref (ad G v0)), (2, .int v2)]) E.1 E.2.1 dX11_quietestOf_39 rfl hl (by decide) rfl (fun ls hl => ?_)
            refine lv_iinc (v := v2 + 1) (lv' := [(2, .int (v2 + 1)), (1, .int v2), (0, .ref (ad G v0))]) E.1 E.2.1 dX11_quietestOf_40 hl (k := 2) rfl rfl (by decide) rfl (fun ls hl => ?_)
            refine lv_goto (tgt := 4) E.1 E.2.1 dX11_quietestOf_43 (by decide) ?_
            exact ih _ _ _ _ _ _ hf w t_v0 (lv_sub hl [2, 1, 0] rfl)

def X11_quietestOf (N : Nat) (h : HS) (v0 : Nat) : Option Int32 := X11_quietestOf_l4 N h N v0 (-1) 0
set_option maxRecDepth 4000 in
set_option maxHeartbeats 2000000 in
theorem X11_quietestOf_c {l : Launch} {G : GT} {N : Nat} {h : HS} {v0 : Nat} {z : Int32} (t_v0 : sh v0 = 11) (hf : X11_quietestOf N h v0 = some z) : CT l G yX11_quietestOf cX11_quietestOf 3 (some .int) 3 65 [.ref (ad G v0)] h (some (.int z)) h := by
  unfold X11_quietestOf at hf
  refine CT.of (by decide) (Nat.le_of_ble_eq_true rfl) ?_
  intro p e s m below meth c ls E hr hlk w hl
  have hl : lv_has ls 3 [(0, .ref (ad G v0))] := hl
  refine lv_iconst (v := (-1)) E.1 E.2.1 dX11_quietestOf_0 rfl ?_
  refine lv_istore_n (lv' := [(1, .int (-1)), (0, .ref (ad G v0))]) E.1 E.2.1 dX11_quietestOf_1 rfl hl (by decide) rfl (fun ls hl => ?_)
  refine lv_iconst (v := 0) E.1 E.2.1 dX11_quietestOf_2 rfl ?_
  refine lv_istore_n (lv' := [(2, .int 0), (1, .int (-1)), (0, .ref (ad G v0))]) E.1 E.2.1 dX11_quietestOf_3 rfl hl (by decide) rfl (fun ls hl => ?_)
  exact X11_quietestOf_l4_w E hr hlk N _ _ _ _ _ _ hf w t_v0 (lv_sub hl [2, 1, 0] rfl)

def X11_rentsOf_l4 (N : Nat) (h : HS) : Nat → Nat → Int32 → Int32 → Option Int32
  | 0, _, _, _ => none
  | n + 1, v0, v1, v2 => (if (h.1 v0 13) ≤ v2 then some v1 else bd1 (X11_rentOf N h v0 v2) fun r3 => X11_rentsOf_l4 N h n v0 (v1 + r3) (v2 + 1))
set_option maxRecDepth 4000 in
set_option maxHeartbeats 2000000 in
theorem X11_rentsOf_l4_w {p : Program} {l : Launch} {e : Env} {s : State} {m : MethodId} {args : Array Value} {below : List Frame} {meth : Method} {c : Code} {G : GT} {N : Nat} {h : HS} {z : Int32} (E : CallFix p m c cX11_rentsOf 3 s args UW RX11) (hr : meth.sig.returnType = (some .int)) (hlk : meth.locks = false) : ∀ (n : Nat) (H : Heap) (locs : List Loc) (ls : Array Slot) (v0 : Nat) (v1 : Int32) (v2 : Int32), X11_rentsOf_l4 N h n v0 v1 v2 = some z → WD G s h H locs → sh v0 = 11 → lv_has ls 3 [(0, .ref (ad G v0)), (1, .int v1), (2, .int v2)] → W p l e ({ frames := 1, cells := 0, slots := 0, locals := 21 } : Room) s m args below meth c H locs 0 0 (MQ below (QC G (some (.int z)) h) args s 0 0 (AD G)) (F0 m 4 ls []) := by
  intro n
  induction n with
  | zero =>
    intro H locs ls v0 v1 v2 hf
    cases hf
  | succ n ih =>
    intro H locs ls v0 v1 v2 hf w t_v0 hl
    unfold X11_rentsOf_l4 at hf
    refine lv_iload_n E.1 E.2.1 dX11_rentsOf_4 rfl (lv_at hl 2 rfl) ?_
    refine lv_aload_n E.1 E.2.1 dX11_rentsOf_5 rfl (lv_at hl 0 rfl) ?_
    refine q_gi E w t_v0 fl_RX11_185 dX11_rentsOf_6 ?_
    refine lv_icmp_ge (tgt := 26) E.1 E.2.1 dX11_rentsOf_9 (by decide) (fun c1 => ?_) (fun c1 => ?_)
    · have hf := q_pos c1 hf
      refine lv_iload_n E.1 E.2.1 dX11_rentsOf_26 rfl (lv_at hl 1 rfl) ?_
      have hf := Option.some.inj hf
      subst hf
      exact q_iret E w hr hlk dX11_rentsOf_27
    · have hf := q_neg c1 hf
      refine lv_iload_n E.1 E.2.1 dX11_rentsOf_12 rfl (lv_at hl 1 rfl) ?_
      refine lv_aload_n E.1 E.2.1 dX11_rentsOf_13 rfl (lv_at hl 0 rfl) ?_
      refine lv_iload_n E.1 E.2.1 dX11_rentsOf_14 rfl (lv_at hl 2 rfl) ?_
      obtain ⟨r3, hc2, hf⟩ := bd1_e hf
      refine k_Vi (As := [.int v2]) (rest := [.int v1]) E w t_v0 ⟨by decide, rfl⟩ (X11_rentOf_c t_v0 hc2) mv_RX11_203 rfl rfl hl.1 ⟨Nat.le_of_ble_eq_true rfl, Nat.le_of_ble_eq_true rfl⟩ (Nat.le_of_ble_eq_true rfl) ⟨Nat.le_refl _, Nat.le_refl _⟩ dX11_rentsOf_15 (fun H locs w => ?_)
      refine lv_iadd E.1 E.2.1 dX11_rentsOf_18 ?_
      refine lv_istore_n (lv' := [(1, .int (v1 + r3)), (0, .ref (ad G v0)), (2, .int v2)]) E.1 E.2.1 dX11_rentsOf_19 rfl hl (by decide) rfl (fun ls hl => ?_)
      refine lv_iinc (v := v2 + 1) (lv' := [(2, .int (v2 + 1)), (1, .int (v1 + r3)), (0, .ref (ad G v0))]) E.1 E.2.1 dX11_rentsOf_20 hl (k := 2) rfl rfl (by decide) rfl (fun ls hl => ?_)
      refine lv_goto (tgt := 4) E.1 E.2.1 dX11_rentsOf_23 (by decide) ?_
      exact ih _ _ _ _ _ _ hf w t_v0 (lv_sub hl [2, 1, 0] rfl)

def X11_rentsOf (N : Nat) (h : HS) (v0 : Nat) : Option Int32 := X11_rentsOf_l4 N h N v0 0 0
set_option maxRecDepth 4000 in
set_option maxHeartbeats 2000000 in
theorem X11_rentsOf_c {l : Launch} {G : GT} {N : Nat} {h : HS} {v0 : Nat} {z : Int32} (t_v0 : sh v0 = 11) (hf : X11_rentsOf N h v0 = some z) : CT l G yX11_rentsOf cX11_rentsOf 3 (some .int) 1 21 [.ref (ad G v0)] h (some (.int z)) h := by
  unfold X11_rentsOf at hf
  refine CT.of (by decide) (Nat.le_of_ble_eq_true rfl) ?_
  intro p e s m below meth c ls E hr hlk w hl
  have hl : lv_has ls 3 [(0, .ref (ad G v0))] := hl
  refine lv_iconst (v := 0) E.1 E.2.1 dX11_rentsOf_0 rfl ?_
  refine lv_istore_n (lv' := [(1, .int 0), (0, .ref (ad G v0))]) E.1 E.2.1 dX11_rentsOf_1 rfl hl (by decide) rfl (fun ls hl => ?_)
  refine lv_iconst (v := 0) E.1 E.2.1 dX11_rentsOf_2 rfl ?_
  refine lv_istore_n (lv' := [(2, .int 0), (1, .int 0), (0, .ref (ad G v0))]) E.1 E.2.1 dX11_rentsOf_3 rfl hl (by decide) rfl (fun ls hl => ?_)
  exact X11_rentsOf_l4_w E hr hlk N _ _ _ _ _ _ hf w t_v0 (lv_sub hl [2, 1, 0] rfl)

def X11_climbOf_b74 (N : Nat) (h : HS) (K10 : Nat → Int32 → Int32 → Int32 → Int32 → Int32 → Option Int32) (v0 : Nat) (v1 : Int32) (v2 : Int32) (v3 : Int32) (v5 : Int32) (u0 : Int32) : Option Int32 := (if v2 < u0 then K10 v0 v1 u0 ((v5 - u0) + 1) u0 (v5 + 1) else K10 v0 v1 v2 v3 u0 (v5 + 1))
set_option maxRecDepth 4000 in
set_option maxHeartbeats 2000000 in
theorem X11_climbOf_b74_w {p : Program} {l : Launch} {e : Env} {s : State} {m : MethodId} {args : Array Value} {below : List Frame} {meth : Method} {c : Code} {G : GT} {N : Nat} {z : Int32} {h : HS} (E : CallFix p m c cX11_climbOf 7 s args UW RX11) (hr : meth.sig.returnType = (some .int)) (hlk : meth.locks = false) {K10 : Nat → Int32 → Int32 → Int32 → Int32 → Int32 → Option Int32} (hK10 : ∀ (H : Heap) (locs : List Loc) (ls : Array Slot) (v0 : Nat) (v1 : Int32) (v2 : Int32) (v3 : Int32) (v4 : Int32) (v5 : Int32), K10 v0 v1 v2 v3 v4 v5 = some z → WD G s h H locs → sh v0 = 11 → lv_has ls 7 [(0, .ref (ad G v0)), (1, .int v1), (2, .int v2), (3, .int v3), (4, .int v4), (5, .int v5)] → W p l e ({ frames := 1, cells := 0, slots := 0, locals := 21 } : Room) s m args below meth c H locs 0 0 (MQ below (QC G (some (.int z)) h) args s 0 0 (AD G)) (F0 m 10 ls [])) {H : Heap} {locs : List Loc} {ls : Array Slot} {v0 : Nat} {v1 : Int32} {v2 : Int32} {v3 : Int32} {v5 : Int32} {u0 : Int32} (hf : X11_climbOf_b74 N h K10 v0 v1 v2 v3 v5 u0 = some z) (w : WD G s h H locs) (t_v0 : sh v0 = 11) (hl : lv_has ls 7 [(0, .ref (ad G v0)), (1, .int v1), (2, .int v2), (3, .int v3), (5, .int v5)]) : W p l e ({ frames := 1, cells := 0, slots := 0, locals := 21 } : Room) s m args below meth c H locs 0 0 (MQ below (QC G (some (.int z)) h) args s 0 0 (AD G)) (F0 m 74 ls [.int u0]) := by
  unfold X11_climbOf_b74 at hf
  refine lv_istore (lv' := [(4, .int u0), (0, .ref (ad G v0)), (1, .int v1), (2, .int v2), (3, .int v3), (5, .int v5)]) E.1 E.2.1 dX11_climbOf_74 hl (by decide) rfl (fun ls hl => ?_)
  refine lv_iload E.1 E.2.1 dX11_climbOf_76 (lv_at hl 0 rfl) ?_
  refine lv_iload_n E.1 E.2.1 dX11_climbOf_78 rfl (lv_at hl 3 rfl) ?_
  refine lv_icmp_gt (tgt := 85) E.1 E.2.1 dX11_climbOf_79 (by decide) (fun c9 => ?_) (fun c9 => ?_)
  · have hf := q_pos c9 hf
    refine lv_iload E.1 E.2.1 dX11_climbOf_85 (lv_at hl 0 rfl) ?_
    refine lv_istore_n (lv' := [(2, .int u0), (4, .int u0), (0, .ref (ad G v0)), (1, .int v1), (3, .int v3), (5, .int v5)]) E.1 E.2.1 dX11_climbOf_87 rfl hl (by decide) rfl (fun ls hl => ?_)
    refine lv_iload E.1 E.2.1 dX11_climbOf_88 (lv_at hl 5 rfl) ?_
    refine lv_iload E.1 E.2.1 dX11_climbOf_90 (lv_at hl 1 rfl) ?_
    refine lv_isub E.1 E.2.1 dX11_climbOf_92 ?_
    refine lv_iconst (v := 1) E.1 E.2.1 dX11_climbOf_93 rfl ?_
    refine lv_iadd E.1 E.2.1 dX11_climbOf_94 ?_
    refine lv_istore_n (lv' := [(3, .int ((v5 - u0) + 1)), (2, .int u0), (4, .int u0), (0, .ref (ad G v0)), (1, .int v1), (5, .int v5)]) E.1 E.2.1 dX11_climbOf_95 rfl hl (by decide) rfl (fun ls hl => ?_)
    refine lv_iinc (v := v5 + 1) (lv' := [(5, .int (v5 + 1)), (3, .int ((v5 - u0) + 1)), (2, .int u0), (4, .int u0), (0, .ref (ad G v0)), (1, .int v1)]) E.1 E.2.1 dX11_climbOf_96 hl (k := 5) rfl rfl (by decide) rfl (fun ls hl => ?_)
    refine lv_goto (tgt := 10) E.1 E.2.1 dX11_climbOf_99 (by decide) ?_
    exact hK10 _ _ _ _ _ _ _ _ _ hf w t_v0 (lv_sub hl [4, 5, 2, 1, 3, 0] rfl)
  · have hf := q_neg c9 hf
    refine lv_goto (tgt := 96) E.1 E.2.1 dX11_climbOf_82 (by decide) ?_
    refine lv_iinc (v := v5 + 1) (lv' := [(5, .int (v5 + 1)), (4, .int u0), (0, .ref (ad G v0)), (1, .int v1), (2, .int v2), (3, .int v3)]) E.1 E.2.1 dX11_climbOf_96 hl (k := 5) rfl rfl (by decide) rfl (fun ls hl => ?_)
    refine lv_goto (tgt := 10) E.1 E.2.1 dX11_climbOf_99 (by decide) ?_
    exact hK10 _ _ _ _ _ _ _ _ _ hf w t_v0 (lv_sub hl [2, 3, 4, 5, 1, 0] rfl)

def X11_climbOf_l10 (N : Nat) (h : HS) : Nat → Nat → Int32 → Int32 → Int32 → Int32 → Int32 → Option Int32
  | 0, _, _, _, _, _, _ => none
  | n + 1, v0, v1, v2, v3, v4, v5 => (if (h.1 v0 14) ≤ v5 then (if v1 = 0 then some v2 else some v3) else (if v4 ≤ 0 then bd1 (X11_noteOf N h v0 v5) fun r5 => (if r5 = 0 then X11_climbOf_b74 N h (X11_climbOf_l10 N h n) v0 v1 v2 v3 v5 0 else (if (0 : Int32) = 0 then X11_climbOf_b74 N h (X11_climbOf_l10 N h n) v0 v1 v2 v3 v5 1 else X11_climbOf_b74 N h (X11_climbOf_l10 N h n) v0 v1 v2 v3 v5 (v4 + 1))) else bd1 (X11_floorOf N h v0 v5) fun r11 => bd1 (X11_floorOf N h v0 (v5 - 1)) fun r14 => (if r11 < r14 then bd1 (X11_noteOf N h v0 v5) fun r18 => (if r18 = 0 then X11_climbOf_b74 N h (X11_climbOf_l10 N h n) v0 v1 v2 v3 v5 0 else (if (0 : Int32) = 0 then X11_climbOf_b74 N h (X11_climbOf_l10 N h n) v0 v1 v2 v3 v5 1 else X11_climbOf_b74 N h (X11_climbOf_l10 N h n) v0 v1 v2 v3 v5 (v4 + 1))) else bd1 (X11_noteOf N h v0 v5) fun r23 => (if r23 = 0 then X11_climbOf_b74 N h (X11_climbOf_l10 N h n) v0 v1 v2 v3 v5 0 else (if (1 : Int32) = 0 then X11_climbOf_b74 N h (X11_climbOf_l10 N h n) v0 v1 v2 v3 v5 1 else X11_climbOf_b74 N h (X11_climbOf_l10 N h n) v0 v1 v2 v3 v5 (v4 + 1))))))
set_option maxRecDepth 4000 in
set_option maxHeartbeats 2000000 in
theorem X11_climbOf_l10_w {p : Program} {l : Launch} {e : Env} {s : State} {m : MethodId} {args : Array Value} {below : List Frame} {meth : Method} {c : Code} {G : GT} {N : Nat} {h : HS} {z : Int32} (E : CallFix p m c cX11_climbOf 7 s args UW RX11) (hr : meth.sig.returnType = (some .int)) (hlk : meth.locks = false) : ∀ (n : Nat) (H : Heap) (locs : List Loc) (ls : Array Slot) (v0 : Nat) (v1 : Int32) (v2 : Int32) (v3 : Int32) (v4 : Int32) (v5 : Int32), X11_climbOf_l10 N h n v0 v1 v2 v3 v4 v5 = some z → WD G s h H locs → sh v0 = 11 → lv_has ls 7 [(0, .ref (ad G v0)), (1, .int v1), (2, .int v2), (3, .int v3), (4, .int v4), (5, .int v5)] → W p l e ({ frames := 1, cells := 0, slots := 0, locals := 21 } : Room) s m args below meth c H locs 0 0 (MQ below (QC G (some (.int z)) h) args s 0 0 (AD G)) (F0 m 10 ls []) := by
  intro n
  induction n with
  | zero =>
    intro H locs ls v0 v1 v2 v3 v4 v5 hf
    cases hf
  | succ n ih =>
    intro H locs ls v0 v1 v2 v3 v4 v5 hf w t_v0 hl
    unfold X11_climbOf_l10 at hf
    refine lv_iload E.1 E.2.1 dX11_climbOf_10 (lv_at hl 5 rfl) ?_
    refine lv_aload_n E.1 E.2.1 dX11_climbOf_12 rfl (lv_at hl 0 rfl) ?_
    refine q_gi E w t_v0 fl_RX11_188 dX11_climbOf_13 ?_
    refine lv_icmp_ge (tgt := 102) E.1 E.2.1 dX11_climbOf_16 (by decide) (fun c1 => ?_) (fun c1 => ?_)
    · have hf := q_pos c1 hf
      refine lv_iload_n E.1 E.2.1 dX11_climbOf_102 rfl (lv_at hl 1 rfl) ?_
      refine lv_if_eq (tgt := 110) E.1 E.2.1 dX11_climbOf_103 (by decide) (fun c2 => ?_) (fun c2 => ?_)
      · have hf := q_pos c2 hf
        refine lv_iload_n E.1 E.2.1 dX11_climbOf_110 rfl (lv_at hl 2 rfl) ?_
        have hf := Option.some.inj hf
        subst hf
        exact q_iret E w hr hlk dX11_climbOf_111
      · have hf := q_neg c2 hf
        refine lv_iload_n E.1 E.2.1 dX11_climbOf_106 rfl (lv_at hl 3 rfl) ?_
        refine lv_goto (tgt := 111) E.1 E.2.1 dX11_climbOf_107 (by decide) ?_
        have hf := Option.some.inj hf
        subst hf
        exact q_iret E w hr hlk dX11_climbOf_111
    · have hf := q_neg c1 hf
      refine lv_iload E.1 E.2.1 dX11_climbOf_19 (lv_at hl 4 rfl) ?_
      refine lv_if_le (tgt := 45) E.1 E.2.1 dX11_climbOf_21 (by decide) (fun c3 => ?_) (fun c3 => ?_)
      · have hf := q_pos c3 hf
        refine lv_iconst (v := 0) E.1 E.2.1 dX11_climbOf_45 rfl ?_
        refine lv_istore (lv' := [(6, .int 0), (0, .ref (ad G v0)), (1, .int v1), (2, .int v2), (3, .int v3), (4, .int v4), (5, .int v5)]) E.1 E.2.1 dX11_climbOf_46 hl (by decide) rfl (fun ls hl => ?_)
        refine lv_aload_n E.1 E.2.1 dX11_climbOf_48 rfl (lv_at hl 1 rfl) ?_
        refine lv_iload E.1 E.2.1 dX11_climbOf_49 (lv_at hl 6 rfl) ?_
        obtain ⟨r5, hc4, hf⟩ := bd1_e hf
        refine k_Vi (As := [.int v5]) (rest := []) E w t_v0 ⟨by decide, rfl⟩ (X11_noteOf_c t_v0 hc4) mv_RX11_194 rfl rfl hl.1 ⟨Nat.le_of_ble_eq_true rfl, Nat.le_of_ble_eq_true rfl⟩ (Nat.le_of_ble_eq_true rfl) ⟨Nat.le_refl _, Nat.le_refl _⟩ dX11_climbOf_51 (fun H locs w => ?_)
        refine lv_if_ne (tgt := 61) E.1 E.2.1 dX11_climbOf_54 (by decide) (fun c7 => ?_) (fun c7 => ?_)
        · have hf := q_neg c7 hf
          refine lv_iload E.1 E.2.1 dX11_climbOf_61 (lv_at hl 0 rfl) ?_
          refine lv_if_eq (tgt := 73) E.1 E.2.1 dX11_climbOf_63 (by decide) (fun c8 => ?_) (fun c8 => ?_)
          · have hf := q_pos c8 hf
            refine lv_iconst (v := 1) E.1 E.2.1 dX11_climbOf_73 rfl ?_
            exact X11_climbOf_b74_w E hr hlk ih hf w t_v0 (lv_sub hl [1, 2, 3, 4, 6] rfl)
          · have hf := q_neg c8 hf
            refine lv_iload E.1 E.2.1 dX11_climbOf_66 (lv_at hl 5 rfl) ?_
            refine lv_iconst (v := 1) E.1 E.2.1 dX11_climbOf_68 rfl ?_
            refine lv_iadd E.1 E.2.1 dX11_climbOf_69 ?_
            refine lv_goto (tgt := 74) E.1 E.2.1 dX11_climbOf_70 (by decide) ?_
            exact X11_climbOf_b74_w E hr hlk ih hf w t_v0 (lv_sub hl [1, 2, 3, 4, 6] rfl)
        · have hf := q_pos c7 hf
          refine lv_iconst (v := 0) E.1 E.2.1 dX11_climbOf_57 rfl ?_
          refine lv_goto (tgt := 74) E.1 E.2.1 dX11_climbOf_58 (by decide) ?_
          exact X11_climbOf_b74_w E hr hlk ih hf w t_v0 (lv_sub hl [1, 2, 3, 4, 6] rfl)
      · have hf := q_neg c3 hf
        refine lv_aload_n E.1 E.2.1 dX11_climbOf_24 rfl (lv_at hl 0 rfl) ?_
        refine lv_iload E.1 E.2.1 dX11_climbOf_25 (lv_at hl 5 rfl) ?_
        obtain ⟨r11, hc10, hf⟩ := bd1_e hf
        refine k_Vi (As := [.int v5]) (rest := []) E w t_v0 ⟨by decide, rfl⟩ (X11_floorOf_c t_v0 hc10) mv_RX11_265 rfl rfl hl.1 ⟨Nat.le_of_ble_eq_true rfl, Nat.le_of_ble_eq_true rfl⟩ (Nat.le_of_ble_eq_true rfl) ⟨Nat.le_refl _, Nat.le_refl _⟩ dX11_climbOf_27 (fun H locs w => ?_)
        refine lv_aload_n E.1 E.2.1 dX11_climbOf_30 rfl (lv_at hl 0 rfl) ?_
        refine lv_iload E.1 E.2.1 dX11_climbOf_31 (lv_at hl 5 rfl) ?_
        refine lv_iconst (v := 1) E.1 E.2.1 dX11_climbOf_33 rfl ?_
        refine lv_isub E.1 E.2.1 dX11_climbOf_34 ?_
        obtain ⟨r14, hc13, hf⟩ := bd1_e hf
        refine k_Vi (As := [.int (v5 - 1)]) (rest := [.int r11]) E w t_v0 ⟨by decide, rfl⟩ (X11_floorOf_c t_v0 hc13) mv_RX11_265 rfl rfl hl.1 ⟨Nat.le_of_ble_eq_true rfl, Nat.le_of_ble_eq_true rfl⟩ (Nat.le_of_ble_eq_true rfl) ⟨Nat.le_refl _, Nat.le_refl _⟩ dX11_climbOf_35 (fun H locs w => ?_)
        refine lv_icmp_lt (tgt := 45) E.1 E.2.1 dX11_climbOf_38 (by decide) (fun c16 => ?_) (fun c16 => ?_)
        · have hf := q_pos c16 hf
          refine lv_iconst (v := 0) E.1 E.2.1 dX11_climbOf_45 rfl ?_
          refine lv_istore (lv' := [(6, .int 0), (0, .ref (ad G v0)), (1, .int v1), (2, .int v2), (3, .int v3), (4, .int v4), (5, .int v5)]) E.1 E.2.1 dX11_climbOf_46 hl (by decide) rfl (fun ls hl => ?_)
          refine lv_aload_n E.1 E.2.1 dX11_climbOf_48 rfl (lv_at hl 1 rfl) ?_
          refine lv_iload E.1 E.2.1 dX11_climbOf_49 (lv_at hl 6 rfl) ?_
          obtain ⟨r18, hc17, hf⟩ := bd1_e hf
          refine k_Vi (As := [.int v5]) (rest := []) E w t_v0 ⟨by decide, rfl⟩ (X11_noteOf_c t_v0 hc17) mv_RX11_194 rfl rfl hl.1 ⟨Nat.le_of_ble_eq_true rfl, Nat.le_of_ble_eq_true rfl⟩ (Nat.le_of_ble_eq_true rfl) ⟨Nat.le_refl _, Nat.le_refl _⟩ dX11_climbOf_51 (fun H locs w => ?_)
          refine lv_if_ne (tgt := 61) E.1 E.2.1 dX11_climbOf_54 (by decide) (fun c20 => ?_) (fun c20 => ?_)
          · have hf := q_neg c20 hf
            refine lv_iload E.1 E.2.1 dX11_climbOf_61 (lv_at hl 0 rfl) ?_
            refine lv_if_eq (tgt := 73) E.1 E.2.1 dX11_climbOf_63 (by decide) (fun c21 => ?_) (fun c21 => ?_)
            · have hf := q_pos c21 hf
              refine lv_iconst (v := 1) E.1 E.2.1 dX11_climbOf_73 rfl ?_
              exact X11_climbOf_b74_w E hr hlk ih hf w t_v0 (lv_sub hl [1, 2, 3, 4, 6] rfl)
            · have hf := q_neg c21 hf
              refine lv_iload E.1 E.2.1 dX11_climbOf_66 (lv_at hl 5 rfl) ?_
              refine lv_iconst (v := 1) E.1 E.2.1 dX11_climbOf_68 rfl ?_
              refine lv_iadd E.1 E.2.1 dX11_climbOf_69 ?_
              refine lv_goto (tgt := 74) E.1 E.2.1 dX11_climbOf_70 (by decide) ?_
              exact X11_climbOf_b74_w E hr hlk ih hf w t_v0 (lv_sub hl [1, 2, 3, 4, 6] rfl)
          · have hf := q_pos c20 hf
            refine lv_iconst (v := 0) E.1 E.2.1 dX11_climbOf_57 rfl ?_
            refine lv_goto (tgt := 74) E.1 E.2.1 dX11_climbOf_58 (by decide) ?_
            exact X11_climbOf_b74_w E hr hlk ih hf w t_v0 (lv_sub hl [1, 2, 3, 4, 6] rfl)
        · have hf := q_neg c16 hf
          refine lv_iconst (v := 1) E.1 E.2.1 dX11_climbOf_41 rfl ?_
          refine lv_goto (tgt := 46) E.1 E.2.1 dX11_climbOf_42 (by decide) ?_
          refine lv_istore (lv' := [(6, .int 1), (0, .ref (ad G v0)), (1, .int v1), (2, .int v2), (3, .int v3), (4, .int v4), (5, .int v5)]) E.1 E.2.1 dX11_climbOf_46 hl (by decide) rfl (fun ls hl => ?_)
          refine lv_aload_n E.1 E.2.1 dX11_climbOf_48 rfl (lv_at hl 1 rfl) ?_
          refine lv_iload E.1 E.2.1 dX11_climbOf_49 (lv_at hl 6 rfl) ?_
          obtain ⟨r23, hc22, hf⟩ := bd1_e hf
          refine k_Vi (As := [.int v5]) (rest := []) E w t_v0 ⟨by decide, rfl⟩ (X11_noteOf_c t_v0 hc22) mv_RX11_194 rfl rfl hl.1 ⟨Nat.le_of_ble_eq_true rfl, Nat.le_of_ble_eq_true rfl⟩ (Nat.le_of_ble_eq_true rfl) ⟨Nat.le_refl _, Nat.le_refl _⟩ dX11_climbOf_51 (fun H locs w => ?_)
          refine lv_if_ne (tgt := 61) E.1 E.2.1 dX11_climbOf_54 (by decide) (fun c25 => ?_) (fun c25 => ?_)
          · have hf := q_neg c25 hf
            refine lv_iload E.1 E.2.1 dX11_climbOf_61 (lv_at hl 0 rfl) ?_
            refine lv_if_eq (tgt := 73) E.1 E.2.1 dX11_climbOf_63 (by decide) (fun c26 => ?_) (fun c26 => ?_)
            · have hf := q_pos c26 hf
              refine lv_iconst (v := 1) E.1 E.2.1 dX11_climbOf_73 rfl ?_
              exact X11_climbOf_b74_w E hr hlk ih hf w t_v0 (lv_sub hl [1, 2, 3, 4, 6] rfl)
            · have hf := q_neg c26 hf
              refine lv_iload E.1 E.2.1 dX11_climbOf_66 (lv_at hl 5 rfl) ?_
              refine lv_iconst (v := 1) E.1 E.2.1 dX11_climbOf_68 rfl ?_
              refine lv_iadd E.1 E.2.1 dX11_climbOf_69 ?_
              refine lv_goto (tgt := 74) E.1 E.2.1 dX11_climbOf_70 (by decide) ?_
              exact X11_climbOf_b74_w E hr hlk ih hf w t_v0 (lv_sub hl [1, 2, 3, 4, 6] rfl)
          · have hf := q_pos c25 hf
            refine lv_iconst (v := 0) E.1 E.2.1 dX11_climbOf_57 rfl ?_
            refine lv_goto (tgt := 74) E.1 E.2.1 dX11_climbOf_58 (by decide) ?_
            exact X11_climbOf_b74_w E hr hlk ih hf w t_v0 (lv_sub hl [1, 2, 3, 4, 6] rfl)

def X11_climbOf (N : Nat) (h : HS) (v0 : Nat) (v1 : Int32) : Option Int32 := X11_climbOf_l10 N h N v0 v1 0 (-1) 0 0
set_option maxRecDepth 4000 in
set_option maxHeartbeats 2000000 in
theorem X11_climbOf_c {l : Launch} {G : GT} {N : Nat} {h : HS} {v0 : Nat} {v1 : Int32} {z : Int32} (t_v0 : sh v0 = 11) (hf : X11_climbOf N h v0 v1 = some z) : CT l G yX11_climbOf cX11_climbOf 7 (some .int) 1 21 [.ref (ad G v0), .int v1] h (some (.int z)) h := by
  unfold X11_climbOf at hf
  refine CT.of (by decide) (Nat.le_of_ble_eq_true rfl) ?_
  intro p e s m below meth c ls E hr hlk w hl
  have hl : lv_has ls 7 [(0, .ref (ad G v0)), (1, .int v1)] := hl
  refine lv_iconst (v := 0) E.1 E.2.1 dX11_climbOf_0 rfl ?_
  refine lv_istore_n (lv' := [(2, .int 0), (0, .ref (ad G v0)), (1, .int v1)]) E.1 E.2.1 dX11_climbOf_1 rfl hl (by decide) rfl (fun ls hl => ?_)
  refine lv_iconst (v := (-1)) E.1 E.2.1 dX11_climbOf_2 rfl ?_
  refine lv_istore_n (lv' := [(3, .int (-1)), (2, .int 0), (0, .ref (ad G v0)), (1, .int v1)]) E.1 E.2.1 dX11_climbOf_3 rfl hl (by decide) rfl (fun ls hl => ?_)
  refine lv_iconst (v := 0) E.1 E.2.1 dX11_climbOf_4 rfl ?_
  refine lv_istore (lv' := [(4, .int 0), (3, .int (-1)), (2, .int 0), (0, .ref (ad G v0)), (1, .int v1)]) E.1 E.2.1 dX11_climbOf_5 hl (by decide) rfl (fun ls hl => ?_)
  refine lv_iconst (v := 0) E.1 E.2.1 dX11_climbOf_7 rfl ?_
  refine lv_istore (lv' := [(5, .int 0), (4, .int 0), (3, .int (-1)), (2, .int 0), (0, .ref (ad G v0)), (1, .int v1)]) E.1 E.2.1 dX11_climbOf_8 hl (by decide) rfl (fun ls hl => ?_)
  exact X11_climbOf_l10_w E hr hlk N _ _ _ _ _ _ _ _ _ hf w t_v0 (lv_sub hl [4, 5, 3, 2, 1, 0] rfl)

def X11_isAlike_l6 (N : Nat) (h : HS) : Nat → Nat → Int32 → Int32 → Int32 → Int32 → Int32 → Option Int32
  | 0, _, _, _, _, _, _ => none
  | n + 1, v0, v1, v2, v3, v4, v5 => (if v3 ≤ v5 then some (nz v4) else (if v4 = 0 then X11_isAlike_l6 N h n v0 v1 v2 v3 0 (v5 + 1) else bd1 (X11_noteOf N h v0 (v1 + v5)) fun r4 => bd1 (X11_noteOf N h v0 (v2 + v5)) fun r7 => (if r4 = r7 then bd1 (X11_longOf N h v0 (v1 + v5)) fun r11 => bd1 (X11_longOf N h v0 (v2 + v5)) fun r14 => (if r11 = r14 then X11_isAlike_l6 N h n v0 v1 v2 v3 1 (v5 + 1) else X11_isAlike_l6 N h n v0 v1 v2 v3 0 (v5 + 1)) else X11_isAlike_l6 N h n v0 v1 v2 v3 0 (v5 + 1))))
set_option maxRecDepth 4000 in
set_option maxHeartbeats 2000000 in
theorem X11_isAlike_l6_w {p : Program} {l : Launch} {e : Env} {s : State} {m : MethodId} {args : Array Value} {below : List Frame} {meth : Method} {c : Code} {G : GT} {N : Nat} {h : HS} {z : Int32} (E : CallFix p m c cX11_isAlike 6 s args UW RX11) (hr : meth.sig.returnType = (some .boolean)) (hlk : meth.locks = false) : ∀ (n : Nat) (H : Heap) (locs : List Loc) (ls : Array Slot) (v0 : Nat) (v1 : Int32) (v2 : Int32) (v3 : Int32) (v4 : Int32) (v5 : Int32), X11_isAlike_l6 N h n v0 v1 v2 v3 v4 v5 = some z → WD G s h H locs → sh v0 = 11 → lv_has ls 6 [(0, .ref (ad G v0)), (1, .int v1), (2, .int v2), (3, .int v3), (4, .int v4), (5, .int v5)] → W p l e ({ frames := 1, cells := 0, slots := 0, locals := 21 } : Room) s m args below meth c H locs 0 0 (MQ below (QC G (some (.int z)) h) args s 0 0 (AD G)) (F0 m 6 ls []) := by
  intro n
  induction n with
  | zero =>
    intro H locs ls v0 v1 v2 v3 v4 v5 hf
    cases hf
  | succ n ih =>
    intro H locs ls v0 v1 v2 v3 v4 v5 hf w t_v0 hl
    unfold X11_isAlike_l6 at hf
    refine lv_iload E.1 E.2.1 dX11_isAlike_6 (lv_at hl 5 rfl) ?_
    refine lv_iload_n E.1 E.2.1 dX11_isAlike_8 rfl (lv_at hl 3 rfl) ?_
    refine lv_icmp_ge (tgt := 68) E.1 E.2.1 dX11_isAlike_9 (by decide) (fun c1 => ?_) (fun c1 => ?_)
    · have hf := q_pos c1 hf
      refine lv_iload E.1 E.2.1 dX11_isAlike_68 (lv_at hl 4 rfl) ?_
      have hf := Option.some.inj hf
      subst hf
      exact q_zret E w hr hlk dX11_isAlike_70
    · have hf := q_neg c1 hf
      refine lv_iload E.1 E.2.1 dX11_isAlike_12 (lv_at hl 4 rfl) ?_
      refine lv_if_eq (tgt := 59) E.1 E.2.1 dX11_isAlike_14 (by decide) (fun c2 => ?_) (fun c2 => ?_)
      · have hf := q_pos c2 hf
        refine lv_iconst (v := 0) E.1 E.2.1 dX11_isAlike_59 rfl ?_
        refine lv_istore (lv' := [(4, .int 0), (0, .ref (ad G v0)), (1, .int v1), (2, .int v2), (3, .int v3), (5, .int v5)]) E.1 E.2.1 dX11_isAlike_60 hl (by decide) rfl (fun ls hl => ?_)
        refine lv_iinc (v := v5 + 1) (lv' := [(5, .int (v5 + 1)), (4, .int 0), (0, .ref (ad G v0)), (1, .int v1), (2, .int v2), (3, .int v3)]) E.1 E.2.1 dX11_isAlike_62 hl (k := 5) rfl rfl (by decide) rfl (fun ls hl => ?_)
        refine lv_goto (tgt := 6) E.1 E.2.1 dX11_isAlike_65 (by decide) ?_
        exact ih _ _ _ _ _ _ _ _ _ hf w t_v0 (lv_sub hl [2, 3, 4, 5, 1, 0] rfl)
      · have hf := q_neg c2 hf
        refine lv_aload_n E.1 E.2.1 dX11_isAlike_17 rfl (lv_at hl 0 rfl) ?_
        refine lv_iload_n E.1 E.2.1 dX11_isAlike_18 rfl (lv_at hl 1 rfl) ?_
        refine lv_iload E.1 E.2.1 dX11_isAlike_19 (lv_at hl 5 rfl) ?_
        refine lv_iadd E.1 E.2.1 dX11_isAlike_21 ?_
        obtain ⟨r4, hc3, hf⟩ := bd1_e hf
        refine k_Vi (As := [.int (v1 + v5)]) (rest := []) E w t_v0 ⟨by decide, rfl⟩ (X11_noteOf_c t_v0 hc3) mv_RX11_194 rfl rfl hl.1 ⟨Nat.le_of_ble_eq_true rfl, Nat.le_of_ble_eq_true rfl⟩ (Nat.le_of_ble_eq_true rfl) ⟨Nat.le_refl _, Nat.le_refl _⟩ dX11_isAlike_22 (fun H locs w => ?_)
        refine lv_aload_n E.1 E.2.1 dX11_isAlike_25 rfl (lv_at hl 0 rfl) ?_
        refine lv_iload_n E.1 E.2.1 dX11_isAlike_26 rfl (lv_at hl 2 rfl) ?_
        refine lv_iload E.1 E.2.1 dX11_isAlike_27 (lv_at hl 5 rfl) ?_
        refine lv_iadd E.1 E.2.1 dX11_isAlike_29 ?_
        obtain ⟨r7, hc6, hf⟩ := bd1_e hf
        refine k_Vi (As := [.int (v2 + v5)]) (rest := [.int r4]) E w t_v0 ⟨by decide, rfl⟩ (X11_noteOf_c t_v0 hc6) mv_RX11_194 rfl rfl hl.1 ⟨Nat.le_of_ble_eq_true rfl, Nat.le_of_ble_eq_true rfl⟩ (Nat.le_of_ble_eq_true rfl) ⟨Nat.le_refl _, Nat.le_refl _⟩ dX11_isAlike_30 (fun H locs w => ?_)
        refine lv_icmp_ne (tgt := 59) E.1 E.2.1 dX11_isAlike_33 (by decide) (fun c9 => ?_) (fun c9 => ?_)
        · have hf := q_neg c9 hf
          refine lv_iconst (v := 0) E.1 E.2.1 dX11_isAlike_59 rfl ?_
          refine lv_istore (lv' := [(4, .int 0), (0, .ref (ad G v0)), (1, .int v1), (2, .int v2), (3, .int v3), (5, .int v5)]) E.1 E.2.1 dX11_isAlike_60 hl (by decide) rfl (fun ls hl => ?_)
          refine lv_iinc (v := v5 + 1) (lv' := [(5, .int (v5 + 1)), (4, .int 0), (0, .ref (ad G v0)), (1, .int v1), (2, .int v2), (3, .int v3)]) E.1 E.2.1 dX11_isAlike_62 hl (k := 5) rfl rfl (by decide) rfl (fun ls hl => ?_)
          refine lv_goto (tgt := 6) E.1 E.2.1 dX11_isAlike_65 (by decide) ?_
          exact ih _ _ _ _ _ _ _ _ _ hf w t_v0 (lv_sub hl [2, 3, 4, 5, 1, 0] rfl)
        · have hf := q_pos c9 hf
          refine lv_aload_n E.1 E.2.1 dX11_isAlike_36 rfl (lv_at hl 0 rfl) ?_
          refine lv_iload_n E.1 E.2.1 dX11_isAlike_37 rfl (lv_at hl 1 rfl) ?_
          refine lv_iload E.1 E.2.1 dX11_isAlike_38 (lv_at hl 5 rfl) ?_
          refine lv_iadd E.1 E.2.1 dX11_isAlike_40 ?_
          obtain ⟨r11, hc10, hf⟩ := bd1_e hf
          refine k_Vi (As := [.int (v1 + v5)]) (rest := []) E w t_v0 ⟨by decide, rfl⟩ (X11_longOf_c t_v0 hc10) mv_RX11_231 rfl rfl hl.1 ⟨Nat.le_of_ble_eq_true rfl, Nat.le_of_ble_eq_true rfl⟩ (Nat.le_of_ble_eq_true rfl) ⟨Nat.le_refl _, Nat.le_refl _⟩ dX11_isAlike_41 (fun H locs w => ?_)
          refine lv_aload_n E.1 E.2.1 dX11_isAlike_44 rfl (lv_at hl 0 rfl) ?_
          refine lv_iload_n E.1 E.2.1 dX11_isAlike_45 rfl (lv_at hl 2 rfl) ?_
          refine lv_iload E.1 E.2.1 dX11_isAlike_46 (lv_at hl 5 rfl) ?_
          refine lv_iadd E.1 E.2.1 dX11_isAlike_48 ?_
          obtain ⟨r14, hc13, hf⟩ := bd1_e hf
          refine k_Vi (As := [.int (v2 + v5)]) (rest := [.int r11]) E w t_v0 ⟨by decide, rfl⟩ (X11_longOf_c t_v0 hc13) mv_RX11_231 rfl rfl hl.1 ⟨Nat.le_of_ble_eq_true rfl, Nat.le_of_ble_eq_true rfl⟩ (Nat.le_of_ble_eq_true rfl) ⟨Nat.le_refl _, Nat.le_refl _⟩ dX11_isAlike_49 (fun H locs w => ?_)
          refine lv_icmp_ne (tgt := 59) E.1 E.2.1 dX11_isAlike_52 (by decide) (fun c16 => ?_) (fun c16 => ?_)
          · have hf := q_neg c16 hf
            refine lv_iconst (v := 0) E.1 E.2.1 dX11_isAlike_59 rfl ?_
            refine lv_istore (lv' := [(4, .int 0), (0, .ref (ad G v0)), (1, .int v1), (2, .int v2), (3, .int v3), (5, .int v5)]) E.1 E.2.1 dX11_isAlike_60 hl (by decide) rfl (fun ls hl => ?_)
            refine lv_iinc (v := v5 + 1) (lv' := [(5, .int (v5 + 1)), (4, .int 0), (0, .ref (ad G v0)), (1, .int v1), (2, .int v2), (3, .int v3)]) E.1 E.2.1 dX11_isAlike_62 hl (k := 5) rfl rfl (by decide) rfl (fun ls hl => ?_)
            refine lv_goto (tgt := 6) E.1 E.2.1 dX11_isAlike_65 (by decide) ?_
            exact ih _ _ _ _ _ _ _ _ _ hf w t_v0 (lv_sub hl [2, 3, 4, 5, 1, 0] rfl)
          · have hf := q_pos c16 hf
            refine lv_iconst (v := 1) E.1 E.2.1 dX11_isAlike_55 rfl ?_
            refine lv_goto (tgt := 60) E.1 E.2.1 dX11_isAlike_56 (by decide) ?_
            refine lv_istore (lv' := [(4, .int 1), (0, .ref (ad G v0)), (1, .int v1), (2, .int v2), (3, .int v3), (5, .int v5)]) E.1 E.2.1 dX11_isAlike_60 hl (by decide) rfl (fun ls hl => ?_)
            refine lv_iinc (v := v5 + 1) (lv' := [(5, .int (v5 + 1)), (4, .int 1), (0, .ref (ad G v0)), (1, .int v1), (2, .int v2), (3, .int v3)]) E.1 E.2.1 dX11_isAlike_62 hl (k := 5) rfl rfl (by decide) rfl (fun ls hl => ?_)
            refine lv_goto (tgt := 6) E.1 E.2.1 dX11_isAlike_65 (by decide) ?_
            exact ih _ _ _ _ _ _ _ _ _ hf w t_v0 (lv_sub hl [2, 3, 4, 5, 1, 0] rfl)

def X11_isAlike (N : Nat) (h : HS) (v0 : Nat) (v1 : Int32) (v2 : Int32) (v3 : Int32) : Option Int32 := X11_isAlike_l6 N h N v0 v1 v2 v3 1 0
set_option maxRecDepth 4000 in
set_option maxHeartbeats 2000000 in
theorem X11_isAlike_c {l : Launch} {G : GT} {N : Nat} {h : HS} {v0 : Nat} {v1 : Int32} {v2 : Int32} {v3 : Int32} {z : Int32} (t_v0 : sh v0 = 11) (hf : X11_isAlike N h v0 v1 v2 v3 = some z) : CT l G yX11_isAlike cX11_isAlike 6 (some .boolean) 1 21 [.ref (ad G v0), .int v1, .int v2, .int v3] h (some (.int z)) h := by
  unfold X11_isAlike at hf
  refine CT.of (by decide) (Nat.le_of_ble_eq_true rfl) ?_
  intro p e s m below meth c ls E hr hlk w hl
  have hl : lv_has ls 6 [(0, .ref (ad G v0)), (1, .int v1), (2, .int v2), (3, .int v3)] := hl
  refine lv_iconst (v := 1) E.1 E.2.1 dX11_isAlike_0 rfl ?_
  refine lv_istore (lv' := [(4, .int 1), (0, .ref (ad G v0)), (1, .int v1), (2, .int v2), (3, .int v3)]) E.1 E.2.1 dX11_isAlike_1 hl (by decide) rfl (fun ls hl => ?_)
  refine lv_iconst (v := 0) E.1 E.2.1 dX11_isAlike_3 rfl ?_
  refine lv_istore (lv' := [(5, .int 0), (4, .int 1), (0, .ref (ad G v0)), (1, .int v1), (2, .int v2), (3, .int v3)]) E.1 E.2.1 dX11_isAlike_4 hl (by decide) rfl (fun ls hl => ?_)
  exact X11_isAlike_l6_w E hr hlk N _ _ _ _ _ _ _ _ _ hf w t_v0 (lv_sub hl [2, 3, 4, 5, 1, 0] rfl)

def X11_echoOf_l30 (N : Nat) (h : HS) (K7 : Nat → Int32 → Int32 → Option Int32) (K13 : Nat → Int32 → Int32 → Int32 → Option Int32) : Nat → Nat → Int32 → Int32 → Int32 → Int32 → Option Int32
  | 0, _, _, _, _, _ => none
  | n + 1, v0, v1, v2, v3, v4 => (if (h.1 v0 14) < (v4 + v2) then K13 v0 v1 v2 (v3 + 1) else bd1 (X11_isAlike N h v0 v3 v4 v2) fun r6 => (if r6 = 0 then X11_echoOf_l30 N h K7 K13 n v0 v1 v2 v3 (v4 + 1) else (if v1 = 0 then some v2 else some v3)))
set_option maxRecDepth 4000 in
set_option maxHeartbeats 2000000 in
theorem X11_echoOf_l30_w {p : Program} {l : Launch} {e : Env} {s : State} {m : MethodId} {args : Array Value} {below : List Frame} {meth : Method} {c : Code} {G : GT} {N : Nat} {h : HS} {z : Int32} (E : CallFix p m c cX11_echoOf 5 s args UW RX11) (hr : meth.sig.returnType = (some .int)) (hlk : meth.locks = false) {K7 : Nat → Int32 → Int32 → Option Int32} {K13 : Nat → Int32 → Int32 → Int32 → Option Int32} (hK7 : ∀ (H : Heap) (locs : List Loc) (ls : Array Slot) (v0 : Nat) (v1 : Int32) (v2 : Int32), K7 v0 v1 v2 = some z → WD G s h H locs → sh v0 = 11 → lv_has ls 5 [(0, .ref (ad G v0)), (1, .int v1), (2, .int v2)] → W p l e ({ frames := 2, cells := 0, slots := 0, locals := 46 } : Room) s m args below meth c H locs 0 0 (MQ below (QC G (some (.int z)) h) args s 0 0 (AD G)) (F0 m 7 ls [])) (hK13 : ∀ (H : Heap) (locs : List Loc) (ls : Array Slot) (v0 : Nat) (v1 : Int32) (v2 : Int32) (v3 : Int32), K13 v0 v1 v2 v3 = some z → WD G s h H locs → sh v0 = 11 → lv_has ls 5 [(0, .ref (ad G v0)), (1, .int v1), (2, .int v2), (3, .int v3)] → W p l e ({ frames := 2, cells := 0, slots := 0, locals := 46 } : Room) s m args below meth c H locs 0 0 (MQ below (QC G (some (.int z)) h) args s 0 0 (AD G)) (F0 m 13 ls [])) : ∀ (n : Nat) (H : Heap) (locs : List Loc) (ls : Array Slot) (v0 : Nat) (v1 : Int32) (v2 : Int32) (v3 : Int32) (v4 : Int32), X11_echoOf_l30 N h K7 K13 n v0 v1 v2 v3 v4 = some z → WD G s h H locs → sh v0 = 11 → lv_has ls 5 [(0, .ref (ad G v0)), (1, .int v1), (2, .int v2), (3, .int v3), (4, .int v4)] → W p l e ({ frames := 2, cells := 0, slots := 0, locals := 46 } : Room) s m args below meth c H locs 0 0 (MQ below (QC G (some (.int z)) h) args s 0 0 (AD G)) (F0 m 30 ls []) := by
  intro n
  induction n with
  | zero =>
    intro H locs ls v0 v1 v2 v3 v4 hf
    cases hf
  | succ n ih =>
    intro H locs ls v0 v1 v2 v3 v4 hf w t_v0 hl
    unfold X11_echoOf_l30 at hf
    refine lv_iload E.1 E.2.1 dX11_echoOf_30 (lv_at hl 4 rfl) ?_
    refine lv_iload_n E.1 E.2.1 dX11_echoOf_32 rfl (lv_at hl 2 rfl) ?_
    refine lv_iadd E.1 E.2.1 dX11_echoOf_33 ?_
    refine lv_aload_n E.1 E.2.1 dX11_echoOf_34 rfl (lv_at hl 0 rfl) ?_
    refine q_gi E w t_v0 fl_RX11_188 dX11_echoOf_35 ?_
    refine lv_icmp_gt (tgt := 68) E.1 E.2.1 dX11_echoOf_38 (by decide) (fun c4 => ?_) (fun c4 => ?_)
    · have hf := q_pos c4 hf
      refine lv_iinc (v := v3 + 1) (lv' := [(3, .int (v3 + 1)), (0, .ref (ad G v0)), (1, .int v1), (2, .int v2), (4, .int v4)]) E.1 E.2.1 dX11_echoOf_68 hl (k := 3) rfl rfl (by decide) rfl (fun ls hl => ?_)
      refine lv_goto (tgt := 13) E.1 E.2.1 dX11_echoOf_71 (by decide) ?_
      exact hK13 _ _ _ _ _ _ _ hf w t_v0 (lv_sub hl [1, 2, 3, 0] rfl)
    · have hf := q_neg c4 hf
      refine lv_aload_n E.1 E.2.1 dX11_echoOf_41 rfl (lv_at hl 0 rfl) ?_
      refine lv_iload_n E.1 E.2.1 dX11_echoOf_42 rfl (lv_at hl 3 rfl) ?_
      refine lv_iload E.1 E.2.1 dX11_echoOf_43 (lv_at hl 4 rfl) ?_
      refine lv_iload_n E.1 E.2.1 dX11_echoOf_45 rfl (lv_at hl 2 rfl) ?_
      obtain ⟨r6, hc5, hf⟩ := bd1_e hf
      refine k_Vi (As := [.int v3, .int v4, .int v2]) (rest := []) E w t_v0 ⟨by decide, rfl⟩ (X11_isAlike_c t_v0 hc5) mv_RX11_320 rfl rfl hl.1 ⟨Nat.le_of_ble_eq_true rfl, Nat.le_of_ble_eq_true rfl⟩ (Nat.le_of_ble_eq_true rfl) ⟨Nat.le_refl _, Nat.le_refl _⟩ dX11_echoOf_46 (fun H locs w => ?_)
      refine lv_if_eq (tgt := 62) E.1 E.2.1 dX11_echoOf_49 (by decide) (fun c8 => ?_) (fun c8 => ?_)
      · have hf := q_pos c8 hf
        refine lv_iinc (v := v4 + 1) (lv' := [(4, .int (v4 + 1)), (0, .ref (ad G v0)), (1, .int v1), (2, .int v2), (3, .int v3)]) E.1 E.2.1 dX11_echoOf_62 hl (k := 4) rfl rfl (by decide) rfl (fun ls hl => ?_)
        refine lv_goto (tgt := 30) E.1 E.2.1 dX11_echoOf_65 (by decide) ?_
        exact ih _ _ _ _ _ _ _ _ hf w t_v0 (lv_sub hl [1, 2, 3, 4, 0] rfl)
      · have hf := q_neg c8 hf
        refine lv_iload_n E.1 E.2.1 dX11_echoOf_52 rfl (lv_at hl 1 rfl) ?_
        refine lv_if_eq (tgt := 60) E.1 E.2.1 dX11_echoOf_53 (by decide) (fun c9 => ?_) (fun c9 => ?_)
        · have hf := q_pos c9 hf
          refine lv_iload_n E.1 E.2.1 dX11_echoOf_60 rfl (lv_at hl 2 rfl) ?_
          have hf := Option.some.inj hf
          subst hf
          exact q_iret E w hr hlk dX11_echoOf_61
        · have hf := q_neg c9 hf
          refine lv_iload_n E.1 E.2.1 dX11_echoOf_56 rfl (lv_at hl 3 rfl) ?_
          refine lv_goto (tgt := 61) E.1 E.2.1 dX11_echoOf_57 (by decide) ?_
          have hf := Option.some.inj hf
          subst hf
          exact q_iret E w hr hlk dX11_echoOf_61

def X11_echoOf_l13 (N : Nat) (h : HS) (K7 : Nat → Int32 → Int32 → Option Int32) : Nat → Nat → Int32 → Int32 → Int32 → Option Int32
  | 0, _, _, _, _ => none
  | n + 1, v0, v1, v2, v3 => (if (h.1 v0 14) < (v3 + (2 * v2)) then K7 v0 v1 (v2 + (-1)) else X11_echoOf_l30 N h K7 (X11_echoOf_l13 N h K7 n) N v0 v1 v2 v3 (v3 + v2))
set_option maxRecDepth 4000 in
set_option maxHeartbeats 2000000 in
theorem X11_echoOf_l13_w {p : Program} {l : Launch} {e : Env} {s : State} {m : MethodId} {args : Array Value} {below : List Frame} {meth : Method} {c : Code} {G : GT} {N : Nat} {h : HS} {z : Int32} (E : CallFix p m c cX11_echoOf 5 s args UW RX11) (hr : meth.sig.returnType = (some .int)) (hlk : meth.locks = false) {K7 : Nat → Int32 → Int32 → Option Int32} (hK7 : ∀ (H : Heap) (locs : List Loc) (ls : Array Slot) (v0 : Nat) (v1 : Int32) (v2 : Int32), K7 v0 v1 v2 = some z → WD G s h H locs → sh v0 = 11 → lv_has ls 5 [(0, .ref (ad G v0)), (1, .int v1), (2, .int v2)] → W p l e ({ frames := 2, cells := 0, slots := 0, locals := 46 } : Room) s m args below meth c H locs 0 0 (MQ below (QC G (some (.int z)) h) args s 0 0 (AD G)) (F0 m 7 ls [])) : ∀ (n : Nat) (H : Heap) (locs : List Loc) (ls : Array Slot) (v0 : Nat) (v1 : Int32) (v2 : Int32) (v3 : Int32), X11_echoOf_l13 N h K7 n v0 v1 v2 v3 = some z → WD G s h H locs → sh v0 = 11 → lv_has ls 5 [(0, .ref (ad G v0)), (1, .int v1), (2, .int v2), (3, .int v3)] → W p l e ({ frames := 2, cells := 0, slots := 0, locals := 46 } : Room) s m args below meth c H locs 0 0 (MQ below (QC G (some (.int z)) h) args s 0 0 (AD G)) (F0 m 13 ls []) := by
  intro n
  induction n with
  | zero =>
    intro H locs ls v0 v1 v2 v3 hf
    cases hf
  | succ n ih =>
    intro H locs ls v0 v1 v2 v3 hf w t_v0 hl
    unfold X11_echoOf_l13 at hf
    refine lv_iload_n E.1 E.2.1 dX11_echoOf_13 rfl (lv_at hl 3 rfl) ?_
    refine lv_iconst (v := 2) E.1 E.2.1 dX11_echoOf_14 rfl ?_
    refine lv_iload_n E.1 E.2.1 dX11_echoOf_15 rfl (lv_at hl 2 rfl) ?_
    refine lv_imul E.1 E.2.1 dX11_echoOf_16 ?_
    refine lv_iadd E.1 E.2.1 dX11_echoOf_17 ?_
    refine lv_aload_n E.1 E.2.1 dX11_echoOf_18 rfl (lv_at hl 0 rfl) ?_
    refine q_gi E w t_v0 fl_RX11_188 dX11_echoOf_19 ?_
    refine lv_icmp_gt (tgt := 74) E.1 E.2.1 dX11_echoOf_22 (by decide) (fun c3 => ?_) (fun c3 => ?_)
    · have hf := q_pos c3 hf
      refine lv_iinc (v := v2 + (-1)) (lv' := [(2, .int (v2 + (-1))), (0, .ref (ad G v0)), (1, .int v1), (3, .int v3)]) E.1 E.2.1 dX11_echoOf_74 hl (k := 2) rfl rfl (by decide) rfl (fun ls hl => ?_)
      refine lv_goto (tgt := 7) E.1 E.2.1 dX11_echoOf_77 (by decide) ?_
      exact hK7 _ _ _ _ _ _ hf w t_v0 (lv_sub hl [1, 2, 0] rfl)
    · have hf := q_neg c3 hf
      refine lv_iload_n E.1 E.2.1 dX11_echoOf_25 rfl (lv_at hl 3 rfl) ?_
      refine lv_iload_n E.1 E.2.1 dX11_echoOf_26 rfl (lv_at hl 2 rfl) ?_
      refine lv_iadd E.1 E.2.1 dX11_echoOf_27 ?_
      refine lv_istore (lv' := [(4, .int (v3 + v2)), (0, .ref (ad G v0)), (1, .int v1), (2, .int v2), (3, .int v3)]) E.1 E.2.1 dX11_echoOf_28 hl (by decide) rfl (fun ls hl => ?_)
      exact X11_echoOf_l30_w E hr hlk hK7 ih N _ _ _ _ _ _ _ _ hf w t_v0 (lv_sub hl [1, 2, 3, 4, 0] rfl)

def X11_echoOf_l7 (N : Nat) (h : HS) : Nat → Nat → Int32 → Int32 → Option Int32
  | 0, _, _, _ => none
  | n + 1, v0, v1, v2 => (if v2 ≤ 0 then (if v1 = 0 then some 0 else some (-1)) else X11_echoOf_l13 N h (X11_echoOf_l7 N h n) N v0 v1 v2 0)
set_option maxRecDepth 4000 in
set_option maxHeartbeats 2000000 in
theorem X11_echoOf_l7_w {p : Program} {l : Launch} {e : Env} {s : State} {m : MethodId} {args : Array Value} {below : List Frame} {meth : Method} {c : Code} {G : GT} {N : Nat} {h : HS} {z : Int32} (E : CallFix p m c cX11_echoOf 5 s args UW RX11) (hr : meth.sig.returnType = (some .int)) (hlk : meth.locks = false) : ∀ (n : Nat) (H : Heap) (locs : List Loc) (ls : Array Slot) (v0 : Nat) (v1 : Int32) (v2 : Int32), X11_echoOf_l7 N h n v0 v1 v2 = some z → WD G s h H locs → sh v0 = 11 → lv_has ls 5 [(0, .ref (ad G v0)), (1, .int v1), (2, .int v2)] → W p l e ({ frames := 2, cells := 0, slots := 0, locals := 46 } : Room) s m args below meth c H locs 0 0 (MQ below (QC G (some (.int z)) h) args s 0 0 (AD G)) (F0 m 7 ls []) := by
  intro n
  induction n with
  | zero =>
    intro H locs ls v0 v1 v2 hf
    cases hf
  | succ n ih =>
    intro H locs ls v0 v1 v2 hf w t_v0 hl
    unfold X11_echoOf_l7 at hf
    refine lv_iload_n E.1 E.2.1 dX11_echoOf_7 rfl (lv_at hl 2 rfl) ?_
    refine lv_if_le (tgt := 80) E.1 E.2.1 dX11_echoOf_8 (by decide) (fun c1 => ?_) (fun c1 => ?_)
    · have hf := q_pos c1 hf
      refine lv_iload_n E.1 E.2.1 dX11_echoOf_80 rfl (lv_at hl 1 rfl) ?_
      refine lv_if_eq (tgt := 88) E.1 E.2.1 dX11_echoOf_81 (by decide) (fun c2 => ?_) (fun c2 => ?_)
      · have hf := q_pos c2 hf
        refine lv_iconst (v := 0) E.1 E.2.1 dX11_echoOf_88 rfl ?_
        have hf := Option.some.inj hf
        subst hf
        exact q_iret E w hr hlk dX11_echoOf_89
      · have hf := q_neg c2 hf
        refine lv_iconst (v := (-1)) E.1 E.2.1 dX11_echoOf_84 rfl ?_
        refine lv_goto (tgt := 89) E.1 E.2.1 dX11_echoOf_85 (by decide) ?_
        have hf := Option.some.inj hf
        subst hf
        exact q_iret E w hr hlk dX11_echoOf_89
    · have hf := q_neg c1 hf
      refine lv_iconst (v := 0) E.1 E.2.1 dX11_echoOf_11 rfl ?_
      refine lv_istore_n (lv' := [(3, .int 0), (0, .ref (ad G v0)), (1, .int v1), (2, .int v2)]) E.1 E.2.1 dX11_echoOf_12 rfl hl (by decide) rfl (fun ls hl => ?_)
      exact X11_echoOf_l13_w E hr hlk ih N _ _ _ _ _ _ _ hf w t_v0 (lv_sub hl [1, 2, 3, 0] rfl)

def X11_echoOf (N : Nat) (h : HS) (v0 : Nat) (v1 : Int32) : Option Int32 := X11_echoOf_l7 N h N v0 v1 ((h.1 v0 14) / 2)
set_option maxRecDepth 4000 in
set_option maxHeartbeats 2000000 in
theorem X11_echoOf_c {l : Launch} {G : GT} {N : Nat} {h : HS} {v0 : Nat} {v1 : Int32} {z : Int32} (t_v0 : sh v0 = 11) (hf : X11_echoOf N h v0 v1 = some z) : CT l G yX11_echoOf cX11_echoOf 5 (some .int) 2 46 [.ref (ad G v0), .int v1] h (some (.int z)) h := by
  unfold X11_echoOf at hf
  refine CT.of (by decide) (Nat.le_of_ble_eq_true rfl) ?_
  intro p e s m below meth c ls E hr hlk w hl
  have hl : lv_has ls 5 [(0, .ref (ad G v0)), (1, .int v1)] := hl
  refine lv_aload_n E.1 E.2.1 dX11_echoOf_0 rfl (lv_at hl 0 rfl) ?_
  refine q_gi E w t_v0 fl_RX11_188 dX11_echoOf_1 ?_
  refine lv_iconst (v := 2) E.1 E.2.1 dX11_echoOf_4 rfl ?_
  refine lv_idiv E.1 E.2.1 dX11_echoOf_5 (by decide) ?_
  refine lv_istore_n (lv' := [(2, .int ((h.1 v0 14) / 2)), (0, .ref (ad G v0)), (1, .int v1)]) E.1 E.2.1 dX11_echoOf_6 rfl hl (by decide) rfl (fun ls hl => ?_)
  exact X11_echoOf_l7_w E hr hlk N _ _ _ _ _ _ hf w t_v0 (lv_sub hl [1, 2, 0] rfl)

def X11_roof (N : Nat) (h : HS) (v0 : Nat) (v1 : Int32) (v2 : Int32) : Option (Int32 × HS) := bd2 (X11_isHouse N h v0 v1) fun r2 h3 => (if r2 = 0 then some ((-2), h3) else (if v2 = 0 then bd1 (X11_quietestOf N h3 v0) fun r7 => some (r7, h3) else (if v2 = 1 then bd1 (X11_upFrom N h3 v0 0) fun r11 => some (r11, h3) else (if v2 = 2 then bd1 (X11_rentsOf N h3 v0) fun r15 => some (r15, h3) else (if v2 = 3 then (if v2 = (4 : Int32) then bd1 (X11_climbOf N h3 v0 1) fun r23 => some (r23, h3) else bd1 (X11_climbOf N h3 v0 0) fun r20 => some (r20, h3)) else (if v2 = 4 then (if v2 = (4 : Int32) then bd1 (X11_climbOf N h3 v0 1) fun r31 => some (r31, h3) else bd1 (X11_climbOf N h3 v0 0) fun r28 => some (r28, h3)) else (if v2 = 5 then (if v2 = (6 : Int32) then bd1 (X11_echoOf N h3 v0 1) fun r39 => some (r39, h3) else bd1 (X11_echoOf N h3 v0 0) fun r36 => some (r36, h3)) else (if v2 = 6 then (if v2 = (6 : Int32) then bd1 (X11_echoOf N h3 v0 1) fun r47 => some (r47, h3) else bd1 (X11_echoOf N h3 v0 0) fun r44 => some (r44, h3)) else bd1 (X11_isBar N h3 v0 (v2 - 10)) fun r50 => (if r50 = 0 then some ((-2), h3) else bd1 (X11_roofOf N h3 v0 (v2 - 10)) fun r54 => some (r54, h3))))))))))
set_option maxRecDepth 4000 in
set_option maxHeartbeats 2000000 in
theorem X11_roof_c {l : Launch} {G : GT} {N : Nat} {h : HS} {v0 : Nat} {v1 : Int32} {v2 : Int32} {z : (Int32 × HS)} (t_v0 : sh v0 = 11) (hf : X11_roof N h v0 v1 v2 = some z) : CT l G yX11_roof cX11_roof 3 (some .int) 4 87 [.ref (ad G v0), .int v1, .int v2] h (some (.int z.1)) z.2 := by
  unfold X11_roof at hf
  refine CT.of (by decide) (Nat.le_of_ble_eq_true rfl) ?_
  intro p e s m below meth c ls E hr hlk w hl
  have hl : lv_has ls 3 [(0, .ref (ad G v0)), (1, .int v1), (2, .int v2)] := hl
  refine lv_aload_n E.1 E.2.1 dX11_roof_0 rfl (lv_at hl 0 rfl) ?_
  refine lv_iload_n E.1 E.2.1 dX11_roof_1 rfl (lv_at hl 1 rfl) ?_
  obtain ⟨r2, h3, hc1, hf⟩ := bd2_e hf
  refine k_Vi (As := [.int v1]) (rest := []) E w t_v0 ⟨by decide, rfl⟩ (X11_isHouse_c t_v0 hc1) mv_RX11_197 rfl rfl hl.1 ⟨Nat.le_of_ble_eq_true rfl, Nat.le_of_ble_eq_true rfl⟩ (Nat.le_of_ble_eq_true rfl) ⟨Nat.le_refl _, Nat.le_refl _⟩ dX11_roof_2 (fun H locs w => ?_)
  refine lv_if_ne (tgt := 11) E.1 E.2.1 dX11_roof_5 (by decide) (fun c4 => ?_) (fun c4 => ?_)
  · have hf := q_neg c4 hf
    refine lv_iload_n E.1 E.2.1 dX11_roof_11 rfl (lv_at hl 2 rfl) ?_
    by_cases c5 : v2 = 0
    · have hf := q_pos c5 hf
      refine lv_tableIn (off := 44) (tgt := 56) E.1 E.2.1 dX11_roof_12 (by rw [c5]; decide) (by rw [c5]; decide) (by rw [c5]; rfl) (by decide) ?_
      refine lv_aload_n E.1 E.2.1 dX11_roof_56 rfl (lv_at hl 0 rfl) ?_
      obtain ⟨r7, hc6, hf⟩ := bd1_e hf
      refine k_Vi (As := []) (rest := []) E w t_v0 ⟨by decide, rfl⟩ (X11_quietestOf_c t_v0 hc6) mv_RX11_323 rfl rfl hl.1 ⟨Nat.le_of_ble_eq_true rfl, Nat.le_of_ble_eq_true rfl⟩ (Nat.le_of_ble_eq_true rfl) ⟨Nat.le_refl _, Nat.le_refl _⟩ dX11_roof_57 (fun H locs w => ?_)
      have hf := Option.some.inj hf
      subst hf
      exact q_iret E w hr hlk dX11_roof_60
    have hf := q_neg c5 hf
    by_cases c9 : v2 = 1
    · have hf := q_pos c9 hf
      refine lv_tableIn (off := 49) (tgt := 61) E.1 E.2.1 dX11_roof_12 (by rw [c9]; decide) (by rw [c9]; decide) (by rw [c9]; rfl) (by decide) ?_
      refine lv_aload_n E.1 E.2.1 dX11_roof_61 rfl (lv_at hl 0 rfl) ?_
      refine lv_iconst (v := 0) E.1 E.2.1 dX11_roof_62 rfl ?_
      obtain ⟨r11, hc10, hf⟩ := bd1_e hf
      refine k_Vi (As := [.int 0]) (rest := []) E w t_v0 ⟨by decide, rfl⟩ (X11_upFrom_c t_v0 hc10) mv_RX11_314 rfl rfl hl.1 ⟨Nat.le_of_ble_eq_true rfl, Nat.le_of_ble_eq_true rfl⟩ (Nat.le_of_ble_eq_true rfl) ⟨Nat.le_refl _, Nat.le_refl _⟩ dX11_roof_63 (fun H locs w => ?_)
      have hf := Option.some.inj hf
      subst hf
      exact q_iret E w hr hlk dX11_roof_66
    have hf := q_neg c9 hf
    by_cases c13 : v2 = 2
    · have hf := q_pos c13 hf
      refine lv_tableIn (off := 55) (tgt := 67) E.1 E.2.1 dX11_roof_12 (by rw [c13]; decide) (by rw [c13]; decide) (by rw [c13]; rfl) (by decide) ?_
      refine lv_aload_n E.1 E.2.1 dX11_roof_67 rfl (lv_at hl 0 rfl) ?_
      obtain ⟨r15, hc14, hf⟩ := bd1_e hf
      refine k_Vi (As := []) (rest := []) E w t_v0 ⟨by decide, rfl⟩ (X11_rentsOf_c t_v0 hc14) mv_RX11_326 rfl rfl hl.1 ⟨Nat.le_of_ble_eq_true rfl, Nat.le_of_ble_eq_true rfl⟩ (Nat.le_of_ble_eq_true rfl) ⟨Nat.le_refl _, Nat.le_refl _⟩ dX11_roof_68 (fun H locs w => ?_)
      have hf := Option.some.inj hf
      subst hf
      exact q_iret E w hr hlk dX11_roof_71
    have hf := q_neg c13 hf
    by_cases c17 : v2 = 3
    · have hf := q_pos c17 hf
      refine lv_tableIn (off := 60) (tgt := 72) E.1 E.2.1 dX11_roof_12 (by rw [c17]; decide) (by rw [c17]; decide) (by rw [c17]; rfl) (by decide) ?_
      refine lv_aload_n E.1 E.2.1 dX11_roof_72 rfl (lv_at hl 0 rfl) ?_
      refine lv_iload_n E.1 E.2.1 dX11_roof_73 rfl (lv_at hl 2 rfl) ?_
      refine lv_iconst (v := 4) E.1 E.2.1 dX11_roof_74 rfl ?_
      refine lv_icmp_ne (tgt := 82) E.1 E.2.1 dX11_roof_75 (by decide) (fun c18 => ?_) (fun c18 => ?_)
      · have hf := q_neg c18 hf
        refine lv_iconst (v := 0) E.1 E.2.1 dX11_roof_82 rfl ?_
        obtain ⟨r20, hc19, hf⟩ := bd1_e hf
        refine k_Vi (As := [.int 0]) (rest := []) E w t_v0 ⟨by decide, rfl⟩ (X11_climbOf_c t_v0 hc19) mv_RX11_329 rfl rfl hl.1 ⟨Nat.le_of_ble_eq_true rfl, Nat.le_of_ble_eq_true rfl⟩ (Nat.le_of_ble_eq_true rfl) ⟨Nat.le_refl _, Nat.le_refl _⟩ dX11_roof_83 (fun H locs w => ?_)
        have hf := Option.some.inj hf
        subst hf
        exact q_iret E w hr hlk dX11_roof_86
      · have hf := q_pos c18 hf
        refine lv_iconst (v := 1) E.1 E.2.1 dX11_roof_78 rfl ?_
        refine lv_goto (tgt := 83) E.1 E.2.1 dX11_roof_79 (by decide) ?_
        obtain ⟨r23, hc22, hf⟩ := bd1_e hf
        refine k_Vi (As := [.int 1]) (rest := []) E w t_v0 ⟨by decide, rfl⟩ (X11_climbOf_c t_v0 hc22) mv_RX11_329 rfl rfl hl.1 ⟨Nat.le_of_ble_eq_true rfl, Nat.le_of_ble_eq_true rfl⟩ (Nat.le_of_ble_eq_true rfl) ⟨Nat.le_refl _, Nat.le_refl _⟩ dX11_roof_83 (fun H locs w => ?_)
        have hf := Option.some.inj hf
        subst hf
        exact q_iret E w hr hlk dX11_roof_86
    have hf := q_neg c17 hf
    by_cases c25 : v2 = 4
    · have hf := q_pos c25 hf
      refine lv_tableIn (off := 60) (tgt := 72) E.1 E.2.1 dX11_roof_12 (by rw [c25]; decide) (by rw [c25]; decide) (by rw [c25]; rfl) (by decide) ?_
      refine lv_aload_n E.1 E.2.1 dX11_roof_72 rfl (lv_at hl 0 rfl) ?_
      refine lv_iload_n E.1 E.2.1 dX11_roof_73 rfl (lv_at hl 2 rfl) ?_
      refine lv_iconst (v := 4) E.1 E.2.1 dX11_roof_74 rfl ?_
      refine lv_icmp_ne (tgt := 82) E.1 E.2.1 dX11_roof_75 (by decide) (fun c26 => ?_) (fun c26 => ?_)
      · have hf := q_neg c26 hf
        refine lv_iconst (v := 0) E.1 E.2.1 dX11_roof_82 rfl ?_
        obtain ⟨r28, hc27, hf⟩ := bd1_e hf
        refine k_Vi (As := [.int 0]) (rest := []) E w t_v0 ⟨by decide, rfl⟩ (X11_climbOf_c t_v0 hc27) mv_RX11_329 rfl rfl hl.1 ⟨Nat.le_of_ble_eq_true rfl, Nat.le_of_ble_eq_true rfl⟩ (Nat.le_of_ble_eq_true rfl) ⟨Nat.le_refl _, Nat.le_refl _⟩ dX11_roof_83 (fun H locs w => ?_)
        have hf := Option.some.inj hf
        subst hf
        exact q_iret E w hr hlk dX11_roof_86
      · have hf := q_pos c26 hf
        refine lv_iconst (v := 1) E.1 E.2.1 dX11_roof_78 rfl ?_
        refine lv_goto (tgt := 83) E.1 E.2.1 dX11_roof_79 (by decide) ?_
        obtain ⟨r31, hc30, hf⟩ := bd1_e hf
        refine k_Vi (As := [.int 1]) (rest := []) E w t_v0 ⟨by decide, rfl⟩ (X11_climbOf_c t_v0 hc30) mv_RX11_329 rfl rfl hl.1 ⟨Nat.le_of_ble_eq_true rfl, Nat.le_of_ble_eq_true rfl⟩ (Nat.le_of_ble_eq_true rfl) ⟨Nat.le_refl _, Nat.le_refl _⟩ dX11_roof_83 (fun H locs w => ?_)
        have hf := Option.some.inj hf
        subst hf
        exact q_iret E w hr hlk dX11_roof_86
    have hf := q_neg c25 hf
    by_cases c33 : v2 = 5
    · have hf := q_pos c33 hf
      refine lv_tableIn (off := 75) (tgt := 87) E.1 E.2.1 dX11_roof_12 (by rw [c33]; decide) (by rw [c33]; decide) (by rw [c33]; rfl) (by decide) ?_
      refine lv_aload_n E.1 E.2.1 dX11_roof_87 rfl (lv_at hl 0 rfl) ?_
      refine lv_iload_n E.1 E.2.1 dX11_roof_88 rfl (lv_at hl 2 rfl) ?_
      refine lv_bipush (v := 6) E.1 E.2.1 dX11_roof_89 rfl ?_
      refine lv_icmp_ne (tgt := 98) E.1 E.2.1 dX11_roof_91 (by decide) (fun c34 => ?_) (fun c34 => ?_)
      · have hf := q_neg c34 hf
        refine lv_iconst (v := 0) E.1 E.2.1 dX11_roof_98 rfl ?_
        obtain ⟨r36, hc35, hf⟩ := bd1_e hf
        refine k_Vi (As := [.int 0]) (rest := []) E w t_v0 ⟨by decide, rfl⟩ (X11_echoOf_c t_v0 hc35) mv_RX11_333 rfl rfl hl.1 ⟨Nat.le_of_ble_eq_true rfl, Nat.le_of_ble_eq_true rfl⟩ (Nat.le_of_ble_eq_true rfl) ⟨Nat.le_refl _, Nat.le_refl _⟩ dX11_roof_99 (fun H locs w => ?_)
        have hf := Option.some.inj hf
        subst hf
        exact q_iret E w hr hlk dX11_roof_102
      · have hf := q_pos c34 hf
        refine lv_iconst (v := 1) E.1 E.2.1 dX11_roof_94 rfl ?_
        refine lv_goto (tgt := 99) E.1 E.2.1 dX11_roof_95 (by decide) ?_
        obtain ⟨r39, hc38, hf⟩ := bd1_e hf
        refine k_Vi (As := [.int 1]) (rest := []) E w t_v0 ⟨by decide, rfl⟩ (X11_echoOf_c t_v0 hc38) mv_RX11_333 rfl rfl hl.1 ⟨Nat.le_of_ble_eq_true rfl, Nat.le_of_ble_eq_true rfl⟩ (Nat.le_of_ble_eq_true rfl) ⟨Nat.le_refl _, Nat.le_refl _⟩ dX11_roof_99 (fun H locs w => ?_)
        have hf := Option.some.inj hf
        subst hf
        exact q_iret E w hr hlk dX11_roof_102
    have hf := q_neg c33 hf
    by_cases c41 : v2 = 6
    · have hf := q_pos c41 hf
      refine lv_tableIn (off := 75) (tgt := 87) E.1 E.2.1 dX11_roof_12 (by rw [c41]; decide) (by rw [c41]; decide) (by rw [c41]; rfl) (by decide) ?_
      refine lv_aload_n E.1 E.2.1 dX11_roof_87 rfl (lv_at hl 0 rfl) ?_
      refine lv_iload_n E.1 E.2.1 dX11_roof_88 rfl (lv_at hl 2 rfl) ?_
      refine lv_bipush (v := 6) E.1 E.2.1 dX11_roof_89 rfl ?_
      refine lv_icmp_ne (tgt := 98) E.1 E.2.1 dX11_roof_91 (by decide) (fun c42 => ?_) (fun c42 => ?_)
      · have hf := q_neg c42 hf
        refine lv_iconst (v := 0) E.1 E.2.1 dX11_roof_98 rfl ?_
        obtain ⟨r44, hc43, hf⟩ := bd1_e hf
        refine k_Vi (As := [.int 0]) (rest := []) E w t_v0 ⟨by decide, rfl⟩ (X11_echoOf_c t_v0 hc43) mv_RX11_333 rfl rfl hl.1 ⟨Nat.le_of_ble_eq_true rfl, Nat.le_of_ble_eq_true rfl⟩ (Nat.le_of_ble_eq_true rfl) ⟨Nat.le_refl _, Nat.le_refl _⟩ dX11_roof_99 (fun H locs w => ?_)
        have hf := Option.some.inj hf
        subst hf
        exact q_iret E w hr hlk dX11_roof_102
      · have hf := q_pos c42 hf
        refine lv_iconst (v := 1) E.1 E.2.1 dX11_roof_94 rfl ?_
        refine lv_goto (tgt := 99) E.1 E.2.1 dX11_roof_95 (by decide) ?_
        obtain ⟨r47, hc46, hf⟩ := bd1_e hf
        refine k_Vi (As := [.int 1]) (rest := []) E w t_v0 ⟨by decide, rfl⟩ (X11_echoOf_c t_v0 hc46) mv_RX11_333 rfl rfl hl.1 ⟨Nat.le_of_ble_eq_true rfl, Nat.le_of_ble_eq_true rfl⟩ (Nat.le_of_ble_eq_true rfl) ⟨Nat.le_refl _, Nat.le_refl _⟩ dX11_roof_99 (fun H locs w => ?_)
        have hf := Option.some.inj hf
        subst hf
        exact q_iret E w hr hlk dX11_roof_102
    have hf := q_neg c41 hf
    refine lv_tableOut (tgt := 103) E.1 E.2.1 dX11_roof_12 (by have := ne_i c5 (z := 0) (by decide); have := ne_i c9 (z := 1) (by decide); have := ne_i c13 (z := 2) (by decide); have := ne_i c17 (z := 3) (by decide); have := ne_i c25 (z := 4) (by decide); have := ne_i c33 (z := 5) (by decide); have := ne_i c41 (z := 6) (by decide); omega) (by decide) ?_
    refine lv_aload_n E.1 E.2.1 dX11_roof_103 rfl (lv_at hl 0 rfl) ?_
    refine lv_iload_n E.1 E.2.1 dX11_roof_104 rfl (lv_at hl 2 rfl) ?_
    refine lv_bipush (v := 10) E.1 E.2.1 dX11_roof_105 rfl ?_
    refine lv_isub E.1 E.2.1 dX11_roof_107 ?_
    obtain ⟨r50, hc49, hf⟩ := bd1_e hf
    refine k_Vi (As := [.int (v2 - 10)]) (rest := []) E w t_v0 ⟨by decide, rfl⟩ (X11_isBar_c t_v0 hc49) mv_RX11_209 rfl rfl hl.1 ⟨Nat.le_of_ble_eq_true rfl, Nat.le_of_ble_eq_true rfl⟩ (Nat.le_of_ble_eq_true rfl) ⟨Nat.le_refl _, Nat.le_refl _⟩ dX11_roof_108 (fun H locs w => ?_)
    refine lv_if_eq (tgt := 125) E.1 E.2.1 dX11_roof_111 (by decide) (fun c52 => ?_) (fun c52 => ?_)
    · have hf := q_pos c52 hf
      refine lv_bipush (v := (-2)) E.1 E.2.1 dX11_roof_125 rfl ?_
      have hf := Option.some.inj hf
      subst hf
      exact q_iret E w hr hlk dX11_roof_127
    · have hf := q_neg c52 hf
      refine lv_aload_n E.1 E.2.1 dX11_roof_114 rfl (lv_at hl 0 rfl) ?_
      refine lv_iload_n E.1 E.2.1 dX11_roof_115 rfl (lv_at hl 2 rfl) ?_
      refine lv_bipush (v := 10) E.1 E.2.1 dX11_roof_116 rfl ?_
      refine lv_isub E.1 E.2.1 dX11_roof_118 ?_
      obtain ⟨r54, hc53, hf⟩ := bd1_e hf
      refine k_Vi (As := [.int (v2 - 10)]) (rest := []) E w t_v0 ⟨by decide, rfl⟩ (X11_roofOf_c t_v0 hc53) mv_RX11_317 rfl rfl hl.1 ⟨Nat.le_of_ble_eq_true rfl, Nat.le_of_ble_eq_true rfl⟩ (Nat.le_of_ble_eq_true rfl) ⟨Nat.le_refl _, Nat.le_refl _⟩ dX11_roof_119 (fun H locs w => ?_)
      refine lv_goto (tgt := 127) E.1 E.2.1 dX11_roof_122 (by decide) ?_
      have hf := Option.some.inj hf
      subst hf
      exact q_iret E w hr hlk dX11_roof_127
  · have hf := q_pos c4 hf
    refine lv_bipush (v := (-2)) E.1 E.2.1 dX11_roof_8 rfl ?_
    have hf := Option.some.inj hf
    subst hf
    exact q_iret E w hr hlk dX11_roof_10

def X11_sleep (N : Nat) (h : HS) (v0 : Nat) (v1 : Int32) (v2 : Int32) (v3 : Int32) : Option (Int64 × HS) := bd2 (X11_isHouse N h v0 v1) fun r2 h3 => (if r2 = 0 then some ((-1), h3) else bd1 (X11_isFloor N h3 v0 v2) fun r6 => (if r6 = 0 then some ((-1), h3) else bd1 (X11_floorsAsTold N h3 v0) fun h11 => bd1 (X11_asleep N h11 v0 v2) fun r13 => (if v3 = 0 then bd1 (X11_tens N h11 (h11.1 v0 14)) fun r17 => bd1 (X11_common N h11 r13 r17) fun r20 => (if r20 = 0 then none else some (r13 / r20, h11)) else bd1 (X11_tens N h11 (h11.1 v0 14)) fun r24 => bd1 (X11_tens N h11 (h11.1 v0 14)) fun r27 => bd1 (X11_common N h11 r13 r27) fun r30 => (if r30 = 0 then none else some (r24 / r30, h11)))))
set_option maxRecDepth 4000 in
set_option maxHeartbeats 2000000 in
theorem X11_sleep_c {l : Launch} {G : GT} {N : Nat} {h : HS} {v0 : Nat} {v1 : Int32} {v2 : Int32} {v3 : Int32} {z : (Int64 × HS)} (t_v0 : sh v0 = 11) (hf : X11_sleep N h v0 v1 v2 v3 = some z) : CT l G yX11_sleep cX11_sleep 6 (some .long) 3 66 [.ref (ad G v0), .int v1, .int v2, .int v3] h (some (.long z.1)) z.2 := by
  unfold X11_sleep at hf
  refine CT.of (by decide) (Nat.le_of_ble_eq_true rfl) ?_
  intro p e s m below meth c ls E hr hlk w hl
  have hl : lv_has ls 6 [(0, .ref (ad G v0)), (1, .int v1), (2, .int v2), (3, .int v3)] := hl
  refine lv_aload_n E.1 E.2.1 dX11_sleep_0 rfl (lv_at hl 0 rfl) ?_
  refine lv_iload_n E.1 E.2.1 dX11_sleep_1 rfl (lv_at hl 1 rfl) ?_
  obtain ⟨r2, h3, hc1, hf⟩ := bd2_e hf
  refine k_Vi (As := [.int v1]) (rest := []) E w t_v0 ⟨by decide, rfl⟩ (X11_isHouse_c t_v0 hc1) mv_RX11_197 rfl rfl hl.1 ⟨Nat.le_of_ble_eq_true rfl, Nat.le_of_ble_eq_true rfl⟩ (Nat.le_of_ble_eq_true rfl) ⟨Nat.le_refl _, Nat.le_refl _⟩ dX11_sleep_2 (fun H locs w => ?_)
  refine lv_if_eq (tgt := 16) E.1 E.2.1 dX11_sleep_5 (by decide) (fun c4 => ?_) (fun c4 => ?_)
  · have hf := q_pos c4 hf
    refine lv_ldc2 (v := (-1)) E.1 E.2.1 E.2.2.2.1 (E.2.2.2.2 _ ct_RX11_301) dX11_sleep_16 ?_
    have hf := Option.some.inj hf
    subst hf
    exact q_lret E w hr hlk dX11_sleep_19
  · have hf := q_neg c4 hf
    refine lv_aload_n E.1 E.2.1 dX11_sleep_8 rfl (lv_at hl 0 rfl) ?_
    refine lv_iload_n E.1 E.2.1 dX11_sleep_9 rfl (lv_at hl 2 rfl) ?_
    obtain ⟨r6, hc5, hf⟩ := bd1_e hf
    refine k_Vi (As := [.int v2]) (rest := []) E w t_v0 ⟨by decide, rfl⟩ (X11_isFloor_c t_v0 hc5) mv_RX11_200 rfl rfl hl.1 ⟨Nat.le_of_ble_eq_true rfl, Nat.le_of_ble_eq_true rfl⟩ (Nat.le_of_ble_eq_true rfl) ⟨Nat.le_refl _, Nat.le_refl _⟩ dX11_sleep_10 (fun H locs w => ?_)
    refine lv_if_ne (tgt := 20) E.1 E.2.1 dX11_sleep_13 (by decide) (fun c8 => ?_) (fun c8 => ?_)
    · have hf := q_neg c8 hf
      refine lv_aload_n E.1 E.2.1 dX11_sleep_20 rfl (lv_at hl 0 rfl) ?_
      obtain ⟨h11, hc9, hf⟩ := bd1_e hf
      refine k_Vv (As := []) (rest := []) E w t_v0 ⟨by decide, rfl⟩ (X11_floorsAsTold_c t_v0 hc9) mv_RX11_303 rfl rfl hl.1 ⟨Nat.le_of_ble_eq_true rfl, Nat.le_of_ble_eq_true rfl⟩ (Nat.le_of_ble_eq_true rfl) ⟨Nat.le_refl _, Nat.le_refl _⟩ dX11_sleep_21 (fun H locs w => ?_)
      refine lv_aload_n E.1 E.2.1 dX11_sleep_24 rfl (lv_at hl 0 rfl) ?_
      refine lv_iload_n E.1 E.2.1 dX11_sleep_25 rfl (lv_at hl 2 rfl) ?_
      obtain ⟨r13, hc12, hf⟩ := bd1_e hf
      refine k_Vl (As := [.int v2]) (rest := []) E w t_v0 ⟨by decide, rfl⟩ (X11_asleep_c t_v0 hc12) mv_RX11_298 rfl rfl hl.1 ⟨Nat.le_of_ble_eq_true rfl, Nat.le_of_ble_eq_true rfl⟩ (Nat.le_of_ble_eq_true rfl) ⟨Nat.le_refl _, Nat.le_refl _⟩ dX11_sleep_26 (fun H locs w => ?_)
      refine lv_lstore (lv' := [(4, .long r13), (0, .ref (ad G v0)), (1, .int v1), (2, .int v2), (3, .int v3)]) E.1 E.2.1 dX11_sleep_29 hl (by decide) rfl (fun ls hl => ?_)
      refine lv_iload_n E.1 E.2.1 dX11_sleep_31 rfl (lv_at hl 4 rfl) ?_
      refine lv_if_eq (tgt := 45) E.1 E.2.1 dX11_sleep_32 (by decide) (fun c15 => ?_) (fun c15 => ?_)
      · have hf := q_pos c15 hf
        refine lv_lload E.1 E.2.1 dX11_sleep_45 (lv_at hl 0 rfl) ?_
        refine lv_lload E.1 E.2.1 dX11_sleep_47 (lv_at hl 0 rfl) ?_
        refine lv_aload_n E.1 E.2.1 dX11_sleep_49 rfl (lv_at hl 1 rfl) ?_
        refine q_gi E w t_v0 fl_RX11_188 dX11_sleep_50 ?_
        obtain ⟨r17, hc16, hf⟩ := bd1_e hf
        refine k_Sl (As := [.int (h11.1 v0 14)]) (rest := [.long r13, .long r13]) E w (X11_tens_c  hc16) ms_RX11_294 rfl rfl hl.1 ⟨Nat.le_of_ble_eq_true rfl, Nat.le_of_ble_eq_true rfl⟩ (Nat.le_of_ble_eq_true rfl) ⟨Nat.le_refl _, Nat.le_refl _⟩ dX11_sleep_53 (fun H locs w => ?_)
        obtain ⟨r20, hc19, hf⟩ := bd1_e hf
        refine k_Sl (As := [.long r13, .long r17]) (rest := [.long r13]) E w (X11_common_c  hc19) ms_RX11_310 rfl rfl hl.1 ⟨Nat.le_of_ble_eq_true rfl, Nat.le_of_ble_eq_true rfl⟩ (Nat.le_of_ble_eq_true rfl) ⟨Nat.le_refl _, Nat.le_refl _⟩ dX11_sleep_56 (fun H locs w => ?_)
        obtain ⟨z22, hf⟩ := q_if hf
        refine lv_ldiv E.1 E.2.1 dX11_sleep_59 z22 ?_
        have hf := Option.some.inj hf
        subst hf
        exact q_lret E w hr hlk dX11_sleep_60
      · have hf := q_neg c15 hf
        refine lv_aload_n E.1 E.2.1 dX11_sleep_35 rfl (lv_at hl 1 rfl) ?_
        refine q_gi E w t_v0 fl_RX11_188 dX11_sleep_36 ?_
        obtain ⟨r24, hc23, hf⟩ := bd1_e hf
        refine k_Sl (As := [.int (h11.1 v0 14)]) (rest := []) E w (X11_tens_c  hc23) ms_RX11_294 rfl rfl hl.1 ⟨Nat.le_of_ble_eq_true rfl, Nat.le_of_ble_eq_true rfl⟩ (Nat.le_of_ble_eq_true rfl) ⟨Nat.le_refl _, Nat.le_refl _⟩ dX11_sleep_39 (fun H locs w => ?_)
        refine lv_goto (tgt := 47) E.1 E.2.1 dX11_sleep_42 (by decide) ?_
        refine lv_lload E.1 E.2.1 dX11_sleep_47 (lv_at hl 0 rfl) ?_
        refine lv_aload_n E.1 E.2.1 dX11_sleep_49 rfl (lv_at hl 1 rfl) ?_
        refine q_gi E w t_v0 fl_RX11_188 dX11_sleep_50 ?_
        obtain ⟨r27, hc26, hf⟩ := bd1_e hf
        refine k_Sl (As := [.int (h11.1 v0 14)]) (rest := [.long r13, .long r24]) E w (X11_tens_c  hc26) ms_RX11_294 rfl rfl hl.1 ⟨Nat.le_of_ble_eq_true rfl, Nat.le_of_ble_eq_true rfl⟩ (Nat.le_of_ble_eq_true rfl) ⟨Nat.le_refl _, Nat.le_refl _⟩ dX11_sleep_53 (fun H locs w => ?_)
        obtain ⟨r30, hc29, hf⟩ := bd1_e hf
        refine k_Sl (As := [.long r13, .long r27]) (rest := [.long r24]) E w (X11_common_c  hc29) ms_RX11_310 rfl rfl hl.1 ⟨Nat.le_of_ble_eq_true rfl, Nat.le_of_ble_eq_true rfl⟩ (Nat.le_of_ble_eq_true rfl) ⟨Nat.le_refl _, Nat.le_refl _⟩ dX11_sleep_56 (fun H locs w => ?_)
        obtain ⟨z32, hf⟩ := q_if hf
        refine lv_ldiv E.1 E.2.1 dX11_sleep_59 z32 ?_
        have hf := Option.some.inj hf
        subst hf
        exact q_lret E w hr hlk dX11_sleep_60
    · have hf := q_pos c8 hf
      refine lv_ldc2 (v := (-1)) E.1 E.2.1 E.2.2.2.1 (E.2.2.2.2 _ ct_RX11_301) dX11_sleep_16 ?_
      have hf := Option.some.inj hf
      subst hf
      exact q_lret E w hr hlk dX11_sleep_19

def X11_census_b104 (N : Nat) (h : HS) (v0 : Nat) (v3 : Int32) (u0 : Int64) : Option (Int64 × HS) := (if v3 = 0 then bd1 (X11_tens N h (h.1 v0 14)) fun r23 => bd1 (X11_common N h u0 r23) fun r26 => (if r26 = 0 then none else some (u0 / r26, h)) else bd1 (X11_tens N h (h.1 v0 14)) fun r30 => bd1 (X11_tens N h (h.1 v0 14)) fun r33 => bd1 (X11_common N h u0 r33) fun r36 => (if r36 = 0 then none else some (r30 / r36, h)))
set_option maxRecDepth 4000 in
set_option maxHeartbeats 2000000 in
theorem X11_census_b104_w {p : Program} {l : Launch} {e : Env} {s : State} {m : MethodId} {args : Array Value} {below : List Frame} {meth : Method} {c : Code} {G : GT} {N : Nat} {z : (Int64 × HS)} {h : HS} (E : CallFix p m c cX11_census 7 s args UW RX11) (hr : meth.sig.returnType = (some .long)) (hlk : meth.locks = false) {H : Heap} {locs : List Loc} {ls : Array Slot} {v0 : Nat} {v3 : Int32} {u0 : Int64} (hf : X11_census_b104 N h v0 v3 u0 = some z) (w : WD G s h H locs) (t_v0 : sh v0 = 11) (hl : lv_has ls 7 [(0, .ref (ad G v0)), (3, .int v3)]) : W p l e ({ frames := 3, cells := 0, slots := 0, locals := 66 } : Room) s m args below meth c H locs 0 0 (MQ below (QC G (some (.long z.1)) z.2) args s 0 0 (AD G)) (F0 m 104 ls [.long u0]) := by
  unfold X11_census_b104 at hf
  refine lv_lstore (lv' := [(5, .long u0), (0, .ref (ad G v0)), (3, .int v3)]) E.1 E.2.1 dX11_census_104 hl (by decide) rfl (fun ls hl => ?_)
  refine lv_iload_n E.1 E.2.1 dX11_census_106 rfl (lv_at hl 2 rfl) ?_
  refine lv_if_eq (tgt := 120) E.1 E.2.1 dX11_census_107 (by decide) (fun c21 => ?_) (fun c21 => ?_)
  · have hf := q_pos c21 hf
    refine lv_lload E.1 E.2.1 dX11_census_120 (lv_at hl 0 rfl) ?_
    refine lv_lload E.1 E.2.1 dX11_census_122 (lv_at hl 0 rfl) ?_
    refine lv_aload_n E.1 E.2.1 dX11_census_124 rfl (lv_at hl 1 rfl) ?_
    refine q_gi E w t_v0 fl_RX11_188 dX11_census_125 ?_
    obtain ⟨r23, hc22, hf⟩ := bd1_e hf
    refine k_Sl (As := [.int (h.1 v0 14)]) (rest := [.long u0, .long u0]) E w (X11_tens_c  hc22) ms_RX11_294 rfl rfl hl.1 ⟨Nat.le_of_ble_eq_true rfl, Nat.le_of_ble_eq_true rfl⟩ (Nat.le_of_ble_eq_true rfl) ⟨Nat.le_refl _, Nat.le_refl _⟩ dX11_census_128 (fun H locs w => ?_)
    obtain ⟨r26, hc25, hf⟩ := bd1_e hf
    refine k_Sl (As := [.long u0, .long r23]) (rest := [.long u0]) E w (X11_common_c  hc25) ms_RX11_310 rfl rfl hl.1 ⟨Nat.le_of_ble_eq_true rfl, Nat.le_of_ble_eq_true rfl⟩ (Nat.le_of_ble_eq_true rfl) ⟨Nat.le_refl _, Nat.le_refl _⟩ dX11_census_131 (fun H locs w => ?_)
    obtain ⟨z28, hf⟩ := q_if hf
    refine lv_ldiv E.1 E.2.1 dX11_census_134 z28 ?_
    have hf := Option.some.inj hf
    subst hf
    exact q_lret E w hr hlk dX11_census_135
  · have hf := q_neg c21 hf
    refine lv_aload_n E.1 E.2.1 dX11_census_110 rfl (lv_at hl 1 rfl) ?_
    refine q_gi E w t_v0 fl_RX11_188 dX11_census_111 ?_
    obtain ⟨r30, hc29, hf⟩ := bd1_e hf
    refine k_Sl (As := [.int (h.1 v0 14)]) (rest := []) E w (X11_tens_c  hc29) ms_RX11_294 rfl rfl hl.1 ⟨Nat.le_of_ble_eq_true rfl, Nat.le_of_ble_eq_true rfl⟩ (Nat.le_of_ble_eq_true rfl) ⟨Nat.le_refl _, Nat.le_refl _⟩ dX11_census_114 (fun H locs w => ?_)
    refine lv_goto (tgt := 122) E.1 E.2.1 dX11_census_117 (by decide) ?_
    refine lv_lload E.1 E.2.1 dX11_census_122 (lv_at hl 0 rfl) ?_
    refine lv_aload_n E.1 E.2.1 dX11_census_124 rfl (lv_at hl 1 rfl) ?_
    refine q_gi E w t_v0 fl_RX11_188 dX11_census_125 ?_
    obtain ⟨r33, hc32, hf⟩ := bd1_e hf
    refine k_Sl (As := [.int (h.1 v0 14)]) (rest := [.long u0, .long r30]) E w (X11_tens_c  hc32) ms_RX11_294 rfl rfl hl.1 ⟨Nat.le_of_ble_eq_true rfl, Nat.le_of_ble_eq_true rfl⟩ (Nat.le_of_ble_eq_true rfl) ⟨Nat.le_refl _, Nat.le_refl _⟩ dX11_census_128 (fun H locs w => ?_)
    obtain ⟨r36, hc35, hf⟩ := bd1_e hf
    refine k_Sl (As := [.long u0, .long r33]) (rest := [.long r30]) E w (X11_common_c  hc35) ms_RX11_310 rfl rfl hl.1 ⟨Nat.le_of_ble_eq_true rfl, Nat.le_of_ble_eq_true rfl⟩ (Nat.le_of_ble_eq_true rfl) ⟨Nat.le_refl _, Nat.le_refl _⟩ dX11_census_131 (fun H locs w => ?_)
    obtain ⟨z38, hf⟩ := q_if hf
    refine lv_ldiv E.1 E.2.1 dX11_census_134 z38 ?_
    have hf := Option.some.inj hf
    subst hf
    exact q_lret E w hr hlk dX11_census_135

def X11_census_l32 (N : Nat) : Nat → HS → Nat → Int32 → Int32 → Int32 → Int32 → Option (Int64 × HS)
  | 0, _, _, _, _, _, _ => none
  | n + 1, h, v0, v2, v3, v4, v5 => (if (h.1 v0 13) ≤ v5 then (if v2 = 0 then bd1 (X11_tens N h (h.1 v0 14)) fun r40 => X11_census_b104 N h v0 v3 r40 else (if v4 = ((-1) : Int32) then X11_census_b104 N h v0 v3 0 else bd1 (X11_tens N h (h.1 v0 14)) fun r16 => bd1 (X11_asleep N h v0 v4) fun r19 => X11_census_b104 N h v0 v3 (r16 - r19))) else bd1 (X11_upFrom N h v0 v5) fun r43 => (if r43 < v2 then X11_census_l32 N n h v0 v2 v3 v4 (v5 + 1) else X11_census_l32 N n h v0 v2 v3 v5 (v5 + 1)))
set_option maxRecDepth 4000 in
set_option maxHeartbeats 2000000 in
theorem X11_census_l32_w {p : Program} {l : Launch} {e : Env} {s : State} {m : MethodId} {args : Array Value} {below : List Frame} {meth : Method} {c : Code} {G : GT} {N : Nat} {z : (Int64 × HS)} (E : CallFix p m c cX11_census 7 s args UW RX11) (hr : meth.sig.returnType = (some .long)) (hlk : meth.locks = false) : ∀ (n : Nat) (h : HS) (H : Heap) (locs : List Loc) (ls : Array Slot) (v0 : Nat) (v2 : Int32) (v3 : Int32) (v4 : Int32) (v5 : Int32), X11_census_l32 N n h v0 v2 v3 v4 v5 = some z → WD G s h H locs → sh v0 = 11 → lv_has ls 7 [(0, .ref (ad G v0)), (2, .int v2), (3, .int v3), (4, .int v4), (5, .int v5)] → W p l e ({ frames := 3, cells := 0, slots := 0, locals := 66 } : Room) s m args below meth c H locs 0 0 (MQ below (QC G (some (.long z.1)) z.2) args s 0 0 (AD G)) (F0 m 32 ls []) := by
  intro n
  induction n with
  | zero =>
    intro h H locs ls v0 v2 v3 v4 v5 hf
    cases hf
  | succ n ih =>
    intro h H locs ls v0 v2 v3 v4 v5 hf w t_v0 hl
    unfold X11_census_l32 at hf
    refine lv_iload E.1 E.2.1 dX11_census_32 (lv_at hl 4 rfl) ?_
    refine lv_aload_n E.1 E.2.1 dX11_census_34 rfl (lv_at hl 0 rfl) ?_
    refine q_gi E w t_v0 fl_RX11_185 dX11_census_35 ?_
    refine lv_icmp_ge (tgt := 66) E.1 E.2.1 dX11_census_38 (by decide) (fun c12 => ?_) (fun c12 => ?_)
    · have hf := q_pos c12 hf
      refine lv_iload_n E.1 E.2.1 dX11_census_66 rfl (lv_at hl 1 rfl) ?_
      refine lv_if_ne (tgt := 80) E.1 E.2.1 dX11_census_67 (by decide) (fun c13 => ?_) (fun c13 => ?_)
      · have hf := q_neg c13 hf
        refine lv_iload E.1 E.2.1 dX11_census_80 (lv_at hl 3 rfl) ?_
        refine lv_iconst (v := (-1)) E.1 E.2.1 dX11_census_82 rfl ?_
        refine lv_icmp_ne (tgt := 90) E.1 E.2.1 dX11_census_83 (by decide) (fun c14 => ?_) (fun c14 => ?_)
        · have hf := q_neg c14 hf
          refine lv_aload_n E.1 E.2.1 dX11_census_90 rfl (lv_at hl 0 rfl) ?_
          refine q_gi E w t_v0 fl_RX11_188 dX11_census_91 ?_
          obtain ⟨r16, hc15, hf⟩ := bd1_e hf
          refine k_Sl (As := [.int (h.1 v0 14)]) (rest := []) E w (X11_tens_c  hc15) ms_RX11_294 rfl rfl hl.1 ⟨Nat.le_of_ble_eq_true rfl, Nat.le_of_ble_eq_true rfl⟩ (Nat.le_of_ble_eq_true rfl) ⟨Nat.le_refl _, Nat.le_refl _⟩ dX11_census_94 (fun H locs w => ?_)
          refine lv_aload_n E.1 E.2.1 dX11_census_97 rfl (lv_at hl 0 rfl) ?_
          refine lv_iload E.1 E.2.1 dX11_census_98 (lv_at hl 3 rfl) ?_
          obtain ⟨r19, hc18, hf⟩ := bd1_e hf
          refine k_Vl (As := [.int v4]) (rest := [.long r16]) E w t_v0 ⟨by decide, rfl⟩ (X11_asleep_c t_v0 hc18) mv_RX11_298 rfl rfl hl.1 ⟨Nat.le_of_ble_eq_true rfl, Nat.le_of_ble_eq_true rfl⟩ (Nat.le_of_ble_eq_true rfl) ⟨Nat.le_refl _, Nat.le_refl _⟩ dX11_census_100 (fun H locs w => ?_)
          refine lv_lsub E.1 E.2.1 dX11_census_103 ?_
          exact X11_census_b104_w E hr hlk hf w t_v0 (lv_sub hl [0, 2] rfl)
        · have hf := q_pos c14 hf
          refine lv_lconst (v := 0) E.1 E.2.1 dX11_census_86 rfl ?_
          refine lv_goto (tgt := 104) E.1 E.2.1 dX11_census_87 (by decide) ?_
          exact X11_census_b104_w E hr hlk hf w t_v0 (lv_sub hl [0, 2] rfl)
      · have hf := q_pos c13 hf
        refine lv_aload_n E.1 E.2.1 dX11_census_70 rfl (lv_at hl 0 rfl) ?_
        refine q_gi E w t_v0 fl_RX11_188 dX11_census_71 ?_
        obtain ⟨r40, hc39, hf⟩ := bd1_e hf
        refine k_Sl (As := [.int (h.1 v0 14)]) (rest := []) E w (X11_tens_c  hc39) ms_RX11_294 rfl rfl hl.1 ⟨Nat.le_of_ble_eq_true rfl, Nat.le_of_ble_eq_true rfl⟩ (Nat.le_of_ble_eq_true rfl) ⟨Nat.le_refl _, Nat.le_refl _⟩ dX11_census_74 (fun H locs w => ?_)
        refine lv_goto (tgt := 104) E.1 E.2.1 dX11_census_77 (by decide) ?_
        exact X11_census_b104_w E hr hlk hf w t_v0 (lv_sub hl [0, 2] rfl)
    · have hf := q_neg c12 hf
      refine lv_aload_n E.1 E.2.1 dX11_census_41 rfl (lv_at hl 0 rfl) ?_
      refine lv_iload E.1 E.2.1 dX11_census_42 (lv_at hl 4 rfl) ?_
      obtain ⟨r43, hc42, hf⟩ := bd1_e hf
      refine k_Vi (As := [.int v5]) (rest := []) E w t_v0 ⟨by decide, rfl⟩ (X11_upFrom_c t_v0 hc42) mv_RX11_314 rfl rfl hl.1 ⟨Nat.le_of_ble_eq_true rfl, Nat.le_of_ble_eq_true rfl⟩ (Nat.le_of_ble_eq_true rfl) ⟨Nat.le_refl _, Nat.le_refl _⟩ dX11_census_44 (fun H locs w => ?_)
      refine lv_iload_n E.1 E.2.1 dX11_census_47 rfl (lv_at hl 1 rfl) ?_
      refine lv_icmp_lt (tgt := 56) E.1 E.2.1 dX11_census_48 (by decide) (fun c45 => ?_) (fun c45 => ?_)
      · have hf := q_pos c45 hf
        refine lv_iload E.1 E.2.1 dX11_census_56 (lv_at hl 3 rfl) ?_
        refine lv_istore (lv' := [(4, .int v4), (0, .ref (ad G v0)), (2, .int v2), (3, .int v3), (5, .int v5)]) E.1 E.2.1 dX11_census_58 hl (by decide) rfl (fun ls hl => ?_)
        refine lv_iinc (v := v5 + 1) (lv' := [(5, .int (v5 + 1)), (4, .int v4), (0, .ref (ad G v0)), (2, .int v2), (3, .int v3)]) E.1 E.2.1 dX11_census_60 hl (k := 4) rfl rfl (by decide) rfl (fun ls hl => ?_)
        refine lv_goto (tgt := 32) E.1 E.2.1 dX11_census_63 (by decide) ?_
        exact ih _ _ _ _ _ _ _ _ _ hf w t_v0 (lv_sub hl [2, 3, 4, 1, 0] rfl)
      · have hf := q_neg c45 hf
        refine lv_iload E.1 E.2.1 dX11_census_51 (lv_at hl 4 rfl) ?_
        refine lv_goto (tgt := 58) E.1 E.2.1 dX11_census_53 (by decide) ?_
        refine lv_istore (lv' := [(4, .int v5), (0, .ref (ad G v0)), (2, .int v2), (3, .int v3), (5, .int v5)]) E.1 E.2.1 dX11_census_58 hl (by decide) rfl (fun ls hl => ?_)
        refine lv_iinc (v := v5 + 1) (lv' := [(5, .int (v5 + 1)), (4, .int v5), (0, .ref (ad G v0)), (2, .int v2), (3, .int v3)]) E.1 E.2.1 dX11_census_60 hl (k := 4) rfl rfl (by decide) rfl (fun ls hl => ?_)
        refine lv_goto (tgt := 32) E.1 E.2.1 dX11_census_63 (by decide) ?_
        exact ih _ _ _ _ _ _ _ _ _ hf w t_v0 (lv_sub hl [2, 3, 4, 1, 0] rfl)

def X11_census (N : Nat) (h : HS) (v0 : Nat) (v1 : Int32) (v2 : Int32) (v3 : Int32) : Option (Int64 × HS) := bd2 (X11_isHouse N h v0 v1) fun r2 h3 => (if r2 = 0 then some ((-1), h3) else bd1 (X11_isIn N h3 v2 0 54) fun r6 => (if r6 = 0 then some ((-1), h3) else bd1 (X11_floorsAsTold N h3 v0) fun h11 => X11_census_l32 N N h11 v0 v2 v3 (-1) 0))
set_option maxRecDepth 4000 in
set_option maxHeartbeats 2000000 in
theorem X11_census_c {l : Launch} {G : GT} {N : Nat} {h : HS} {v0 : Nat} {v1 : Int32} {v2 : Int32} {v3 : Int32} {z : (Int64 × HS)} (t_v0 : sh v0 = 11) (hf : X11_census N h v0 v1 v2 v3 = some z) : CT l G yX11_census cX11_census 7 (some .long) 3 66 [.ref (ad G v0), .int v1, .int v2, .int v3] h (some (.long z.1)) z.2 := by
  unfold X11_census at hf
  refine CT.of (by decide) (Nat.le_of_ble_eq_true rfl) ?_
  intro p e s m below meth c ls E hr hlk w hl
  have hl : lv_has ls 7 [(0, .ref (ad G v0)), (1, .int v1), (2, .int v2), (3, .int v3)] := hl
  refine lv_aload_n E.1 E.2.1 dX11_census_0 rfl (lv_at hl 0 rfl) ?_
  refine lv_iload_n E.1 E.2.1 dX11_census_1 rfl (lv_at hl 1 rfl) ?_
  obtain ⟨r2, h3, hc1, hf⟩ := bd2_e hf
  refine k_Vi (As := [.int v1]) (rest := []) E w t_v0 ⟨by decide, rfl⟩ (X11_isHouse_c t_v0 hc1) mv_RX11_197 rfl rfl hl.1 ⟨Nat.le_of_ble_eq_true rfl, Nat.le_of_ble_eq_true rfl⟩ (Nat.le_of_ble_eq_true rfl) ⟨Nat.le_refl _, Nat.le_refl _⟩ dX11_census_2 (fun H locs w => ?_)
  refine lv_if_eq (tgt := 18) E.1 E.2.1 dX11_census_5 (by decide) (fun c4 => ?_) (fun c4 => ?_)
  · have hf := q_pos c4 hf
    refine lv_ldc2 (v := (-1)) E.1 E.2.1 E.2.2.2.1 (E.2.2.2.2 _ ct_RX11_301) dX11_census_18 ?_
    have hf := Option.some.inj hf
    subst hf
    exact q_lret E w hr hlk dX11_census_21
  · have hf := q_neg c4 hf
    refine lv_iload_n E.1 E.2.1 dX11_census_8 rfl (lv_at hl 2 rfl) ?_
    refine lv_iconst (v := 0) E.1 E.2.1 dX11_census_9 rfl ?_
    refine lv_bipush (v := 54) E.1 E.2.1 dX11_census_10 rfl ?_
    obtain ⟨r6, hc5, hf⟩ := bd1_e hf
    refine k_Si (As := [.int v2, .int 0, .int 54]) (rest := []) E w (X11_isIn_c  hc5) ms_RX11_123 rfl rfl hl.1 ⟨Nat.le_of_ble_eq_true rfl, Nat.le_of_ble_eq_true rfl⟩ (Nat.le_of_ble_eq_true rfl) ⟨Nat.le_refl _, Nat.le_refl _⟩ dX11_census_12 (fun H locs w => ?_)
    refine lv_if_ne (tgt := 22) E.1 E.2.1 dX11_census_15 (by decide) (fun c8 => ?_) (fun c8 => ?_)
    · have hf := q_neg c8 hf
      refine lv_aload_n E.1 E.2.1 dX11_census_22 rfl (lv_at hl 0 rfl) ?_
      obtain ⟨h11, hc9, hf⟩ := bd1_e hf
      refine k_Vv (As := []) (rest := []) E w t_v0 ⟨by decide, rfl⟩ (X11_floorsAsTold_c t_v0 hc9) mv_RX11_303 rfl rfl hl.1 ⟨Nat.le_of_ble_eq_true rfl, Nat.le_of_ble_eq_true rfl⟩ (Nat.le_of_ble_eq_true rfl) ⟨Nat.le_refl _, Nat.le_refl _⟩ dX11_census_23 (fun H locs w => ?_)
      refine lv_iconst (v := (-1)) E.1 E.2.1 dX11_census_26 rfl ?_
      refine lv_istore (lv' := [(4, .int (-1)), (0, .ref (ad G v0)), (1, .int v1), (2, .int v2), (3, .int v3)]) E.1 E.2.1 dX11_census_27 hl (by decide) rfl (fun ls hl => ?_)
      refine lv_iconst (v := 0) E.1 E.2.1 dX11_census_29 rfl ?_
      refine lv_istore (lv' := [(5, .int 0), (4, .int (-1)), (0, .ref (ad G v0)), (1, .int v1), (2, .int v2), (3, .int v3)]) E.1 E.2.1 dX11_census_30 hl (by decide) rfl (fun ls hl => ?_)
      exact X11_census_l32_w E hr hlk N _ _ _ _ _ _ _ _ _ hf w t_v0 (lv_sub hl [2, 4, 5, 1, 0] rfl)
    · have hf := q_pos c8 hf
      refine lv_ldc2 (v := (-1)) E.1 E.2.1 E.2.2.2.1 (E.2.2.2.2 _ ct_RX11_301) dX11_census_18 ?_
      have hf := Option.some.inj hf
      subst hf
      exact q_lret E w hr hlk dX11_census_21

def X11_move_l34 (N : Nat) : Nat → HS → Nat → Int32 → Int32 → Int32 → Int32 → Option (Int32 × HS)
  | 0, _, _, _, _, _, _ => none
  | n + 1, h, v0, v2, v3, v4, v5 => (if (h.1 v0 14) ≤ v5 then some (v4, h) else bd1 (X11_noteOf N h v0 v5) fun r15 => (if r15 ≤ 0 then X11_move_l34 N n h v0 v2 v3 (v4 + 0) (v5 + 1) else bd1 (X11_floorOf N h v0 v5) fun r19 => (if r19 = v2 then bd1 (X11_upFrom N h v0 v3) fun r23 => bd1 (X11_upFrom N h v0 v2) fun r26 => X11_move_l34 N n h v0 v2 v3 (v4 + (r23 - r26)) (v5 + 1) else X11_move_l34 N n h v0 v2 v3 (v4 + 0) (v5 + 1))))
set_option maxRecDepth 4000 in
set_option maxHeartbeats 2000000 in
theorem X11_move_l34_w {p : Program} {l : Launch} {e : Env} {s : State} {m : MethodId} {args : Array Value} {below : List Frame} {meth : Method} {c : Code} {G : GT} {N : Nat} {z : (Int32 × HS)} (E : CallFix p m c cX11_move 6 s args UW RX11) (hr : meth.sig.returnType = (some .int)) (hlk : meth.locks = false) : ∀ (n : Nat) (h : HS) (H : Heap) (locs : List Loc) (ls : Array Slot) (v0 : Nat) (v2 : Int32) (v3 : Int32) (v4 : Int32) (v5 : Int32), X11_move_l34 N n h v0 v2 v3 v4 v5 = some z → WD G s h H locs → sh v0 = 11 → lv_has ls 6 [(0, .ref (ad G v0)), (2, .int v2), (3, .int v3), (4, .int v4), (5, .int v5)] → W p l e ({ frames := 3, cells := 0, slots := 0, locals := 65 } : Room) s m args below meth c H locs 0 0 (MQ below (QC G (some (.int z.1)) z.2) args s 0 0 (AD G)) (F0 m 34 ls []) := by
  intro n
  induction n with
  | zero =>
    intro h H locs ls v0 v2 v3 v4 v5 hf
    cases hf
  | succ n ih =>
    intro h H locs ls v0 v2 v3 v4 v5 hf w t_v0 hl
    unfold X11_move_l34 at hf
    refine lv_iload E.1 E.2.1 dX11_move_34 (lv_at hl 4 rfl) ?_
    refine lv_aload_n E.1 E.2.1 dX11_move_36 rfl (lv_at hl 0 rfl) ?_
    refine q_gi E w t_v0 fl_RX11_188 dX11_move_37 ?_
    refine lv_icmp_ge (tgt := 88) E.1 E.2.1 dX11_move_40 (by decide) (fun c13 => ?_) (fun c13 => ?_)
    · have hf := q_pos c13 hf
      refine lv_iload E.1 E.2.1 dX11_move_88 (lv_at hl 3 rfl) ?_
      have hf := Option.some.inj hf
      subst hf
      exact q_iret E w hr hlk dX11_move_90
    · have hf := q_neg c13 hf
      refine lv_iload E.1 E.2.1 dX11_move_43 (lv_at hl 3 rfl) ?_
      refine lv_aload_n E.1 E.2.1 dX11_move_45 rfl (lv_at hl 0 rfl) ?_
      refine lv_iload E.1 E.2.1 dX11_move_46 (lv_at hl 4 rfl) ?_
      obtain ⟨r15, hc14, hf⟩ := bd1_e hf
      refine k_Vi (As := [.int v5]) (rest := [.int v4]) E w t_v0 ⟨by decide, rfl⟩ (X11_noteOf_c t_v0 hc14) mv_RX11_194 rfl rfl hl.1 ⟨Nat.le_of_ble_eq_true rfl, Nat.le_of_ble_eq_true rfl⟩ (Nat.le_of_ble_eq_true rfl) ⟨Nat.le_refl _, Nat.le_refl _⟩ dX11_move_48 (fun H locs w => ?_)
      refine lv_if_le (tgt := 78) E.1 E.2.1 dX11_move_51 (by decide) (fun c17 => ?_) (fun c17 => ?_)
      · have hf := q_pos c17 hf
        refine lv_iconst (v := 0) E.1 E.2.1 dX11_move_78 rfl ?_
        refine lv_iadd E.1 E.2.1 dX11_move_79 ?_
        refine lv_istore (lv' := [(4, .int (v4 + 0)), (0, .ref (ad G v0)), (2, .int v2), (3, .int v3), (5, .int v5)]) E.1 E.2.1 dX11_move_80 hl (by decide) rfl (fun ls hl => ?_)
        refine lv_iinc (v := v5 + 1) (lv' := [(5, .int (v5 + 1)), (4, .int (v4 + 0)), (0, .ref (ad G v0)), (2, .int v2), (3, .int v3)]) E.1 E.2.1 dX11_move_82 hl (k := 4) rfl rfl (by decide) rfl (fun ls hl => ?_)
        refine lv_goto (tgt := 34) E.1 E.2.1 dX11_move_85 (by decide) ?_
        exact ih _ _ _ _ _ _ _ _ _ hf w t_v0 (lv_sub hl [2, 3, 4, 1, 0] rfl)
      · have hf := q_neg c17 hf
        refine lv_aload_n E.1 E.2.1 dX11_move_54 rfl (lv_at hl 0 rfl) ?_
        refine lv_iload E.1 E.2.1 dX11_move_55 (lv_at hl 4 rfl) ?_
        obtain ⟨r19, hc18, hf⟩ := bd1_e hf
        refine k_Vi (As := [.int v5]) (rest := [.int v4]) E w t_v0 ⟨by decide, rfl⟩ (X11_floorOf_c t_v0 hc18) mv_RX11_265 rfl rfl hl.1 ⟨Nat.le_of_ble_eq_true rfl, Nat.le_of_ble_eq_true rfl⟩ (Nat.le_of_ble_eq_true rfl) ⟨Nat.le_refl _, Nat.le_refl _⟩ dX11_move_57 (fun H locs w => ?_)
        refine lv_iload_n E.1 E.2.1 dX11_move_60 rfl (lv_at hl 1 rfl) ?_
        refine lv_icmp_ne (tgt := 78) E.1 E.2.1 dX11_move_61 (by decide) (fun c21 => ?_) (fun c21 => ?_)
        · have hf := q_neg c21 hf
          refine lv_iconst (v := 0) E.1 E.2.1 dX11_move_78 rfl ?_
          refine lv_iadd E.1 E.2.1 dX11_move_79 ?_
          refine lv_istore (lv' := [(4, .int (v4 + 0)), (0, .ref (ad G v0)), (2, .int v2), (3, .int v3), (5, .int v5)]) E.1 E.2.1 dX11_move_80 hl (by decide) rfl (fun ls hl => ?_)
          refine lv_iinc (v := v5 + 1) (lv' := [(5, .int (v5 + 1)), (4, .int (v4 + 0)), (0, .ref (ad G v0)), (2, .int v2), (3, .int v3)]) E.1 E.2.1 dX11_move_82 hl (k := 4) rfl rfl (by decide) rfl (fun ls hl => ?_)
          refine lv_goto (tgt := 34) E.1 E.2.1 dX11_move_85 (by decide) ?_
          exact ih _ _ _ _ _ _ _ _ _ hf w t_v0 (lv_sub hl [2, 3, 4, 1, 0] rfl)
        · have hf := q_pos c21 hf
          refine lv_aload_n E.1 E.2.1 dX11_move_64 rfl (lv_at hl 0 rfl) ?_
          refine lv_iload_n E.1 E.2.1 dX11_move_65 rfl (lv_at hl 2 rfl) ?_
          obtain ⟨r23, hc22, hf⟩ := bd1_e hf
          refine k_Vi (As := [.int v3]) (rest := [.int v4]) E w t_v0 ⟨by decide, rfl⟩ (X11_upFrom_c t_v0 hc22) mv_RX11_314 rfl rfl hl.1 ⟨Nat.le_of_ble_eq_true rfl, Nat.le_of_ble_eq_true rfl⟩ (Nat.le_of_ble_eq_true rfl) ⟨Nat.le_refl _, Nat.le_refl _⟩ dX11_move_66 (fun H locs w => ?_)
          refine lv_aload_n E.1 E.2.1 dX11_move_69 rfl (lv_at hl 0 rfl) ?_
          refine lv_iload_n E.1 E.2.1 dX11_move_70 rfl (lv_at hl 1 rfl) ?_
          obtain ⟨r26, hc25, hf⟩ := bd1_e hf
          refine k_Vi (As := [.int v2]) (rest := [.int r23, .int v4]) E w t_v0 ⟨by decide, rfl⟩ (X11_upFrom_c t_v0 hc25) mv_RX11_314 rfl rfl hl.1 ⟨Nat.le_of_ble_eq_true rfl, Nat.le_of_ble_eq_true rfl⟩ (Nat.le_of_ble_eq_true rfl) ⟨Nat.le_refl _, Nat.le_refl _⟩ dX11_move_71 (fun H locs w => ?_)
          refine lv_isub E.1 E.2.1 dX11_move_74 ?_
          refine lv_goto (tgt := 79) E.1 E.2.1 dX11_move_75 (by decide) ?_
          refine lv_iadd E.1 E.2.1 dX11_move_79 ?_
          refine lv_istore (lv' := [(4, .int (v4 + (r23 - r26))), (0, .ref (ad G v0)), (2, .int v2), (3, .int v3), (5, .int v5)]) E.1 E.2.1 dX11_move_80 hl (by decide) rfl (fun ls hl => ?_)
          refine lv_iinc (v := v5 + 1) (lv' := [(5, .int (v5 + 1)), (4, .int (v4 + (r23 - r26))), (0, .ref (ad G v0)), (2, .int v2), (3, .int v3)]) E.1 E.2.1 dX11_move_82 hl (k := 4) rfl rfl (by decide) rfl (fun ls hl => ?_)
          refine lv_goto (tgt := 34) E.1 E.2.1 dX11_move_85 (by decide) ?_
          exact ih _ _ _ _ _ _ _ _ _ hf w t_v0 (lv_sub hl [2, 3, 4, 1, 0] rfl)

def X11_move (N : Nat) (h : HS) (v0 : Nat) (v1 : Int32) (v2 : Int32) (v3 : Int32) : Option (Int32 × HS) := bd2 (X11_isHouse N h v0 v1) fun r2 h3 => (if r2 = 0 then some ((-999), h3) else bd1 (X11_isFloor N h3 v0 v2) fun r6 => (if r6 = 0 then some ((-999), h3) else bd1 (X11_isFloor N h3 v0 v3) fun r10 => (if r10 = 0 then some ((-999), h3) else X11_move_l34 N N h3 v0 v2 v3 0 0)))
set_option maxRecDepth 4000 in
set_option maxHeartbeats 2000000 in
theorem X11_move_c {l : Launch} {G : GT} {N : Nat} {h : HS} {v0 : Nat} {v1 : Int32} {v2 : Int32} {v3 : Int32} {z : (Int32 × HS)} (t_v0 : sh v0 = 11) (hf : X11_move N h v0 v1 v2 v3 = some z) : CT l G yX11_move cX11_move 6 (some .int) 3 65 [.ref (ad G v0), .int v1, .int v2, .int v3] h (some (.int z.1)) z.2 := by
  unfold X11_move at hf
  refine CT.of (by decide) (Nat.le_of_ble_eq_true rfl) ?_
  intro p e s m below meth c ls E hr hlk w hl
  have hl : lv_has ls 6 [(0, .ref (ad G v0)), (1, .int v1), (2, .int v2), (3, .int v3)] := hl
  refine lv_aload_n E.1 E.2.1 dX11_move_0 rfl (lv_at hl 0 rfl) ?_
  refine lv_iload_n E.1 E.2.1 dX11_move_1 rfl (lv_at hl 1 rfl) ?_
  obtain ⟨r2, h3, hc1, hf⟩ := bd2_e hf
  refine k_Vi (As := [.int v1]) (rest := []) E w t_v0 ⟨by decide, rfl⟩ (X11_isHouse_c t_v0 hc1) mv_RX11_197 rfl rfl hl.1 ⟨Nat.le_of_ble_eq_true rfl, Nat.le_of_ble_eq_true rfl⟩ (Nat.le_of_ble_eq_true rfl) ⟨Nat.le_refl _, Nat.le_refl _⟩ dX11_move_2 (fun H locs w => ?_)
  refine lv_if_eq (tgt := 24) E.1 E.2.1 dX11_move_5 (by decide) (fun c4 => ?_) (fun c4 => ?_)
  · have hf := q_pos c4 hf
    refine lv_sipush (v := (-999)) E.1 E.2.1 dX11_move_24 rfl ?_
    have hf := Option.some.inj hf
    subst hf
    exact q_iret E w hr hlk dX11_move_27
  · have hf := q_neg c4 hf
    refine lv_aload_n E.1 E.2.1 dX11_move_8 rfl (lv_at hl 0 rfl) ?_
    refine lv_iload_n E.1 E.2.1 dX11_move_9 rfl (lv_at hl 2 rfl) ?_
    obtain ⟨r6, hc5, hf⟩ := bd1_e hf
    refine k_Vi (As := [.int v2]) (rest := []) E w t_v0 ⟨by decide, rfl⟩ (X11_isFloor_c t_v0 hc5) mv_RX11_200 rfl rfl hl.1 ⟨Nat.le_of_ble_eq_true rfl, Nat.le_of_ble_eq_true rfl⟩ (Nat.le_of_ble_eq_true rfl) ⟨Nat.le_refl _, Nat.le_refl _⟩ dX11_move_10 (fun H locs w => ?_)
    refine lv_if_eq (tgt := 24) E.1 E.2.1 dX11_move_13 (by decide) (fun c8 => ?_) (fun c8 => ?_)
    · have hf := q_pos c8 hf
      refine lv_sipush (v := (-999)) E.1 E.2.1 dX11_move_24 rfl ?_
      have hf := Option.some.inj hf
      subst hf
      exact q_iret E w hr hlk dX11_move_27
    · have hf := q_neg c8 hf
      refine lv_aload_n E.1 E.2.1 dX11_move_16 rfl (lv_at hl 0 rfl) ?_
      refine lv_iload_n E.1 E.2.1 dX11_move_17 rfl (lv_at hl 3 rfl) ?_
      obtain ⟨r10, hc9, hf⟩ := bd1_e hf
      refine k_Vi (As := [.int v3]) (rest := []) E w t_v0 ⟨by decide, rfl⟩ (X11_isFloor_c t_v0 hc9) mv_RX11_200 rfl rfl hl.1 ⟨Nat.le_of_ble_eq_true rfl, Nat.le_of_ble_eq_true rfl⟩ (Nat.le_of_ble_eq_true rfl) ⟨Nat.le_refl _, Nat.le_refl _⟩ dX11_move_18 (fun H locs w => ?_)
      refine lv_if_ne (tgt := 28) E.1 E.2.1 dX11_move_21 (by decide) (fun c12 => ?_) (fun c12 => ?_)
      · have hf := q_neg c12 hf
        refine lv_iconst (v := 0) E.1 E.2.1 dX11_move_28 rfl ?_
        refine lv_istore (lv' := [(4, .int 0), (0, .ref (ad G v0)), (1, .int v1), (2, .int v2), (3, .int v3)]) E.1 E.2.1 dX11_move_29 hl (by decide) rfl (fun ls hl => ?_)
        refine lv_iconst (v := 0) E.1 E.2.1 dX11_move_31 rfl ?_
        refine lv_istore (lv' := [(5, .int 0), (4, .int 0), (0, .ref (ad G v0)), (1, .int v1), (2, .int v2), (3, .int v3)]) E.1 E.2.1 dX11_move_32 hl (by decide) rfl (fun ls hl => ?_)
        exact X11_move_l34_w E hr hlk N _ _ _ _ _ _ _ _ _ hf w t_v0 (lv_sub hl [2, 4, 5, 1, 0] rfl)
      · have hf := q_pos c12 hf
        refine lv_sipush (v := (-999)) E.1 E.2.1 dX11_move_24 rfl ?_
        have hf := Option.some.inj hf
        subst hf
        exact q_iret E w hr hlk dX11_move_27

def X11_barsOn_l4 (N : Nat) (h : HS) : Nat → Nat → Int32 → Int32 → Int32 → Option Int32
  | 0, _, _, _, _ => none
  | n + 1, v0, v1, v2, v3 => (if (h.1 v0 14) ≤ v3 then some v2 else bd1 (X11_noteOf N h v0 v3) fun r3 => (if r3 ≤ 0 then X11_barsOn_l4 N h n v0 v1 (v2 + 0) (v3 + 1) else bd1 (X11_floorOf N h v0 v3) fun r7 => (if r7 = v1 then X11_barsOn_l4 N h n v0 v1 (v2 + 1) (v3 + 1) else X11_barsOn_l4 N h n v0 v1 (v2 + 0) (v3 + 1))))
set_option maxRecDepth 4000 in
set_option maxHeartbeats 2000000 in
theorem X11_barsOn_l4_w {p : Program} {l : Launch} {e : Env} {s : State} {m : MethodId} {args : Array Value} {below : List Frame} {meth : Method} {c : Code} {G : GT} {N : Nat} {h : HS} {z : Int32} (E : CallFix p m c cX11_barsOn 4 s args UW RX11) (hr : meth.sig.returnType = (some .int)) (hlk : meth.locks = false) : ∀ (n : Nat) (H : Heap) (locs : List Loc) (ls : Array Slot) (v0 : Nat) (v1 : Int32) (v2 : Int32) (v3 : Int32), X11_barsOn_l4 N h n v0 v1 v2 v3 = some z → WD G s h H locs → sh v0 = 11 → lv_has ls 4 [(0, .ref (ad G v0)), (1, .int v1), (2, .int v2), (3, .int v3)] → W p l e ({ frames := 1, cells := 0, slots := 0, locals := 21 } : Room) s m args below meth c H locs 0 0 (MQ below (QC G (some (.int z)) h) args s 0 0 (AD G)) (F0 m 4 ls []) := by
  intro n
  induction n with
  | zero =>
    intro H locs ls v0 v1 v2 v3 hf
    cases hf
  | succ n ih =>
    intro H locs ls v0 v1 v2 v3 hf w t_v0 hl
    unfold X11_barsOn_l4 at hf
    refine lv_iload_n E.1 E.2.1 dX11_barsOn_4 rfl (lv_at hl 3 rfl) ?_
    refine lv_aload_n E.1 E.2.1 dX11_barsOn_5 rfl (lv_at hl 0 rfl) ?_
    refine q_gi E w t_v0 fl_RX11_188 dX11_barsOn_6 ?_
    refine lv_icmp_ge (tgt := 43) E.1 E.2.1 dX11_barsOn_9 (by decide) (fun c1 => ?_) (fun c1 => ?_)
    · have hf := q_pos c1 hf
      refine lv_iload_n E.1 E.2.1 dX11_barsOn_43 rfl (lv_at hl 2 rfl) ?_
      have hf := Option.some.inj hf
      subst hf
      exact q_iret E w hr hlk dX11_barsOn_44
    · have hf := q_neg c1 hf
      refine lv_iload_n E.1 E.2.1 dX11_barsOn_12 rfl (lv_at hl 2 rfl) ?_
      refine lv_aload_n E.1 E.2.1 dX11_barsOn_13 rfl (lv_at hl 0 rfl) ?_
      refine lv_iload_n E.1 E.2.1 dX11_barsOn_14 rfl (lv_at hl 3 rfl) ?_
      obtain ⟨r3, hc2, hf⟩ := bd1_e hf
      refine k_Vi (As := [.int v3]) (rest := [.int v2]) E w t_v0 ⟨by decide, rfl⟩ (X11_noteOf_c t_v0 hc2) mv_RX11_194 rfl rfl hl.1 ⟨Nat.le_of_ble_eq_true rfl, Nat.le_of_ble_eq_true rfl⟩ (Nat.le_of_ble_eq_true rfl) ⟨Nat.le_refl _, Nat.le_refl _⟩ dX11_barsOn_15 (fun H locs w => ?_)
      refine lv_if_le (tgt := 34) E.1 E.2.1 dX11_barsOn_18 (by decide) (fun c5 => ?_) (fun c5 => ?_)
      · have hf := q_pos c5 hf
        refine lv_iconst (v := 0) E.1 E.2.1 dX11_barsOn_34 rfl ?_
        refine lv_iadd E.1 E.2.1 dX11_barsOn_35 ?_
        refine lv_istore_n (lv' := [(2, .int (v2 + 0)), (0, .ref (ad G v0)), (1, .int v1), (3, .int v3)]) E.1 E.2.1 dX11_barsOn_36 rfl hl (by decide) rfl (fun ls hl => ?_)
        refine lv_iinc (v := v3 + 1) (lv' := [(3, .int (v3 + 1)), (2, .int (v2 + 0)), (0, .ref (ad G v0)), (1, .int v1)]) E.1 E.2.1 dX11_barsOn_37 hl (k := 3) rfl rfl (by decide) rfl (fun ls hl => ?_)
        refine lv_goto (tgt := 4) E.1 E.2.1 dX11_barsOn_40 (by decide) ?_
        exact ih _ _ _ _ _ _ _ hf w t_v0 (lv_sub hl [2, 3, 1, 0] rfl)
      · have hf := q_neg c5 hf
        refine lv_aload_n E.1 E.2.1 dX11_barsOn_21 rfl (lv_at hl 0 rfl) ?_
        refine lv_iload_n E.1 E.2.1 dX11_barsOn_22 rfl (lv_at hl 3 rfl) ?_
        obtain ⟨r7, hc6, hf⟩ := bd1_e hf
        refine k_Vi (As := [.int v3]) (rest := [.int v2]) E w t_v0 ⟨by decide, rfl⟩ (X11_floorOf_c t_v0 hc6) mv_RX11_265 rfl rfl hl.1 ⟨Nat.le_of_ble_eq_true rfl, Nat.le_of_ble_eq_true rfl⟩ (Nat.le_of_ble_eq_true rfl) ⟨Nat.le_refl _, Nat.le_refl _⟩ dX11_barsOn_23 (fun H locs w => ?_)
        refine lv_iload_n E.1 E.2.1 dX11_barsOn_26 rfl (lv_at hl 1 rfl) ?_
        refine lv_icmp_ne (tgt := 34) E.1 E.2.1 dX11_barsOn_27 (by decide) (fun c9 => ?_) (fun c9 => ?_)
        · have hf := q_neg c9 hf
          refine lv_iconst (v := 0) E.1 E.2.1 dX11_barsOn_34 rfl ?_
          refine lv_iadd E.1 E.2.1 dX11_barsOn_35 ?_
          refine lv_istore_n (lv' := [(2, .int (v2 + 0)), (0, .ref (ad G v0)), (1, .int v1), (3, .int v3)]) E.1 E.2.1 dX11_barsOn_36 rfl hl (by decide) rfl (fun ls hl => ?_)
          refine lv_iinc (v := v3 + 1) (lv' := [(3, .int (v3 + 1)), (2, .int (v2 + 0)), (0, .ref (ad G v0)), (1, .int v1)]) E.1 E.2.1 dX11_barsOn_37 hl (k := 3) rfl rfl (by decide) rfl (fun ls hl => ?_)
          refine lv_goto (tgt := 4) E.1 E.2.1 dX11_barsOn_40 (by decide) ?_
          exact ih _ _ _ _ _ _ _ hf w t_v0 (lv_sub hl [2, 3, 1, 0] rfl)
        · have hf := q_pos c9 hf
          refine lv_iconst (v := 1) E.1 E.2.1 dX11_barsOn_30 rfl ?_
          refine lv_goto (tgt := 35) E.1 E.2.1 dX11_barsOn_31 (by decide) ?_
          refine lv_iadd E.1 E.2.1 dX11_barsOn_35 ?_
          refine lv_istore_n (lv' := [(2, .int (v2 + 1)), (0, .ref (ad G v0)), (1, .int v1), (3, .int v3)]) E.1 E.2.1 dX11_barsOn_36 rfl hl (by decide) rfl (fun ls hl => ?_)
          refine lv_iinc (v := v3 + 1) (lv' := [(3, .int (v3 + 1)), (2, .int (v2 + 1)), (0, .ref (ad G v0)), (1, .int v1)]) E.1 E.2.1 dX11_barsOn_37 hl (k := 3) rfl rfl (by decide) rfl (fun ls hl => ?_)
          refine lv_goto (tgt := 4) E.1 E.2.1 dX11_barsOn_40 (by decide) ?_
          exact ih _ _ _ _ _ _ _ hf w t_v0 (lv_sub hl [2, 3, 1, 0] rfl)

def X11_barsOn (N : Nat) (h : HS) (v0 : Nat) (v1 : Int32) : Option Int32 := X11_barsOn_l4 N h N v0 v1 0 0
set_option maxRecDepth 4000 in
set_option maxHeartbeats 2000000 in
theorem X11_barsOn_c {l : Launch} {G : GT} {N : Nat} {h : HS} {v0 : Nat} {v1 : Int32} {z : Int32} (t_v0 : sh v0 = 11) (hf : X11_barsOn N h v0 v1 = some z) : CT l G yX11_barsOn cX11_barsOn 4 (some .int) 1 21 [.ref (ad G v0), .int v1] h (some (.int z)) h := by
  unfold X11_barsOn at hf
  refine CT.of (by decide) (Nat.le_of_ble_eq_true rfl) ?_
  intro p e s m below meth c ls E hr hlk w hl
  have hl : lv_has ls 4 [(0, .ref (ad G v0)), (1, .int v1)] := hl
  refine lv_iconst (v := 0) E.1 E.2.1 dX11_barsOn_0 rfl ?_
  refine lv_istore_n (lv' := [(2, .int 0), (0, .ref (ad G v0)), (1, .int v1)]) E.1 E.2.1 dX11_barsOn_1 rfl hl (by decide) rfl (fun ls hl => ?_)
  refine lv_iconst (v := 0) E.1 E.2.1 dX11_barsOn_2 rfl ?_
  refine lv_istore_n (lv' := [(3, .int 0), (2, .int 0), (0, .ref (ad G v0)), (1, .int v1)]) E.1 E.2.1 dX11_barsOn_3 rfl hl (by decide) rfl (fun ls hl => ?_)
  exact X11_barsOn_l4_w E hr hlk N _ _ _ _ _ _ _ hf w t_v0 (lv_sub hl [2, 3, 1, 0] rfl)

def X11_landing_l27 (N : Nat) : Nat → HS → Nat → Int32 → Int32 → Int32 → Option (Int32 × HS)
  | 0, _, _, _, _, _ => none
  | n + 1, h, v0, v2, v3, v4 => (if (h.1 v0 13) ≤ v4 then (if v2 = 0 then some (v3, h) else (if v3 = ((-1) : Int32) then some (0, h) else bd1 (X11_barsOn N h v0 v3) fun r10 => some (r10, h))) else bd1 (X11_barsOn N h v0 v4) fun r13 => bd1 (X11_barsOn N h v0 v3) fun r16 => (if r13 ≤ r16 then X11_landing_l27 N n h v0 v2 v3 (v4 + 1) else X11_landing_l27 N n h v0 v2 v4 (v4 + 1)))
set_option maxRecDepth 4000 in
set_option maxHeartbeats 2000000 in
theorem X11_landing_l27_w {p : Program} {l : Launch} {e : Env} {s : State} {m : MethodId} {args : Array Value} {below : List Frame} {meth : Method} {c : Code} {G : GT} {N : Nat} {z : (Int32 × HS)} (E : CallFix p m c cX11_landing 5 s args UW RX11) (hr : meth.sig.returnType = (some .int)) (hlk : meth.locks = false) : ∀ (n : Nat) (h : HS) (H : Heap) (locs : List Loc) (ls : Array Slot) (v0 : Nat) (v2 : Int32) (v3 : Int32) (v4 : Int32), X11_landing_l27 N n h v0 v2 v3 v4 = some z → WD G s h H locs → sh v0 = 11 → lv_has ls 5 [(0, .ref (ad G v0)), (2, .int v2), (3, .int v3), (4, .int v4)] → W p l e ({ frames := 3, cells := 0, slots := 0, locals := 65 } : Room) s m args below meth c H locs 0 0 (MQ below (QC G (some (.int z.1)) z.2) args s 0 0 (AD G)) (F0 m 27 ls []) := by
  intro n
  induction n with
  | zero =>
    intro h H locs ls v0 v2 v3 v4 hf
    cases hf
  | succ n ih =>
    intro h H locs ls v0 v2 v3 v4 hf w t_v0 hl
    unfold X11_landing_l27 at hf
    refine lv_iload E.1 E.2.1 dX11_landing_27 (lv_at hl 3 rfl) ?_
    refine lv_aload_n E.1 E.2.1 dX11_landing_29 rfl (lv_at hl 0 rfl) ?_
    refine q_gi E w t_v0 fl_RX11_185 dX11_landing_30 ?_
    refine lv_icmp_ge (tgt := 63) E.1 E.2.1 dX11_landing_33 (by decide) (fun c6 => ?_) (fun c6 => ?_)
    · have hf := q_pos c6 hf
      refine lv_iload_n E.1 E.2.1 dX11_landing_63 rfl (lv_at hl 1 rfl) ?_
      refine lv_if_ne (tgt := 71) E.1 E.2.1 dX11_landing_64 (by decide) (fun c7 => ?_) (fun c7 => ?_)
      · have hf := q_neg c7 hf
        refine lv_iload_n E.1 E.2.1 dX11_landing_71 rfl (lv_at hl 2 rfl) ?_
        refine lv_iconst (v := (-1)) E.1 E.2.1 dX11_landing_72 rfl ?_
        refine lv_icmp_ne (tgt := 80) E.1 E.2.1 dX11_landing_73 (by decide) (fun c8 => ?_) (fun c8 => ?_)
        · have hf := q_neg c8 hf
          refine lv_aload_n E.1 E.2.1 dX11_landing_80 rfl (lv_at hl 0 rfl) ?_
          refine lv_iload_n E.1 E.2.1 dX11_landing_81 rfl (lv_at hl 2 rfl) ?_
          obtain ⟨r10, hc9, hf⟩ := bd1_e hf
          refine k_Vi (As := [.int v3]) (rest := []) E w t_v0 ⟨by decide, rfl⟩ (X11_barsOn_c t_v0 hc9) mv_RX11_336 rfl rfl hl.1 ⟨Nat.le_of_ble_eq_true rfl, Nat.le_of_ble_eq_true rfl⟩ (Nat.le_of_ble_eq_true rfl) ⟨Nat.le_refl _, Nat.le_refl _⟩ dX11_landing_82 (fun H locs w => ?_)
          have hf := Option.some.inj hf
          subst hf
          exact q_iret E w hr hlk dX11_landing_85
        · have hf := q_pos c8 hf
          refine lv_iconst (v := 0) E.1 E.2.1 dX11_landing_76 rfl ?_
          refine lv_goto (tgt := 85) E.1 E.2.1 dX11_landing_77 (by decide) ?_
          have hf := Option.some.inj hf
          subst hf
          exact q_iret E w hr hlk dX11_landing_85
      · have hf := q_pos c7 hf
        refine lv_iload_n E.1 E.2.1 dX11_landing_67 rfl (lv_at hl 2 rfl) ?_
        refine lv_goto (tgt := 85) E.1 E.2.1 dX11_landing_68 (by decide) ?_
        have hf := Option.some.inj hf
        subst hf
        exact q_iret E w hr hlk dX11_landing_85
    · have hf := q_neg c6 hf
      refine lv_aload_n E.1 E.2.1 dX11_landing_36 rfl (lv_at hl 0 rfl) ?_
      refine lv_iload E.1 E.2.1 dX11_landing_37 (lv_at hl 3 rfl) ?_
      obtain ⟨r13, hc12, hf⟩ := bd1_e hf
      refine k_Vi (As := [.int v4]) (rest := []) E w t_v0 ⟨by decide, rfl⟩ (X11_barsOn_c t_v0 hc12) mv_RX11_336 rfl rfl hl.1 ⟨Nat.le_of_ble_eq_true rfl, Nat.le_of_ble_eq_true rfl⟩ (Nat.le_of_ble_eq_true rfl) ⟨Nat.le_refl _, Nat.le_refl _⟩ dX11_landing_39 (fun H locs w => ?_)
      refine lv_aload_n E.1 E.2.1 dX11_landing_42 rfl (lv_at hl 0 rfl) ?_
      refine lv_iload_n E.1 E.2.1 dX11_landing_43 rfl (lv_at hl 2 rfl) ?_
      obtain ⟨r16, hc15, hf⟩ := bd1_e hf
      refine k_Vi (As := [.int v3]) (rest := [.int r13]) E w t_v0 ⟨by decide, rfl⟩ (X11_barsOn_c t_v0 hc15) mv_RX11_336 rfl rfl hl.1 ⟨Nat.le_of_ble_eq_true rfl, Nat.le_of_ble_eq_true rfl⟩ (Nat.le_of_ble_eq_true rfl) ⟨Nat.le_refl _, Nat.le_refl _⟩ dX11_landing_44 (fun H locs w => ?_)
      refine lv_icmp_le (tgt := 55) E.1 E.2.1 dX11_landing_47 (by decide) (fun c18 => ?_) (fun c18 => ?_)
      · have hf := q_pos c18 hf
        refine lv_iload_n E.1 E.2.1 dX11_landing_55 rfl (lv_at hl 2 rfl) ?_
        refine lv_istore_n (lv' := [(3, .int v3), (0, .ref (ad G v0)), (2, .int v2), (4, .int v4)]) E.1 E.2.1 dX11_landing_56 rfl hl (by decide) rfl (fun ls hl => ?_)
        refine lv_iinc (v := v4 + 1) (lv' := [(4, .int (v4 + 1)), (3, .int v3), (0, .ref (ad G v0)), (2, .int v2)]) E.1 E.2.1 dX11_landing_57 hl (k := 3) rfl rfl (by decide) rfl (fun ls hl => ?_)
        refine lv_goto (tgt := 27) E.1 E.2.1 dX11_landing_60 (by decide) ?_
        exact ih _ _ _ _ _ _ _ _ hf w t_v0 (lv_sub hl [2, 3, 1, 0] rfl)
      · have hf := q_neg c18 hf
        refine lv_iload E.1 E.2.1 dX11_landing_50 (lv_at hl 3 rfl) ?_
        refine lv_goto (tgt := 56) E.1 E.2.1 dX11_landing_52 (by decide) ?_
        refine lv_istore_n (lv' := [(3, .int v4), (0, .ref (ad G v0)), (2, .int v2), (4, .int v4)]) E.1 E.2.1 dX11_landing_56 rfl hl (by decide) rfl (fun ls hl => ?_)
        refine lv_iinc (v := v4 + 1) (lv' := [(4, .int (v4 + 1)), (3, .int v4), (0, .ref (ad G v0)), (2, .int v2)]) E.1 E.2.1 dX11_landing_57 hl (k := 3) rfl rfl (by decide) rfl (fun ls hl => ?_)
        refine lv_goto (tgt := 27) E.1 E.2.1 dX11_landing_60 (by decide) ?_
        exact ih _ _ _ _ _ _ _ _ hf w t_v0 (lv_sub hl [2, 3, 1, 0] rfl)

def X11_landing (N : Nat) (h : HS) (v0 : Nat) (v1 : Int32) (v2 : Int32) : Option (Int32 × HS) := bd2 (X11_isHouse N h v0 v1) fun r2 h3 => (if r2 = 0 then some ((-2), h3) else (if (h3.1 v0 13) = 0 then X11_landing_l27 N N h3 v0 v2 (-1) 1 else X11_landing_l27 N N h3 v0 v2 0 1))
set_option maxRecDepth 4000 in
set_option maxHeartbeats 2000000 in
theorem X11_landing_c {l : Launch} {G : GT} {N : Nat} {h : HS} {v0 : Nat} {v1 : Int32} {v2 : Int32} {z : (Int32 × HS)} (t_v0 : sh v0 = 11) (hf : X11_landing N h v0 v1 v2 = some z) : CT l G yX11_landing cX11_landing 5 (some .int) 3 65 [.ref (ad G v0), .int v1, .int v2] h (some (.int z.1)) z.2 := by
  unfold X11_landing at hf
  refine CT.of (by decide) (Nat.le_of_ble_eq_true rfl) ?_
  intro p e s m below meth c ls E hr hlk w hl
  have hl : lv_has ls 5 [(0, .ref (ad G v0)), (1, .int v1), (2, .int v2)] := hl
  refine lv_aload_n E.1 E.2.1 dX11_landing_0 rfl (lv_at hl 0 rfl) ?_
  refine lv_iload_n E.1 E.2.1 dX11_landing_1 rfl (lv_at hl 1 rfl) ?_
  obtain ⟨r2, h3, hc1, hf⟩ := bd2_e hf
  refine k_Vi (As := [.int v1]) (rest := []) E w t_v0 ⟨by decide, rfl⟩ (X11_isHouse_c t_v0 hc1) mv_RX11_197 rfl rfl hl.1 ⟨Nat.le_of_ble_eq_true rfl, Nat.le_of_ble_eq_true rfl⟩ (Nat.le_of_ble_eq_true rfl) ⟨Nat.le_refl _, Nat.le_refl _⟩ dX11_landing_2 (fun H locs w => ?_)
  refine lv_if_ne (tgt := 11) E.1 E.2.1 dX11_landing_5 (by decide) (fun c4 => ?_) (fun c4 => ?_)
  · have hf := q_neg c4 hf
    refine lv_aload_n E.1 E.2.1 dX11_landing_11 rfl (lv_at hl 0 rfl) ?_
    refine q_gi E w t_v0 fl_RX11_185 dX11_landing_12 ?_
    refine lv_if_ne (tgt := 22) E.1 E.2.1 dX11_landing_15 (by decide) (fun c5 => ?_) (fun c5 => ?_)
    · have hf := q_neg c5 hf
      refine lv_iconst (v := 0) E.1 E.2.1 dX11_landing_22 rfl ?_
      refine lv_istore_n (lv' := [(3, .int 0), (0, .ref (ad G v0)), (1, .int v1), (2, .int v2)]) E.1 E.2.1 dX11_landing_23 rfl hl (by decide) rfl (fun ls hl => ?_)
      refine lv_iconst (v := 1) E.1 E.2.1 dX11_landing_24 rfl ?_
      refine lv_istore (lv' := [(4, .int 1), (3, .int 0), (0, .ref (ad G v0)), (1, .int v1), (2, .int v2)]) E.1 E.2.1 dX11_landing_25 hl (by decide) rfl (fun ls hl => ?_)
      exact X11_landing_l27_w E hr hlk N _ _ _ _ _ _ _ _ hf w t_v0 (lv_sub hl [2, 4, 1, 0] rfl)
    · have hf := q_pos c5 hf
      refine lv_iconst (v := (-1)) E.1 E.2.1 dX11_landing_18 rfl ?_
      refine lv_goto (tgt := 23) E.1 E.2.1 dX11_landing_19 (by decide) ?_
      refine lv_istore_n (lv' := [(3, .int (-1)), (0, .ref (ad G v0)), (1, .int v1), (2, .int v2)]) E.1 E.2.1 dX11_landing_23 rfl hl (by decide) rfl (fun ls hl => ?_)
      refine lv_iconst (v := 1) E.1 E.2.1 dX11_landing_24 rfl ?_
      refine lv_istore (lv' := [(4, .int 1), (3, .int (-1)), (0, .ref (ad G v0)), (1, .int v1), (2, .int v2)]) E.1 E.2.1 dX11_landing_25 hl (by decide) rfl (fun ls hl => ?_)
      exact X11_landing_l27_w E hr hlk N _ _ _ _ _ _ _ _ hf w t_v0 (lv_sub hl [2, 4, 1, 0] rfl)
  · have hf := q_pos c4 hf
    refine lv_bipush (v := (-2)) E.1 E.2.1 dX11_landing_8 rfl ?_
    have hf := Option.some.inj hf
    subst hf
    exact q_iret E w hr hlk dX11_landing_10

def X11_mayTurn_l60 (N : Nat) (h : HS) : Nat → Nat → Int32 → Int32 → Int32 → Int32 → Option Int32
  | 0, _, _, _, _, _ => none
  | n + 1, v0, v1, v2, v3, v4 => (if (h.1 v0 14) ≤ v4 then bd1 (X11_isFloor N h v0 v2) fun r5 => (if r5 = 0 then some (nz 0) else (if v3 = 0 then some (nz 0) else (if v1 < 0 ∨ 6 ≤ v1.toNatClampNeg then none else (if (((h.1 (v0 + 11) v1.toNatClampNeg) >>> (v2 &&& 31)) &&& 1) = 0 then some (nz 1) else some (nz 0))))) else (if v3 = 0 then (if v1 < 0 ∨ 6 ≤ v1.toNatClampNeg then none else (if (((h.1 (v0 + 10) v1.toNatClampNeg) >>> (v4 &&& 31)) &&& 1) = (1 : Int32) then bd1 (X11_floorOf N h v0 v4) fun r15 => (if v2 < r15 then X11_mayTurn_l60 N h n v0 v1 v2 0 (v4 + 1) else X11_mayTurn_l60 N h n v0 v1 v2 1 (v4 + 1)) else X11_mayTurn_l60 N h n v0 v1 v2 0 (v4 + 1))) else X11_mayTurn_l60 N h n v0 v1 v2 1 (v4 + 1)))
set_option maxRecDepth 4000 in
set_option maxHeartbeats 2000000 in
theorem X11_mayTurn_l60_w {p : Program} {l : Launch} {e : Env} {s : State} {m : MethodId} {args : Array Value} {below : List Frame} {meth : Method} {c : Code} {G : GT} {N : Nat} {h : HS} {z : Int32} (E : CallFix p m c cX11_mayTurn 5 s args UW RX11) (hr : meth.sig.returnType = (some .boolean)) (hlk : meth.locks = false) : ∀ (n : Nat) (H : Heap) (locs : List Loc) (ls : Array Slot) (v0 : Nat) (v1 : Int32) (v2 : Int32) (v3 : Int32) (v4 : Int32), X11_mayTurn_l60 N h n v0 v1 v2 v3 v4 = some z → WD G s h H locs → sh v0 = 11 → lv_has ls 5 [(0, .ref (ad G v0)), (1, .int v1), (2, .int v2), (3, .int v3), (4, .int v4)] → W p l e ({ frames := 2, cells := 0, slots := 0, locals := 43 } : Room) s m args below meth c H locs 0 0 (MQ below (QC G (some (.int z)) h) args s 0 0 (AD G)) (F0 m 60 ls []) := by
  intro n
  induction n with
  | zero =>
    intro H locs ls v0 v1 v2 v3 v4 hf
    cases hf
  | succ n ih =>
    intro H locs ls v0 v1 v2 v3 v4 hf w t_v0 hl
    unfold X11_mayTurn_l60 at hf
    refine lv_iload E.1 E.2.1 dX11_mayTurn_60 (lv_at hl 4 rfl) ?_
    refine lv_aload_n E.1 E.2.1 dX11_mayTurn_62 rfl (lv_at hl 0 rfl) ?_
    refine q_gi E w t_v0 fl_RX11_188 dX11_mayTurn_63 ?_
    refine lv_icmp_ge (tgt := 110) E.1 E.2.1 dX11_mayTurn_66 (by decide) (fun c3 => ?_) (fun c3 => ?_)
    · have hf := q_pos c3 hf
      refine lv_aload_n E.1 E.2.1 dX11_mayTurn_110 rfl (lv_at hl 0 rfl) ?_
      refine lv_iload_n E.1 E.2.1 dX11_mayTurn_111 rfl (lv_at hl 2 rfl) ?_
      obtain ⟨r5, hc4, hf⟩ := bd1_e hf
      refine k_Vi (As := [.int v2]) (rest := []) E w t_v0 ⟨by decide, rfl⟩ (X11_isFloor_c t_v0 hc4) mv_RX11_200 rfl rfl hl.1 ⟨Nat.le_of_ble_eq_true rfl, Nat.le_of_ble_eq_true rfl⟩ (Nat.le_of_ble_eq_true rfl) ⟨Nat.le_refl _, Nat.le_refl _⟩ dX11_mayTurn_112 (fun H locs w => ?_)
      refine lv_if_eq (tgt := 139) E.1 E.2.1 dX11_mayTurn_115 (by decide) (fun c7 => ?_) (fun c7 => ?_)
      · have hf := q_pos c7 hf
        refine lv_iconst (v := 0) E.1 E.2.1 dX11_mayTurn_139 rfl ?_
        have hf := Option.some.inj hf
        subst hf
        exact q_zret E w hr hlk dX11_mayTurn_140
      · have hf := q_neg c7 hf
        refine lv_iload_n E.1 E.2.1 dX11_mayTurn_118 rfl (lv_at hl 3 rfl) ?_
        refine lv_if_eq (tgt := 139) E.1 E.2.1 dX11_mayTurn_119 (by decide) (fun c8 => ?_) (fun c8 => ?_)
        · have hf := q_pos c8 hf
          refine lv_iconst (v := 0) E.1 E.2.1 dX11_mayTurn_139 rfl ?_
          have hf := Option.some.inj hf
          subst hf
          exact q_zret E w hr hlk dX11_mayTurn_140
        · have hf := q_neg c8 hf
          refine lv_aload_n E.1 E.2.1 dX11_mayTurn_122 rfl (lv_at hl 0 rfl) ?_
          refine q_gs E w 11 t_v0 fl_RX11_41 dX11_mayTurn_123 ?_
          refine lv_iload_n E.1 E.2.1 dX11_mayTurn_126 rfl (lv_at hl 1 rfl) ?_
          obtain ⟨b9, hf⟩ := q_if hf
          refine q_iald E w ((lay_11_26 t_v0).1) ((lay_11_26 t_v0).2) b9 dX11_mayTurn_127 ?_
          refine lv_iload_n E.1 E.2.1 dX11_mayTurn_128 rfl (lv_at hl 2 rfl) ?_
          refine lv_ishr E.1 E.2.1 dX11_mayTurn_129 ?_
          refine lv_iconst (v := 1) E.1 E.2.1 dX11_mayTurn_130 rfl ?_
          refine lv_iand E.1 E.2.1 dX11_mayTurn_131 ?_
          refine lv_if_ne (tgt := 139) E.1 E.2.1 dX11_mayTurn_132 (by decide) (fun c10 => ?_) (fun c10 => ?_)
          · have hf := q_neg c10 hf
            refine lv_iconst (v := 0) E.1 E.2.1 dX11_mayTurn_139 rfl ?_
            have hf := Option.some.inj hf
            subst hf
            exact q_zret E w hr hlk dX11_mayTurn_140
          · have hf := q_pos c10 hf
            refine lv_iconst (v := 1) E.1 E.2.1 dX11_mayTurn_135 rfl ?_
            refine lv_goto (tgt := 140) E.1 E.2.1 dX11_mayTurn_136 (by decide) ?_
            have hf := Option.some.inj hf
            subst hf
            exact q_zret E w hr hlk dX11_mayTurn_140
    · have hf := q_neg c3 hf
      refine lv_iload_n E.1 E.2.1 dX11_mayTurn_69 rfl (lv_at hl 3 rfl) ?_
      refine lv_if_ne (tgt := 98) E.1 E.2.1 dX11_mayTurn_70 (by decide) (fun c11 => ?_) (fun c11 => ?_)
      · have hf := q_neg c11 hf
        refine lv_iconst (v := 1) E.1 E.2.1 dX11_mayTurn_98 rfl ?_
        refine lv_goto (tgt := 103) E.1 E.2.1 dX11_mayTurn_99 (by decide) ?_
        refine lv_istore_n (lv' := [(3, .int 1), (0, .ref (ad G v0)), (1, .int v1), (2, .int v2), (4, .int v4)]) E.1 E.2.1 dX11_mayTurn_103 rfl hl (by decide) rfl (fun ls hl => ?_)
        refine lv_iinc (v := v4 + 1) (lv' := [(4, .int (v4 + 1)), (3, .int 1), (0, .ref (ad G v0)), (1, .int v1), (2, .int v2)]) E.1 E.2.1 dX11_mayTurn_104 hl (k := 4) rfl rfl (by decide) rfl (fun ls hl => ?_)
        refine lv_goto (tgt := 60) E.1 E.2.1 dX11_mayTurn_107 (by decide) ?_
        exact ih _ _ _ _ _ _ _ _ hf w t_v0 (lv_sub hl [2, 3, 4, 1, 0] rfl)
      · have hf := q_pos c11 hf
        refine lv_aload_n E.1 E.2.1 dX11_mayTurn_73 rfl (lv_at hl 0 rfl) ?_
        refine q_gs E w 10 t_v0 fl_RX11_38 dX11_mayTurn_74 ?_
        refine lv_iload_n E.1 E.2.1 dX11_mayTurn_77 rfl (lv_at hl 1 rfl) ?_
        obtain ⟨b12, hf⟩ := q_if hf
        refine q_iald E w ((lay_11_25 t_v0).1) ((lay_11_25 t_v0).2) b12 dX11_mayTurn_78 ?_
        refine lv_iload E.1 E.2.1 dX11_mayTurn_79 (lv_at hl 4 rfl) ?_
        refine lv_ishr E.1 E.2.1 dX11_mayTurn_81 ?_
        refine lv_iconst (v := 1) E.1 E.2.1 dX11_mayTurn_82 rfl ?_
        refine lv_iand E.1 E.2.1 dX11_mayTurn_83 ?_
        refine lv_iconst (v := 1) E.1 E.2.1 dX11_mayTurn_84 rfl ?_
        refine lv_icmp_ne (tgt := 102) E.1 E.2.1 dX11_mayTurn_85 (by decide) (fun c13 => ?_) (fun c13 => ?_)
        · have hf := q_neg c13 hf
          refine lv_iconst (v := 0) E.1 E.2.1 dX11_mayTurn_102 rfl ?_
          refine lv_istore_n (lv' := [(3, .int 0), (0, .ref (ad G v0)), (1, .int v1), (2, .int v2), (4, .int v4)]) E.1 E.2.1 dX11_mayTurn_103 rfl hl (by decide) rfl (fun ls hl => ?_)
          refine lv_iinc (v := v4 + 1) (lv' := [(4, .int (v4 + 1)), (3, .int 0), (0, .ref (ad G v0)), (1, .int v1), (2, .int v2)]) E.1 E.2.1 dX11_mayTurn_104 hl (k := 4) rfl rfl (by decide) rfl (fun ls hl => ?_)
          refine lv_goto (tgt := 60) E.1 E.2.1 dX11_mayTurn_107 (by decide) ?_
          exact ih _ _ _ _ _ _ _ _ hf w t_v0 (lv_sub hl [2, 3, 4, 1, 0] rfl)
        · have hf := q_pos c13 hf
          refine lv_aload_n E.1 E.2.1 dX11_mayTurn_88 rfl (lv_at hl 0 rfl) ?_
          refine lv_iload E.1 E.2.1 dX11_mayTurn_89 (lv_at hl 4 rfl) ?_
          obtain ⟨r15, hc14, hf⟩ := bd1_e hf
          refine k_Vi (As := [.int v4]) (rest := []) E w t_v0 ⟨by decide, rfl⟩ (X11_floorOf_c t_v0 hc14) mv_RX11_265 rfl rfl hl.1 ⟨Nat.le_of_ble_eq_true rfl, Nat.le_of_ble_eq_true rfl⟩ (Nat.le_of_ble_eq_true rfl) ⟨Nat.le_refl _, Nat.le_refl _⟩ dX11_mayTurn_91 (fun H locs w => ?_)
          refine lv_iload_n E.1 E.2.1 dX11_mayTurn_94 rfl (lv_at hl 2 rfl) ?_
          refine lv_icmp_gt (tgt := 102) E.1 E.2.1 dX11_mayTurn_95 (by decide) (fun c17 => ?_) (fun c17 => ?_)
          · have hf := q_pos c17 hf
            refine lv_iconst (v := 0) E.1 E.2.1 dX11_mayTurn_102 rfl ?_
            refine lv_istore_n (lv' := [(3, .int 0), (0, .ref (ad G v0)), (1, .int v1), (2, .int v2), (4, .int v4)]) E.1 E.2.1 dX11_mayTurn_103 rfl hl (by decide) rfl (fun ls hl => ?_)
            refine lv_iinc (v := v4 + 1) (lv' := [(4, .int (v4 + 1)), (3, .int 0), (0, .ref (ad G v0)), (1, .int v1), (2, .int v2)]) E.1 E.2.1 dX11_mayTurn_104 hl (k := 4) rfl rfl (by decide) rfl (fun ls hl => ?_)
            refine lv_goto (tgt := 60) E.1 E.2.1 dX11_mayTurn_107 (by decide) ?_
            exact ih _ _ _ _ _ _ _ _ hf w t_v0 (lv_sub hl [2, 3, 4, 1, 0] rfl)
          · have hf := q_neg c17 hf
            refine lv_iconst (v := 1) E.1 E.2.1 dX11_mayTurn_98 rfl ?_
            refine lv_goto (tgt := 103) E.1 E.2.1 dX11_mayTurn_99 (by decide) ?_
            refine lv_istore_n (lv' := [(3, .int 1), (0, .ref (ad G v0)), (1, .int v1), (2, .int v2), (4, .int v4)]) E.1 E.2.1 dX11_mayTurn_103 rfl hl (by decide) rfl (fun ls hl => ?_)
            refine lv_iinc (v := v4 + 1) (lv' := [(4, .int (v4 + 1)), (3, .int 1), (0, .ref (ad G v0)), (1, .int v1), (2, .int v2)]) E.1 E.2.1 dX11_mayTurn_104 hl (k := 4) rfl rfl (by decide) rfl (fun ls hl => ?_)
            refine lv_goto (tgt := 60) E.1 E.2.1 dX11_mayTurn_107 (by decide) ?_
            exact ih _ _ _ _ _ _ _ _ hf w t_v0 (lv_sub hl [2, 3, 4, 1, 0] rfl)

def X11_mayTurn (N : Nat) (h : HS) (v0 : Nat) (v1 : Int32) (v2 : Int32) : Option Int32 := (if (v1 - v1 / 2 * 2) = 0 then (if v2 = (8 : Int32) then some (nz 1) else bd1 (X11_isBar N h v0 v2) fun r20 => (if r20 = 0 then some (nz 0) else bd1 (X11_noteOf N h v0 v2) fun r24 => (if r24 ≤ 0 then some (nz 0) else (if v1 < 0 ∨ 6 ≤ v1.toNatClampNeg then none else (if (((h.1 (v0 + 10) v1.toNatClampNeg) >>> (v2 &&& 31)) &&& 1) = 0 then some (nz 1) else some (nz 0)))))) else (if v2 = (6 : Int32) then some (nz 1) else X11_mayTurn_l60 N h N v0 v1 v2 0 0))
set_option maxRecDepth 4000 in
set_option maxHeartbeats 2000000 in
theorem X11_mayTurn_c {l : Launch} {G : GT} {N : Nat} {h : HS} {v0 : Nat} {v1 : Int32} {v2 : Int32} {z : Int32} (t_v0 : sh v0 = 11) (hf : X11_mayTurn N h v0 v1 v2 = some z) : CT l G yX11_mayTurn cX11_mayTurn 5 (some .boolean) 2 43 [.ref (ad G v0), .int v1, .int v2] h (some (.int z)) h := by
  unfold X11_mayTurn at hf
  refine CT.of (by decide) (Nat.le_of_ble_eq_true rfl) ?_
  intro p e s m below meth c ls E hr hlk w hl
  have hl : lv_has ls 5 [(0, .ref (ad G v0)), (1, .int v1), (2, .int v2)] := hl
  refine lv_iload_n E.1 E.2.1 dX11_mayTurn_0 rfl (lv_at hl 1 rfl) ?_
  refine lv_iconst (v := 2) E.1 E.2.1 dX11_mayTurn_1 rfl ?_
  refine lv_irem E.1 E.2.1 dX11_mayTurn_2 (by decide) ?_
  refine lv_if_ne (tgt := 47) E.1 E.2.1 dX11_mayTurn_3 (by decide) (fun c1 => ?_) (fun c1 => ?_)
  · have hf := q_neg c1 hf
    refine lv_iload_n E.1 E.2.1 dX11_mayTurn_47 rfl (lv_at hl 2 rfl) ?_
    refine lv_bipush (v := 6) E.1 E.2.1 dX11_mayTurn_48 rfl ?_
    refine lv_icmp_ne (tgt := 55) E.1 E.2.1 dX11_mayTurn_50 (by decide) (fun c2 => ?_) (fun c2 => ?_)
    · have hf := q_neg c2 hf
      refine lv_iconst (v := 0) E.1 E.2.1 dX11_mayTurn_55 rfl ?_
      refine lv_istore_n (lv' := [(3, .int 0), (0, .ref (ad G v0)), (1, .int v1), (2, .int v2)]) E.1 E.2.1 dX11_mayTurn_56 rfl hl (by decide) rfl (fun ls hl => ?_)
      refine lv_iconst (v := 0) E.1 E.2.1 dX11_mayTurn_57 rfl ?_
      refine lv_istore (lv' := [(4, .int 0), (3, .int 0), (0, .ref (ad G v0)), (1, .int v1), (2, .int v2)]) E.1 E.2.1 dX11_mayTurn_58 hl (by decide) rfl (fun ls hl => ?_)
      exact X11_mayTurn_l60_w E hr hlk N _ _ _ _ _ _ _ _ hf w t_v0 (lv_sub hl [2, 3, 4, 1, 0] rfl)
    · have hf := q_pos c2 hf
      refine lv_iconst (v := 1) E.1 E.2.1 dX11_mayTurn_53 rfl ?_
      have hf := Option.some.inj hf
      subst hf
      exact q_zret E w hr hlk dX11_mayTurn_54
  · have hf := q_pos c1 hf
    refine lv_iload_n E.1 E.2.1 dX11_mayTurn_6 rfl (lv_at hl 2 rfl) ?_
    refine lv_bipush (v := 8) E.1 E.2.1 dX11_mayTurn_7 rfl ?_
    refine lv_icmp_eq (tgt := 41) E.1 E.2.1 dX11_mayTurn_9 (by decide) (fun c18 => ?_) (fun c18 => ?_)
    · have hf := q_pos c18 hf
      refine lv_iconst (v := 1) E.1 E.2.1 dX11_mayTurn_41 rfl ?_
      refine lv_goto (tgt := 46) E.1 E.2.1 dX11_mayTurn_42 (by decide) ?_
      have hf := Option.some.inj hf
      subst hf
      exact q_zret E w hr hlk dX11_mayTurn_46
    · have hf := q_neg c18 hf
      refine lv_aload_n E.1 E.2.1 dX11_mayTurn_12 rfl (lv_at hl 0 rfl) ?_
      refine lv_iload_n E.1 E.2.1 dX11_mayTurn_13 rfl (lv_at hl 2 rfl) ?_
      obtain ⟨r20, hc19, hf⟩ := bd1_e hf
      refine k_Vi (As := [.int v2]) (rest := []) E w t_v0 ⟨by decide, rfl⟩ (X11_isBar_c t_v0 hc19) mv_RX11_209 rfl rfl hl.1 ⟨Nat.le_of_ble_eq_true rfl, Nat.le_of_ble_eq_true rfl⟩ (Nat.le_of_ble_eq_true rfl) ⟨Nat.le_refl _, Nat.le_refl _⟩ dX11_mayTurn_14 (fun H locs w => ?_)
      refine lv_if_eq (tgt := 45) E.1 E.2.1 dX11_mayTurn_17 (by decide) (fun c22 => ?_) (fun c22 => ?_)
      · have hf := q_pos c22 hf
        refine lv_iconst (v := 0) E.1 E.2.1 dX11_mayTurn_45 rfl ?_
        have hf := Option.some.inj hf
        subst hf
        exact q_zret E w hr hlk dX11_mayTurn_46
      · have hf := q_neg c22 hf
        refine lv_aload_n E.1 E.2.1 dX11_mayTurn_20 rfl (lv_at hl 0 rfl) ?_
        refine lv_iload_n E.1 E.2.1 dX11_mayTurn_21 rfl (lv_at hl 2 rfl) ?_
        obtain ⟨r24, hc23, hf⟩ := bd1_e hf
        refine k_Vi (As := [.int v2]) (rest := []) E w t_v0 ⟨by decide, rfl⟩ (X11_noteOf_c t_v0 hc23) mv_RX11_194 rfl rfl hl.1 ⟨Nat.le_of_ble_eq_true rfl, Nat.le_of_ble_eq_true rfl⟩ (Nat.le_of_ble_eq_true rfl) ⟨Nat.le_refl _, Nat.le_refl _⟩ dX11_mayTurn_22 (fun H locs w => ?_)
        refine lv_if_le (tgt := 45) E.1 E.2.1 dX11_mayTurn_25 (by decide) (fun c26 => ?_) (fun c26 => ?_)
        · have hf := q_pos c26 hf
          refine lv_iconst (v := 0) E.1 E.2.1 dX11_mayTurn_45 rfl ?_
          have hf := Option.some.inj hf
          subst hf
          exact q_zret E w hr hlk dX11_mayTurn_46
        · have hf := q_neg c26 hf
          refine lv_aload_n E.1 E.2.1 dX11_mayTurn_28 rfl (lv_at hl 0 rfl) ?_
          refine q_gs E w 10 t_v0 fl_RX11_38 dX11_mayTurn_29 ?_
          refine lv_iload_n E.1 E.2.1 dX11_mayTurn_32 rfl (lv_at hl 1 rfl) ?_
          obtain ⟨b27, hf⟩ := q_if hf
          refine q_iald E w ((lay_11_25 t_v0).1) ((lay_11_25 t_v0).2) b27 dX11_mayTurn_33 ?_
          refine lv_iload_n E.1 E.2.1 dX11_mayTurn_34 rfl (lv_at hl 2 rfl) ?_
          refine lv_ishr E.1 E.2.1 dX11_mayTurn_35 ?_
          refine lv_iconst (v := 1) E.1 E.2.1 dX11_mayTurn_36 rfl ?_
          refine lv_iand E.1 E.2.1 dX11_mayTurn_37 ?_
          refine lv_if_ne (tgt := 45) E.1 E.2.1 dX11_mayTurn_38 (by decide) (fun c28 => ?_) (fun c28 => ?_)
          · have hf := q_neg c28 hf
            refine lv_iconst (v := 0) E.1 E.2.1 dX11_mayTurn_45 rfl ?_
            have hf := Option.some.inj hf
            subst hf
            exact q_zret E w hr hlk dX11_mayTurn_46
          · have hf := q_pos c28 hf
            refine lv_iconst (v := 1) E.1 E.2.1 dX11_mayTurn_41 rfl ?_
            refine lv_goto (tgt := 46) E.1 E.2.1 dX11_mayTurn_42 (by decide) ?_
            have hf := Option.some.inj hf
            subst hf
            exact q_zret E w hr hlk dX11_mayTurn_46

def X11_endsWith_l39 (N : Nat) (h : HS) : Nat → Nat → Int32 → Int32 → Int32 → Option Int32
  | 0, _, _, _, _ => none
  | n + 1, v0, v1, v2, v3 => (if (h.1 v0 13) ≤ v3 then some v2 else (if v1 < 0 ∨ 6 ≤ v1.toNatClampNeg then none else bd1 (X11_rentOf N h v0 v3) fun r5 => X11_endsWith_l39 N h n v0 v1 (v2 - ((((h.1 (v0 + 11) v1.toNatClampNeg) >>> (v3 &&& 31)) &&& 1) * r5)) (v3 + 1)))
set_option maxRecDepth 4000 in
set_option maxHeartbeats 2000000 in
theorem X11_endsWith_l39_w {p : Program} {l : Launch} {e : Env} {s : State} {m : MethodId} {args : Array Value} {below : List Frame} {meth : Method} {c : Code} {G : GT} {N : Nat} {h : HS} {z : Int32} (E : CallFix p m c cX11_endsWith 4 s args UW RX11) (hr : meth.sig.returnType = (some .int)) (hlk : meth.locks = false) : ∀ (n : Nat) (H : Heap) (locs : List Loc) (ls : Array Slot) (v0 : Nat) (v1 : Int32) (v2 : Int32) (v3 : Int32), X11_endsWith_l39 N h n v0 v1 v2 v3 = some z → WD G s h H locs → sh v0 = 11 → lv_has ls 4 [(0, .ref (ad G v0)), (1, .int v1), (2, .int v2), (3, .int v3)] → W p l e ({ frames := 1, cells := 0, slots := 0, locals := 21 } : Room) s m args below meth c H locs 0 0 (MQ below (QC G (some (.int z)) h) args s 0 0 (AD G)) (F0 m 39 ls []) := by
  intro n
  induction n with
  | zero =>
    intro H locs ls v0 v1 v2 v3 hf
    cases hf
  | succ n ih =>
    intro H locs ls v0 v1 v2 v3 hf w t_v0 hl
    unfold X11_endsWith_l39 at hf
    refine lv_iload_n E.1 E.2.1 dX11_endsWith_39 rfl (lv_at hl 3 rfl) ?_
    refine lv_aload_n E.1 E.2.1 dX11_endsWith_40 rfl (lv_at hl 0 rfl) ?_
    refine q_gi E w t_v0 fl_RX11_185 dX11_endsWith_41 ?_
    refine lv_icmp_ge (tgt := 72) E.1 E.2.1 dX11_endsWith_44 (by decide) (fun c2 => ?_) (fun c2 => ?_)
    · have hf := q_pos c2 hf
      refine lv_iload_n E.1 E.2.1 dX11_endsWith_72 rfl (lv_at hl 2 rfl) ?_
      have hf := Option.some.inj hf
      subst hf
      exact q_iret E w hr hlk dX11_endsWith_73
    · have hf := q_neg c2 hf
      refine lv_iload_n E.1 E.2.1 dX11_endsWith_47 rfl (lv_at hl 2 rfl) ?_
      refine lv_aload_n E.1 E.2.1 dX11_endsWith_48 rfl (lv_at hl 0 rfl) ?_
      refine q_gs E w 11 t_v0 fl_RX11_41 dX11_endsWith_49 ?_
      refine lv_iload_n E.1 E.2.1 dX11_endsWith_52 rfl (lv_at hl 1 rfl) ?_
      obtain ⟨b3, hf⟩ := q_if hf
      refine q_iald E w ((lay_11_26 t_v0).1) ((lay_11_26 t_v0).2) b3 dX11_endsWith_53 ?_
      refine lv_iload_n E.1 E.2.1 dX11_endsWith_54 rfl (lv_at hl 3 rfl) ?_
      refine lv_ishr E.1 E.2.1 dX11_endsWith_55 ?_
      refine lv_iconst (v := 1) E.1 E.2.1 dX11_endsWith_56 rfl ?_
      refine lv_iand E.1 E.2.1 dX11_endsWith_57 ?_
      refine lv_aload_n E.1 E.2.1 dX11_endsWith_58 rfl (lv_at hl 0 rfl) ?_
      refine lv_iload_n E.1 E.2.1 dX11_endsWith_59 rfl (lv_at hl 3 rfl) ?_
      obtain ⟨r5, hc4, hf⟩ := bd1_e hf
      refine k_Vi (As := [.int v3]) (rest := [.int (((h.1 (v0 + 11) v1.toNatClampNeg) >>> (v3 &&& 31)) &&& 1), .int v2]) E w t_v0 ⟨by decide, rfl⟩ (X11_rentOf_c t_v0 hc4) mv_RX11_203 rfl rfl hl.1 ⟨Nat.le_of_ble_eq_true rfl, Nat.le_of_ble_eq_true rfl⟩ (Nat.le_of_ble_eq_true rfl) ⟨Nat.le_refl _, Nat.le_refl _⟩ dX11_endsWith_60 (fun H locs w => ?_)
      refine lv_imul E.1 E.2.1 dX11_endsWith_63 ?_
      refine lv_isub E.1 E.2.1 dX11_endsWith_64 ?_
      refine lv_istore_n (lv' := [(2, .int (v2 - ((((h.1 (v0 + 11) v1.toNatClampNeg) >>> (v3 &&& 31)) &&& 1) * r5))), (0, .ref (ad G v0)), (1, .int v1), (3, .int v3)]) E.1 E.2.1 dX11_endsWith_65 rfl hl (by decide) rfl (fun ls hl => ?_)
      refine lv_iinc (v := v3 + 1) (lv' := [(3, .int (v3 + 1)), (2, .int (v2 - ((((h.1 (v0 + 11) v1.toNatClampNeg) >>> (v3 &&& 31)) &&& 1) * r5))), (0, .ref (ad G v0)), (1, .int v1)]) E.1 E.2.1 dX11_endsWith_66 hl (k := 3) rfl rfl (by decide) rfl (fun ls hl => ?_)
      refine lv_goto (tgt := 39) E.1 E.2.1 dX11_endsWith_69 (by decide) ?_
      exact ih _ _ _ _ _ _ _ hf w t_v0 (lv_sub hl [2, 3, 1, 0] rfl)

def X11_endsWith_l4 (N : Nat) (h : HS) : Nat → Nat → Int32 → Int32 → Int32 → Option Int32
  | 0, _, _, _, _ => none
  | n + 1, v0, v1, v2, v3 => (if (h.1 v0 14) ≤ v3 then X11_endsWith_l39 N h N v0 v1 v2 0 else (if v1 < 0 ∨ 6 ≤ v1.toNatClampNeg then none else bd1 (X11_longOf N h v0 v3) fun r9 => X11_endsWith_l4 N h n v0 v1 (v2 + ((((h.1 (v0 + 10) v1.toNatClampNeg) >>> (v3 &&& 31)) &&& 1) * r9)) (v3 + 1)))
set_option maxRecDepth 4000 in
set_option maxHeartbeats 2000000 in
theorem X11_endsWith_l4_w {p : Program} {l : Launch} {e : Env} {s : State} {m : MethodId} {args : Array Value} {below : List Frame} {meth : Method} {c : Code} {G : GT} {N : Nat} {h : HS} {z : Int32} (E : CallFix p m c cX11_endsWith 4 s args UW RX11) (hr : meth.sig.returnType = (some .int)) (hlk : meth.locks = false) : ∀ (n : Nat) (H : Heap) (locs : List Loc) (ls : Array Slot) (v0 : Nat) (v1 : Int32) (v2 : Int32) (v3 : Int32), X11_endsWith_l4 N h n v0 v1 v2 v3 = some z → WD G s h H locs → sh v0 = 11 → lv_has ls 4 [(0, .ref (ad G v0)), (1, .int v1), (2, .int v2), (3, .int v3)] → W p l e ({ frames := 1, cells := 0, slots := 0, locals := 21 } : Room) s m args below meth c H locs 0 0 (MQ below (QC G (some (.int z)) h) args s 0 0 (AD G)) (F0 m 4 ls []) := by
  intro n
  induction n with
  | zero =>
    intro H locs ls v0 v1 v2 v3 hf
    cases hf
  | succ n ih =>
    intro H locs ls v0 v1 v2 v3 hf w t_v0 hl
    unfold X11_endsWith_l4 at hf
    refine lv_iload_n E.1 E.2.1 dX11_endsWith_4 rfl (lv_at hl 3 rfl) ?_
    refine lv_aload_n E.1 E.2.1 dX11_endsWith_5 rfl (lv_at hl 0 rfl) ?_
    refine q_gi E w t_v0 fl_RX11_188 dX11_endsWith_6 ?_
    refine lv_icmp_ge (tgt := 37) E.1 E.2.1 dX11_endsWith_9 (by decide) (fun c1 => ?_) (fun c1 => ?_)
    · have hf := q_pos c1 hf
      refine lv_iconst (v := 0) E.1 E.2.1 dX11_endsWith_37 rfl ?_
      refine lv_istore_n (lv' := [(3, .int 0), (0, .ref (ad G v0)), (1, .int v1), (2, .int v2)]) E.1 E.2.1 dX11_endsWith_38 rfl hl (by decide) rfl (fun ls hl => ?_)
      exact X11_endsWith_l39_w E hr hlk N _ _ _ _ _ _ _ hf w t_v0 (lv_sub hl [1, 2, 3, 0] rfl)
    · have hf := q_neg c1 hf
      refine lv_iload_n E.1 E.2.1 dX11_endsWith_12 rfl (lv_at hl 2 rfl) ?_
      refine lv_aload_n E.1 E.2.1 dX11_endsWith_13 rfl (lv_at hl 0 rfl) ?_
      refine q_gs E w 10 t_v0 fl_RX11_38 dX11_endsWith_14 ?_
      refine lv_iload_n E.1 E.2.1 dX11_endsWith_17 rfl (lv_at hl 1 rfl) ?_
      obtain ⟨b7, hf⟩ := q_if hf
      refine q_iald E w ((lay_11_25 t_v0).1) ((lay_11_25 t_v0).2) b7 dX11_endsWith_18 ?_
      refine lv_iload_n E.1 E.2.1 dX11_endsWith_19 rfl (lv_at hl 3 rfl) ?_
      refine lv_ishr E.1 E.2.1 dX11_endsWith_20 ?_
      refine lv_iconst (v := 1) E.1 E.2.1 dX11_endsWith_21 rfl ?_
      refine lv_iand E.1 E.2.1 dX11_endsWith_22 ?_
      refine lv_aload_n E.1 E.2.1 dX11_endsWith_23 rfl (lv_at hl 0 rfl) ?_
      refine lv_iload_n E.1 E.2.1 dX11_endsWith_24 rfl (lv_at hl 3 rfl) ?_
      obtain ⟨r9, hc8, hf⟩ := bd1_e hf
      refine k_Vi (As := [.int v3]) (rest := [.int (((h.1 (v0 + 10) v1.toNatClampNeg) >>> (v3 &&& 31)) &&& 1), .int v2]) E w t_v0 ⟨by decide, rfl⟩ (X11_longOf_c t_v0 hc8) mv_RX11_231 rfl rfl hl.1 ⟨Nat.le_of_ble_eq_true rfl, Nat.le_of_ble_eq_true rfl⟩ (Nat.le_of_ble_eq_true rfl) ⟨Nat.le_refl _, Nat.le_refl _⟩ dX11_endsWith_25 (fun H locs w => ?_)
      refine lv_imul E.1 E.2.1 dX11_endsWith_28 ?_
      refine lv_iadd E.1 E.2.1 dX11_endsWith_29 ?_
      refine lv_istore_n (lv' := [(2, .int (v2 + ((((h.1 (v0 + 10) v1.toNatClampNeg) >>> (v3 &&& 31)) &&& 1) * r9))), (0, .ref (ad G v0)), (1, .int v1), (3, .int v3)]) E.1 E.2.1 dX11_endsWith_30 rfl hl (by decide) rfl (fun ls hl => ?_)
      refine lv_iinc (v := v3 + 1) (lv' := [(3, .int (v3 + 1)), (2, .int (v2 + ((((h.1 (v0 + 10) v1.toNatClampNeg) >>> (v3 &&& 31)) &&& 1) * r9))), (0, .ref (ad G v0)), (1, .int v1)]) E.1 E.2.1 dX11_endsWith_31 hl (k := 3) rfl rfl (by decide) rfl (fun ls hl => ?_)
      refine lv_goto (tgt := 4) E.1 E.2.1 dX11_endsWith_34 (by decide) ?_
      exact ih _ _ _ _ _ _ _ hf w t_v0 (lv_sub hl [2, 3, 1, 0] rfl)

def X11_endsWith (N : Nat) (h : HS) (v0 : Nat) (v1 : Int32) : Option Int32 := X11_endsWith_l4 N h N v0 v1 0 0
set_option maxRecDepth 4000 in
set_option maxHeartbeats 2000000 in
theorem X11_endsWith_c {l : Launch} {G : GT} {N : Nat} {h : HS} {v0 : Nat} {v1 : Int32} {z : Int32} (t_v0 : sh v0 = 11) (hf : X11_endsWith N h v0 v1 = some z) : CT l G yX11_endsWith cX11_endsWith 4 (some .int) 1 21 [.ref (ad G v0), .int v1] h (some (.int z)) h := by
  unfold X11_endsWith at hf
  refine CT.of (by decide) (Nat.le_of_ble_eq_true rfl) ?_
  intro p e s m below meth c ls E hr hlk w hl
  have hl : lv_has ls 4 [(0, .ref (ad G v0)), (1, .int v1)] := hl
  refine lv_iconst (v := 0) E.1 E.2.1 dX11_endsWith_0 rfl ?_
  refine lv_istore_n (lv' := [(2, .int 0), (0, .ref (ad G v0)), (1, .int v1)]) E.1 E.2.1 dX11_endsWith_1 rfl hl (by decide) rfl (fun ls hl => ?_)
  refine lv_iconst (v := 0) E.1 E.2.1 dX11_endsWith_2 rfl ?_
  refine lv_istore_n (lv' := [(3, .int 0), (2, .int 0), (0, .ref (ad G v0)), (1, .int v1)]) E.1 E.2.1 dX11_endsWith_3 rfl hl (by decide) rfl (fun ls hl => ?_)
  exact X11_endsWith_l4_w E hr hlk N _ _ _ _ _ _ _ hf w t_v0 (lv_sub hl [2, 3, 1, 0] rfl)

def X11_turns (N : Nat) (h : HS) (v0 : Nat) (v1 : Int32) (v2 : Int32) : Option HS := (if v1 < 0 ∨ 6 ≤ v1.toNatClampNeg then none else (if (h.1 (v0 + 13) v1.toNatClampNeg) = (99999999 : Int32) then (if v1 < 0 ∨ 6 ≤ v1.toNatClampNeg then none else sq (wi h (v0 + 13) v1.toNatClampNeg v2) fun h4 => (if v1 = 0 then (if (0 : Int32) < 0 ∨ 6 ≤ (0 : Int32).toNatClampNeg then none else sq (wi h4 v0 29 (h4.1 (v0 + 12) (0 : Int32).toNatClampNeg)) fun h7 => some h7) else some h4)) else (if (v1 - v1 / 2 * 2) = 0 then (if v1 < 0 ∨ 6 ≤ v1.toNatClampNeg then none else (if (h.1 (v0 + 13) v1.toNatClampNeg) < v2 then (if v1 < 0 ∨ 6 ≤ v1.toNatClampNeg then none else sq (wi h (v0 + 13) v1.toNatClampNeg v2) fun h19 => (if v1 = 0 then (if (0 : Int32) < 0 ∨ 6 ≤ (0 : Int32).toNatClampNeg then none else sq (wi h19 v0 29 (h19.1 (v0 + 12) (0 : Int32).toNatClampNeg)) fun h22 => some h22) else some h19)) else some h)) else (if v1 < 0 ∨ 6 ≤ v1.toNatClampNeg then none else (if v2 < (h.1 (v0 + 13) v1.toNatClampNeg) then (if v1 < 0 ∨ 6 ≤ v1.toNatClampNeg then none else sq (wi h (v0 + 13) v1.toNatClampNeg v2) fun h12 => (if v1 = 0 then (if (0 : Int32) < 0 ∨ 6 ≤ (0 : Int32).toNatClampNeg then none else sq (wi h12 v0 29 (h12.1 (v0 + 12) (0 : Int32).toNatClampNeg)) fun h15 => some h15) else some h12)) else some h)))))
set_option maxRecDepth 4000 in
set_option maxHeartbeats 2000000 in
theorem X11_turns_c {l : Launch} {G : GT} {N : Nat} {h : HS} {v0 : Nat} {v1 : Int32} {v2 : Int32} {z : HS} (t_v0 : sh v0 = 11) (hf : X11_turns N h v0 v1 v2 = some z) : CT l G yX11_turns cX11_turns 3 none 0 0 [.ref (ad G v0), .int v1, .int v2] h none z := by
  unfold X11_turns at hf
  refine CT.of (by decide) (Nat.le_of_ble_eq_true rfl) ?_
  intro p e s m below meth c ls E hr hlk w hl
  have hl : lv_has ls 3 [(0, .ref (ad G v0)), (1, .int v1), (2, .int v2)] := hl
  refine lv_aload_n E.1 E.2.1 dX11_turns_0 rfl (lv_at hl 0 rfl) ?_
  refine q_gs E w 13 t_v0 fl_RX11_47 dX11_turns_1 ?_
  refine lv_iload_n E.1 E.2.1 dX11_turns_4 rfl (lv_at hl 1 rfl) ?_
  obtain ⟨b1, hf⟩ := q_if hf
  refine q_iald E w ((lay_11_28 t_v0).1) ((lay_11_28 t_v0).2) b1 dX11_turns_5 ?_
  refine lv_ldc (v := 99999999) E.1 E.2.1 E.2.2.2.1 (E.2.2.2.2 _ ct_RX11_221) dX11_turns_6 ?_
  refine lv_icmp_eq (tgt := 41) E.1 E.2.1 dX11_turns_8 (by decide) (fun c2 => ?_) (fun c2 => ?_)
  · have hf := q_pos c2 hf
    refine lv_aload_n E.1 E.2.1 dX11_turns_41 rfl (lv_at hl 0 rfl) ?_
    refine q_gs E w 13 t_v0 fl_RX11_47 dX11_turns_42 ?_
    refine lv_iload_n E.1 E.2.1 dX11_turns_45 rfl (lv_at hl 1 rfl) ?_
    refine lv_iload_n E.1 E.2.1 dX11_turns_46 rfl (lv_at hl 2 rfl) ?_
    obtain ⟨b3, hf⟩ := q_if hf
    refine p_iast E w ((lay_11_28 t_v0).1) ((lay_11_28 t_v0).2) b3 dX11_turns_47 (fun h4 H locs eh w => ?_)
    have hf := sq_e eh hf
    clear eh
    refine lv_iload_n E.1 E.2.1 dX11_turns_48 rfl (lv_at hl 1 rfl) ?_
    refine lv_if_ne (tgt := 62) E.1 E.2.1 dX11_turns_49 (by decide) (fun c5 => ?_) (fun c5 => ?_)
    · have hf := q_neg c5 hf
      have hf := Option.some.inj hf
      subst hf
      exact q_vret E w hr hlk dX11_turns_62
    · have hf := q_pos c5 hf
      refine lv_aload_n E.1 E.2.1 dX11_turns_52 rfl (lv_at hl 0 rfl) ?_
      refine lv_aload_n E.1 E.2.1 dX11_turns_53 rfl (lv_at hl 0 rfl) ?_
      refine q_gs E w 12 t_v0 fl_RX11_44 dX11_turns_54 ?_
      refine lv_iconst (v := 0) E.1 E.2.1 dX11_turns_57 rfl ?_
      obtain ⟨b6, hf⟩ := q_if hf
      refine q_iald E w ((lay_11_27 t_v0).1) ((lay_11_27 t_v0).2) b6 dX11_turns_58 ?_
      refine p_pi E w t_v0 fl_RX11_339 (fp_11_29 _) dX11_turns_59 (fun h7 H locs eh w => ?_)
      have hf := sq_e eh hf
      clear eh
      have hf := Option.some.inj hf
      subst hf
      exact q_vret E w hr hlk dX11_turns_62
  · have hf := q_neg c2 hf
    refine lv_iload_n E.1 E.2.1 dX11_turns_11 rfl (lv_at hl 1 rfl) ?_
    refine lv_iconst (v := 2) E.1 E.2.1 dX11_turns_12 rfl ?_
    refine lv_irem E.1 E.2.1 dX11_turns_13 (by decide) ?_
    refine lv_if_ne (tgt := 30) E.1 E.2.1 dX11_turns_14 (by decide) (fun c8 => ?_) (fun c8 => ?_)
    · have hf := q_neg c8 hf
      refine lv_iload_n E.1 E.2.1 dX11_turns_30 rfl (lv_at hl 2 rfl) ?_
      refine lv_aload_n E.1 E.2.1 dX11_turns_31 rfl (lv_at hl 0 rfl) ?_
      refine q_gs E w 13 t_v0 fl_RX11_47 dX11_turns_32 ?_
      refine lv_iload_n E.1 E.2.1 dX11_turns_35 rfl (lv_at hl 1 rfl) ?_
      obtain ⟨b9, hf⟩ := q_if hf
      refine q_iald E w ((lay_11_28 t_v0).1) ((lay_11_28 t_v0).2) b9 dX11_turns_36 ?_
      refine lv_icmp_lt (tgt := 41) E.1 E.2.1 dX11_turns_37 (by decide) (fun c10 => ?_) (fun c10 => ?_)
      · have hf := q_pos c10 hf
        refine lv_aload_n E.1 E.2.1 dX11_turns_41 rfl (lv_at hl 0 rfl) ?_
        refine q_gs E w 13 t_v0 fl_RX11_47 dX11_turns_42 ?_
        refine lv_iload_n E.1 E.2.1 dX11_turns_45 rfl (lv_at hl 1 rfl) ?_
        refine lv_iload_n E.1 E.2.1 dX11_turns_46 rfl (lv_at hl 2 rfl) ?_
        obtain ⟨b11, hf⟩ := q_if hf
        refine p_iast E w ((lay_11_28 t_v0).1) ((lay_11_28 t_v0).2) b11 dX11_turns_47 (fun h12 H locs eh w => ?_)
        have hf := sq_e eh hf
        clear eh
        refine lv_iload_n E.1 E.2.1 dX11_turns_48 rfl (lv_at hl 1 rfl) ?_
        refine lv_if_ne (tgt := 62) E.1 E.2.1 dX11_turns_49 (by decide) (fun c13 => ?_) (fun c13 => ?_)
        · have hf := q_neg c13 hf
          have hf := Option.some.inj hf
          subst hf
          exact q_vret E w hr hlk dX11_turns_62
        · have hf := q_pos c13 hf
          refine lv_aload_n E.1 E.2.1 dX11_turns_52 rfl (lv_at hl 0 rfl) ?_
          refine lv_aload_n E.1 E.2.1 dX11_turns_53 rfl (lv_at hl 0 rfl) ?_
          refine q_gs E w 12 t_v0 fl_RX11_44 dX11_turns_54 ?_
          refine lv_iconst (v := 0) E.1 E.2.1 dX11_turns_57 rfl ?_
          obtain ⟨b14, hf⟩ := q_if hf
          refine q_iald E w ((lay_11_27 t_v0).1) ((lay_11_27 t_v0).2) b14 dX11_turns_58 ?_
          refine p_pi E w t_v0 fl_RX11_339 (fp_11_29 _) dX11_turns_59 (fun h15 H locs eh w => ?_)
          have hf := sq_e eh hf
          clear eh
          have hf := Option.some.inj hf
          subst hf
          exact q_vret E w hr hlk dX11_turns_62
      · have hf := q_neg c10 hf
        have hf := Option.some.inj hf
        subst hf
        exact q_vret E w hr hlk dX11_turns_40
    · have hf := q_pos c8 hf
      refine lv_iload_n E.1 E.2.1 dX11_turns_17 rfl (lv_at hl 2 rfl) ?_
      refine lv_aload_n E.1 E.2.1 dX11_turns_18 rfl (lv_at hl 0 rfl) ?_
      refine q_gs E w 13 t_v0 fl_RX11_47 dX11_turns_19 ?_
      refine lv_iload_n E.1 E.2.1 dX11_turns_22 rfl (lv_at hl 1 rfl) ?_
      obtain ⟨b16, hf⟩ := q_if hf
      refine q_iald E w ((lay_11_28 t_v0).1) ((lay_11_28 t_v0).2) b16 dX11_turns_23 ?_
      refine lv_icmp_gt (tgt := 41) E.1 E.2.1 dX11_turns_24 (by decide) (fun c17 => ?_) (fun c17 => ?_)
      · have hf := q_pos c17 hf
        refine lv_aload_n E.1 E.2.1 dX11_turns_41 rfl (lv_at hl 0 rfl) ?_
        refine q_gs E w 13 t_v0 fl_RX11_47 dX11_turns_42 ?_
        refine lv_iload_n E.1 E.2.1 dX11_turns_45 rfl (lv_at hl 1 rfl) ?_
        refine lv_iload_n E.1 E.2.1 dX11_turns_46 rfl (lv_at hl 2 rfl) ?_
        obtain ⟨b18, hf⟩ := q_if hf
        refine p_iast E w ((lay_11_28 t_v0).1) ((lay_11_28 t_v0).2) b18 dX11_turns_47 (fun h19 H locs eh w => ?_)
        have hf := sq_e eh hf
        clear eh
        refine lv_iload_n E.1 E.2.1 dX11_turns_48 rfl (lv_at hl 1 rfl) ?_
        refine lv_if_ne (tgt := 62) E.1 E.2.1 dX11_turns_49 (by decide) (fun c20 => ?_) (fun c20 => ?_)
        · have hf := q_neg c20 hf
          have hf := Option.some.inj hf
          subst hf
          exact q_vret E w hr hlk dX11_turns_62
        · have hf := q_pos c20 hf
          refine lv_aload_n E.1 E.2.1 dX11_turns_52 rfl (lv_at hl 0 rfl) ?_
          refine lv_aload_n E.1 E.2.1 dX11_turns_53 rfl (lv_at hl 0 rfl) ?_
          refine q_gs E w 12 t_v0 fl_RX11_44 dX11_turns_54 ?_
          refine lv_iconst (v := 0) E.1 E.2.1 dX11_turns_57 rfl ?_
          obtain ⟨b21, hf⟩ := q_if hf
          refine q_iald E w ((lay_11_27 t_v0).1) ((lay_11_27 t_v0).2) b21 dX11_turns_58 ?_
          refine p_pi E w t_v0 fl_RX11_339 (fp_11_29 _) dX11_turns_59 (fun h22 H locs eh w => ?_)
          have hf := sq_e eh hf
          clear eh
          have hf := Option.some.inj hf
          subst hf
          exact q_vret E w hr hlk dX11_turns_62
      · have hf := q_neg c17 hf
        refine lv_goto (tgt := 40) E.1 E.2.1 dX11_turns_27 (by decide) ?_
        have hf := Option.some.inj hf
        subst hf
        exact q_vret E w hr hlk dX11_turns_40

def X11_laysTurn (N : Nat) (h : HS) (v0 : Nat) (v1 : Int32) : Option HS := (if v1 < 0 ∨ 6 ≤ v1.toNatClampNeg then none else sq (wi h (v0 + 12) v1.toNatClampNeg (-1)) fun h2 => (if v1 < 0 ∨ 6 ≤ v1.toNatClampNeg then none else sq (wi h2 (v0 + 13) v1.toNatClampNeg 99999999) fun h4 => some h4))
set_option maxRecDepth 4000 in
set_option maxHeartbeats 2000000 in
theorem X11_laysTurn_c {l : Launch} {G : GT} {N : Nat} {h : HS} {v0 : Nat} {v1 : Int32} {z : HS} (t_v0 : sh v0 = 11) (hf : X11_laysTurn N h v0 v1 = some z) : CT l G yX11_laysTurn cX11_laysTurn 2 none 0 0 [.ref (ad G v0), .int v1] h none z := by
  unfold X11_laysTurn at hf
  refine CT.of (by decide) (Nat.le_of_ble_eq_true rfl) ?_
  intro p e s m below meth c ls E hr hlk w hl
  have hl : lv_has ls 2 [(0, .ref (ad G v0)), (1, .int v1)] := hl
  refine lv_aload_n E.1 E.2.1 dX11_laysTurn_0 rfl (lv_at hl 0 rfl) ?_
  refine q_gs E w 12 t_v0 fl_RX11_44 dX11_laysTurn_1 ?_
  refine lv_iload_n E.1 E.2.1 dX11_laysTurn_4 rfl (lv_at hl 1 rfl) ?_
  refine lv_iconst (v := (-1)) E.1 E.2.1 dX11_laysTurn_5 rfl ?_
  obtain ⟨b1, hf⟩ := q_if hf
  refine p_iast E w ((lay_11_27 t_v0).1) ((lay_11_27 t_v0).2) b1 dX11_laysTurn_6 (fun h2 H locs eh w => ?_)
  have hf := sq_e eh hf
  clear eh
  refine lv_aload_n E.1 E.2.1 dX11_laysTurn_7 rfl (lv_at hl 0 rfl) ?_
  refine q_gs E w 13 t_v0 fl_RX11_47 dX11_laysTurn_8 ?_
  refine lv_iload_n E.1 E.2.1 dX11_laysTurn_11 rfl (lv_at hl 1 rfl) ?_
  refine lv_ldc (v := 99999999) E.1 E.2.1 E.2.2.2.1 (E.2.2.2.2 _ ct_RX11_221) dX11_laysTurn_12 ?_
  obtain ⟨b3, hf⟩ := q_if hf
  refine p_iast E w ((lay_11_28 t_v0).1) ((lay_11_28 t_v0).2) b3 dX11_laysTurn_14 (fun h4 H locs eh w => ?_)
  have hf := sq_e eh hf
  clear eh
  have hf := Option.some.inj hf
  subst hf
  exact q_vret E w hr hlk dX11_laysTurn_15

def X11_tussleOf_b168 (N : Nat) (h : HS) (K21 : HS → Nat → Int32 → Int32 → Option (Int32 × HS)) (v0 : Nat) (v1 : Int32) (v2 : Int32) (v4 : Int32) (u0 : Int32) (u1 : Int32) (u2 : Int32) (u3 : Nat) : Option (Int32 × HS) := (if u2 < 0 ∨ ln u3 ≤ u2.toNatClampNeg then none else sq (wi h u3 u2.toNatClampNeg (u1 ||| u0)) fun h20 => (if v2 < 0 ∨ 6 ≤ v2.toNatClampNeg then none else (if (v2 - v2 / 2 * 2) = (1 : Int32) then (if (6 : Int32) ≤ v4 then (if (v2 + 1) < 0 ∨ 6 ≤ (v2 + 1).toNatClampNeg then none else sq (wi h20 (v0 + 11) (v2 + 1).toNatClampNeg ((h20.1 (v0 + 11) v2.toNatClampNeg) ||| 0)) fun h30 => bd1 (X11_laysTurn N h30 v0 (v2 + 1)) fun h33 => K21 h33 v0 v1 (v2 + 1)) else (if (v2 + 1) < 0 ∨ 6 ≤ (v2 + 1).toNatClampNeg then none else sq (wi h20 (v0 + 11) (v2 + 1).toNatClampNeg ((h20.1 (v0 + 11) v2.toNatClampNeg) ||| ((1 : Int32) <<< (v4 &&& 31)))) fun h35 => bd1 (X11_laysTurn N h35 v0 (v2 + 1)) fun h38 => K21 h38 v0 v1 (v2 + 1))) else (if (v2 + 1) < 0 ∨ 6 ≤ (v2 + 1).toNatClampNeg then none else sq (wi h20 (v0 + 11) (v2 + 1).toNatClampNeg ((h20.1 (v0 + 11) v2.toNatClampNeg) ||| 0)) fun h24 => bd1 (X11_laysTurn N h24 v0 (v2 + 1)) fun h27 => K21 h27 v0 v1 (v2 + 1)))))
set_option maxRecDepth 4000 in
set_option maxHeartbeats 2000000 in
theorem X11_tussleOf_b168_w {p : Program} {l : Launch} {e : Env} {s : State} {m : MethodId} {args : Array Value} {below : List Frame} {meth : Method} {c : Code} {G : GT} {N : Nat} {z : (Int32 × HS)} {h : HS} (E : CallFix p m c cX11_tussleOf 5 s args UW RX11) (hr : meth.sig.returnType = (some .int)) (hlk : meth.locks = false) {K21 : HS → Nat → Int32 → Int32 → Option (Int32 × HS)} (hK21 : ∀ (h : HS) (H : Heap) (locs : List Loc) (ls : Array Slot) (v0 : Nat) (v1 : Int32) (v2 : Int32), K21 h v0 v1 v2 = some z → WD G s h H locs → sh v0 = 11 → lv_has ls 5 [(0, .ref (ad G v0)), (1, .int v1), (2, .int v2)] → W p l e ({ frames := 3, cells := 0, slots := 0, locals := 67 } : Room) s m args below meth c H locs 0 0 (MQ below (QC G (some (.int z.1)) z.2) args s 0 0 (AD G)) (F0 m 21 ls [])) {H : Heap} {locs : List Loc} {ls : Array Slot} {v0 : Nat} {v1 : Int32} {v2 : Int32} {v4 : Int32} {u0 : Int32} {u1 : Int32} {u2 : Int32} {u3 : Nat} (hf : X11_tussleOf_b168 N h K21 v0 v1 v2 v4 u0 u1 u2 u3 = some z) (w : WD G s h H locs) (t_v0 : sh v0 = 11) (t_u3 : sh u3 = 13) (hl : lv_has ls 5 [(0, .ref (ad G v0)), (1, .int v1), (2, .int v2), (4, .int v4)]) : W p l e ({ frames := 3, cells := 0, slots := 0, locals := 67 } : Room) s m args below meth c H locs 0 0 (MQ below (QC G (some (.int z.1)) z.2) args s 0 0 (AD G)) (F0 m 168 ls [.int u0, .int u1, .int u2, .ref (ad G u3)]) := by
  unfold X11_tussleOf_b168 at hf
  refine lv_ior E.1 E.2.1 dX11_tussleOf_168 ?_
  obtain ⟨b19, hf⟩ := q_if hf
  refine p_iast E w t_u3 rfl b19 dX11_tussleOf_169 (fun h20 H locs eh w => ?_)
  have hf := sq_e eh hf
  clear eh
  refine lv_aload_n E.1 E.2.1 dX11_tussleOf_170 rfl (lv_at hl 0 rfl) ?_
  refine q_gs E w 11 t_v0 fl_RX11_41 dX11_tussleOf_171 ?_
  refine lv_iload_n E.1 E.2.1 dX11_tussleOf_174 rfl (lv_at hl 2 rfl) ?_
  refine lv_iconst (v := 1) E.1 E.2.1 dX11_tussleOf_175 rfl ?_
  refine lv_iadd E.1 E.2.1 dX11_tussleOf_176 ?_
  refine lv_aload_n E.1 E.2.1 dX11_tussleOf_177 rfl (lv_at hl 0 rfl) ?_
  refine q_gs E w 11 t_v0 fl_RX11_41 dX11_tussleOf_178 ?_
  refine lv_iload_n E.1 E.2.1 dX11_tussleOf_181 rfl (lv_at hl 2 rfl) ?_
  obtain ⟨b21, hf⟩ := q_if hf
  refine q_iald E w ((lay_11_26 t_v0).1) ((lay_11_26 t_v0).2) b21 dX11_tussleOf_182 ?_
  refine lv_iload_n E.1 E.2.1 dX11_tussleOf_183 rfl (lv_at hl 2 rfl) ?_
  refine lv_iconst (v := 2) E.1 E.2.1 dX11_tussleOf_184 rfl ?_
  refine lv_irem E.1 E.2.1 dX11_tussleOf_185 (by decide) ?_
  refine lv_iconst (v := 1) E.1 E.2.1 dX11_tussleOf_186 rfl ?_
  refine lv_icmp_ne (tgt := 204) E.1 E.2.1 dX11_tussleOf_187 (by decide) (fun c22 => ?_) (fun c22 => ?_)
  · have hf := q_neg c22 hf
    refine lv_iconst (v := 0) E.1 E.2.1 dX11_tussleOf_204 rfl ?_
    refine lv_ior E.1 E.2.1 dX11_tussleOf_205 ?_
    obtain ⟨b23, hf⟩ := q_if hf
    refine p_iast E w ((lay_11_26 t_v0).1) ((lay_11_26 t_v0).2) b23 dX11_tussleOf_206 (fun h24 H locs eh w => ?_)
    have hf := sq_e eh hf
    clear eh
    refine lv_iinc (v := v2 + 1) (lv' := [(2, .int (v2 + 1)), (0, .ref (ad G v0)), (1, .int v1), (4, .int v4)]) E.1 E.2.1 dX11_tussleOf_207 hl (k := 2) rfl rfl (by decide) rfl (fun ls hl => ?_)
    refine lv_aload_n E.1 E.2.1 dX11_tussleOf_210 rfl (lv_at hl 1 rfl) ?_
    refine lv_iload_n E.1 E.2.1 dX11_tussleOf_211 rfl (lv_at hl 0 rfl) ?_
    obtain ⟨h27, hc25, hf⟩ := bd1_e hf
    refine k_Vv (As := [.int (v2 + 1)]) (rest := []) E w t_v0 ⟨by decide, rfl⟩ (X11_laysTurn_c t_v0 hc25) mv_RX11_342 rfl rfl hl.1 ⟨Nat.le_of_ble_eq_true rfl, Nat.le_of_ble_eq_true rfl⟩ (Nat.le_of_ble_eq_true rfl) ⟨Nat.le_refl _, Nat.le_refl _⟩ dX11_tussleOf_212 (fun H locs w => ?_)
    refine lv_goto (tgt := 21) E.1 E.2.1 dX11_tussleOf_215 (by decide) ?_
    exact hK21 _ _ _ _ _ _ _ hf w t_v0 (lv_sub hl [1, 2, 0] rfl)
  · have hf := q_pos c22 hf
    refine lv_iload E.1 E.2.1 dX11_tussleOf_190 (lv_at hl 3 rfl) ?_
    refine lv_bipush (v := 6) E.1 E.2.1 dX11_tussleOf_192 rfl ?_
    refine lv_icmp_ge (tgt := 204) E.1 E.2.1 dX11_tussleOf_194 (by decide) (fun c28 => ?_) (fun c28 => ?_)
    · have hf := q_pos c28 hf
      refine lv_iconst (v := 0) E.1 E.2.1 dX11_tussleOf_204 rfl ?_
      refine lv_ior E.1 E.2.1 dX11_tussleOf_205 ?_
      obtain ⟨b29, hf⟩ := q_if hf
      refine p_iast E w ((lay_11_26 t_v0).1) ((lay_11_26 t_v0).2) b29 dX11_tussleOf_206 (fun h30 H locs eh w => ?_)
      have hf := sq_e eh hf
      clear eh
      refine lv_iinc (v := v2 + 1) (lv' := [(2, .int (v2 + 1)), (0, .ref (ad G v0)), (1, .int v1), (4, .int v4)]) E.1 E.2.1 dX11_tussleOf_207 hl (k := 2) rfl rfl (by decide) rfl (fun ls hl => ?_)
      refine lv_aload_n E.1 E.2.1 dX11_tussleOf_210 rfl (lv_at hl 1 rfl) ?_
      refine lv_iload_n E.1 E.2.1 dX11_tussleOf_211 rfl (lv_at hl 0 rfl) ?_
      obtain ⟨h33, hc31, hf⟩ := bd1_e hf
      refine k_Vv (As := [.int (v2 + 1)]) (rest := []) E w t_v0 ⟨by decide, rfl⟩ (X11_laysTurn_c t_v0 hc31) mv_RX11_342 rfl rfl hl.1 ⟨Nat.le_of_ble_eq_true rfl, Nat.le_of_ble_eq_true rfl⟩ (Nat.le_of_ble_eq_true rfl) ⟨Nat.le_refl _, Nat.le_refl _⟩ dX11_tussleOf_212 (fun H locs w => ?_)
      refine lv_goto (tgt := 21) E.1 E.2.1 dX11_tussleOf_215 (by decide) ?_
      exact hK21 _ _ _ _ _ _ _ hf w t_v0 (lv_sub hl [1, 2, 0] rfl)
    · have hf := q_neg c28 hf
      refine lv_iconst (v := 1) E.1 E.2.1 dX11_tussleOf_197 rfl ?_
      refine lv_iload E.1 E.2.1 dX11_tussleOf_198 (lv_at hl 3 rfl) ?_
      refine lv_ishl E.1 E.2.1 dX11_tussleOf_200 ?_
      refine lv_goto (tgt := 205) E.1 E.2.1 dX11_tussleOf_201 (by decide) ?_
      refine lv_ior E.1 E.2.1 dX11_tussleOf_205 ?_
      obtain ⟨b34, hf⟩ := q_if hf
      refine p_iast E w ((lay_11_26 t_v0).1) ((lay_11_26 t_v0).2) b34 dX11_tussleOf_206 (fun h35 H locs eh w => ?_)
      have hf := sq_e eh hf
      clear eh
      refine lv_iinc (v := v2 + 1) (lv' := [(2, .int (v2 + 1)), (0, .ref (ad G v0)), (1, .int v1), (4, .int v4)]) E.1 E.2.1 dX11_tussleOf_207 hl (k := 2) rfl rfl (by decide) rfl (fun ls hl => ?_)
      refine lv_aload_n E.1 E.2.1 dX11_tussleOf_210 rfl (lv_at hl 1 rfl) ?_
      refine lv_iload_n E.1 E.2.1 dX11_tussleOf_211 rfl (lv_at hl 0 rfl) ?_
      obtain ⟨h38, hc36, hf⟩ := bd1_e hf
      refine k_Vv (As := [.int (v2 + 1)]) (rest := []) E w t_v0 ⟨by decide, rfl⟩ (X11_laysTurn_c t_v0 hc36) mv_RX11_342 rfl rfl hl.1 ⟨Nat.le_of_ble_eq_true rfl, Nat.le_of_ble_eq_true rfl⟩ (Nat.le_of_ble_eq_true rfl) ⟨Nat.le_refl _, Nat.le_refl _⟩ dX11_tussleOf_212 (fun H locs w => ?_)
      refine lv_goto (tgt := 21) E.1 E.2.1 dX11_tussleOf_215 (by decide) ?_
      exact hK21 _ _ _ _ _ _ _ hf w t_v0 (lv_sub hl [1, 2, 0] rfl)

def X11_tussleOf_b81 (N : Nat) (h : HS) (K21 : HS → Nat → Int32 → Int32 → Option (Int32 × HS)) (v0 : Nat) (v1 : Int32) (v2 : Int32) (v3 : Int32) (v4 : Int32) : Option (Int32 × HS) := (if v4 ≤ v3 then (if v2 < 0 ∨ 6 ≤ v2.toNatClampNeg then none else sq (wi h (v0 + 12) v2.toNatClampNeg v4) fun h16 => (if v2 < 0 ∨ 6 ≤ v2.toNatClampNeg then none else (if (v2 - v2 / 2 * 2) = 0 then (if (8 : Int32) ≤ v4 then X11_tussleOf_b168 N h16 K21 v0 v1 v2 v4 0 (h16.1 (v0 + 10) v2.toNatClampNeg) (v2 + 1) (v0 + 10) else X11_tussleOf_b168 N h16 K21 v0 v1 v2 v4 ((1 : Int32) <<< (v4 &&& 31)) (h16.1 (v0 + 10) v2.toNatClampNeg) (v2 + 1) (v0 + 10)) else X11_tussleOf_b168 N h16 K21 v0 v1 v2 v4 0 (h16.1 (v0 + 10) v2.toNatClampNeg) (v2 + 1) (v0 + 10)))) else (if v2 = v1 then bd1 (X11_endsWith N h v0 v2) fun r47 => (if v2 < 0 ∨ 6 ≤ v2.toNatClampNeg then none else sq (wi h (v0 + 13) v2.toNatClampNeg r47) fun h50 => (if (v2 + (-1)) < 0 then K21 h50 v0 v1 (v2 + (-1)) else (if ((v2 + (-1)) + 1) < 0 ∨ 6 ≤ ((v2 + (-1)) + 1).toNatClampNeg then none else bd1 (X11_turns N h50 v0 (v2 + (-1)) (h50.1 (v0 + 13) ((v2 + (-1)) + 1).toNatClampNeg)) fun h55 => K21 h55 v0 v1 (v2 + (-1))))) else (if (v2 + (-1)) < 0 then K21 h v0 v1 (v2 + (-1)) else (if ((v2 + (-1)) + 1) < 0 ∨ 6 ≤ ((v2 + (-1)) + 1).toNatClampNeg then none else bd1 (X11_turns N h v0 (v2 + (-1)) (h.1 (v0 + 13) ((v2 + (-1)) + 1).toNatClampNeg)) fun h45 => K21 h45 v0 v1 (v2 + (-1))))))
set_option maxRecDepth 4000 in
set_option maxHeartbeats 2000000 in
theorem X11_tussleOf_b81_w {p : Program} {l : Launch} {e : Env} {s : State} {m : MethodId} {args : Array Value} {below : List Frame} {meth : Method} {c : Code} {G : GT} {N : Nat} {z : (Int32 × HS)} {h : HS} (E : CallFix p m c cX11_tussleOf 5 s args UW RX11) (hr : meth.sig.returnType = (some .int)) (hlk : meth.locks = false) {K21 : HS → Nat → Int32 → Int32 → Option (Int32 × HS)} (hK21 : ∀ (h : HS) (H : Heap) (locs : List Loc) (ls : Array Slot) (v0 : Nat) (v1 : Int32) (v2 : Int32), K21 h v0 v1 v2 = some z → WD G s h H locs → sh v0 = 11 → lv_has ls 5 [(0, .ref (ad G v0)), (1, .int v1), (2, .int v2)] → W p l e ({ frames := 3, cells := 0, slots := 0, locals := 67 } : Room) s m args below meth c H locs 0 0 (MQ below (QC G (some (.int z.1)) z.2) args s 0 0 (AD G)) (F0 m 21 ls [])) {H : Heap} {locs : List Loc} {ls : Array Slot} {v0 : Nat} {v1 : Int32} {v2 : Int32} {v3 : Int32} {v4 : Int32} (hf : X11_tussleOf_b81 N h K21 v0 v1 v2 v3 v4 = some z) (w : WD G s h H locs) (t_v0 : sh v0 = 11) (hl : lv_has ls 5 [(0, .ref (ad G v0)), (1, .int v1), (2, .int v2), (3, .int v3), (4, .int v4)]) : W p l e ({ frames := 3, cells := 0, slots := 0, locals := 67 } : Room) s m args below meth c H locs 0 0 (MQ below (QC G (some (.int z.1)) z.2) args s 0 0 (AD G)) (F0 m 81 ls []) := by
  unfold X11_tussleOf_b81 at hf
  refine lv_iload E.1 E.2.1 dX11_tussleOf_81 (lv_at hl 4 rfl) ?_
  refine lv_iload_n E.1 E.2.1 dX11_tussleOf_83 rfl (lv_at hl 3 rfl) ?_
  refine lv_icmp_le (tgt := 126) E.1 E.2.1 dX11_tussleOf_84 (by decide) (fun c14 => ?_) (fun c14 => ?_)
  · have hf := q_pos c14 hf
    refine lv_aload_n E.1 E.2.1 dX11_tussleOf_126 rfl (lv_at hl 0 rfl) ?_
    refine q_gs E w 12 t_v0 fl_RX11_44 dX11_tussleOf_127 ?_
    refine lv_iload_n E.1 E.2.1 dX11_tussleOf_130 rfl (lv_at hl 2 rfl) ?_
    refine lv_iload E.1 E.2.1 dX11_tussleOf_131 (lv_at hl 4 rfl) ?_
    obtain ⟨b15, hf⟩ := q_if hf
    refine p_iast E w ((lay_11_27 t_v0).1) ((lay_11_27 t_v0).2) b15 dX11_tussleOf_133 (fun h16 H locs eh w => ?_)
    have hf := sq_e eh hf
    clear eh
    refine lv_aload_n E.1 E.2.1 dX11_tussleOf_134 rfl (lv_at hl 0 rfl) ?_
    refine q_gs E w 10 t_v0 fl_RX11_38 dX11_tussleOf_135 ?_
    refine lv_iload_n E.1 E.2.1 dX11_tussleOf_138 rfl (lv_at hl 2 rfl) ?_
    refine lv_iconst (v := 1) E.1 E.2.1 dX11_tussleOf_139 rfl ?_
    refine lv_iadd E.1 E.2.1 dX11_tussleOf_140 ?_
    refine lv_aload_n E.1 E.2.1 dX11_tussleOf_141 rfl (lv_at hl 0 rfl) ?_
    refine q_gs E w 10 t_v0 fl_RX11_38 dX11_tussleOf_142 ?_
    refine lv_iload_n E.1 E.2.1 dX11_tussleOf_145 rfl (lv_at hl 2 rfl) ?_
    obtain ⟨b17, hf⟩ := q_if hf
    refine q_iald E w ((lay_11_25 t_v0).1) ((lay_11_25 t_v0).2) b17 dX11_tussleOf_146 ?_
    refine lv_iload_n E.1 E.2.1 dX11_tussleOf_147 rfl (lv_at hl 2 rfl) ?_
    refine lv_iconst (v := 2) E.1 E.2.1 dX11_tussleOf_148 rfl ?_
    refine lv_irem E.1 E.2.1 dX11_tussleOf_149 (by decide) ?_
    refine lv_if_ne (tgt := 167) E.1 E.2.1 dX11_tussleOf_150 (by decide) (fun c18 => ?_) (fun c18 => ?_)
    · have hf := q_neg c18 hf
      refine lv_iconst (v := 0) E.1 E.2.1 dX11_tussleOf_167 rfl ?_
      exact X11_tussleOf_b168_w E hr hlk hK21 hf w t_v0 ((lay_11_25 t_v0).1) (lv_sub hl [0, 1, 2, 4] rfl)
    · have hf := q_pos c18 hf
      refine lv_iload E.1 E.2.1 dX11_tussleOf_153 (lv_at hl 4 rfl) ?_
      refine lv_bipush (v := 8) E.1 E.2.1 dX11_tussleOf_155 rfl ?_
      refine lv_icmp_ge (tgt := 167) E.1 E.2.1 dX11_tussleOf_157 (by decide) (fun c39 => ?_) (fun c39 => ?_)
      · have hf := q_pos c39 hf
        refine lv_iconst (v := 0) E.1 E.2.1 dX11_tussleOf_167 rfl ?_
        exact X11_tussleOf_b168_w E hr hlk hK21 hf w t_v0 ((lay_11_25 t_v0).1) (lv_sub hl [0, 1, 2, 4] rfl)
      · have hf := q_neg c39 hf
        refine lv_iconst (v := 1) E.1 E.2.1 dX11_tussleOf_160 rfl ?_
        refine lv_iload E.1 E.2.1 dX11_tussleOf_161 (lv_at hl 4 rfl) ?_
        refine lv_ishl E.1 E.2.1 dX11_tussleOf_163 ?_
        refine lv_goto (tgt := 168) E.1 E.2.1 dX11_tussleOf_164 (by decide) ?_
        exact X11_tussleOf_b168_w E hr hlk hK21 hf w t_v0 ((lay_11_25 t_v0).1) (lv_sub hl [0, 1, 2, 4] rfl)
  · have hf := q_neg c14 hf
    refine lv_iload_n E.1 E.2.1 dX11_tussleOf_87 rfl (lv_at hl 2 rfl) ?_
    refine lv_iload_n E.1 E.2.1 dX11_tussleOf_88 rfl (lv_at hl 1 rfl) ?_
    refine lv_icmp_ne (tgt := 103) E.1 E.2.1 dX11_tussleOf_89 (by decide) (fun c40 => ?_) (fun c40 => ?_)
    · have hf := q_neg c40 hf
      refine lv_iinc (v := v2 + (-1)) (lv' := [(2, .int (v2 + (-1))), (0, .ref (ad G v0)), (1, .int v1), (3, .int v3), (4, .int v4)]) E.1 E.2.1 dX11_tussleOf_103 hl (k := 2) rfl rfl (by decide) rfl (fun ls hl => ?_)
      refine lv_iload_n E.1 E.2.1 dX11_tussleOf_106 rfl (lv_at hl 0 rfl) ?_
      refine lv_if_lt (tgt := 21) E.1 E.2.1 dX11_tussleOf_107 (by decide) (fun c41 => ?_) (fun c41 => ?_)
      · have hf := q_pos c41 hf
        exact hK21 _ _ _ _ _ _ _ hf w t_v0 (lv_sub hl [1, 2, 0] rfl)
      · have hf := q_neg c41 hf
        refine lv_aload_n E.1 E.2.1 dX11_tussleOf_110 rfl (lv_at hl 1 rfl) ?_
        refine lv_iload_n E.1 E.2.1 dX11_tussleOf_111 rfl (lv_at hl 0 rfl) ?_
        refine lv_aload_n E.1 E.2.1 dX11_tussleOf_112 rfl (lv_at hl 1 rfl) ?_
        refine q_gs E w 13 t_v0 fl_RX11_47 dX11_tussleOf_113 ?_
        refine lv_iload_n E.1 E.2.1 dX11_tussleOf_116 rfl (lv_at hl 0 rfl) ?_
        refine lv_iconst (v := 1) E.1 E.2.1 dX11_tussleOf_117 rfl ?_
        refine lv_iadd E.1 E.2.1 dX11_tussleOf_118 ?_
        obtain ⟨b42, hf⟩ := q_if hf
        refine q_iald E w ((lay_11_28 t_v0).1) ((lay_11_28 t_v0).2) b42 dX11_tussleOf_119 ?_
        obtain ⟨h45, hc43, hf⟩ := bd1_e hf
        refine k_Vv (As := [.int (v2 + (-1)), .int (h.1 (v0 + 13) ((v2 + (-1)) + 1).toNatClampNeg)]) (rest := []) E w t_v0 ⟨by decide, rfl⟩ (X11_turns_c t_v0 hc43) mv_RX11_351 rfl rfl hl.1 ⟨Nat.le_of_ble_eq_true rfl, Nat.le_of_ble_eq_true rfl⟩ (Nat.le_of_ble_eq_true rfl) ⟨Nat.le_refl _, Nat.le_refl _⟩ dX11_tussleOf_120 (fun H locs w => ?_)
        refine lv_goto (tgt := 21) E.1 E.2.1 dX11_tussleOf_123 (by decide) ?_
        exact hK21 _ _ _ _ _ _ _ hf w t_v0 (lv_sub hl [1, 2, 0] rfl)
    · have hf := q_pos c40 hf
      refine lv_aload_n E.1 E.2.1 dX11_tussleOf_92 rfl (lv_at hl 0 rfl) ?_
      refine q_gs E w 13 t_v0 fl_RX11_47 dX11_tussleOf_93 ?_
      refine lv_iload_n E.1 E.2.1 dX11_tussleOf_96 rfl (lv_at hl 2 rfl) ?_
      refine lv_aload_n E.1 E.2.1 dX11_tussleOf_97 rfl (lv_at hl 0 rfl) ?_
      refine lv_iload_n E.1 E.2.1 dX11_tussleOf_98 rfl (lv_at hl 2 rfl) ?_
      obtain ⟨r47, hc46, hf⟩ := bd1_e hf
      refine k_Vi (As := [.int v2]) (rest := [.int v2, .ref (ad G (v0 + 13))]) E w t_v0 ⟨by decide, rfl⟩ (X11_endsWith_c t_v0 hc46) mv_RX11_348 rfl rfl hl.1 ⟨Nat.le_of_ble_eq_true rfl, Nat.le_of_ble_eq_true rfl⟩ (Nat.le_of_ble_eq_true rfl) ⟨Nat.le_refl _, Nat.le_refl _⟩ dX11_tussleOf_99 (fun H locs w => ?_)
      obtain ⟨b49, hf⟩ := q_if hf
      refine p_iast E w ((lay_11_28 t_v0).1) ((lay_11_28 t_v0).2) b49 dX11_tussleOf_102 (fun h50 H locs eh w => ?_)
      have hf := sq_e eh hf
      clear eh
      refine lv_iinc (v := v2 + (-1)) (lv' := [(2, .int (v2 + (-1))), (0, .ref (ad G v0)), (1, .int v1), (3, .int v3), (4, .int v4)]) E.1 E.2.1 dX11_tussleOf_103 hl (k := 2) rfl rfl (by decide) rfl (fun ls hl => ?_)
      refine lv_iload_n E.1 E.2.1 dX11_tussleOf_106 rfl (lv_at hl 0 rfl) ?_
      refine lv_if_lt (tgt := 21) E.1 E.2.1 dX11_tussleOf_107 (by decide) (fun c51 => ?_) (fun c51 => ?_)
      · have hf := q_pos c51 hf
        exact hK21 _ _ _ _ _ _ _ hf w t_v0 (lv_sub hl [1, 2, 0] rfl)
      · have hf := q_neg c51 hf
        refine lv_aload_n E.1 E.2.1 dX11_tussleOf_110 rfl (lv_at hl 1 rfl) ?_
        refine lv_iload_n E.1 E.2.1 dX11_tussleOf_111 rfl (lv_at hl 0 rfl) ?_
        refine lv_aload_n E.1 E.2.1 dX11_tussleOf_112 rfl (lv_at hl 1 rfl) ?_
        refine q_gs E w 13 t_v0 fl_RX11_47 dX11_tussleOf_113 ?_
        refine lv_iload_n E.1 E.2.1 dX11_tussleOf_116 rfl (lv_at hl 0 rfl) ?_
        refine lv_iconst (v := 1) E.1 E.2.1 dX11_tussleOf_117 rfl ?_
        refine lv_iadd E.1 E.2.1 dX11_tussleOf_118 ?_
        obtain ⟨b52, hf⟩ := q_if hf
        refine q_iald E w ((lay_11_28 t_v0).1) ((lay_11_28 t_v0).2) b52 dX11_tussleOf_119 ?_
        obtain ⟨h55, hc53, hf⟩ := bd1_e hf
        refine k_Vv (As := [.int (v2 + (-1)), .int (h50.1 (v0 + 13) ((v2 + (-1)) + 1).toNatClampNeg)]) (rest := []) E w t_v0 ⟨by decide, rfl⟩ (X11_turns_c t_v0 hc53) mv_RX11_351 rfl rfl hl.1 ⟨Nat.le_of_ble_eq_true rfl, Nat.le_of_ble_eq_true rfl⟩ (Nat.le_of_ble_eq_true rfl) ⟨Nat.le_refl _, Nat.le_refl _⟩ dX11_tussleOf_120 (fun H locs w => ?_)
        refine lv_goto (tgt := 21) E.1 E.2.1 dX11_tussleOf_123 (by decide) ?_
        exact hK21 _ _ _ _ _ _ _ hf w t_v0 (lv_sub hl [1, 2, 0] rfl)

def X11_tussleOf_l59 (N : Nat) (K21 : HS → Nat → Int32 → Int32 → Option (Int32 × HS)) : Nat → HS → Nat → Int32 → Int32 → Int32 → Int32 → Option (Int32 × HS)
  | 0, _, _, _, _, _, _ => none
  | n + 1, h, v0, v1, v2, v3, v4 => (if v3 ≤ v4 then X11_tussleOf_b81 N h K21 v0 v1 v2 v3 v4 else bd1 (X11_mayTurn N h v0 v2 v4) fun r57 => (if r57 = 0 then X11_tussleOf_l59 N K21 n h v0 v1 v2 v3 (v4 + 1) else X11_tussleOf_b81 N h K21 v0 v1 v2 v3 v4))
set_option maxRecDepth 4000 in
set_option maxHeartbeats 2000000 in
theorem X11_tussleOf_l59_w {p : Program} {l : Launch} {e : Env} {s : State} {m : MethodId} {args : Array Value} {below : List Frame} {meth : Method} {c : Code} {G : GT} {N : Nat} {z : (Int32 × HS)} (E : CallFix p m c cX11_tussleOf 5 s args UW RX11) (hr : meth.sig.returnType = (some .int)) (hlk : meth.locks = false) {K21 : HS → Nat → Int32 → Int32 → Option (Int32 × HS)} (hK21 : ∀ (h : HS) (H : Heap) (locs : List Loc) (ls : Array Slot) (v0 : Nat) (v1 : Int32) (v2 : Int32), K21 h v0 v1 v2 = some z → WD G s h H locs → sh v0 = 11 → lv_has ls 5 [(0, .ref (ad G v0)), (1, .int v1), (2, .int v2)] → W p l e ({ frames := 3, cells := 0, slots := 0, locals := 67 } : Room) s m args below meth c H locs 0 0 (MQ below (QC G (some (.int z.1)) z.2) args s 0 0 (AD G)) (F0 m 21 ls [])) : ∀ (n : Nat) (h : HS) (H : Heap) (locs : List Loc) (ls : Array Slot) (v0 : Nat) (v1 : Int32) (v2 : Int32) (v3 : Int32) (v4 : Int32), X11_tussleOf_l59 N K21 n h v0 v1 v2 v3 v4 = some z → WD G s h H locs → sh v0 = 11 → lv_has ls 5 [(0, .ref (ad G v0)), (1, .int v1), (2, .int v2), (3, .int v3), (4, .int v4)] → W p l e ({ frames := 3, cells := 0, slots := 0, locals := 67 } : Room) s m args below meth c H locs 0 0 (MQ below (QC G (some (.int z.1)) z.2) args s 0 0 (AD G)) (F0 m 59 ls []) := by
  intro n
  induction n with
  | zero =>
    intro h H locs ls v0 v1 v2 v3 v4 hf
    cases hf
  | succ n ih =>
    intro h H locs ls v0 v1 v2 v3 v4 hf w t_v0 hl
    unfold X11_tussleOf_l59 at hf
    refine lv_iload E.1 E.2.1 dX11_tussleOf_59 (lv_at hl 4 rfl) ?_
    refine lv_iload_n E.1 E.2.1 dX11_tussleOf_61 rfl (lv_at hl 3 rfl) ?_
    refine lv_icmp_ge (tgt := 81) E.1 E.2.1 dX11_tussleOf_62 (by decide) (fun c13 => ?_) (fun c13 => ?_)
    · have hf := q_pos c13 hf
      exact X11_tussleOf_b81_w E hr hlk hK21 hf w t_v0 (lv_sub hl [0, 1, 2, 3, 4] rfl)
    · have hf := q_neg c13 hf
      refine lv_aload_n E.1 E.2.1 dX11_tussleOf_65 rfl (lv_at hl 0 rfl) ?_
      refine lv_iload_n E.1 E.2.1 dX11_tussleOf_66 rfl (lv_at hl 2 rfl) ?_
      refine lv_iload E.1 E.2.1 dX11_tussleOf_67 (lv_at hl 4 rfl) ?_
      obtain ⟨r57, hc56, hf⟩ := bd1_e hf
      refine k_Vi (As := [.int v2, .int v4]) (rest := []) E w t_v0 ⟨by decide, rfl⟩ (X11_mayTurn_c t_v0 hc56) mv_RX11_345 rfl rfl hl.1 ⟨Nat.le_of_ble_eq_true rfl, Nat.le_of_ble_eq_true rfl⟩ (Nat.le_of_ble_eq_true rfl) ⟨Nat.le_refl _, Nat.le_refl _⟩ dX11_tussleOf_69 (fun H locs w => ?_)
      refine lv_if_ne (tgt := 81) E.1 E.2.1 dX11_tussleOf_72 (by decide) (fun c59 => ?_) (fun c59 => ?_)
      · have hf := q_neg c59 hf
        exact X11_tussleOf_b81_w E hr hlk hK21 hf w t_v0 (lv_sub hl [0, 1, 2, 3, 4] rfl)
      · have hf := q_pos c59 hf
        refine lv_iinc (v := v4 + 1) (lv' := [(4, .int (v4 + 1)), (0, .ref (ad G v0)), (1, .int v1), (2, .int v2), (3, .int v3)]) E.1 E.2.1 dX11_tussleOf_75 hl (k := 4) rfl rfl (by decide) rfl (fun ls hl => ?_)
        refine lv_goto (tgt := 59) E.1 E.2.1 dX11_tussleOf_78 (by decide) ?_
        exact ih _ _ _ _ _ _ _ _ _ hf w t_v0 (lv_sub hl [1, 2, 3, 4, 0] rfl)

def X11_tussleOf_l21 (N : Nat) : Nat → HS → Nat → Int32 → Int32 → Option (Int32 × HS)
  | 0, _, _, _, _ => none
  | n + 1, h, v0, v1, v2 => (if v2 < 0 then (if (0 : Int32) < 0 ∨ 6 ≤ (0 : Int32).toNatClampNeg then none else some (h.1 (v0 + 13) (0 : Int32).toNatClampNeg, h)) else (if (v2 - v2 / 2 * 2) = 0 then (if v2 = v1 then X11_tussleOf_l59 N (X11_tussleOf_l21 N n) N h v0 v1 v2 8 9 else (if v2 < 0 ∨ 6 ≤ v2.toNatClampNeg then none else X11_tussleOf_l59 N (X11_tussleOf_l21 N n) N h v0 v1 v2 8 ((h.1 (v0 + 12) v2.toNatClampNeg) + 1))) else (if v2 = v1 then X11_tussleOf_l59 N (X11_tussleOf_l21 N n) N h v0 v1 v2 6 9 else (if v2 < 0 ∨ 6 ≤ v2.toNatClampNeg then none else X11_tussleOf_l59 N (X11_tussleOf_l21 N n) N h v0 v1 v2 6 ((h.1 (v0 + 12) v2.toNatClampNeg) + 1)))))
set_option maxRecDepth 4000 in
set_option maxHeartbeats 2000000 in
theorem X11_tussleOf_l21_w {p : Program} {l : Launch} {e : Env} {s : State} {m : MethodId} {args : Array Value} {below : List Frame} {meth : Method} {c : Code} {G : GT} {N : Nat} {z : (Int32 × HS)} (E : CallFix p m c cX11_tussleOf 5 s args UW RX11) (hr : meth.sig.returnType = (some .int)) (hlk : meth.locks = false) : ∀ (n : Nat) (h : HS) (H : Heap) (locs : List Loc) (ls : Array Slot) (v0 : Nat) (v1 : Int32) (v2 : Int32), X11_tussleOf_l21 N n h v0 v1 v2 = some z → WD G s h H locs → sh v0 = 11 → lv_has ls 5 [(0, .ref (ad G v0)), (1, .int v1), (2, .int v2)] → W p l e ({ frames := 3, cells := 0, slots := 0, locals := 67 } : Room) s m args below meth c H locs 0 0 (MQ below (QC G (some (.int z.1)) z.2) args s 0 0 (AD G)) (F0 m 21 ls []) := by
  intro n
  induction n with
  | zero =>
    intro h H locs ls v0 v1 v2 hf
    cases hf
  | succ n ih =>
    intro h H locs ls v0 v1 v2 hf w t_v0 hl
    unfold X11_tussleOf_l21 at hf
    refine lv_iload_n E.1 E.2.1 dX11_tussleOf_21 rfl (lv_at hl 2 rfl) ?_
    refine lv_if_lt (tgt := 218) E.1 E.2.1 dX11_tussleOf_22 (by decide) (fun c8 => ?_) (fun c8 => ?_)
    · have hf := q_pos c8 hf
      refine lv_aload_n E.1 E.2.1 dX11_tussleOf_218 rfl (lv_at hl 0 rfl) ?_
      refine q_gs E w 13 t_v0 fl_RX11_47 dX11_tussleOf_219 ?_
      refine lv_iconst (v := 0) E.1 E.2.1 dX11_tussleOf_222 rfl ?_
      obtain ⟨b9, hf⟩ := q_if hf
      refine q_iald E w ((lay_11_28 t_v0).1) ((lay_11_28 t_v0).2) b9 dX11_tussleOf_223 ?_
      have hf := Option.some.inj hf
      subst hf
      exact q_iret E w hr hlk dX11_tussleOf_224
    · have hf := q_neg c8 hf
      refine lv_iload_n E.1 E.2.1 dX11_tussleOf_25 rfl (lv_at hl 2 rfl) ?_
      refine lv_iconst (v := 2) E.1 E.2.1 dX11_tussleOf_26 rfl ?_
      refine lv_irem E.1 E.2.1 dX11_tussleOf_27 (by decide) ?_
      refine lv_if_ne (tgt := 36) E.1 E.2.1 dX11_tussleOf_28 (by decide) (fun c10 => ?_) (fun c10 => ?_)
      · have hf := q_neg c10 hf
        refine lv_bipush (v := 6) E.1 E.2.1 dX11_tussleOf_36 rfl ?_
        refine lv_istore_n (lv' := [(3, .int 6), (0, .ref (ad G v0)), (1, .int v1), (2, .int v2)]) E.1 E.2.1 dX11_tussleOf_38 rfl hl (by decide) rfl (fun ls hl => ?_)
        refine lv_iload_n E.1 E.2.1 dX11_tussleOf_39 rfl (lv_at hl 3 rfl) ?_
        refine lv_iload_n E.1 E.2.1 dX11_tussleOf_40 rfl (lv_at hl 2 rfl) ?_
        refine lv_icmp_ne (tgt := 49) E.1 E.2.1 dX11_tussleOf_41 (by decide) (fun c11 => ?_) (fun c11 => ?_)
        · have hf := q_neg c11 hf
          refine lv_aload_n E.1 E.2.1 dX11_tussleOf_49 rfl (lv_at hl 1 rfl) ?_
          refine q_gs E w 12 t_v0 fl_RX11_44 dX11_tussleOf_50 ?_
          refine lv_iload_n E.1 E.2.1 dX11_tussleOf_53 rfl (lv_at hl 3 rfl) ?_
          obtain ⟨b12, hf⟩ := q_if hf
          refine q_iald E w ((lay_11_27 t_v0).1) ((lay_11_27 t_v0).2) b12 dX11_tussleOf_54 ?_
          refine lv_iconst (v := 1) E.1 E.2.1 dX11_tussleOf_55 rfl ?_
          refine lv_iadd E.1 E.2.1 dX11_tussleOf_56 ?_
          refine lv_istore (lv' := [(4, .int ((h.1 (v0 + 12) v2.toNatClampNeg) + 1)), (3, .int 6), (0, .ref (ad G v0)), (1, .int v1), (2, .int v2)]) E.1 E.2.1 dX11_tussleOf_57 hl (by decide) rfl (fun ls hl => ?_)
          exact X11_tussleOf_l59_w E hr hlk ih N _ _ _ _ _ _ _ _ _ hf w t_v0 (lv_sub hl [2, 3, 4, 1, 0] rfl)
        · have hf := q_pos c11 hf
          refine lv_bipush (v := 9) E.1 E.2.1 dX11_tussleOf_44 rfl ?_
          refine lv_goto (tgt := 57) E.1 E.2.1 dX11_tussleOf_46 (by decide) ?_
          refine lv_istore (lv' := [(4, .int 9), (3, .int 6), (0, .ref (ad G v0)), (1, .int v1), (2, .int v2)]) E.1 E.2.1 dX11_tussleOf_57 hl (by decide) rfl (fun ls hl => ?_)
          exact X11_tussleOf_l59_w E hr hlk ih N _ _ _ _ _ _ _ _ _ hf w t_v0 (lv_sub hl [2, 3, 4, 1, 0] rfl)
      · have hf := q_pos c10 hf
        refine lv_bipush (v := 8) E.1 E.2.1 dX11_tussleOf_31 rfl ?_
        refine lv_goto (tgt := 38) E.1 E.2.1 dX11_tussleOf_33 (by decide) ?_
        refine lv_istore_n (lv' := [(3, .int 8), (0, .ref (ad G v0)), (1, .int v1), (2, .int v2)]) E.1 E.2.1 dX11_tussleOf_38 rfl hl (by decide) rfl (fun ls hl => ?_)
        refine lv_iload_n E.1 E.2.1 dX11_tussleOf_39 rfl (lv_at hl 3 rfl) ?_
        refine lv_iload_n E.1 E.2.1 dX11_tussleOf_40 rfl (lv_at hl 2 rfl) ?_
        refine lv_icmp_ne (tgt := 49) E.1 E.2.1 dX11_tussleOf_41 (by decide) (fun c60 => ?_) (fun c60 => ?_)
        · have hf := q_neg c60 hf
          refine lv_aload_n E.1 E.2.1 dX11_tussleOf_49 rfl (lv_at hl 1 rfl) ?_
          refine q_gs E w 12 t_v0 fl_RX11_44 dX11_tussleOf_50 ?_
          refine lv_iload_n E.1 E.2.1 dX11_tussleOf_53 rfl (lv_at hl 3 rfl) ?_
          obtain ⟨b61, hf⟩ := q_if hf
          refine q_iald E w ((lay_11_27 t_v0).1) ((lay_11_27 t_v0).2) b61 dX11_tussleOf_54 ?_
          refine lv_iconst (v := 1) E.1 E.2.1 dX11_tussleOf_55 rfl ?_
          refine lv_iadd E.1 E.2.1 dX11_tussleOf_56 ?_
          refine lv_istore (lv' := [(4, .int ((h.1 (v0 + 12) v2.toNatClampNeg) + 1)), (3, .int 8), (0, .ref (ad G v0)), (1, .int v1), (2, .int v2)]) E.1 E.2.1 dX11_tussleOf_57 hl (by decide) rfl (fun ls hl => ?_)
          exact X11_tussleOf_l59_w E hr hlk ih N _ _ _ _ _ _ _ _ _ hf w t_v0 (lv_sub hl [2, 3, 4, 1, 0] rfl)
        · have hf := q_pos c60 hf
          refine lv_bipush (v := 9) E.1 E.2.1 dX11_tussleOf_44 rfl ?_
          refine lv_goto (tgt := 57) E.1 E.2.1 dX11_tussleOf_46 (by decide) ?_
          refine lv_istore (lv' := [(4, .int 9), (3, .int 8), (0, .ref (ad G v0)), (1, .int v1), (2, .int v2)]) E.1 E.2.1 dX11_tussleOf_57 hl (by decide) rfl (fun ls hl => ?_)
          exact X11_tussleOf_l59_w E hr hlk ih N _ _ _ _ _ _ _ _ _ hf w t_v0 (lv_sub hl [2, 3, 4, 1, 0] rfl)

def X11_tussleOf (N : Nat) (h : HS) (v0 : Nat) (v1 : Int32) : Option (Int32 × HS) := (if (0 : Int32) < 0 ∨ 6 ≤ (0 : Int32).toNatClampNeg then none else sq (wi h (v0 + 10) (0 : Int32).toNatClampNeg 0) fun h2 => (if (0 : Int32) < 0 ∨ 6 ≤ (0 : Int32).toNatClampNeg then none else sq (wi h2 (v0 + 11) (0 : Int32).toNatClampNeg 0) fun h4 => bd1 (X11_laysTurn N h4 v0 0) fun h7 => X11_tussleOf_l21 N N h7 v0 v1 0))
set_option maxRecDepth 4000 in
set_option maxHeartbeats 2000000 in
theorem X11_tussleOf_c {l : Launch} {G : GT} {N : Nat} {h : HS} {v0 : Nat} {v1 : Int32} {z : (Int32 × HS)} (t_v0 : sh v0 = 11) (hf : X11_tussleOf N h v0 v1 = some z) : CT l G yX11_tussleOf cX11_tussleOf 5 (some .int) 3 67 [.ref (ad G v0), .int v1] h (some (.int z.1)) z.2 := by
  unfold X11_tussleOf at hf
  refine CT.of (by decide) (Nat.le_of_ble_eq_true rfl) ?_
  intro p e s m below meth c ls E hr hlk w hl
  have hl : lv_has ls 5 [(0, .ref (ad G v0)), (1, .int v1)] := hl
  refine lv_iconst (v := 0) E.1 E.2.1 dX11_tussleOf_0 rfl ?_
  refine lv_istore_n (lv' := [(2, .int 0), (0, .ref (ad G v0)), (1, .int v1)]) E.1 E.2.1 dX11_tussleOf_1 rfl hl (by decide) rfl (fun ls hl => ?_)
  refine lv_aload_n E.1 E.2.1 dX11_tussleOf_2 rfl (lv_at hl 1 rfl) ?_
  refine q_gs E w 10 t_v0 fl_RX11_38 dX11_tussleOf_3 ?_
  refine lv_iconst (v := 0) E.1 E.2.1 dX11_tussleOf_6 rfl ?_
  refine lv_iconst (v := 0) E.1 E.2.1 dX11_tussleOf_7 rfl ?_
  obtain ⟨b1, hf⟩ := q_if hf
  refine p_iast E w ((lay_11_25 t_v0).1) ((lay_11_25 t_v0).2) b1 dX11_tussleOf_8 (fun h2 H locs eh w => ?_)
  have hf := sq_e eh hf
  clear eh
  refine lv_aload_n E.1 E.2.1 dX11_tussleOf_9 rfl (lv_at hl 1 rfl) ?_
  refine q_gs E w 11 t_v0 fl_RX11_41 dX11_tussleOf_10 ?_
  refine lv_iconst (v := 0) E.1 E.2.1 dX11_tussleOf_13 rfl ?_
  refine lv_iconst (v := 0) E.1 E.2.1 dX11_tussleOf_14 rfl ?_
  obtain ⟨b3, hf⟩ := q_if hf
  refine p_iast E w ((lay_11_26 t_v0).1) ((lay_11_26 t_v0).2) b3 dX11_tussleOf_15 (fun h4 H locs eh w => ?_)
  have hf := sq_e eh hf
  clear eh
  refine lv_aload_n E.1 E.2.1 dX11_tussleOf_16 rfl (lv_at hl 1 rfl) ?_
  refine lv_iconst (v := 0) E.1 E.2.1 dX11_tussleOf_17 rfl ?_
  obtain ⟨h7, hc5, hf⟩ := bd1_e hf
  refine k_Vv (As := [.int 0]) (rest := []) E w t_v0 ⟨by decide, rfl⟩ (X11_laysTurn_c t_v0 hc5) mv_RX11_342 rfl rfl hl.1 ⟨Nat.le_of_ble_eq_true rfl, Nat.le_of_ble_eq_true rfl⟩ (Nat.le_of_ble_eq_true rfl) ⟨Nat.le_refl _, Nat.le_refl _⟩ dX11_tussleOf_18 (fun H locs w => ?_)
  exact X11_tussleOf_l21_w E hr hlk N _ _ _ _ _ _ _ hf w t_v0 (lv_sub hl [1, 2, 0] rfl)

def X11_tussle (N : Nat) (h : HS) (v0 : Nat) (v1 : Int32) (v2 : Int32) (v3 : Int32) : Option (Int32 × HS) := bd2 (X11_isHouse N h v0 v1) fun r2 h3 => (if r2 = 0 then some ((-999), h3) else bd1 (X11_isIn N h3 v2 0 4) fun r6 => (if r6 = 0 then some ((-999), h3) else sq (wi h3 v0 29 (-1)) fun h9 => bd2 (X11_tussleOf N h9 v0 v2) fun r11 h12 => (if v3 = 0 then some (r11, h12) else some (h12.1 v0 29, h12))))
set_option maxRecDepth 4000 in
set_option maxHeartbeats 2000000 in
theorem X11_tussle_c {l : Launch} {G : GT} {N : Nat} {h : HS} {v0 : Nat} {v1 : Int32} {v2 : Int32} {v3 : Int32} {z : (Int32 × HS)} (t_v0 : sh v0 = 11) (hf : X11_tussle N h v0 v1 v2 v3 = some z) : CT l G yX11_tussle cX11_tussle 5 (some .int) 4 91 [.ref (ad G v0), .int v1, .int v2, .int v3] h (some (.int z.1)) z.2 := by
  unfold X11_tussle at hf
  refine CT.of (by decide) (Nat.le_of_ble_eq_true rfl) ?_
  intro p e s m below meth c ls E hr hlk w hl
  have hl : lv_has ls 5 [(0, .ref (ad G v0)), (1, .int v1), (2, .int v2), (3, .int v3)] := hl
  refine lv_aload_n E.1 E.2.1 dX11_tussle_0 rfl (lv_at hl 0 rfl) ?_
  refine lv_iload_n E.1 E.2.1 dX11_tussle_1 rfl (lv_at hl 1 rfl) ?_
  obtain ⟨r2, h3, hc1, hf⟩ := bd2_e hf
  refine k_Vi (As := [.int v1]) (rest := []) E w t_v0 ⟨by decide, rfl⟩ (X11_isHouse_c t_v0 hc1) mv_RX11_197 rfl rfl hl.1 ⟨Nat.le_of_ble_eq_true rfl, Nat.le_of_ble_eq_true rfl⟩ (Nat.le_of_ble_eq_true rfl) ⟨Nat.le_refl _, Nat.le_refl _⟩ dX11_tussle_2 (fun H locs w => ?_)
  refine lv_if_eq (tgt := 17) E.1 E.2.1 dX11_tussle_5 (by decide) (fun c4 => ?_) (fun c4 => ?_)
  · have hf := q_pos c4 hf
    refine lv_sipush (v := (-999)) E.1 E.2.1 dX11_tussle_17 rfl ?_
    have hf := Option.some.inj hf
    subst hf
    exact q_iret E w hr hlk dX11_tussle_20
  · have hf := q_neg c4 hf
    refine lv_iload_n E.1 E.2.1 dX11_tussle_8 rfl (lv_at hl 2 rfl) ?_
    refine lv_iconst (v := 0) E.1 E.2.1 dX11_tussle_9 rfl ?_
    refine lv_iconst (v := 4) E.1 E.2.1 dX11_tussle_10 rfl ?_
    obtain ⟨r6, hc5, hf⟩ := bd1_e hf
    refine k_Si (As := [.int v2, .int 0, .int 4]) (rest := []) E w (X11_isIn_c  hc5) ms_RX11_123 rfl rfl hl.1 ⟨Nat.le_of_ble_eq_true rfl, Nat.le_of_ble_eq_true rfl⟩ (Nat.le_of_ble_eq_true rfl) ⟨Nat.le_refl _, Nat.le_refl _⟩ dX11_tussle_11 (fun H locs w => ?_)
    refine lv_if_ne (tgt := 21) E.1 E.2.1 dX11_tussle_14 (by decide) (fun c8 => ?_) (fun c8 => ?_)
    · have hf := q_neg c8 hf
      refine lv_aload_n E.1 E.2.1 dX11_tussle_21 rfl (lv_at hl 0 rfl) ?_
      refine lv_iconst (v := (-1)) E.1 E.2.1 dX11_tussle_22 rfl ?_
      refine p_pi E w t_v0 fl_RX11_339 (fp_11_29 _) dX11_tussle_23 (fun h9 H locs eh w => ?_)
      have hf := sq_e eh hf
      clear eh
      refine lv_aload_n E.1 E.2.1 dX11_tussle_26 rfl (lv_at hl 0 rfl) ?_
      refine lv_iload_n E.1 E.2.1 dX11_tussle_27 rfl (lv_at hl 2 rfl) ?_
      obtain ⟨r11, h12, hc10, hf⟩ := bd2_e hf
      refine k_Vi (As := [.int v2]) (rest := []) E w t_v0 ⟨by decide, rfl⟩ (X11_tussleOf_c t_v0 hc10) mv_RX11_354 rfl rfl hl.1 ⟨Nat.le_of_ble_eq_true rfl, Nat.le_of_ble_eq_true rfl⟩ (Nat.le_of_ble_eq_true rfl) ⟨Nat.le_refl _, Nat.le_refl _⟩ dX11_tussle_28 (fun H locs w => ?_)
      refine lv_istore (lv' := [(4, .int r11), (0, .ref (ad G v0)), (1, .int v1), (2, .int v2), (3, .int v3)]) E.1 E.2.1 dX11_tussle_31 hl (by decide) rfl (fun ls hl => ?_)
      refine lv_iload_n E.1 E.2.1 dX11_tussle_33 rfl (lv_at hl 4 rfl) ?_
      refine lv_if_eq (tgt := 44) E.1 E.2.1 dX11_tussle_34 (by decide) (fun c13 => ?_) (fun c13 => ?_)
      · have hf := q_pos c13 hf
        refine lv_iload E.1 E.2.1 dX11_tussle_44 (lv_at hl 0 rfl) ?_
        have hf := Option.some.inj hf
        subst hf
        exact q_iret E w hr hlk dX11_tussle_46
      · have hf := q_neg c13 hf
        refine lv_aload_n E.1 E.2.1 dX11_tussle_37 rfl (lv_at hl 1 rfl) ?_
        refine q_gi E w t_v0 fl_RX11_339 dX11_tussle_38 ?_
        refine lv_goto (tgt := 46) E.1 E.2.1 dX11_tussle_41 (by decide) ?_
        have hf := Option.some.inj hf
        subst hf
        exact q_iret E w hr hlk dX11_tussle_46
    · have hf := q_pos c8 hf
      refine lv_sipush (v := (-999)) E.1 E.2.1 dX11_tussle_17 rfl ?_
      have hf := Option.some.inj hf
      subst hf
      exact q_iret E w hr hlk dX11_tussle_20

def X11_mayBe (N : Nat) (h : HS) (v0 : Nat) (v1 : Int32) (v2 : Int32) : Option Int32 := bd1 (X11_isWalled N h v0 v1) fun r2 => (if r2 = 0 then bd1 (X11_noteOf N h v0 v1) fun r6 => (if v2 = r6 then some (nz 1) else some (nz 0)) else (if v2 ≤ 0 then some (nz 0) else some (nz 1)))
set_option maxRecDepth 4000 in
set_option maxHeartbeats 2000000 in
theorem X11_mayBe_c {l : Launch} {G : GT} {N : Nat} {h : HS} {v0 : Nat} {v1 : Int32} {v2 : Int32} {z : Int32} (t_v0 : sh v0 = 11) (hf : X11_mayBe N h v0 v1 v2 = some z) : CT l G yX11_mayBe cX11_mayBe 3 (some .boolean) 1 21 [.ref (ad G v0), .int v1, .int v2] h (some (.int z)) h := by
  unfold X11_mayBe at hf
  refine CT.of (by decide) (Nat.le_of_ble_eq_true rfl) ?_
  intro p e s m below meth c ls E hr hlk w hl
  have hl : lv_has ls 3 [(0, .ref (ad G v0)), (1, .int v1), (2, .int v2)] := hl
  refine lv_aload_n E.1 E.2.1 dX11_mayBe_0 rfl (lv_at hl 0 rfl) ?_
  refine lv_iload_n E.1 E.2.1 dX11_mayBe_1 rfl (lv_at hl 1 rfl) ?_
  obtain ⟨r2, hc1, hf⟩ := bd1_e hf
  refine k_Vi (As := [.int v1]) (rest := []) E w t_v0 ⟨by decide, rfl⟩ (X11_isWalled_c t_v0 hc1) mv_RX11_357 rfl rfl hl.1 ⟨Nat.le_of_ble_eq_true rfl, Nat.le_of_ble_eq_true rfl⟩ (Nat.le_of_ble_eq_true rfl) ⟨Nat.le_refl _, Nat.le_refl _⟩ dX11_mayBe_2 (fun H locs w => ?_)
  refine lv_if_eq (tgt := 20) E.1 E.2.1 dX11_mayBe_5 (by decide) (fun c4 => ?_) (fun c4 => ?_)
  · have hf := q_pos c4 hf
    refine lv_iload_n E.1 E.2.1 dX11_mayBe_20 rfl (lv_at hl 2 rfl) ?_
    refine lv_aload_n E.1 E.2.1 dX11_mayBe_21 rfl (lv_at hl 0 rfl) ?_
    refine lv_iload_n E.1 E.2.1 dX11_mayBe_22 rfl (lv_at hl 1 rfl) ?_
    obtain ⟨r6, hc5, hf⟩ := bd1_e hf
    refine k_Vi (As := [.int v1]) (rest := [.int v2]) E w t_v0 ⟨by decide, rfl⟩ (X11_noteOf_c t_v0 hc5) mv_RX11_194 rfl rfl hl.1 ⟨Nat.le_of_ble_eq_true rfl, Nat.le_of_ble_eq_true rfl⟩ (Nat.le_of_ble_eq_true rfl) ⟨Nat.le_refl _, Nat.le_refl _⟩ dX11_mayBe_23 (fun H locs w => ?_)
    refine lv_icmp_ne (tgt := 33) E.1 E.2.1 dX11_mayBe_26 (by decide) (fun c8 => ?_) (fun c8 => ?_)
    · have hf := q_neg c8 hf
      refine lv_iconst (v := 0) E.1 E.2.1 dX11_mayBe_33 rfl ?_
      have hf := Option.some.inj hf
      subst hf
      exact q_zret E w hr hlk dX11_mayBe_34
    · have hf := q_pos c8 hf
      refine lv_iconst (v := 1) E.1 E.2.1 dX11_mayBe_29 rfl ?_
      refine lv_goto (tgt := 34) E.1 E.2.1 dX11_mayBe_30 (by decide) ?_
      have hf := Option.some.inj hf
      subst hf
      exact q_zret E w hr hlk dX11_mayBe_34
  · have hf := q_neg c4 hf
    refine lv_iload_n E.1 E.2.1 dX11_mayBe_8 rfl (lv_at hl 2 rfl) ?_
    refine lv_if_le (tgt := 16) E.1 E.2.1 dX11_mayBe_9 (by decide) (fun c9 => ?_) (fun c9 => ?_)
    · have hf := q_pos c9 hf
      refine lv_iconst (v := 0) E.1 E.2.1 dX11_mayBe_16 rfl ?_
      refine lv_goto (tgt := 34) E.1 E.2.1 dX11_mayBe_17 (by decide) ?_
      have hf := Option.some.inj hf
      subst hf
      exact q_zret E w hr hlk dX11_mayBe_34
    · have hf := q_neg c9 hf
      refine lv_iconst (v := 1) E.1 E.2.1 dX11_mayBe_12 rfl ?_
      refine lv_goto (tgt := 34) E.1 E.2.1 dX11_mayBe_13 (by decide) ?_
      have hf := Option.some.inj hf
      subst hf
      exact q_zret E w hr hlk dX11_mayBe_34

def X11_isNear (N : Nat) (h : HS) (v0 : Nat) (v1 : Int32) (v2 : Int32) : Option Int32 := (if v1 = 0 then some (nz 1) else (if v2 = 0 then some (nz 1) else (if v1 ≤ v2 then (if ((h.1 v0 12) + 3) < 0 ∨ 3736 ≤ ((h.1 v0 12) + 3).toNatClampNeg then none else (if (h.1 (v0 + 1) ((h.1 v0 12) + 3).toNatClampNeg) < (v2 - v1) then some (nz 0) else some (nz 1))) else (if ((h.1 v0 12) + 3) < 0 ∨ 3736 ≤ ((h.1 v0 12) + 3).toNatClampNeg then none else (if (h.1 (v0 + 1) ((h.1 v0 12) + 3).toNatClampNeg) < (v1 - v2) then some (nz 0) else some (nz 1))))))
set_option maxRecDepth 4000 in
set_option maxHeartbeats 2000000 in
theorem X11_isNear_c {l : Launch} {G : GT} {N : Nat} {h : HS} {v0 : Nat} {v1 : Int32} {v2 : Int32} {z : Int32} (t_v0 : sh v0 = 11) (hf : X11_isNear N h v0 v1 v2 = some z) : CT l G yX11_isNear cX11_isNear 3 (some .boolean) 0 0 [.ref (ad G v0), .int v1, .int v2] h (some (.int z)) h := by
  unfold X11_isNear at hf
  refine CT.of (by decide) (Nat.le_of_ble_eq_true rfl) ?_
  intro p e s m below meth c ls E hr hlk w hl
  have hl : lv_has ls 3 [(0, .ref (ad G v0)), (1, .int v1), (2, .int v2)] := hl
  refine lv_iload_n E.1 E.2.1 dX11_isNear_0 rfl (lv_at hl 1 rfl) ?_
  refine lv_if_eq (tgt := 36) E.1 E.2.1 dX11_isNear_1 (by decide) (fun c1 => ?_) (fun c1 => ?_)
  · have hf := q_pos c1 hf
    refine lv_iconst (v := 1) E.1 E.2.1 dX11_isNear_36 rfl ?_
    refine lv_goto (tgt := 41) E.1 E.2.1 dX11_isNear_37 (by decide) ?_
    have hf := Option.some.inj hf
    subst hf
    exact q_zret E w hr hlk dX11_isNear_41
  · have hf := q_neg c1 hf
    refine lv_iload_n E.1 E.2.1 dX11_isNear_4 rfl (lv_at hl 2 rfl) ?_
    refine lv_if_eq (tgt := 36) E.1 E.2.1 dX11_isNear_5 (by decide) (fun c2 => ?_) (fun c2 => ?_)
    · have hf := q_pos c2 hf
      refine lv_iconst (v := 1) E.1 E.2.1 dX11_isNear_36 rfl ?_
      refine lv_goto (tgt := 41) E.1 E.2.1 dX11_isNear_37 (by decide) ?_
      have hf := Option.some.inj hf
      subst hf
      exact q_zret E w hr hlk dX11_isNear_41
    · have hf := q_neg c2 hf
      refine lv_iload_n E.1 E.2.1 dX11_isNear_8 rfl (lv_at hl 1 rfl) ?_
      refine lv_iload_n E.1 E.2.1 dX11_isNear_9 rfl (lv_at hl 2 rfl) ?_
      refine lv_icmp_le (tgt := 19) E.1 E.2.1 dX11_isNear_10 (by decide) (fun c3 => ?_) (fun c3 => ?_)
      · have hf := q_pos c3 hf
        refine lv_iload_n E.1 E.2.1 dX11_isNear_19 rfl (lv_at hl 2 rfl) ?_
        refine lv_iload_n E.1 E.2.1 dX11_isNear_20 rfl (lv_at hl 1 rfl) ?_
        refine lv_isub E.1 E.2.1 dX11_isNear_21 ?_
        refine lv_aload_n E.1 E.2.1 dX11_isNear_22 rfl (lv_at hl 0 rfl) ?_
        refine q_gs E w 1 t_v0 fl_RX11_7 dX11_isNear_23 ?_
        refine lv_aload_n E.1 E.2.1 dX11_isNear_26 rfl (lv_at hl 0 rfl) ?_
        refine q_gi E w t_v0 fl_RX11_182 dX11_isNear_27 ?_
        refine lv_iconst (v := 3) E.1 E.2.1 dX11_isNear_30 rfl ?_
        refine lv_iadd E.1 E.2.1 dX11_isNear_31 ?_
        obtain ⟨b4, hf⟩ := q_if hf
        refine q_iald E w ((lay_11_0 t_v0).1) ((lay_11_0 t_v0).2) b4 dX11_isNear_32 ?_
        refine lv_icmp_gt (tgt := 40) E.1 E.2.1 dX11_isNear_33 (by decide) (fun c5 => ?_) (fun c5 => ?_)
        · have hf := q_pos c5 hf
          refine lv_iconst (v := 0) E.1 E.2.1 dX11_isNear_40 rfl ?_
          have hf := Option.some.inj hf
          subst hf
          exact q_zret E w hr hlk dX11_isNear_41
        · have hf := q_neg c5 hf
          refine lv_iconst (v := 1) E.1 E.2.1 dX11_isNear_36 rfl ?_
          refine lv_goto (tgt := 41) E.1 E.2.1 dX11_isNear_37 (by decide) ?_
          have hf := Option.some.inj hf
          subst hf
          exact q_zret E w hr hlk dX11_isNear_41
      · have hf := q_neg c3 hf
        refine lv_iload_n E.1 E.2.1 dX11_isNear_13 rfl (lv_at hl 1 rfl) ?_
        refine lv_iload_n E.1 E.2.1 dX11_isNear_14 rfl (lv_at hl 2 rfl) ?_
        refine lv_isub E.1 E.2.1 dX11_isNear_15 ?_
        refine lv_goto (tgt := 22) E.1 E.2.1 dX11_isNear_16 (by decide) ?_
        refine lv_aload_n E.1 E.2.1 dX11_isNear_22 rfl (lv_at hl 0 rfl) ?_
        refine q_gs E w 1 t_v0 fl_RX11_7 dX11_isNear_23 ?_
        refine lv_aload_n E.1 E.2.1 dX11_isNear_26 rfl (lv_at hl 0 rfl) ?_
        refine q_gi E w t_v0 fl_RX11_182 dX11_isNear_27 ?_
        refine lv_iconst (v := 3) E.1 E.2.1 dX11_isNear_30 rfl ?_
        refine lv_iadd E.1 E.2.1 dX11_isNear_31 ?_
        obtain ⟨b6, hf⟩ := q_if hf
        refine q_iald E w ((lay_11_0 t_v0).1) ((lay_11_0 t_v0).2) b6 dX11_isNear_32 ?_
        refine lv_icmp_gt (tgt := 40) E.1 E.2.1 dX11_isNear_33 (by decide) (fun c7 => ?_) (fun c7 => ?_)
        · have hf := q_pos c7 hf
          refine lv_iconst (v := 0) E.1 E.2.1 dX11_isNear_40 rfl ?_
          have hf := Option.some.inj hf
          subst hf
          exact q_zret E w hr hlk dX11_isNear_41
        · have hf := q_neg c7 hf
          refine lv_iconst (v := 1) E.1 E.2.1 dX11_isNear_36 rfl ?_
          refine lv_goto (tgt := 41) E.1 E.2.1 dX11_isNear_37 (by decide) ?_
          have hf := Option.some.inj hf
          subst hf
          exact q_zret E w hr hlk dX11_isNear_41

def X11_laysTunes_b216 (N : Nat) (h : HS) (K132 : HS → Nat → Int32 → Option HS) (K142 : HS → Nat → Int32 → Int32 → Option HS) (v0 : Nat) (v1 : Int32) (v2 : Int32) (v3 : Int32) : Option HS := (if v3 = 0 then (if ((10 * v1) + v2) < 0 ∨ 80 ≤ ((10 * v1) + v2).toNatClampNeg then none else sq (wi h (v0 + 15) ((10 * v1) + v2).toNatClampNeg (vp_nar .boolean 0)) fun h8 => K142 h8 v0 v1 (v2 + 1)) else bd1 (X11_mayBe N h v0 v1 v2) fun r10 => (if r10 = 0 then (if ((10 * v1) + v2) < 0 ∨ 80 ≤ ((10 * v1) + v2).toNatClampNeg then none else sq (wi h (v0 + 15) ((10 * v1) + v2).toNatClampNeg (vp_nar .boolean 0)) fun h14 => K142 h14 v0 v1 (v2 + 1)) else (if ((10 * v1) + v2) < 0 ∨ 80 ≤ ((10 * v1) + v2).toNatClampNeg then none else sq (wi h (v0 + 15) ((10 * v1) + v2).toNatClampNeg (vp_nar .boolean 1)) fun h16 => K142 h16 v0 v1 (v2 + 1))))
set_option maxRecDepth 4000 in
set_option maxHeartbeats 2000000 in
theorem X11_laysTunes_b216_w {p : Program} {l : Launch} {e : Env} {s : State} {m : MethodId} {args : Array Value} {below : List Frame} {meth : Method} {c : Code} {G : GT} {N : Nat} {z : HS} {h : HS} (E : CallFix p m c cX11_laysTunes 5 s args UW RX11) (hr : meth.sig.returnType = none) (hlk : meth.locks = false) {K132 : HS → Nat → Int32 → Option HS} {K142 : HS → Nat → Int32 → Int32 → Option HS} (hK132 : ∀ (h : HS) (H : Heap) (locs : List Loc) (ls : Array Slot) (v0 : Nat) (v1 : Int32), K132 h v0 v1 = some z → WD G s h H locs → sh v0 = 11 → lv_has ls 5 [(0, .ref (ad G v0)), (1, .int v1)] → W p l e ({ frames := 2, cells := 0, slots := 0, locals := 43 } : Room) s m args below meth c H locs 0 0 (MQ below (QC G none z) args s 0 0 (AD G)) (F0 m 132 ls [])) (hK142 : ∀ (h : HS) (H : Heap) (locs : List Loc) (ls : Array Slot) (v0 : Nat) (v1 : Int32) (v2 : Int32), K142 h v0 v1 v2 = some z → WD G s h H locs → sh v0 = 11 → lv_has ls 5 [(0, .ref (ad G v0)), (1, .int v1), (2, .int v2)] → W p l e ({ frames := 2, cells := 0, slots := 0, locals := 43 } : Room) s m args below meth c H locs 0 0 (MQ below (QC G none z) args s 0 0 (AD G)) (F0 m 142 ls [])) {H : Heap} {locs : List Loc} {ls : Array Slot} {v0 : Nat} {v1 : Int32} {v2 : Int32} {v3 : Int32} (hf : X11_laysTunes_b216 N h K132 K142 v0 v1 v2 v3 = some z) (w : WD G s h H locs) (t_v0 : sh v0 = 11) (hl : lv_has ls 5 [(0, .ref (ad G v0)), (1, .int v1), (2, .int v2), (3, .int v3)]) : W p l e ({ frames := 2, cells := 0, slots := 0, locals := 43 } : Room) s m args below meth c H locs 0 0 (MQ below (QC G none z) args s 0 0 (AD G)) (F0 m 216 ls []) := by
  unfold X11_laysTunes_b216 at hf
  refine lv_aload_n E.1 E.2.1 dX11_laysTunes_216 rfl (lv_at hl 0 rfl) ?_
  refine q_gs E w 15 t_v0 fl_RX11_53 dX11_laysTunes_217 ?_
  refine lv_bipush (v := 10) E.1 E.2.1 dX11_laysTunes_220 rfl ?_
  refine lv_iload_n E.1 E.2.1 dX11_laysTunes_222 rfl (lv_at hl 1 rfl) ?_
  refine lv_imul E.1 E.2.1 dX11_laysTunes_223 ?_
  refine lv_iload_n E.1 E.2.1 dX11_laysTunes_224 rfl (lv_at hl 2 rfl) ?_
  refine lv_iadd E.1 E.2.1 dX11_laysTunes_225 ?_
  refine lv_iload_n E.1 E.2.1 dX11_laysTunes_226 rfl (lv_at hl 3 rfl) ?_
  refine lv_if_eq (tgt := 243) E.1 E.2.1 dX11_laysTunes_227 (by decide) (fun c6 => ?_) (fun c6 => ?_)
  · have hf := q_pos c6 hf
    refine lv_iconst (v := 0) E.1 E.2.1 dX11_laysTunes_243 rfl ?_
    obtain ⟨b7, hf⟩ := q_if hf
    refine p_zast E w ((lay_11_31 t_v0).1) ((lay_11_31 t_v0).2) b7 dX11_laysTunes_244 (fun h8 H locs eh w => ?_)
    have hf := sq_e eh hf
    clear eh
    refine lv_iinc (v := v2 + 1) (lv' := [(2, .int (v2 + 1)), (0, .ref (ad G v0)), (1, .int v1), (3, .int v3)]) E.1 E.2.1 dX11_laysTunes_245 hl (k := 2) rfl rfl (by decide) rfl (fun ls hl => ?_)
    refine lv_goto (tgt := 142) E.1 E.2.1 dX11_laysTunes_248 (by decide) ?_
    exact hK142 _ _ _ _ _ _ _ hf w t_v0 (lv_sub hl [1, 2, 0] rfl)
  · have hf := q_neg c6 hf
    refine lv_aload_n E.1 E.2.1 dX11_laysTunes_230 rfl (lv_at hl 0 rfl) ?_
    refine lv_iload_n E.1 E.2.1 dX11_laysTunes_231 rfl (lv_at hl 1 rfl) ?_
    refine lv_iload_n E.1 E.2.1 dX11_laysTunes_232 rfl (lv_at hl 2 rfl) ?_
    obtain ⟨r10, hc9, hf⟩ := bd1_e hf
    refine k_Vi (As := [.int v1, .int v2]) (rest := [.int ((10 * v1) + v2), .ref (ad G (v0 + 15))]) E w t_v0 ⟨by decide, rfl⟩ (X11_mayBe_c t_v0 hc9) mv_RX11_363 rfl rfl hl.1 ⟨Nat.le_of_ble_eq_true rfl, Nat.le_of_ble_eq_true rfl⟩ (Nat.le_of_ble_eq_true rfl) ⟨Nat.le_refl _, Nat.le_refl _⟩ dX11_laysTunes_233 (fun H locs w => ?_)
    refine lv_if_eq (tgt := 243) E.1 E.2.1 dX11_laysTunes_236 (by decide) (fun c12 => ?_) (fun c12 => ?_)
    · have hf := q_pos c12 hf
      refine lv_iconst (v := 0) E.1 E.2.1 dX11_laysTunes_243 rfl ?_
      obtain ⟨b13, hf⟩ := q_if hf
      refine p_zast E w ((lay_11_31 t_v0).1) ((lay_11_31 t_v0).2) b13 dX11_laysTunes_244 (fun h14 H locs eh w => ?_)
      have hf := sq_e eh hf
      clear eh
      refine lv_iinc (v := v2 + 1) (lv' := [(2, .int (v2 + 1)), (0, .ref (ad G v0)), (1, .int v1), (3, .int v3)]) E.1 E.2.1 dX11_laysTunes_245 hl (k := 2) rfl rfl (by decide) rfl (fun ls hl => ?_)
      refine lv_goto (tgt := 142) E.1 E.2.1 dX11_laysTunes_248 (by decide) ?_
      exact hK142 _ _ _ _ _ _ _ hf w t_v0 (lv_sub hl [1, 2, 0] rfl)
    · have hf := q_neg c12 hf
      refine lv_iconst (v := 1) E.1 E.2.1 dX11_laysTunes_239 rfl ?_
      refine lv_goto (tgt := 244) E.1 E.2.1 dX11_laysTunes_240 (by decide) ?_
      obtain ⟨b15, hf⟩ := q_if hf
      refine p_zast E w ((lay_11_31 t_v0).1) ((lay_11_31 t_v0).2) b15 dX11_laysTunes_244 (fun h16 H locs eh w => ?_)
      have hf := sq_e eh hf
      clear eh
      refine lv_iinc (v := v2 + 1) (lv' := [(2, .int (v2 + 1)), (0, .ref (ad G v0)), (1, .int v1), (3, .int v3)]) E.1 E.2.1 dX11_laysTunes_245 hl (k := 2) rfl rfl (by decide) rfl (fun ls hl => ?_)
      refine lv_goto (tgt := 142) E.1 E.2.1 dX11_laysTunes_248 (by decide) ?_
      exact hK142 _ _ _ _ _ _ _ hf w t_v0 (lv_sub hl [1, 2, 0] rfl)

def X11_laysTunes_l161 (N : Nat) (K132 : HS → Nat → Int32 → Option HS) (K142 : HS → Nat → Int32 → Int32 → Option HS) : Nat → HS → Nat → Int32 → Int32 → Int32 → Int32 → Option HS
  | 0, _, _, _, _, _, _ => none
  | n + 1, h, v0, v1, v2, v3, v4 => (if (10 : Int32) ≤ v4 then X11_laysTunes_b216 N h K132 K142 v0 v1 v2 v3 else (if v1 ≤ 0 then X11_laysTunes_b216 N h K132 K142 v0 v1 v2 v3 else (if v3 = 0 then (if (((10 * v1) - 10) + v4) < 0 ∨ 80 ≤ (((10 * v1) - 10) + v4).toNatClampNeg then none else (if (h.1 (v0 + 15) (((10 * v1) - 10) + v4).toNatClampNeg) = 0 then X11_laysTunes_l161 N K132 K142 n h v0 v1 v2 0 (v4 + 1) else bd1 (X11_isNear N h v0 v4 v2) fun r22 => (if r22 = 0 then X11_laysTunes_l161 N K132 K142 n h v0 v1 v2 0 (v4 + 1) else X11_laysTunes_l161 N K132 K142 n h v0 v1 v2 1 (v4 + 1)))) else X11_laysTunes_l161 N K132 K142 n h v0 v1 v2 1 (v4 + 1))))
set_option maxRecDepth 4000 in
set_option maxHeartbeats 2000000 in
theorem X11_laysTunes_l161_w {p : Program} {l : Launch} {e : Env} {s : State} {m : MethodId} {args : Array Value} {below : List Frame} {meth : Method} {c : Code} {G : GT} {N : Nat} {z : HS} (E : CallFix p m c cX11_laysTunes 5 s args UW RX11) (hr : meth.sig.returnType = none) (hlk : meth.locks = false) {K132 : HS → Nat → Int32 → Option HS} {K142 : HS → Nat → Int32 → Int32 → Option HS} (hK132 : ∀ (h : HS) (H : Heap) (locs : List Loc) (ls : Array Slot) (v0 : Nat) (v1 : Int32), K132 h v0 v1 = some z → WD G s h H locs → sh v0 = 11 → lv_has ls 5 [(0, .ref (ad G v0)), (1, .int v1)] → W p l e ({ frames := 2, cells := 0, slots := 0, locals := 43 } : Room) s m args below meth c H locs 0 0 (MQ below (QC G none z) args s 0 0 (AD G)) (F0 m 132 ls [])) (hK142 : ∀ (h : HS) (H : Heap) (locs : List Loc) (ls : Array Slot) (v0 : Nat) (v1 : Int32) (v2 : Int32), K142 h v0 v1 v2 = some z → WD G s h H locs → sh v0 = 11 → lv_has ls 5 [(0, .ref (ad G v0)), (1, .int v1), (2, .int v2)] → W p l e ({ frames := 2, cells := 0, slots := 0, locals := 43 } : Room) s m args below meth c H locs 0 0 (MQ below (QC G none z) args s 0 0 (AD G)) (F0 m 142 ls [])) : ∀ (n : Nat) (h : HS) (H : Heap) (locs : List Loc) (ls : Array Slot) (v0 : Nat) (v1 : Int32) (v2 : Int32) (v3 : Int32) (v4 : Int32), X11_laysTunes_l161 N K132 K142 n h v0 v1 v2 v3 v4 = some z → WD G s h H locs → sh v0 = 11 → lv_has ls 5 [(0, .ref (ad G v0)), (1, .int v1), (2, .int v2), (3, .int v3), (4, .int v4)] → W p l e ({ frames := 2, cells := 0, slots := 0, locals := 43 } : Room) s m args below meth c H locs 0 0 (MQ below (QC G none z) args s 0 0 (AD G)) (F0 m 161 ls []) := by
  intro n
  induction n with
  | zero =>
    intro h H locs ls v0 v1 v2 v3 v4 hf
    cases hf
  | succ n ih =>
    intro h H locs ls v0 v1 v2 v3 v4 hf w t_v0 hl
    unfold X11_laysTunes_l161 at hf
    refine lv_iload E.1 E.2.1 dX11_laysTunes_161 (lv_at hl 4 rfl) ?_
    refine lv_bipush (v := 10) E.1 E.2.1 dX11_laysTunes_163 rfl ?_
    refine lv_icmp_ge (tgt := 216) E.1 E.2.1 dX11_laysTunes_165 (by decide) (fun c5 => ?_) (fun c5 => ?_)
    · have hf := q_pos c5 hf
      exact X11_laysTunes_b216_w E hr hlk hK132 hK142 hf w t_v0 (lv_sub hl [0, 1, 2, 3] rfl)
    · have hf := q_neg c5 hf
      refine lv_iload_n E.1 E.2.1 dX11_laysTunes_168 rfl (lv_at hl 1 rfl) ?_
      refine lv_if_le (tgt := 216) E.1 E.2.1 dX11_laysTunes_169 (by decide) (fun c17 => ?_) (fun c17 => ?_)
      · have hf := q_pos c17 hf
        exact X11_laysTunes_b216_w E hr hlk hK132 hK142 hf w t_v0 (lv_sub hl [0, 1, 2, 3] rfl)
      · have hf := q_neg c17 hf
        refine lv_iload_n E.1 E.2.1 dX11_laysTunes_172 rfl (lv_at hl 3 rfl) ?_
        refine lv_if_ne (tgt := 204) E.1 E.2.1 dX11_laysTunes_173 (by decide) (fun c18 => ?_) (fun c18 => ?_)
        · have hf := q_neg c18 hf
          refine lv_iconst (v := 1) E.1 E.2.1 dX11_laysTunes_204 rfl ?_
          refine lv_goto (tgt := 209) E.1 E.2.1 dX11_laysTunes_205 (by decide) ?_
          refine lv_istore_n (lv' := [(3, .int 1), (0, .ref (ad G v0)), (1, .int v1), (2, .int v2), (4, .int v4)]) E.1 E.2.1 dX11_laysTunes_209 rfl hl (by decide) rfl (fun ls hl => ?_)
          refine lv_iinc (v := v4 + 1) (lv' := [(4, .int (v4 + 1)), (3, .int 1), (0, .ref (ad G v0)), (1, .int v1), (2, .int v2)]) E.1 E.2.1 dX11_laysTunes_210 hl (k := 4) rfl rfl (by decide) rfl (fun ls hl => ?_)
          refine lv_goto (tgt := 161) E.1 E.2.1 dX11_laysTunes_213 (by decide) ?_
          exact ih _ _ _ _ _ _ _ _ _ hf w t_v0 (lv_sub hl [2, 3, 4, 1, 0] rfl)
        · have hf := q_pos c18 hf
          refine lv_aload_n E.1 E.2.1 dX11_laysTunes_176 rfl (lv_at hl 0 rfl) ?_
          refine q_gs E w 15 t_v0 fl_RX11_53 dX11_laysTunes_177 ?_
          refine lv_bipush (v := 10) E.1 E.2.1 dX11_laysTunes_180 rfl ?_
          refine lv_iload_n E.1 E.2.1 dX11_laysTunes_182 rfl (lv_at hl 1 rfl) ?_
          refine lv_imul E.1 E.2.1 dX11_laysTunes_183 ?_
          refine lv_bipush (v := 10) E.1 E.2.1 dX11_laysTunes_184 rfl ?_
          refine lv_isub E.1 E.2.1 dX11_laysTunes_186 ?_
          refine lv_iload E.1 E.2.1 dX11_laysTunes_187 (lv_at hl 4 rfl) ?_
          refine lv_iadd E.1 E.2.1 dX11_laysTunes_189 ?_
          obtain ⟨b19, hf⟩ := q_if hf
          refine q_zald E w ((lay_11_31 t_v0).1) ((lay_11_31 t_v0).2) b19 dX11_laysTunes_190 ?_
          refine lv_if_eq (tgt := 208) E.1 E.2.1 dX11_laysTunes_191 (by decide) (fun c20 => ?_) (fun c20 => ?_)
          · have hf := q_pos c20 hf
            refine lv_iconst (v := 0) E.1 E.2.1 dX11_laysTunes_208 rfl ?_
            refine lv_istore_n (lv' := [(3, .int 0), (0, .ref (ad G v0)), (1, .int v1), (2, .int v2), (4, .int v4)]) E.1 E.2.1 dX11_laysTunes_209 rfl hl (by decide) rfl (fun ls hl => ?_)
            refine lv_iinc (v := v4 + 1) (lv' := [(4, .int (v4 + 1)), (3, .int 0), (0, .ref (ad G v0)), (1, .int v1), (2, .int v2)]) E.1 E.2.1 dX11_laysTunes_210 hl (k := 4) rfl rfl (by decide) rfl (fun ls hl => ?_)
            refine lv_goto (tgt := 161) E.1 E.2.1 dX11_laysTunes_213 (by decide) ?_
            exact ih _ _ _ _ _ _ _ _ _ hf w t_v0 (lv_sub hl [2, 3, 4, 1, 0] rfl)
          · have hf := q_neg c20 hf
            refine lv_aload_n E.1 E.2.1 dX11_laysTunes_194 rfl (lv_at hl 0 rfl) ?_
            refine lv_iload E.1 E.2.1 dX11_laysTunes_195 (lv_at hl 4 rfl) ?_
            refine lv_iload_n E.1 E.2.1 dX11_laysTunes_197 rfl (lv_at hl 2 rfl) ?_
            obtain ⟨r22, hc21, hf⟩ := bd1_e hf
            refine k_Vi (As := [.int v4, .int v2]) (rest := []) E w t_v0 ⟨by decide, rfl⟩ (X11_isNear_c t_v0 hc21) mv_RX11_360 rfl rfl hl.1 ⟨Nat.le_of_ble_eq_true rfl, Nat.le_of_ble_eq_true rfl⟩ (Nat.le_of_ble_eq_true rfl) ⟨Nat.le_refl _, Nat.le_refl _⟩ dX11_laysTunes_198 (fun H locs w => ?_)
            refine lv_if_eq (tgt := 208) E.1 E.2.1 dX11_laysTunes_201 (by decide) (fun c24 => ?_) (fun c24 => ?_)
            · have hf := q_pos c24 hf
              refine lv_iconst (v := 0) E.1 E.2.1 dX11_laysTunes_208 rfl ?_
              refine lv_istore_n (lv' := [(3, .int 0), (0, .ref (ad G v0)), (1, .int v1), (2, .int v2), (4, .int v4)]) E.1 E.2.1 dX11_laysTunes_209 rfl hl (by decide) rfl (fun ls hl => ?_)
              refine lv_iinc (v := v4 + 1) (lv' := [(4, .int (v4 + 1)), (3, .int 0), (0, .ref (ad G v0)), (1, .int v1), (2, .int v2)]) E.1 E.2.1 dX11_laysTunes_210 hl (k := 4) rfl rfl (by decide) rfl (fun ls hl => ?_)
              refine lv_goto (tgt := 161) E.1 E.2.1 dX11_laysTunes_213 (by decide) ?_
              exact ih _ _ _ _ _ _ _ _ _ hf w t_v0 (lv_sub hl [2, 3, 4, 1, 0] rfl)
            · have hf := q_neg c24 hf
              refine lv_iconst (v := 1) E.1 E.2.1 dX11_laysTunes_204 rfl ?_
              refine lv_goto (tgt := 209) E.1 E.2.1 dX11_laysTunes_205 (by decide) ?_
              refine lv_istore_n (lv' := [(3, .int 1), (0, .ref (ad G v0)), (1, .int v1), (2, .int v2), (4, .int v4)]) E.1 E.2.1 dX11_laysTunes_209 rfl hl (by decide) rfl (fun ls hl => ?_)
              refine lv_iinc (v := v4 + 1) (lv' := [(4, .int (v4 + 1)), (3, .int 1), (0, .ref (ad G v0)), (1, .int v1), (2, .int v2)]) E.1 E.2.1 dX11_laysTunes_210 hl (k := 4) rfl rfl (by decide) rfl (fun ls hl => ?_)
              refine lv_goto (tgt := 161) E.1 E.2.1 dX11_laysTunes_213 (by decide) ?_
              exact ih _ _ _ _ _ _ _ _ _ hf w t_v0 (lv_sub hl [2, 3, 4, 1, 0] rfl)

def X11_laysTunes_l142 (N : Nat) (K132 : HS → Nat → Int32 → Option HS) : Nat → HS → Nat → Int32 → Int32 → Option HS
  | 0, _, _, _, _ => none
  | n + 1, h, v0, v1, v2 => (if (10 : Int32) ≤ v2 then K132 h v0 (v1 + 1) else (if v1 = 0 then X11_laysTunes_l161 N K132 (X11_laysTunes_l142 N K132 n) N h v0 v1 v2 1 0 else X11_laysTunes_l161 N K132 (X11_laysTunes_l142 N K132 n) N h v0 v1 v2 0 0))
set_option maxRecDepth 4000 in
set_option maxHeartbeats 2000000 in
theorem X11_laysTunes_l142_w {p : Program} {l : Launch} {e : Env} {s : State} {m : MethodId} {args : Array Value} {below : List Frame} {meth : Method} {c : Code} {G : GT} {N : Nat} {z : HS} (E : CallFix p m c cX11_laysTunes 5 s args UW RX11) (hr : meth.sig.returnType = none) (hlk : meth.locks = false) {K132 : HS → Nat → Int32 → Option HS} (hK132 : ∀ (h : HS) (H : Heap) (locs : List Loc) (ls : Array Slot) (v0 : Nat) (v1 : Int32), K132 h v0 v1 = some z → WD G s h H locs → sh v0 = 11 → lv_has ls 5 [(0, .ref (ad G v0)), (1, .int v1)] → W p l e ({ frames := 2, cells := 0, slots := 0, locals := 43 } : Room) s m args below meth c H locs 0 0 (MQ below (QC G none z) args s 0 0 (AD G)) (F0 m 132 ls [])) : ∀ (n : Nat) (h : HS) (H : Heap) (locs : List Loc) (ls : Array Slot) (v0 : Nat) (v1 : Int32) (v2 : Int32), X11_laysTunes_l142 N K132 n h v0 v1 v2 = some z → WD G s h H locs → sh v0 = 11 → lv_has ls 5 [(0, .ref (ad G v0)), (1, .int v1), (2, .int v2)] → W p l e ({ frames := 2, cells := 0, slots := 0, locals := 43 } : Room) s m args below meth c H locs 0 0 (MQ below (QC G none z) args s 0 0 (AD G)) (F0 m 142 ls []) := by
  intro n
  induction n with
  | zero =>
    intro h H locs ls v0 v1 v2 hf
    cases hf
  | succ n ih =>
    intro h H locs ls v0 v1 v2 hf w t_v0 hl
    unfold X11_laysTunes_l142 at hf
    refine lv_iload_n E.1 E.2.1 dX11_laysTunes_142 rfl (lv_at hl 2 rfl) ?_
    refine lv_bipush (v := 10) E.1 E.2.1 dX11_laysTunes_143 rfl ?_
    refine lv_icmp_ge (tgt := 251) E.1 E.2.1 dX11_laysTunes_145 (by decide) (fun c3 => ?_) (fun c3 => ?_)
    · have hf := q_pos c3 hf
      refine lv_iinc (v := v1 + 1) (lv' := [(1, .int (v1 + 1)), (0, .ref (ad G v0)), (2, .int v2)]) E.1 E.2.1 dX11_laysTunes_251 hl (k := 1) rfl rfl (by decide) rfl (fun ls hl => ?_)
      refine lv_goto (tgt := 132) E.1 E.2.1 dX11_laysTunes_254 (by decide) ?_
      exact hK132 _ _ _ _ _ _ hf w t_v0 (lv_sub hl [1, 0] rfl)
    · have hf := q_neg c3 hf
      refine lv_iload_n E.1 E.2.1 dX11_laysTunes_148 rfl (lv_at hl 1 rfl) ?_
      refine lv_if_ne (tgt := 156) E.1 E.2.1 dX11_laysTunes_149 (by decide) (fun c4 => ?_) (fun c4 => ?_)
      · have hf := q_neg c4 hf
        refine lv_iconst (v := 0) E.1 E.2.1 dX11_laysTunes_156 rfl ?_
        refine lv_istore_n (lv' := [(3, .int 0), (0, .ref (ad G v0)), (1, .int v1), (2, .int v2)]) E.1 E.2.1 dX11_laysTunes_157 rfl hl (by decide) rfl (fun ls hl => ?_)
        refine lv_iconst (v := 0) E.1 E.2.1 dX11_laysTunes_158 rfl ?_
        refine lv_istore (lv' := [(4, .int 0), (3, .int 0), (0, .ref (ad G v0)), (1, .int v1), (2, .int v2)]) E.1 E.2.1 dX11_laysTunes_159 hl (by decide) rfl (fun ls hl => ?_)
        exact X11_laysTunes_l161_w E hr hlk hK132 ih N _ _ _ _ _ _ _ _ _ hf w t_v0 (lv_sub hl [2, 3, 4, 1, 0] rfl)
      · have hf := q_pos c4 hf
        refine lv_iconst (v := 1) E.1 E.2.1 dX11_laysTunes_152 rfl ?_
        refine lv_goto (tgt := 157) E.1 E.2.1 dX11_laysTunes_153 (by decide) ?_
        refine lv_istore_n (lv' := [(3, .int 1), (0, .ref (ad G v0)), (1, .int v1), (2, .int v2)]) E.1 E.2.1 dX11_laysTunes_157 rfl hl (by decide) rfl (fun ls hl => ?_)
        refine lv_iconst (v := 0) E.1 E.2.1 dX11_laysTunes_158 rfl ?_
        refine lv_istore (lv' := [(4, .int 0), (3, .int 1), (0, .ref (ad G v0)), (1, .int v1), (2, .int v2)]) E.1 E.2.1 dX11_laysTunes_159 hl (by decide) rfl (fun ls hl => ?_)
        exact X11_laysTunes_l161_w E hr hlk hK132 ih N _ _ _ _ _ _ _ _ _ hf w t_v0 (lv_sub hl [2, 3, 4, 1, 0] rfl)

def X11_laysTunes_l132 (N : Nat) : Nat → HS → Nat → Int32 → Option HS
  | 0, _, _, _ => none
  | n + 1, h, v0, v1 => (if (h.1 v0 14) ≤ v1 then some h else X11_laysTunes_l142 N (X11_laysTunes_l132 N n) N h v0 v1 0)
set_option maxRecDepth 4000 in
set_option maxHeartbeats 2000000 in
theorem X11_laysTunes_l132_w {p : Program} {l : Launch} {e : Env} {s : State} {m : MethodId} {args : Array Value} {below : List Frame} {meth : Method} {c : Code} {G : GT} {N : Nat} {z : HS} (E : CallFix p m c cX11_laysTunes 5 s args UW RX11) (hr : meth.sig.returnType = none) (hlk : meth.locks = false) : ∀ (n : Nat) (h : HS) (H : Heap) (locs : List Loc) (ls : Array Slot) (v0 : Nat) (v1 : Int32), X11_laysTunes_l132 N n h v0 v1 = some z → WD G s h H locs → sh v0 = 11 → lv_has ls 5 [(0, .ref (ad G v0)), (1, .int v1)] → W p l e ({ frames := 2, cells := 0, slots := 0, locals := 43 } : Room) s m args below meth c H locs 0 0 (MQ below (QC G none z) args s 0 0 (AD G)) (F0 m 132 ls []) := by
  intro n
  induction n with
  | zero =>
    intro h H locs ls v0 v1 hf
    cases hf
  | succ n ih =>
    intro h H locs ls v0 v1 hf w t_v0 hl
    unfold X11_laysTunes_l132 at hf
    refine lv_iload_n E.1 E.2.1 dX11_laysTunes_132 rfl (lv_at hl 1 rfl) ?_
    refine lv_aload_n E.1 E.2.1 dX11_laysTunes_133 rfl (lv_at hl 0 rfl) ?_
    refine q_gi E w t_v0 fl_RX11_188 dX11_laysTunes_134 ?_
    refine lv_icmp_ge (tgt := 257) E.1 E.2.1 dX11_laysTunes_137 (by decide) (fun c2 => ?_) (fun c2 => ?_)
    · have hf := q_pos c2 hf
      have hf := Option.some.inj hf
      subst hf
      exact q_vret E w hr hlk dX11_laysTunes_257
    · have hf := q_neg c2 hf
      refine lv_iconst (v := 0) E.1 E.2.1 dX11_laysTunes_140 rfl ?_
      refine lv_istore_n (lv' := [(2, .int 0), (0, .ref (ad G v0)), (1, .int v1)]) E.1 E.2.1 dX11_laysTunes_141 rfl hl (by decide) rfl (fun ls hl => ?_)
      exact X11_laysTunes_l142_w E hr hlk ih N _ _ _ _ _ _ _ hf w t_v0 (lv_sub hl [1, 2, 0] rfl)

def X11_laysTunes_b93 (N : Nat) (h : HS) (K7 : HS → Nat → Int32 → Option HS) (K13 : HS → Nat → Int32 → Int32 → Option HS) (v0 : Nat) (v1 : Int32) (v2 : Int32) (v3 : Int32) : Option HS := bd1 (X11_mayBe N h v0 v1 v2) fun r29 => (if r29 = 0 then (if ((10 * v1) + v2) < 0 ∨ 80 ≤ ((10 * v1) + v2).toNatClampNeg then none else sq (wi h (v0 + 14) ((10 * v1) + v2).toNatClampNeg 0) fun h33 => K13 h33 v0 v1 (v2 + 1)) else (if ((10 * v1) + v2) < 0 ∨ 80 ≤ ((10 * v1) + v2).toNatClampNeg then none else sq (wi h (v0 + 14) ((10 * v1) + v2).toNatClampNeg v3) fun h35 => K13 h35 v0 v1 (v2 + 1)))
set_option maxRecDepth 4000 in
set_option maxHeartbeats 2000000 in
theorem X11_laysTunes_b93_w {p : Program} {l : Launch} {e : Env} {s : State} {m : MethodId} {args : Array Value} {below : List Frame} {meth : Method} {c : Code} {G : GT} {N : Nat} {z : HS} {h : HS} (E : CallFix p m c cX11_laysTunes 5 s args UW RX11) (hr : meth.sig.returnType = none) (hlk : meth.locks = false) {K7 : HS → Nat → Int32 → Option HS} {K13 : HS → Nat → Int32 → Int32 → Option HS} (hK7 : ∀ (h : HS) (H : Heap) (locs : List Loc) (ls : Array Slot) (v0 : Nat) (v1 : Int32), K7 h v0 v1 = some z → WD G s h H locs → sh v0 = 11 → lv_has ls 5 [(0, .ref (ad G v0)), (1, .int v1)] → W p l e ({ frames := 2, cells := 0, slots := 0, locals := 43 } : Room) s m args below meth c H locs 0 0 (MQ below (QC G none z) args s 0 0 (AD G)) (F0 m 7 ls [])) (hK13 : ∀ (h : HS) (H : Heap) (locs : List Loc) (ls : Array Slot) (v0 : Nat) (v1 : Int32) (v2 : Int32), K13 h v0 v1 v2 = some z → WD G s h H locs → sh v0 = 11 → lv_has ls 5 [(0, .ref (ad G v0)), (1, .int v1), (2, .int v2)] → W p l e ({ frames := 2, cells := 0, slots := 0, locals := 43 } : Room) s m args below meth c H locs 0 0 (MQ below (QC G none z) args s 0 0 (AD G)) (F0 m 13 ls [])) {H : Heap} {locs : List Loc} {ls : Array Slot} {v0 : Nat} {v1 : Int32} {v2 : Int32} {v3 : Int32} (hf : X11_laysTunes_b93 N h K7 K13 v0 v1 v2 v3 = some z) (w : WD G s h H locs) (t_v0 : sh v0 = 11) (hl : lv_has ls 5 [(0, .ref (ad G v0)), (1, .int v1), (2, .int v2), (3, .int v3)]) : W p l e ({ frames := 2, cells := 0, slots := 0, locals := 43 } : Room) s m args below meth c H locs 0 0 (MQ below (QC G none z) args s 0 0 (AD G)) (F0 m 93 ls []) := by
  unfold X11_laysTunes_b93 at hf
  refine lv_aload_n E.1 E.2.1 dX11_laysTunes_93 rfl (lv_at hl 0 rfl) ?_
  refine q_gs E w 14 t_v0 fl_RX11_50 dX11_laysTunes_94 ?_
  refine lv_bipush (v := 10) E.1 E.2.1 dX11_laysTunes_97 rfl ?_
  refine lv_iload_n E.1 E.2.1 dX11_laysTunes_99 rfl (lv_at hl 1 rfl) ?_
  refine lv_imul E.1 E.2.1 dX11_laysTunes_100 ?_
  refine lv_iload_n E.1 E.2.1 dX11_laysTunes_101 rfl (lv_at hl 2 rfl) ?_
  refine lv_iadd E.1 E.2.1 dX11_laysTunes_102 ?_
  refine lv_aload_n E.1 E.2.1 dX11_laysTunes_103 rfl (lv_at hl 0 rfl) ?_
  refine lv_iload_n E.1 E.2.1 dX11_laysTunes_104 rfl (lv_at hl 1 rfl) ?_
  refine lv_iload_n E.1 E.2.1 dX11_laysTunes_105 rfl (lv_at hl 2 rfl) ?_
  obtain ⟨r29, hc28, hf⟩ := bd1_e hf
  refine k_Vi (As := [.int v1, .int v2]) (rest := [.int ((10 * v1) + v2), .ref (ad G (v0 + 14))]) E w t_v0 ⟨by decide, rfl⟩ (X11_mayBe_c t_v0 hc28) mv_RX11_363 rfl rfl hl.1 ⟨Nat.le_of_ble_eq_true rfl, Nat.le_of_ble_eq_true rfl⟩ (Nat.le_of_ble_eq_true rfl) ⟨Nat.le_refl _, Nat.le_refl _⟩ dX11_laysTunes_106 (fun H locs w => ?_)
  refine lv_if_eq (tgt := 116) E.1 E.2.1 dX11_laysTunes_109 (by decide) (fun c31 => ?_) (fun c31 => ?_)
  · have hf := q_pos c31 hf
    refine lv_iconst (v := 0) E.1 E.2.1 dX11_laysTunes_116 rfl ?_
    obtain ⟨b32, hf⟩ := q_if hf
    refine p_iast E w ((lay_11_30 t_v0).1) ((lay_11_30 t_v0).2) b32 dX11_laysTunes_117 (fun h33 H locs eh w => ?_)
    have hf := sq_e eh hf
    clear eh
    refine lv_iinc (v := v2 + 1) (lv' := [(2, .int (v2 + 1)), (0, .ref (ad G v0)), (1, .int v1), (3, .int v3)]) E.1 E.2.1 dX11_laysTunes_118 hl (k := 2) rfl rfl (by decide) rfl (fun ls hl => ?_)
    refine lv_goto (tgt := 13) E.1 E.2.1 dX11_laysTunes_121 (by decide) ?_
    exact hK13 _ _ _ _ _ _ _ hf w t_v0 (lv_sub hl [1, 2, 0] rfl)
  · have hf := q_neg c31 hf
    refine lv_iload_n E.1 E.2.1 dX11_laysTunes_112 rfl (lv_at hl 3 rfl) ?_
    refine lv_goto (tgt := 117) E.1 E.2.1 dX11_laysTunes_113 (by decide) ?_
    obtain ⟨b34, hf⟩ := q_if hf
    refine p_iast E w ((lay_11_30 t_v0).1) ((lay_11_30 t_v0).2) b34 dX11_laysTunes_117 (fun h35 H locs eh w => ?_)
    have hf := sq_e eh hf
    clear eh
    refine lv_iinc (v := v2 + 1) (lv' := [(2, .int (v2 + 1)), (0, .ref (ad G v0)), (1, .int v1), (3, .int v3)]) E.1 E.2.1 dX11_laysTunes_118 hl (k := 2) rfl rfl (by decide) rfl (fun ls hl => ?_)
    refine lv_goto (tgt := 13) E.1 E.2.1 dX11_laysTunes_121 (by decide) ?_
    exact hK13 _ _ _ _ _ _ _ hf w t_v0 (lv_sub hl [1, 2, 0] rfl)

def X11_laysTunes_l38 (N : Nat) (K7 : HS → Nat → Int32 → Option HS) (K13 : HS → Nat → Int32 → Int32 → Option HS) : Nat → HS → Nat → Int32 → Int32 → Int32 → Int32 → Option HS
  | 0, _, _, _, _, _, _ => none
  | n + 1, h, v0, v1, v2, v3, v4 => (if (10 : Int32) ≤ v4 then X11_laysTunes_b93 N h K7 K13 v0 v1 v2 v3 else (if ((h.1 v0 14) - 1) ≤ v1 then X11_laysTunes_b93 N h K7 K13 v0 v1 v2 v3 else bd1 (X11_isNear N h v0 v2 v4) fun r38 => (if r38 = 0 then X11_laysTunes_l38 N K7 K13 n h v0 v1 v2 (v3 + 0) (v4 + 1) else (if (((10 * v1) + 10) + v4) < 0 ∨ 80 ≤ (((10 * v1) + 10) + v4).toNatClampNeg then none else X11_laysTunes_l38 N K7 K13 n h v0 v1 v2 (v3 + (h.1 (v0 + 14) (((10 * v1) + 10) + v4).toNatClampNeg)) (v4 + 1)))))
set_option maxRecDepth 4000 in
set_option maxHeartbeats 2000000 in
theorem X11_laysTunes_l38_w {p : Program} {l : Launch} {e : Env} {s : State} {m : MethodId} {args : Array Value} {below : List Frame} {meth : Method} {c : Code} {G : GT} {N : Nat} {z : HS} (E : CallFix p m c cX11_laysTunes 5 s args UW RX11) (hr : meth.sig.returnType = none) (hlk : meth.locks = false) {K7 : HS → Nat → Int32 → Option HS} {K13 : HS → Nat → Int32 → Int32 → Option HS} (hK7 : ∀ (h : HS) (H : Heap) (locs : List Loc) (ls : Array Slot) (v0 : Nat) (v1 : Int32), K7 h v0 v1 = some z → WD G s h H locs → sh v0 = 11 → lv_has ls 5 [(0, .ref (ad G v0)), (1, .int v1)] → W p l e ({ frames := 2, cells := 0, slots := 0, locals := 43 } : Room) s m args below meth c H locs 0 0 (MQ below (QC G none z) args s 0 0 (AD G)) (F0 m 7 ls [])) (hK13 : ∀ (h : HS) (H : Heap) (locs : List Loc) (ls : Array Slot) (v0 : Nat) (v1 : Int32) (v2 : Int32), K13 h v0 v1 v2 = some z → WD G s h H locs → sh v0 = 11 → lv_has ls 5 [(0, .ref (ad G v0)), (1, .int v1), (2, .int v2)] → W p l e ({ frames := 2, cells := 0, slots := 0, locals := 43 } : Room) s m args below meth c H locs 0 0 (MQ below (QC G none z) args s 0 0 (AD G)) (F0 m 13 ls [])) : ∀ (n : Nat) (h : HS) (H : Heap) (locs : List Loc) (ls : Array Slot) (v0 : Nat) (v1 : Int32) (v2 : Int32) (v3 : Int32) (v4 : Int32), X11_laysTunes_l38 N K7 K13 n h v0 v1 v2 v3 v4 = some z → WD G s h H locs → sh v0 = 11 → lv_has ls 5 [(0, .ref (ad G v0)), (1, .int v1), (2, .int v2), (3, .int v3), (4, .int v4)] → W p l e ({ frames := 2, cells := 0, slots := 0, locals := 43 } : Room) s m args below meth c H locs 0 0 (MQ below (QC G none z) args s 0 0 (AD G)) (F0 m 38 ls []) := by
  intro n
  induction n with
  | zero =>
    intro h H locs ls v0 v1 v2 v3 v4 hf
    cases hf
  | succ n ih =>
    intro h H locs ls v0 v1 v2 v3 v4 hf w t_v0 hl
    unfold X11_laysTunes_l38 at hf
    refine lv_iload E.1 E.2.1 dX11_laysTunes_38 (lv_at hl 4 rfl) ?_
    refine lv_bipush (v := 10) E.1 E.2.1 dX11_laysTunes_40 rfl ?_
    refine lv_icmp_ge (tgt := 93) E.1 E.2.1 dX11_laysTunes_42 (by decide) (fun c27 => ?_) (fun c27 => ?_)
    · have hf := q_pos c27 hf
      exact X11_laysTunes_b93_w E hr hlk hK7 hK13 hf w t_v0 (lv_sub hl [0, 1, 2, 3] rfl)
    · have hf := q_neg c27 hf
      refine lv_iload_n E.1 E.2.1 dX11_laysTunes_45 rfl (lv_at hl 1 rfl) ?_
      refine lv_aload_n E.1 E.2.1 dX11_laysTunes_46 rfl (lv_at hl 0 rfl) ?_
      refine q_gi E w t_v0 fl_RX11_188 dX11_laysTunes_47 ?_
      refine lv_iconst (v := 1) E.1 E.2.1 dX11_laysTunes_50 rfl ?_
      refine lv_isub E.1 E.2.1 dX11_laysTunes_51 ?_
      refine lv_icmp_ge (tgt := 93) E.1 E.2.1 dX11_laysTunes_52 (by decide) (fun c36 => ?_) (fun c36 => ?_)
      · have hf := q_pos c36 hf
        exact X11_laysTunes_b93_w E hr hlk hK7 hK13 hf w t_v0 (lv_sub hl [0, 1, 2, 3] rfl)
      · have hf := q_neg c36 hf
        refine lv_iload_n E.1 E.2.1 dX11_laysTunes_55 rfl (lv_at hl 3 rfl) ?_
        refine lv_aload_n E.1 E.2.1 dX11_laysTunes_56 rfl (lv_at hl 0 rfl) ?_
        refine lv_iload_n E.1 E.2.1 dX11_laysTunes_57 rfl (lv_at hl 2 rfl) ?_
        refine lv_iload E.1 E.2.1 dX11_laysTunes_58 (lv_at hl 4 rfl) ?_
        obtain ⟨r38, hc37, hf⟩ := bd1_e hf
        refine k_Vi (As := [.int v2, .int v4]) (rest := [.int v3]) E w t_v0 ⟨by decide, rfl⟩ (X11_isNear_c t_v0 hc37) mv_RX11_360 rfl rfl hl.1 ⟨Nat.le_of_ble_eq_true rfl, Nat.le_of_ble_eq_true rfl⟩ (Nat.le_of_ble_eq_true rfl) ⟨Nat.le_refl _, Nat.le_refl _⟩ dX11_laysTunes_60 (fun H locs w => ?_)
        refine lv_if_eq (tgt := 84) E.1 E.2.1 dX11_laysTunes_63 (by decide) (fun c40 => ?_) (fun c40 => ?_)
        · have hf := q_pos c40 hf
          refine lv_iconst (v := 0) E.1 E.2.1 dX11_laysTunes_84 rfl ?_
          refine lv_iadd E.1 E.2.1 dX11_laysTunes_85 ?_
          refine lv_istore_n (lv' := [(3, .int (v3 + 0)), (0, .ref (ad G v0)), (1, .int v1), (2, .int v2), (4, .int v4)]) E.1 E.2.1 dX11_laysTunes_86 rfl hl (by decide) rfl (fun ls hl => ?_)
          refine lv_iinc (v := v4 + 1) (lv' := [(4, .int (v4 + 1)), (3, .int (v3 + 0)), (0, .ref (ad G v0)), (1, .int v1), (2, .int v2)]) E.1 E.2.1 dX11_laysTunes_87 hl (k := 4) rfl rfl (by decide) rfl (fun ls hl => ?_)
          refine lv_goto (tgt := 38) E.1 E.2.1 dX11_laysTunes_90 (by decide) ?_
          exact ih _ _ _ _ _ _ _ _ _ hf w t_v0 (lv_sub hl [2, 3, 4, 1, 0] rfl)
        · have hf := q_neg c40 hf
          refine lv_aload_n E.1 E.2.1 dX11_laysTunes_66 rfl (lv_at hl 0 rfl) ?_
          refine q_gs E w 14 t_v0 fl_RX11_50 dX11_laysTunes_67 ?_
          refine lv_bipush (v := 10) E.1 E.2.1 dX11_laysTunes_70 rfl ?_
          refine lv_iload_n E.1 E.2.1 dX11_laysTunes_72 rfl (lv_at hl 1 rfl) ?_
          refine lv_imul E.1 E.2.1 dX11_laysTunes_73 ?_
          refine lv_bipush (v := 10) E.1 E.2.1 dX11_laysTunes_74 rfl ?_
          refine lv_iadd E.1 E.2.1 dX11_laysTunes_76 ?_
          refine lv_iload E.1 E.2.1 dX11_laysTunes_77 (lv_at hl 4 rfl) ?_
          refine lv_iadd E.1 E.2.1 dX11_laysTunes_79 ?_
          obtain ⟨b41, hf⟩ := q_if hf
          refine q_iald E w ((lay_11_30 t_v0).1) ((lay_11_30 t_v0).2) b41 dX11_laysTunes_80 ?_
          refine lv_goto (tgt := 85) E.1 E.2.1 dX11_laysTunes_81 (by decide) ?_
          refine lv_iadd E.1 E.2.1 dX11_laysTunes_85 ?_
          refine lv_istore_n (lv' := [(3, .int (v3 + (h.1 (v0 + 14) (((10 * v1) + 10) + v4).toNatClampNeg))), (0, .ref (ad G v0)), (1, .int v1), (2, .int v2), (4, .int v4)]) E.1 E.2.1 dX11_laysTunes_86 rfl hl (by decide) rfl (fun ls hl => ?_)
          refine lv_iinc (v := v4 + 1) (lv' := [(4, .int (v4 + 1)), (3, .int (v3 + (h.1 (v0 + 14) (((10 * v1) + 10) + v4).toNatClampNeg))), (0, .ref (ad G v0)), (1, .int v1), (2, .int v2)]) E.1 E.2.1 dX11_laysTunes_87 hl (k := 4) rfl rfl (by decide) rfl (fun ls hl => ?_)
          refine lv_goto (tgt := 38) E.1 E.2.1 dX11_laysTunes_90 (by decide) ?_
          exact ih _ _ _ _ _ _ _ _ _ hf w t_v0 (lv_sub hl [2, 3, 4, 1, 0] rfl)

def X11_laysTunes_l13 (N : Nat) (K7 : HS → Nat → Int32 → Option HS) : Nat → HS → Nat → Int32 → Int32 → Option HS
  | 0, _, _, _, _ => none
  | n + 1, h, v0, v1, v2 => (if (10 : Int32) ≤ v2 then K7 h v0 (v1 + (-1)) else (if v1 = ((h.1 v0 14) - 1) then X11_laysTunes_l38 N K7 (X11_laysTunes_l13 N K7 n) N h v0 v1 v2 1 0 else X11_laysTunes_l38 N K7 (X11_laysTunes_l13 N K7 n) N h v0 v1 v2 0 0))
set_option maxRecDepth 4000 in
set_option maxHeartbeats 2000000 in
theorem X11_laysTunes_l13_w {p : Program} {l : Launch} {e : Env} {s : State} {m : MethodId} {args : Array Value} {below : List Frame} {meth : Method} {c : Code} {G : GT} {N : Nat} {z : HS} (E : CallFix p m c cX11_laysTunes 5 s args UW RX11) (hr : meth.sig.returnType = none) (hlk : meth.locks = false) {K7 : HS → Nat → Int32 → Option HS} (hK7 : ∀ (h : HS) (H : Heap) (locs : List Loc) (ls : Array Slot) (v0 : Nat) (v1 : Int32), K7 h v0 v1 = some z → WD G s h H locs → sh v0 = 11 → lv_has ls 5 [(0, .ref (ad G v0)), (1, .int v1)] → W p l e ({ frames := 2, cells := 0, slots := 0, locals := 43 } : Room) s m args below meth c H locs 0 0 (MQ below (QC G none z) args s 0 0 (AD G)) (F0 m 7 ls [])) : ∀ (n : Nat) (h : HS) (H : Heap) (locs : List Loc) (ls : Array Slot) (v0 : Nat) (v1 : Int32) (v2 : Int32), X11_laysTunes_l13 N K7 n h v0 v1 v2 = some z → WD G s h H locs → sh v0 = 11 → lv_has ls 5 [(0, .ref (ad G v0)), (1, .int v1), (2, .int v2)] → W p l e ({ frames := 2, cells := 0, slots := 0, locals := 43 } : Room) s m args below meth c H locs 0 0 (MQ below (QC G none z) args s 0 0 (AD G)) (F0 m 13 ls []) := by
  intro n
  induction n with
  | zero =>
    intro h H locs ls v0 v1 v2 hf
    cases hf
  | succ n ih =>
    intro h H locs ls v0 v1 v2 hf w t_v0 hl
    unfold X11_laysTunes_l13 at hf
    refine lv_iload_n E.1 E.2.1 dX11_laysTunes_13 rfl (lv_at hl 2 rfl) ?_
    refine lv_bipush (v := 10) E.1 E.2.1 dX11_laysTunes_14 rfl ?_
    refine lv_icmp_ge (tgt := 124) E.1 E.2.1 dX11_laysTunes_16 (by decide) (fun c25 => ?_) (fun c25 => ?_)
    · have hf := q_pos c25 hf
      refine lv_iinc (v := v1 + (-1)) (lv' := [(1, .int (v1 + (-1))), (0, .ref (ad G v0)), (2, .int v2)]) E.1 E.2.1 dX11_laysTunes_124 hl (k := 1) rfl rfl (by decide) rfl (fun ls hl => ?_)
      refine lv_goto (tgt := 7) E.1 E.2.1 dX11_laysTunes_127 (by decide) ?_
      exact hK7 _ _ _ _ _ _ hf w t_v0 (lv_sub hl [1, 0] rfl)
    · have hf := q_neg c25 hf
      refine lv_iload_n E.1 E.2.1 dX11_laysTunes_19 rfl (lv_at hl 1 rfl) ?_
      refine lv_aload_n E.1 E.2.1 dX11_laysTunes_20 rfl (lv_at hl 0 rfl) ?_
      refine q_gi E w t_v0 fl_RX11_188 dX11_laysTunes_21 ?_
      refine lv_iconst (v := 1) E.1 E.2.1 dX11_laysTunes_24 rfl ?_
      refine lv_isub E.1 E.2.1 dX11_laysTunes_25 ?_
      refine lv_icmp_ne (tgt := 33) E.1 E.2.1 dX11_laysTunes_26 (by decide) (fun c26 => ?_) (fun c26 => ?_)
      · have hf := q_neg c26 hf
        refine lv_iconst (v := 0) E.1 E.2.1 dX11_laysTunes_33 rfl ?_
        refine lv_istore_n (lv' := [(3, .int 0), (0, .ref (ad G v0)), (1, .int v1), (2, .int v2)]) E.1 E.2.1 dX11_laysTunes_34 rfl hl (by decide) rfl (fun ls hl => ?_)
        refine lv_iconst (v := 0) E.1 E.2.1 dX11_laysTunes_35 rfl ?_
        refine lv_istore (lv' := [(4, .int 0), (3, .int 0), (0, .ref (ad G v0)), (1, .int v1), (2, .int v2)]) E.1 E.2.1 dX11_laysTunes_36 hl (by decide) rfl (fun ls hl => ?_)
        exact X11_laysTunes_l38_w E hr hlk hK7 ih N _ _ _ _ _ _ _ _ _ hf w t_v0 (lv_sub hl [2, 3, 4, 1, 0] rfl)
      · have hf := q_pos c26 hf
        refine lv_iconst (v := 1) E.1 E.2.1 dX11_laysTunes_29 rfl ?_
        refine lv_goto (tgt := 34) E.1 E.2.1 dX11_laysTunes_30 (by decide) ?_
        refine lv_istore_n (lv' := [(3, .int 1), (0, .ref (ad G v0)), (1, .int v1), (2, .int v2)]) E.1 E.2.1 dX11_laysTunes_34 rfl hl (by decide) rfl (fun ls hl => ?_)
        refine lv_iconst (v := 0) E.1 E.2.1 dX11_laysTunes_35 rfl ?_
        refine lv_istore (lv' := [(4, .int 0), (3, .int 1), (0, .ref (ad G v0)), (1, .int v1), (2, .int v2)]) E.1 E.2.1 dX11_laysTunes_36 hl (by decide) rfl (fun ls hl => ?_)
        exact X11_laysTunes_l38_w E hr hlk hK7 ih N _ _ _ _ _ _ _ _ _ hf w t_v0 (lv_sub hl [2, 3, 4, 1, 0] rfl)

def X11_laysTunes_l7 (N : Nat) : Nat → HS → Nat → Int32 → Option HS
  | 0, _, _, _ => none
  | n + 1, h, v0, v1 => (if v1 < 0 then X11_laysTunes_l132 N N h v0 0 else X11_laysTunes_l13 N (X11_laysTunes_l7 N n) N h v0 v1 0)
set_option maxRecDepth 4000 in
set_option maxHeartbeats 2000000 in
theorem X11_laysTunes_l7_w {p : Program} {l : Launch} {e : Env} {s : State} {m : MethodId} {args : Array Value} {below : List Frame} {meth : Method} {c : Code} {G : GT} {N : Nat} {z : HS} (E : CallFix p m c cX11_laysTunes 5 s args UW RX11) (hr : meth.sig.returnType = none) (hlk : meth.locks = false) : ∀ (n : Nat) (h : HS) (H : Heap) (locs : List Loc) (ls : Array Slot) (v0 : Nat) (v1 : Int32), X11_laysTunes_l7 N n h v0 v1 = some z → WD G s h H locs → sh v0 = 11 → lv_has ls 5 [(0, .ref (ad G v0)), (1, .int v1)] → W p l e ({ frames := 2, cells := 0, slots := 0, locals := 43 } : Room) s m args below meth c H locs 0 0 (MQ below (QC G none z) args s 0 0 (AD G)) (F0 m 7 ls []) := by
  intro n
  induction n with
  | zero =>
    intro h H locs ls v0 v1 hf
    cases hf
  | succ n ih =>
    intro h H locs ls v0 v1 hf w t_v0 hl
    unfold X11_laysTunes_l7 at hf
    refine lv_iload_n E.1 E.2.1 dX11_laysTunes_7 rfl (lv_at hl 1 rfl) ?_
    refine lv_if_lt (tgt := 130) E.1 E.2.1 dX11_laysTunes_8 (by decide) (fun c1 => ?_) (fun c1 => ?_)
    · have hf := q_pos c1 hf
      refine lv_iconst (v := 0) E.1 E.2.1 dX11_laysTunes_130 rfl ?_
      refine lv_istore_n (lv' := [(1, .int 0), (0, .ref (ad G v0))]) E.1 E.2.1 dX11_laysTunes_131 rfl hl (by decide) rfl (fun ls hl => ?_)
      exact X11_laysTunes_l132_w E hr hlk N _ _ _ _ _ _ hf w t_v0 (lv_sub hl [1, 0] rfl)
    · have hf := q_neg c1 hf
      refine lv_iconst (v := 0) E.1 E.2.1 dX11_laysTunes_11 rfl ?_
      refine lv_istore_n (lv' := [(2, .int 0), (0, .ref (ad G v0)), (1, .int v1)]) E.1 E.2.1 dX11_laysTunes_12 rfl hl (by decide) rfl (fun ls hl => ?_)
      exact X11_laysTunes_l13_w E hr hlk ih N _ _ _ _ _ _ _ hf w t_v0 (lv_sub hl [1, 2, 0] rfl)

def X11_laysTunes (N : Nat) (h : HS) (v0 : Nat) : Option HS := X11_laysTunes_l7 N N h v0 ((h.1 v0 14) - 1)
set_option maxRecDepth 4000 in
set_option maxHeartbeats 2000000 in
theorem X11_laysTunes_c {l : Launch} {G : GT} {N : Nat} {h : HS} {v0 : Nat} {z : HS} (t_v0 : sh v0 = 11) (hf : X11_laysTunes N h v0 = some z) : CT l G yX11_laysTunes cX11_laysTunes 5 none 2 43 [.ref (ad G v0)] h none z := by
  unfold X11_laysTunes at hf
  refine CT.of (by decide) (Nat.le_of_ble_eq_true rfl) ?_
  intro p e s m below meth c ls E hr hlk w hl
  have hl : lv_has ls 5 [(0, .ref (ad G v0))] := hl
  refine lv_aload_n E.1 E.2.1 dX11_laysTunes_0 rfl (lv_at hl 0 rfl) ?_
  refine q_gi E w t_v0 fl_RX11_188 dX11_laysTunes_1 ?_
  refine lv_iconst (v := 1) E.1 E.2.1 dX11_laysTunes_4 rfl ?_
  refine lv_isub E.1 E.2.1 dX11_laysTunes_5 ?_
  refine lv_istore_n (lv' := [(1, .int ((h.1 v0 14) - 1)), (0, .ref (ad G v0))]) E.1 E.2.1 dX11_laysTunes_6 rfl hl (by decide) rfl (fun ls hl => ?_)
  exact X11_laysTunes_l7_w E hr hlk N _ _ _ _ _ _ hf w t_v0 (lv_sub hl [1, 0] rfl)

def X11_walledBar_l4 (N : Nat) (h : HS) : Nat → Nat → Int32 → Int32 → Int32 → Option Int32
  | 0, _, _, _, _ => none
  | n + 1, v0, v1, v2, v3 => (if (h.1 v0 14) ≤ v3 then some (-1) else bd1 (X11_isWalled N h v0 v3) fun r3 => (if r3 = 0 then X11_walledBar_l4 N h n v0 v1 v2 (v3 + 1) else (if v2 = v1 then some v3 else X11_walledBar_l4 N h n v0 v1 (v2 + 1) (v3 + 1))))
set_option maxRecDepth 4000 in
set_option maxHeartbeats 2000000 in
theorem X11_walledBar_l4_w {p : Program} {l : Launch} {e : Env} {s : State} {m : MethodId} {args : Array Value} {below : List Frame} {meth : Method} {c : Code} {G : GT} {N : Nat} {h : HS} {z : Int32} (E : CallFix p m c cX11_walledBar 4 s args UW RX11) (hr : meth.sig.returnType = (some .int)) (hlk : meth.locks = false) : ∀ (n : Nat) (H : Heap) (locs : List Loc) (ls : Array Slot) (v0 : Nat) (v1 : Int32) (v2 : Int32) (v3 : Int32), X11_walledBar_l4 N h n v0 v1 v2 v3 = some z → WD G s h H locs → sh v0 = 11 → lv_has ls 4 [(0, .ref (ad G v0)), (1, .int v1), (2, .int v2), (3, .int v3)] → W p l e ({ frames := 1, cells := 0, slots := 0, locals := 21 } : Room) s m args below meth c H locs 0 0 (MQ below (QC G (some (.int z)) h) args s 0 0 (AD G)) (F0 m 4 ls []) := by
  intro n
  induction n with
  | zero =>
    intro H locs ls v0 v1 v2 v3 hf
    cases hf
  | succ n ih =>
    intro H locs ls v0 v1 v2 v3 hf w t_v0 hl
    unfold X11_walledBar_l4 at hf
    refine lv_iload_n E.1 E.2.1 dX11_walledBar_4 rfl (lv_at hl 3 rfl) ?_
    refine lv_aload_n E.1 E.2.1 dX11_walledBar_5 rfl (lv_at hl 0 rfl) ?_
    refine q_gi E w t_v0 fl_RX11_188 dX11_walledBar_6 ?_
    refine lv_icmp_ge (tgt := 39) E.1 E.2.1 dX11_walledBar_9 (by decide) (fun c1 => ?_) (fun c1 => ?_)
    · have hf := q_pos c1 hf
      refine lv_iconst (v := (-1)) E.1 E.2.1 dX11_walledBar_39 rfl ?_
      have hf := Option.some.inj hf
      subst hf
      exact q_iret E w hr hlk dX11_walledBar_40
    · have hf := q_neg c1 hf
      refine lv_aload_n E.1 E.2.1 dX11_walledBar_12 rfl (lv_at hl 0 rfl) ?_
      refine lv_iload_n E.1 E.2.1 dX11_walledBar_13 rfl (lv_at hl 3 rfl) ?_
      obtain ⟨r3, hc2, hf⟩ := bd1_e hf
      refine k_Vi (As := [.int v3]) (rest := []) E w t_v0 ⟨by decide, rfl⟩ (X11_isWalled_c t_v0 hc2) mv_RX11_357 rfl rfl hl.1 ⟨Nat.le_of_ble_eq_true rfl, Nat.le_of_ble_eq_true rfl⟩ (Nat.le_of_ble_eq_true rfl) ⟨Nat.le_refl _, Nat.le_refl _⟩ dX11_walledBar_14 (fun H locs w => ?_)
      refine lv_if_ne (tgt := 23) E.1 E.2.1 dX11_walledBar_17 (by decide) (fun c5 => ?_) (fun c5 => ?_)
      · have hf := q_neg c5 hf
        refine lv_iload_n E.1 E.2.1 dX11_walledBar_23 rfl (lv_at hl 2 rfl) ?_
        refine lv_iload_n E.1 E.2.1 dX11_walledBar_24 rfl (lv_at hl 1 rfl) ?_
        refine lv_icmp_ne (tgt := 30) E.1 E.2.1 dX11_walledBar_25 (by decide) (fun c6 => ?_) (fun c6 => ?_)
        · have hf := q_neg c6 hf
          refine lv_iinc (v := v2 + 1) (lv' := [(2, .int (v2 + 1)), (0, .ref (ad G v0)), (1, .int v1), (3, .int v3)]) E.1 E.2.1 dX11_walledBar_30 hl (k := 2) rfl rfl (by decide) rfl (fun ls hl => ?_)
          refine lv_iinc (v := v3 + 1) (lv' := [(3, .int (v3 + 1)), (2, .int (v2 + 1)), (0, .ref (ad G v0)), (1, .int v1)]) E.1 E.2.1 dX11_walledBar_33 hl (k := 3) rfl rfl (by decide) rfl (fun ls hl => ?_)
          refine lv_goto (tgt := 4) E.1 E.2.1 dX11_walledBar_36 (by decide) ?_
          exact ih _ _ _ _ _ _ _ hf w t_v0 (lv_sub hl [2, 3, 1, 0] rfl)
        · have hf := q_pos c6 hf
          refine lv_iload_n E.1 E.2.1 dX11_walledBar_28 rfl (lv_at hl 3 rfl) ?_
          have hf := Option.some.inj hf
          subst hf
          exact q_iret E w hr hlk dX11_walledBar_29
      · have hf := q_pos c5 hf
        refine lv_goto (tgt := 33) E.1 E.2.1 dX11_walledBar_20 (by decide) ?_
        refine lv_iinc (v := v3 + 1) (lv' := [(3, .int (v3 + 1)), (0, .ref (ad G v0)), (1, .int v1), (2, .int v2)]) E.1 E.2.1 dX11_walledBar_33 hl (k := 3) rfl rfl (by decide) rfl (fun ls hl => ?_)
        refine lv_goto (tgt := 4) E.1 E.2.1 dX11_walledBar_36 (by decide) ?_
        exact ih _ _ _ _ _ _ _ hf w t_v0 (lv_sub hl [1, 2, 3, 0] rfl)

def X11_walledBar (N : Nat) (h : HS) (v0 : Nat) (v1 : Int32) : Option Int32 := X11_walledBar_l4 N h N v0 v1 0 0
set_option maxRecDepth 4000 in
set_option maxHeartbeats 2000000 in
theorem X11_walledBar_c {l : Launch} {G : GT} {N : Nat} {h : HS} {v0 : Nat} {v1 : Int32} {z : Int32} (t_v0 : sh v0 = 11) (hf : X11_walledBar N h v0 v1 = some z) : CT l G yX11_walledBar cX11_walledBar 4 (some .int) 1 21 [.ref (ad G v0), .int v1] h (some (.int z)) h := by
  unfold X11_walledBar at hf
  refine CT.of (by decide) (Nat.le_of_ble_eq_true rfl) ?_
  intro p e s m below meth c ls E hr hlk w hl
  have hl : lv_has ls 4 [(0, .ref (ad G v0)), (1, .int v1)] := hl
  refine lv_iconst (v := 0) E.1 E.2.1 dX11_walledBar_0 rfl ?_
  refine lv_istore_n (lv' := [(2, .int 0), (0, .ref (ad G v0)), (1, .int v1)]) E.1 E.2.1 dX11_walledBar_1 rfl hl (by decide) rfl (fun ls hl => ?_)
  refine lv_iconst (v := 0) E.1 E.2.1 dX11_walledBar_2 rfl ?_
  refine lv_istore_n (lv' := [(3, .int 0), (2, .int 0), (0, .ref (ad G v0)), (1, .int v1)]) E.1 E.2.1 dX11_walledBar_3 rfl hl (by decide) rfl (fun ls hl => ?_)
  exact X11_walledBar_l4_w E hr hlk N _ _ _ _ _ _ _ hf w t_v0 (lv_sub hl [2, 3, 1, 0] rfl)

def X11_tunesOf_l4 (N : Nat) (h : HS) : Nat → Nat → Int32 → Int32 → Option Int32
  | 0, _, _, _ => none
  | n + 1, v0, v1, v2 => (if (10 : Int32) ≤ v2 then (if (h.1 v0 14) = 0 then some 1 else some v1) else (if (h.1 v0 14) ≤ 0 then (if (h.1 v0 14) = 0 then some 1 else some v1) else (if v2 < 0 ∨ 80 ≤ v2.toNatClampNeg then none else X11_tunesOf_l4 N h n v0 (v1 + (h.1 (v0 + 14) v2.toNatClampNeg)) (v2 + 1))))
set_option maxRecDepth 4000 in
set_option maxHeartbeats 2000000 in
theorem X11_tunesOf_l4_w {p : Program} {l : Launch} {e : Env} {s : State} {m : MethodId} {args : Array Value} {below : List Frame} {meth : Method} {c : Code} {G : GT} {N : Nat} {h : HS} {z : Int32} (E : CallFix p m c cX11_tunesOf 3 s args UW RX11) (hr : meth.sig.returnType = (some .int)) (hlk : meth.locks = false) : ∀ (n : Nat) (H : Heap) (locs : List Loc) (ls : Array Slot) (v0 : Nat) (v1 : Int32) (v2 : Int32), X11_tunesOf_l4 N h n v0 v1 v2 = some z → WD G s h H locs → sh v0 = 11 → lv_has ls 3 [(0, .ref (ad G v0)), (1, .int v1), (2, .int v2)] → W p l e ({ frames := 0, cells := 0, slots := 0, locals := 0 } : Room) s m args below meth c H locs 0 0 (MQ below (QC G (some (.int z)) h) args s 0 0 (AD G)) (F0 m 4 ls []) := by
  intro n
  induction n with
  | zero =>
    intro H locs ls v0 v1 v2 hf
    cases hf
  | succ n ih =>
    intro H locs ls v0 v1 v2 hf w t_v0 hl
    unfold X11_tunesOf_l4 at hf
    refine lv_iload_n E.1 E.2.1 dX11_tunesOf_4 rfl (lv_at hl 2 rfl) ?_
    refine lv_bipush (v := 10) E.1 E.2.1 dX11_tunesOf_5 rfl ?_
    refine lv_icmp_ge (tgt := 32) E.1 E.2.1 dX11_tunesOf_7 (by decide) (fun c1 => ?_) (fun c1 => ?_)
    · have hf := q_pos c1 hf
      refine lv_aload_n E.1 E.2.1 dX11_tunesOf_32 rfl (lv_at hl 0 rfl) ?_
      refine q_gi E w t_v0 fl_RX11_188 dX11_tunesOf_33 ?_
      refine lv_if_ne (tgt := 43) E.1 E.2.1 dX11_tunesOf_36 (by decide) (fun c2 => ?_) (fun c2 => ?_)
      · have hf := q_neg c2 hf
        refine lv_iload_n E.1 E.2.1 dX11_tunesOf_43 rfl (lv_at hl 1 rfl) ?_
        have hf := Option.some.inj hf
        subst hf
        exact q_iret E w hr hlk dX11_tunesOf_44
      · have hf := q_pos c2 hf
        refine lv_iconst (v := 1) E.1 E.2.1 dX11_tunesOf_39 rfl ?_
        refine lv_goto (tgt := 44) E.1 E.2.1 dX11_tunesOf_40 (by decide) ?_
        have hf := Option.some.inj hf
        subst hf
        exact q_iret E w hr hlk dX11_tunesOf_44
    · have hf := q_neg c1 hf
      refine lv_aload_n E.1 E.2.1 dX11_tunesOf_10 rfl (lv_at hl 0 rfl) ?_
      refine q_gi E w t_v0 fl_RX11_188 dX11_tunesOf_11 ?_
      refine lv_if_le (tgt := 32) E.1 E.2.1 dX11_tunesOf_14 (by decide) (fun c3 => ?_) (fun c3 => ?_)
      · have hf := q_pos c3 hf
        refine lv_aload_n E.1 E.2.1 dX11_tunesOf_32 rfl (lv_at hl 0 rfl) ?_
        refine q_gi E w t_v0 fl_RX11_188 dX11_tunesOf_33 ?_
        refine lv_if_ne (tgt := 43) E.1 E.2.1 dX11_tunesOf_36 (by decide) (fun c4 => ?_) (fun c4 => ?_)
        · have hf := q_neg c4 hf
          refine lv_iload_n E.1 E.2.1 dX11_tunesOf_43 rfl (lv_at hl 1 rfl) ?_
          have hf := Option.some.inj hf
          subst hf
          exact q_iret E w hr hlk dX11_tunesOf_44
        · have hf := q_pos c4 hf
          refine lv_iconst (v := 1) E.1 E.2.1 dX11_tunesOf_39 rfl ?_
          refine lv_goto (tgt := 44) E.1 E.2.1 dX11_tunesOf_40 (by decide) ?_
          have hf := Option.some.inj hf
          subst hf
          exact q_iret E w hr hlk dX11_tunesOf_44
      · have hf := q_neg c3 hf
        refine lv_iload_n E.1 E.2.1 dX11_tunesOf_17 rfl (lv_at hl 1 rfl) ?_
        refine lv_aload_n E.1 E.2.1 dX11_tunesOf_18 rfl (lv_at hl 0 rfl) ?_
        refine q_gs E w 14 t_v0 fl_RX11_50 dX11_tunesOf_19 ?_
        refine lv_iload_n E.1 E.2.1 dX11_tunesOf_22 rfl (lv_at hl 2 rfl) ?_
        obtain ⟨b5, hf⟩ := q_if hf
        refine q_iald E w ((lay_11_30 t_v0).1) ((lay_11_30 t_v0).2) b5 dX11_tunesOf_23 ?_
        refine lv_iadd E.1 E.2.1 dX11_tunesOf_24 ?_
        refine lv_istore_n (lv' := [(1, .int (v1 + (h.1 (v0 + 14) v2.toNatClampNeg))), (0, .ref (ad G v0)), (2, .int v2)]) E.1 E.2.1 dX11_tunesOf_25 rfl hl (by decide) rfl (fun ls hl => ?_)
        refine lv_iinc (v := v2 + 1) (lv' := [(2, .int (v2 + 1)), (1, .int (v1 + (h.1 (v0 + 14) v2.toNatClampNeg))), (0, .ref (ad G v0))]) E.1 E.2.1 dX11_tunesOf_26 hl (k := 2) rfl rfl (by decide) rfl (fun ls hl => ?_)
        refine lv_goto (tgt := 4) E.1 E.2.1 dX11_tunesOf_29 (by decide) ?_
        exact ih _ _ _ _ _ _ hf w t_v0 (lv_sub hl [2, 1, 0] rfl)

def X11_tunesOf (N : Nat) (h : HS) (v0 : Nat) : Option Int32 := X11_tunesOf_l4 N h N v0 0 0
set_option maxRecDepth 4000 in
set_option maxHeartbeats 2000000 in
theorem X11_tunesOf_c {l : Launch} {G : GT} {N : Nat} {h : HS} {v0 : Nat} {z : Int32} (t_v0 : sh v0 = 11) (hf : X11_tunesOf N h v0 = some z) : CT l G yX11_tunesOf cX11_tunesOf 3 (some .int) 0 0 [.ref (ad G v0)] h (some (.int z)) h := by
  unfold X11_tunesOf at hf
  refine CT.of (by decide) (Nat.le_of_ble_eq_true rfl) ?_
  intro p e s m below meth c ls E hr hlk w hl
  have hl : lv_has ls 3 [(0, .ref (ad G v0))] := hl
  refine lv_iconst (v := 0) E.1 E.2.1 dX11_tunesOf_0 rfl ?_
  refine lv_istore_n (lv' := [(1, .int 0), (0, .ref (ad G v0))]) E.1 E.2.1 dX11_tunesOf_1 rfl hl (by decide) rfl (fun ls hl => ?_)
  refine lv_iconst (v := 0) E.1 E.2.1 dX11_tunesOf_2 rfl ?_
  refine lv_istore_n (lv' := [(2, .int 0), (1, .int 0), (0, .ref (ad G v0))]) E.1 E.2.1 dX11_tunesOf_3 rfl hl (by decide) rfl (fun ls hl => ?_)
  exact X11_tunesOf_l4_w E hr hlk N _ _ _ _ _ _ hf w t_v0 (lv_sub hl [2, 1, 0] rfl)

def X11_firstTune_l12 (N : Nat) (h : HS) (K4 : Nat → Int32 → Int32 → Int32 → Option Int32) : Nat → Nat → Int32 → Int32 → Int32 → Int32 → Option Int32
  | 0, _, _, _, _, _ => none
  | n + 1, v0, v1, v2, v3, v4 => (if ((10 * v3) + v4) < 0 ∨ 80 ≤ ((10 * v3) + v4).toNatClampNeg then none else (if (h.1 (v0 + 14) ((10 * v3) + v4).toNatClampNeg) = 0 then X11_firstTune_l12 N h K4 n v0 v1 v2 v3 (v4 + 1) else bd1 (X11_isNear N h v0 v2 v4) fun r5 => (if r5 = 0 then X11_firstTune_l12 N h K4 n v0 v1 v2 v3 (v4 + 1) else K4 v0 v1 v4 (v3 + 1))))
set_option maxRecDepth 4000 in
set_option maxHeartbeats 2000000 in
theorem X11_firstTune_l12_w {p : Program} {l : Launch} {e : Env} {s : State} {m : MethodId} {args : Array Value} {below : List Frame} {meth : Method} {c : Code} {G : GT} {N : Nat} {h : HS} {z : Int32} (E : CallFix p m c cX11_firstTune 5 s args UW RX11) (hr : meth.sig.returnType = (some .int)) (hlk : meth.locks = false) {K4 : Nat → Int32 → Int32 → Int32 → Option Int32} (hK4 : ∀ (H : Heap) (locs : List Loc) (ls : Array Slot) (v0 : Nat) (v1 : Int32) (v2 : Int32) (v3 : Int32), K4 v0 v1 v2 v3 = some z → WD G s h H locs → sh v0 = 11 → lv_has ls 5 [(0, .ref (ad G v0)), (1, .int v1), (2, .int v2), (3, .int v3)] → W p l e ({ frames := 1, cells := 0, slots := 0, locals := 22 } : Room) s m args below meth c H locs 0 0 (MQ below (QC G (some (.int z)) h) args s 0 0 (AD G)) (F0 m 4 ls [])) : ∀ (n : Nat) (H : Heap) (locs : List Loc) (ls : Array Slot) (v0 : Nat) (v1 : Int32) (v2 : Int32) (v3 : Int32) (v4 : Int32), X11_firstTune_l12 N h K4 n v0 v1 v2 v3 v4 = some z → WD G s h H locs → sh v0 = 11 → lv_has ls 5 [(0, .ref (ad G v0)), (1, .int v1), (2, .int v2), (3, .int v3), (4, .int v4)] → W p l e ({ frames := 1, cells := 0, slots := 0, locals := 22 } : Room) s m args below meth c H locs 0 0 (MQ below (QC G (some (.int z)) h) args s 0 0 (AD G)) (F0 m 12 ls []) := by
  intro n
  induction n with
  | zero =>
    intro H locs ls v0 v1 v2 v3 v4 hf
    cases hf
  | succ n ih =>
    intro H locs ls v0 v1 v2 v3 v4 hf w t_v0 hl
    unfold X11_firstTune_l12 at hf
    refine lv_aload_n E.1 E.2.1 dX11_firstTune_12 rfl (lv_at hl 0 rfl) ?_
    refine q_gs E w 14 t_v0 fl_RX11_50 dX11_firstTune_13 ?_
    refine lv_bipush (v := 10) E.1 E.2.1 dX11_firstTune_16 rfl ?_
    refine lv_iload_n E.1 E.2.1 dX11_firstTune_18 rfl (lv_at hl 3 rfl) ?_
    refine lv_imul E.1 E.2.1 dX11_firstTune_19 ?_
    refine lv_iload E.1 E.2.1 dX11_firstTune_20 (lv_at hl 4 rfl) ?_
    refine lv_iadd E.1 E.2.1 dX11_firstTune_22 ?_
    obtain ⟨b2, hf⟩ := q_if hf
    refine q_iald E w ((lay_11_30 t_v0).1) ((lay_11_30 t_v0).2) b2 dX11_firstTune_23 ?_
    refine lv_if_eq (tgt := 37) E.1 E.2.1 dX11_firstTune_24 (by decide) (fun c3 => ?_) (fun c3 => ?_)
    · have hf := q_pos c3 hf
      refine lv_iinc (v := v4 + 1) (lv' := [(4, .int (v4 + 1)), (0, .ref (ad G v0)), (1, .int v1), (2, .int v2), (3, .int v3)]) E.1 E.2.1 dX11_firstTune_37 hl (k := 4) rfl rfl (by decide) rfl (fun ls hl => ?_)
      refine lv_goto (tgt := 12) E.1 E.2.1 dX11_firstTune_40 (by decide) ?_
      exact ih _ _ _ _ _ _ _ _ hf w t_v0 (lv_sub hl [1, 2, 3, 4, 0] rfl)
    · have hf := q_neg c3 hf
      refine lv_aload_n E.1 E.2.1 dX11_firstTune_27 rfl (lv_at hl 0 rfl) ?_
      refine lv_iload_n E.1 E.2.1 dX11_firstTune_28 rfl (lv_at hl 2 rfl) ?_
      refine lv_iload E.1 E.2.1 dX11_firstTune_29 (lv_at hl 4 rfl) ?_
      obtain ⟨r5, hc4, hf⟩ := bd1_e hf
      refine k_Vi (As := [.int v2, .int v4]) (rest := []) E w t_v0 ⟨by decide, rfl⟩ (X11_isNear_c t_v0 hc4) mv_RX11_360 rfl rfl hl.1 ⟨Nat.le_of_ble_eq_true rfl, Nat.le_of_ble_eq_true rfl⟩ (Nat.le_of_ble_eq_true rfl) ⟨Nat.le_refl _, Nat.le_refl _⟩ dX11_firstTune_31 (fun H locs w => ?_)
      refine lv_if_ne (tgt := 43) E.1 E.2.1 dX11_firstTune_34 (by decide) (fun c7 => ?_) (fun c7 => ?_)
      · have hf := q_neg c7 hf
        refine lv_iload E.1 E.2.1 dX11_firstTune_43 (lv_at hl 4 rfl) ?_
        refine lv_istore_n (lv' := [(2, .int v4), (0, .ref (ad G v0)), (1, .int v1), (3, .int v3), (4, .int v4)]) E.1 E.2.1 dX11_firstTune_45 rfl hl (by decide) rfl (fun ls hl => ?_)
        refine lv_iinc (v := v3 + 1) (lv' := [(3, .int (v3 + 1)), (2, .int v4), (0, .ref (ad G v0)), (1, .int v1), (4, .int v4)]) E.1 E.2.1 dX11_firstTune_46 hl (k := 3) rfl rfl (by decide) rfl (fun ls hl => ?_)
        refine lv_goto (tgt := 4) E.1 E.2.1 dX11_firstTune_49 (by decide) ?_
        exact hK4 _ _ _ _ _ _ _ hf w t_v0 (lv_sub hl [2, 3, 1, 0] rfl)
      · have hf := q_pos c7 hf
        refine lv_iinc (v := v4 + 1) (lv' := [(4, .int (v4 + 1)), (0, .ref (ad G v0)), (1, .int v1), (2, .int v2), (3, .int v3)]) E.1 E.2.1 dX11_firstTune_37 hl (k := 4) rfl rfl (by decide) rfl (fun ls hl => ?_)
        refine lv_goto (tgt := 12) E.1 E.2.1 dX11_firstTune_40 (by decide) ?_
        exact ih _ _ _ _ _ _ _ _ hf w t_v0 (lv_sub hl [1, 2, 3, 4, 0] rfl)

def X11_firstTune_l4 (N : Nat) (h : HS) : Nat → Nat → Int32 → Int32 → Int32 → Option Int32
  | 0, _, _, _, _ => none
  | n + 1, v0, v1, v2, v3 => (if v1 < v3 then some v2 else X11_firstTune_l12 N h (X11_firstTune_l4 N h n) N v0 v1 v2 v3 0)
set_option maxRecDepth 4000 in
set_option maxHeartbeats 2000000 in
theorem X11_firstTune_l4_w {p : Program} {l : Launch} {e : Env} {s : State} {m : MethodId} {args : Array Value} {below : List Frame} {meth : Method} {c : Code} {G : GT} {N : Nat} {h : HS} {z : Int32} (E : CallFix p m c cX11_firstTune 5 s args UW RX11) (hr : meth.sig.returnType = (some .int)) (hlk : meth.locks = false) : ∀ (n : Nat) (H : Heap) (locs : List Loc) (ls : Array Slot) (v0 : Nat) (v1 : Int32) (v2 : Int32) (v3 : Int32), X11_firstTune_l4 N h n v0 v1 v2 v3 = some z → WD G s h H locs → sh v0 = 11 → lv_has ls 5 [(0, .ref (ad G v0)), (1, .int v1), (2, .int v2), (3, .int v3)] → W p l e ({ frames := 1, cells := 0, slots := 0, locals := 22 } : Room) s m args below meth c H locs 0 0 (MQ below (QC G (some (.int z)) h) args s 0 0 (AD G)) (F0 m 4 ls []) := by
  intro n
  induction n with
  | zero =>
    intro H locs ls v0 v1 v2 v3 hf
    cases hf
  | succ n ih =>
    intro H locs ls v0 v1 v2 v3 hf w t_v0 hl
    unfold X11_firstTune_l4 at hf
    refine lv_iload_n E.1 E.2.1 dX11_firstTune_4 rfl (lv_at hl 3 rfl) ?_
    refine lv_iload_n E.1 E.2.1 dX11_firstTune_5 rfl (lv_at hl 1 rfl) ?_
    refine lv_icmp_gt (tgt := 52) E.1 E.2.1 dX11_firstTune_6 (by decide) (fun c1 => ?_) (fun c1 => ?_)
    · have hf := q_pos c1 hf
      refine lv_iload_n E.1 E.2.1 dX11_firstTune_52 rfl (lv_at hl 2 rfl) ?_
      have hf := Option.some.inj hf
      subst hf
      exact q_iret E w hr hlk dX11_firstTune_53
    · have hf := q_neg c1 hf
      refine lv_iconst (v := 0) E.1 E.2.1 dX11_firstTune_9 rfl ?_
      refine lv_istore (lv' := [(4, .int 0), (0, .ref (ad G v0)), (1, .int v1), (2, .int v2), (3, .int v3)]) E.1 E.2.1 dX11_firstTune_10 hl (by decide) rfl (fun ls hl => ?_)
      exact X11_firstTune_l12_w E hr hlk ih N _ _ _ _ _ _ _ _ hf w t_v0 (lv_sub hl [1, 2, 3, 4, 0] rfl)

def X11_firstTune (N : Nat) (h : HS) (v0 : Nat) (v1 : Int32) : Option Int32 := X11_firstTune_l4 N h N v0 v1 0 0
set_option maxRecDepth 4000 in
set_option maxHeartbeats 2000000 in
theorem X11_firstTune_c {l : Launch} {G : GT} {N : Nat} {h : HS} {v0 : Nat} {v1 : Int32} {z : Int32} (t_v0 : sh v0 = 11) (hf : X11_firstTune N h v0 v1 = some z) : CT l G yX11_firstTune cX11_firstTune 5 (some .int) 1 22 [.ref (ad G v0), .int v1] h (some (.int z)) h := by
  unfold X11_firstTune at hf
  refine CT.of (by decide) (Nat.le_of_ble_eq_true rfl) ?_
  intro p e s m below meth c ls E hr hlk w hl
  have hl : lv_has ls 5 [(0, .ref (ad G v0)), (1, .int v1)] := hl
  refine lv_iconst (v := 0) E.1 E.2.1 dX11_firstTune_0 rfl ?_
  refine lv_istore_n (lv' := [(2, .int 0), (0, .ref (ad G v0)), (1, .int v1)]) E.1 E.2.1 dX11_firstTune_1 rfl hl (by decide) rfl (fun ls hl => ?_)
  refine lv_iconst (v := 0) E.1 E.2.1 dX11_firstTune_2 rfl ?_
  refine lv_istore_n (lv' := [(3, .int 0), (2, .int 0), (0, .ref (ad G v0)), (1, .int v1)]) E.1 E.2.1 dX11_firstTune_3 rfl hl (by decide) rfl (fun ls hl => ?_)
  exact X11_firstTune_l4_w E hr hlk N _ _ _ _ _ _ _ hf w t_v0 (lv_sub hl [2, 3, 1, 0] rfl)

def X11_sureTune_l4 (N : Nat) (h : HS) : Nat → Nat → Int32 → Int32 → Int32 → Option Int32
  | 0, _, _, _, _ => none
  | n + 1, v0, v1, v2, v3 => (if (10 : Int32) ≤ v3 then some v2 else (if ((10 * v1) + v3) < 0 ∨ 80 ≤ ((10 * v1) + v3).toNatClampNeg then none else (if (h.1 (v0 + 14) ((10 * v1) + v3).toNatClampNeg) = 0 then X11_sureTune_l4 N h n v0 v1 v2 (v3 + 1) else (if ((10 * v1) + v3) < 0 ∨ 80 ≤ ((10 * v1) + v3).toNatClampNeg then none else (if (h.1 (v0 + 15) ((10 * v1) + v3).toNatClampNeg) = 0 then X11_sureTune_l4 N h n v0 v1 v2 (v3 + 1) else (if v2 = ((-1) : Int32) then X11_sureTune_l4 N h n v0 v1 v3 (v3 + 1) else some (-1)))))))
set_option maxRecDepth 4000 in
set_option maxHeartbeats 2000000 in
theorem X11_sureTune_l4_w {p : Program} {l : Launch} {e : Env} {s : State} {m : MethodId} {args : Array Value} {below : List Frame} {meth : Method} {c : Code} {G : GT} {N : Nat} {h : HS} {z : Int32} (E : CallFix p m c cX11_sureTune 4 s args UW RX11) (hr : meth.sig.returnType = (some .int)) (hlk : meth.locks = false) : ∀ (n : Nat) (H : Heap) (locs : List Loc) (ls : Array Slot) (v0 : Nat) (v1 : Int32) (v2 : Int32) (v3 : Int32), X11_sureTune_l4 N h n v0 v1 v2 v3 = some z → WD G s h H locs → sh v0 = 11 → lv_has ls 4 [(0, .ref (ad G v0)), (1, .int v1), (2, .int v2), (3, .int v3)] → W p l e ({ frames := 0, cells := 0, slots := 0, locals := 0 } : Room) s m args below meth c H locs 0 0 (MQ below (QC G (some (.int z)) h) args s 0 0 (AD G)) (F0 m 4 ls []) := by
  intro n
  induction n with
  | zero =>
    intro H locs ls v0 v1 v2 v3 hf
    cases hf
  | succ n ih =>
    intro H locs ls v0 v1 v2 v3 hf w t_v0 hl
    unfold X11_sureTune_l4 at hf
    refine lv_iload_n E.1 E.2.1 dX11_sureTune_4 rfl (lv_at hl 3 rfl) ?_
    refine lv_bipush (v := 10) E.1 E.2.1 dX11_sureTune_5 rfl ?_
    refine lv_icmp_ge (tgt := 56) E.1 E.2.1 dX11_sureTune_7 (by decide) (fun c1 => ?_) (fun c1 => ?_)
    · have hf := q_pos c1 hf
      refine lv_iload_n E.1 E.2.1 dX11_sureTune_56 rfl (lv_at hl 2 rfl) ?_
      have hf := Option.some.inj hf
      subst hf
      exact q_iret E w hr hlk dX11_sureTune_57
    · have hf := q_neg c1 hf
      refine lv_aload_n E.1 E.2.1 dX11_sureTune_10 rfl (lv_at hl 0 rfl) ?_
      refine q_gs E w 14 t_v0 fl_RX11_50 dX11_sureTune_11 ?_
      refine lv_bipush (v := 10) E.1 E.2.1 dX11_sureTune_14 rfl ?_
      refine lv_iload_n E.1 E.2.1 dX11_sureTune_16 rfl (lv_at hl 1 rfl) ?_
      refine lv_imul E.1 E.2.1 dX11_sureTune_17 ?_
      refine lv_iload_n E.1 E.2.1 dX11_sureTune_18 rfl (lv_at hl 3 rfl) ?_
      refine lv_iadd E.1 E.2.1 dX11_sureTune_19 ?_
      obtain ⟨b2, hf⟩ := q_if hf
      refine q_iald E w ((lay_11_30 t_v0).1) ((lay_11_30 t_v0).2) b2 dX11_sureTune_20 ?_
      refine lv_if_eq (tgt := 50) E.1 E.2.1 dX11_sureTune_21 (by decide) (fun c3 => ?_) (fun c3 => ?_)
      · have hf := q_pos c3 hf
        refine lv_iinc (v := v3 + 1) (lv' := [(3, .int (v3 + 1)), (0, .ref (ad G v0)), (1, .int v1), (2, .int v2)]) E.1 E.2.1 dX11_sureTune_50 hl (k := 3) rfl rfl (by decide) rfl (fun ls hl => ?_)
        refine lv_goto (tgt := 4) E.1 E.2.1 dX11_sureTune_53 (by decide) ?_
        exact ih _ _ _ _ _ _ _ hf w t_v0 (lv_sub hl [1, 2, 3, 0] rfl)
      · have hf := q_neg c3 hf
        refine lv_aload_n E.1 E.2.1 dX11_sureTune_24 rfl (lv_at hl 0 rfl) ?_
        refine q_gs E w 15 t_v0 fl_RX11_53 dX11_sureTune_25 ?_
        refine lv_bipush (v := 10) E.1 E.2.1 dX11_sureTune_28 rfl ?_
        refine lv_iload_n E.1 E.2.1 dX11_sureTune_30 rfl (lv_at hl 1 rfl) ?_
        refine lv_imul E.1 E.2.1 dX11_sureTune_31 ?_
        refine lv_iload_n E.1 E.2.1 dX11_sureTune_32 rfl (lv_at hl 3 rfl) ?_
        refine lv_iadd E.1 E.2.1 dX11_sureTune_33 ?_
        obtain ⟨b4, hf⟩ := q_if hf
        refine q_zald E w ((lay_11_31 t_v0).1) ((lay_11_31 t_v0).2) b4 dX11_sureTune_34 ?_
        refine lv_if_ne (tgt := 41) E.1 E.2.1 dX11_sureTune_35 (by decide) (fun c5 => ?_) (fun c5 => ?_)
        · have hf := q_neg c5 hf
          refine lv_iload_n E.1 E.2.1 dX11_sureTune_41 rfl (lv_at hl 2 rfl) ?_
          refine lv_iconst (v := (-1)) E.1 E.2.1 dX11_sureTune_42 rfl ?_
          refine lv_icmp_eq (tgt := 48) E.1 E.2.1 dX11_sureTune_43 (by decide) (fun c6 => ?_) (fun c6 => ?_)
          · have hf := q_pos c6 hf
            refine lv_iload_n E.1 E.2.1 dX11_sureTune_48 rfl (lv_at hl 3 rfl) ?_
            refine lv_istore_n (lv' := [(2, .int v3), (0, .ref (ad G v0)), (1, .int v1), (3, .int v3)]) E.1 E.2.1 dX11_sureTune_49 rfl hl (by decide) rfl (fun ls hl => ?_)
            refine lv_iinc (v := v3 + 1) (lv' := [(3, .int (v3 + 1)), (2, .int v3), (0, .ref (ad G v0)), (1, .int v1)]) E.1 E.2.1 dX11_sureTune_50 hl (k := 3) rfl rfl (by decide) rfl (fun ls hl => ?_)
            refine lv_goto (tgt := 4) E.1 E.2.1 dX11_sureTune_53 (by decide) ?_
            exact ih _ _ _ _ _ _ _ hf w t_v0 (lv_sub hl [2, 3, 1, 0] rfl)
          · have hf := q_neg c6 hf
            refine lv_iconst (v := (-1)) E.1 E.2.1 dX11_sureTune_46 rfl ?_
            have hf := Option.some.inj hf
            subst hf
            exact q_iret E w hr hlk dX11_sureTune_47
        · have hf := q_pos c5 hf
          refine lv_goto (tgt := 50) E.1 E.2.1 dX11_sureTune_38 (by decide) ?_
          refine lv_iinc (v := v3 + 1) (lv' := [(3, .int (v3 + 1)), (0, .ref (ad G v0)), (1, .int v1), (2, .int v2)]) E.1 E.2.1 dX11_sureTune_50 hl (k := 3) rfl rfl (by decide) rfl (fun ls hl => ?_)
          refine lv_goto (tgt := 4) E.1 E.2.1 dX11_sureTune_53 (by decide) ?_
          exact ih _ _ _ _ _ _ _ hf w t_v0 (lv_sub hl [1, 2, 3, 0] rfl)

def X11_sureTune (N : Nat) (h : HS) (v0 : Nat) (v1 : Int32) : Option Int32 := X11_sureTune_l4 N h N v0 v1 (-1) 1
set_option maxRecDepth 4000 in
set_option maxHeartbeats 2000000 in
theorem X11_sureTune_c {l : Launch} {G : GT} {N : Nat} {h : HS} {v0 : Nat} {v1 : Int32} {z : Int32} (t_v0 : sh v0 = 11) (hf : X11_sureTune N h v0 v1 = some z) : CT l G yX11_sureTune cX11_sureTune 4 (some .int) 0 0 [.ref (ad G v0), .int v1] h (some (.int z)) h := by
  unfold X11_sureTune at hf
  refine CT.of (by decide) (Nat.le_of_ble_eq_true rfl) ?_
  intro p e s m below meth c ls E hr hlk w hl
  have hl : lv_has ls 4 [(0, .ref (ad G v0)), (1, .int v1)] := hl
  refine lv_iconst (v := (-1)) E.1 E.2.1 dX11_sureTune_0 rfl ?_
  refine lv_istore_n (lv' := [(2, .int (-1)), (0, .ref (ad G v0)), (1, .int v1)]) E.1 E.2.1 dX11_sureTune_1 rfl hl (by decide) rfl (fun ls hl => ?_)
  refine lv_iconst (v := 1) E.1 E.2.1 dX11_sureTune_2 rfl ?_
  refine lv_istore_n (lv' := [(3, .int 1), (2, .int (-1)), (0, .ref (ad G v0)), (1, .int v1)]) E.1 E.2.1 dX11_sureTune_3 rfl hl (by decide) rfl (fun ls hl => ?_)
  exact X11_sureTune_l4_w E hr hlk N _ _ _ _ _ _ _ hf w t_v0 (lv_sub hl [2, 3, 1, 0] rfl)

def X11_tunes (N : Nat) (h : HS) (v0 : Nat) (v1 : Int32) (v2 : Int32) : Option (Int32 × HS) := bd2 (X11_isHouse N h v0 v1) fun r2 h3 => (if r2 = 0 then some ((-2), h3) else bd1 (X11_laysTunes N h3 v0) fun h7 => (if v2 = 0 then bd1 (X11_tunesOf N h7 v0) fun r35 => some (r35, h7) else bd1 (X11_isIn N h7 v2 10 29) fun r10 => (if r10 = 0 then some ((-2), h7) else bd1 (X11_walledBar N h7 v0 (v2 - v2 / 10 * 10)) fun r14 => (if r14 = ((-1) : Int32) then some ((-2), h7) else bd1 (X11_tunesOf N h7 v0) fun r18 => (if r18 = 0 then some ((-1), h7) else (if (20 : Int32) ≤ v2 then bd1 (X11_walledBar N h7 v0 (v2 - v2 / 10 * 10)) fun r23 => bd1 (X11_sureTune N h7 v0 r23) fun r26 => some (r26, h7) else bd1 (X11_walledBar N h7 v0 (v2 - v2 / 10 * 10)) fun r29 => bd1 (X11_firstTune N h7 v0 r29) fun r32 => some (r32, h7)))))))
set_option maxRecDepth 4000 in
set_option maxHeartbeats 2000000 in
theorem X11_tunes_c {l : Launch} {G : GT} {N : Nat} {h : HS} {v0 : Nat} {v1 : Int32} {v2 : Int32} {z : (Int32 × HS)} (t_v0 : sh v0 = 11) (hf : X11_tunes N h v0 v1 v2 = some z) : CT l G yX11_tunes cX11_tunes 3 (some .int) 3 67 [.ref (ad G v0), .int v1, .int v2] h (some (.int z.1)) z.2 := by
  unfold X11_tunes at hf
  refine CT.of (by decide) (Nat.le_of_ble_eq_true rfl) ?_
  intro p e s m below meth c ls E hr hlk w hl
  have hl : lv_has ls 3 [(0, .ref (ad G v0)), (1, .int v1), (2, .int v2)] := hl
  refine lv_aload_n E.1 E.2.1 dX11_tunes_0 rfl (lv_at hl 0 rfl) ?_
  refine lv_iload_n E.1 E.2.1 dX11_tunes_1 rfl (lv_at hl 1 rfl) ?_
  obtain ⟨r2, h3, hc1, hf⟩ := bd2_e hf
  refine k_Vi (As := [.int v1]) (rest := []) E w t_v0 ⟨by decide, rfl⟩ (X11_isHouse_c t_v0 hc1) mv_RX11_197 rfl rfl hl.1 ⟨Nat.le_of_ble_eq_true rfl, Nat.le_of_ble_eq_true rfl⟩ (Nat.le_of_ble_eq_true rfl) ⟨Nat.le_refl _, Nat.le_refl _⟩ dX11_tunes_2 (fun H locs w => ?_)
  refine lv_if_ne (tgt := 11) E.1 E.2.1 dX11_tunes_5 (by decide) (fun c4 => ?_) (fun c4 => ?_)
  · have hf := q_neg c4 hf
    refine lv_aload_n E.1 E.2.1 dX11_tunes_11 rfl (lv_at hl 0 rfl) ?_
    obtain ⟨h7, hc5, hf⟩ := bd1_e hf
    refine k_Vv (As := []) (rest := []) E w t_v0 ⟨by decide, rfl⟩ (X11_laysTunes_c t_v0 hc5) mv_RX11_366 rfl rfl hl.1 ⟨Nat.le_of_ble_eq_true rfl, Nat.le_of_ble_eq_true rfl⟩ (Nat.le_of_ble_eq_true rfl) ⟨Nat.le_refl _, Nat.le_refl _⟩ dX11_tunes_12 (fun H locs w => ?_)
    refine lv_iload_n E.1 E.2.1 dX11_tunes_15 rfl (lv_at hl 2 rfl) ?_
    refine lv_if_ne (tgt := 24) E.1 E.2.1 dX11_tunes_16 (by decide) (fun c8 => ?_) (fun c8 => ?_)
    · have hf := q_neg c8 hf
      refine lv_iload_n E.1 E.2.1 dX11_tunes_24 rfl (lv_at hl 2 rfl) ?_
      refine lv_bipush (v := 10) E.1 E.2.1 dX11_tunes_25 rfl ?_
      refine lv_bipush (v := 29) E.1 E.2.1 dX11_tunes_27 rfl ?_
      obtain ⟨r10, hc9, hf⟩ := bd1_e hf
      refine k_Si (As := [.int v2, .int 10, .int 29]) (rest := []) E w (X11_isIn_c  hc9) ms_RX11_123 rfl rfl hl.1 ⟨Nat.le_of_ble_eq_true rfl, Nat.le_of_ble_eq_true rfl⟩ (Nat.le_of_ble_eq_true rfl) ⟨Nat.le_refl _, Nat.le_refl _⟩ dX11_tunes_29 (fun H locs w => ?_)
      refine lv_if_eq (tgt := 47) E.1 E.2.1 dX11_tunes_32 (by decide) (fun c12 => ?_) (fun c12 => ?_)
      · have hf := q_pos c12 hf
        refine lv_bipush (v := (-2)) E.1 E.2.1 dX11_tunes_47 rfl ?_
        have hf := Option.some.inj hf
        subst hf
        exact q_iret E w hr hlk dX11_tunes_49
      · have hf := q_neg c12 hf
        refine lv_aload_n E.1 E.2.1 dX11_tunes_35 rfl (lv_at hl 0 rfl) ?_
        refine lv_iload_n E.1 E.2.1 dX11_tunes_36 rfl (lv_at hl 2 rfl) ?_
        refine lv_bipush (v := 10) E.1 E.2.1 dX11_tunes_37 rfl ?_
        refine lv_irem E.1 E.2.1 dX11_tunes_39 (by decide) ?_
        obtain ⟨r14, hc13, hf⟩ := bd1_e hf
        refine k_Vi (As := [.int (v2 - v2 / 10 * 10)]) (rest := []) E w t_v0 ⟨by decide, rfl⟩ (X11_walledBar_c t_v0 hc13) mv_RX11_372 rfl rfl hl.1 ⟨Nat.le_of_ble_eq_true rfl, Nat.le_of_ble_eq_true rfl⟩ (Nat.le_of_ble_eq_true rfl) ⟨Nat.le_refl _, Nat.le_refl _⟩ dX11_tunes_40 (fun H locs w => ?_)
        refine lv_iconst (v := (-1)) E.1 E.2.1 dX11_tunes_43 rfl ?_
        refine lv_icmp_ne (tgt := 50) E.1 E.2.1 dX11_tunes_44 (by decide) (fun c16 => ?_) (fun c16 => ?_)
        · have hf := q_neg c16 hf
          refine lv_aload_n E.1 E.2.1 dX11_tunes_50 rfl (lv_at hl 0 rfl) ?_
          obtain ⟨r18, hc17, hf⟩ := bd1_e hf
          refine k_Vi (As := []) (rest := []) E w t_v0 ⟨by decide, rfl⟩ (X11_tunesOf_c t_v0 hc17) mv_RX11_369 rfl rfl hl.1 ⟨Nat.le_of_ble_eq_true rfl, Nat.le_of_ble_eq_true rfl⟩ (Nat.le_of_ble_eq_true rfl) ⟨Nat.le_refl _, Nat.le_refl _⟩ dX11_tunes_51 (fun H locs w => ?_)
          refine lv_if_ne (tgt := 59) E.1 E.2.1 dX11_tunes_54 (by decide) (fun c20 => ?_) (fun c20 => ?_)
          · have hf := q_neg c20 hf
            refine lv_iload_n E.1 E.2.1 dX11_tunes_59 rfl (lv_at hl 2 rfl) ?_
            refine lv_bipush (v := 20) E.1 E.2.1 dX11_tunes_60 rfl ?_
            refine lv_icmp_ge (tgt := 80) E.1 E.2.1 dX11_tunes_62 (by decide) (fun c21 => ?_) (fun c21 => ?_)
            · have hf := q_pos c21 hf
              refine lv_aload_n E.1 E.2.1 dX11_tunes_80 rfl (lv_at hl 0 rfl) ?_
              refine lv_aload_n E.1 E.2.1 dX11_tunes_81 rfl (lv_at hl 0 rfl) ?_
              refine lv_iload_n E.1 E.2.1 dX11_tunes_82 rfl (lv_at hl 2 rfl) ?_
              refine lv_bipush (v := 10) E.1 E.2.1 dX11_tunes_83 rfl ?_
              refine lv_irem E.1 E.2.1 dX11_tunes_85 (by decide) ?_
              obtain ⟨r23, hc22, hf⟩ := bd1_e hf
              refine k_Vi (As := [.int (v2 - v2 / 10 * 10)]) (rest := [.ref (ad G v0)]) E w t_v0 ⟨by decide, rfl⟩ (X11_walledBar_c t_v0 hc22) mv_RX11_372 rfl rfl hl.1 ⟨Nat.le_of_ble_eq_true rfl, Nat.le_of_ble_eq_true rfl⟩ (Nat.le_of_ble_eq_true rfl) ⟨Nat.le_refl _, Nat.le_refl _⟩ dX11_tunes_86 (fun H locs w => ?_)
              obtain ⟨r26, hc25, hf⟩ := bd1_e hf
              refine k_Vi (As := [.int r23]) (rest := []) E w t_v0 ⟨by decide, rfl⟩ (X11_sureTune_c t_v0 hc25) mv_RX11_378 rfl rfl hl.1 ⟨Nat.le_of_ble_eq_true rfl, Nat.le_of_ble_eq_true rfl⟩ (Nat.le_of_ble_eq_true rfl) ⟨Nat.le_refl _, Nat.le_refl _⟩ dX11_tunes_89 (fun H locs w => ?_)
              have hf := Option.some.inj hf
              subst hf
              exact q_iret E w hr hlk dX11_tunes_92
            · have hf := q_neg c21 hf
              refine lv_aload_n E.1 E.2.1 dX11_tunes_65 rfl (lv_at hl 0 rfl) ?_
              refine lv_aload_n E.1 E.2.1 dX11_tunes_66 rfl (lv_at hl 0 rfl) ?_
              refine lv_iload_n E.1 E.2.1 dX11_tunes_67 rfl (lv_at hl 2 rfl) ?_
              refine lv_bipush (v := 10) E.1 E.2.1 dX11_tunes_68 rfl ?_
              refine lv_irem E.1 E.2.1 dX11_tunes_70 (by decide) ?_
              obtain ⟨r29, hc28, hf⟩ := bd1_e hf
              refine k_Vi (As := [.int (v2 - v2 / 10 * 10)]) (rest := [.ref (ad G v0)]) E w t_v0 ⟨by decide, rfl⟩ (X11_walledBar_c t_v0 hc28) mv_RX11_372 rfl rfl hl.1 ⟨Nat.le_of_ble_eq_true rfl, Nat.le_of_ble_eq_true rfl⟩ (Nat.le_of_ble_eq_true rfl) ⟨Nat.le_refl _, Nat.le_refl _⟩ dX11_tunes_71 (fun H locs w => ?_)
              obtain ⟨r32, hc31, hf⟩ := bd1_e hf
              refine k_Vi (As := [.int r29]) (rest := []) E w t_v0 ⟨by decide, rfl⟩ (X11_firstTune_c t_v0 hc31) mv_RX11_375 rfl rfl hl.1 ⟨Nat.le_of_ble_eq_true rfl, Nat.le_of_ble_eq_true rfl⟩ (Nat.le_of_ble_eq_true rfl) ⟨Nat.le_refl _, Nat.le_refl _⟩ dX11_tunes_74 (fun H locs w => ?_)
              refine lv_goto (tgt := 92) E.1 E.2.1 dX11_tunes_77 (by decide) ?_
              have hf := Option.some.inj hf
              subst hf
              exact q_iret E w hr hlk dX11_tunes_92
          · have hf := q_pos c20 hf
            refine lv_iconst (v := (-1)) E.1 E.2.1 dX11_tunes_57 rfl ?_
            have hf := Option.some.inj hf
            subst hf
            exact q_iret E w hr hlk dX11_tunes_58
        · have hf := q_pos c16 hf
          refine lv_bipush (v := (-2)) E.1 E.2.1 dX11_tunes_47 rfl ?_
          have hf := Option.some.inj hf
          subst hf
          exact q_iret E w hr hlk dX11_tunes_49
    · have hf := q_pos c8 hf
      refine lv_aload_n E.1 E.2.1 dX11_tunes_19 rfl (lv_at hl 0 rfl) ?_
      obtain ⟨r35, hc34, hf⟩ := bd1_e hf
      refine k_Vi (As := []) (rest := []) E w t_v0 ⟨by decide, rfl⟩ (X11_tunesOf_c t_v0 hc34) mv_RX11_369 rfl rfl hl.1 ⟨Nat.le_of_ble_eq_true rfl, Nat.le_of_ble_eq_true rfl⟩ (Nat.le_of_ble_eq_true rfl) ⟨Nat.le_refl _, Nat.le_refl _⟩ dX11_tunes_20 (fun H locs w => ?_)
      have hf := Option.some.inj hf
      subst hf
      exact q_iret E w hr hlk dX11_tunes_23
  · have hf := q_pos c4 hf
    refine lv_bipush (v := (-2)) E.1 E.2.1 dX11_tunes_8 rfl ?_
    have hf := Option.some.inj hf
    subst hf
    exact q_iret E w hr hlk dX11_tunes_10
